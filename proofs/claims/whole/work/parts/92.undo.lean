/-! undo; what calls leave -/
/-- what a call that is no feed, program, image or restore leaves as it was -/
def KP (I I' : Nat → Nat → Int32) : Prop := (∀ k, k < 18 ∨ 39 ≤ k ∧ k < 60 ∨ 100 ≤ k ∧ k < 110 ∨ 111 ≤ k ∧ k < 116 ∨ 134 ≤ k ∧ k < 146 → I' k = I k) ∧ (∀ f, f = 15 ∨ f = 24 ∨ 58 ≤ f ∧ f < 62 → I' 99 f = I 99 f)
/-- what was found of races: forgotten, or of the same course -/
def RF (I I' : Nat → Nat → Int32) (J J' : Nat → Nat → Int64) : Prop := I' 89 8 = nI 0 ∨ ((∀ k, 89 ≤ k → k < 96 → I' k = I k) ∧ I' 33 = I 33 ∧ I' 18 10 = I 18 10 ∧ J' 95 = J 95)
def Hn (I : Nat → Nat → Int32) (J : Nat → Nat → Int64) (S : Nat → Nat → Option Nat) (E : am_Ev) (x4 : Int32) (Q : am_Qt) : Prop := ∀ E' I' J' T' cu' ac' n' d', E' = E ∨ E' = Ex E → CR I' T' cu' ac' n' → vw I' T' d' → KP I I' → RF I I' J J' → lk x4 E' I' J' S Q
theorem vr0_e {I I' : Nat → Nat → Int32} {T n : Nat} (hv : vr0 I T n) (h : ∀ k, 12 ≤ k ∧ k < 19 ∨ 26 ≤ k ∧ k < 28 ∨ 29 ≤ k ∧ k < 32 ∨ 103 ≤ k ∧ k < 110 ∨ k = 117 ∨ 120 ≤ k ∧ k < 124 → I' k = I k) : vr0 I' T n := by
  obtain ⟨h1, h2, h3, h4, h5⟩ := hv
  have hpe : p_eq I I' := fun k a b => h k (by omega)
  have hq : p_q I I' := ⟨fun k a b => h k (by omega), hpe⟩
  have hh : h_eq I I' := ⟨hpe, h 117 (by omega), h 120 (by omega), h 121 (by omega), h 122 (by omega), h 123 (by omega)⟩
  have er : rt I' = rt I := rt_e hh.2.1
  refine ⟨(p_in_e hpe).mpr h1, (p_cl_e hq).mpr h2, RW_e hh h3, ?_, ?_⟩
  · unfold sq
    rw [h 18 (by omega), h 29 (by omega), h 30 (by omega), h 31 (by omega), h 120 (by omega), h 121 (by omega), h 122 (by omega)]
    exact h4
  · unfold lq lm
    rw [er, h 26 (by omega), h 27 (by omega), h 123 (by omega)]
    exact h5
/-- one input less -/
theorem CR_ungive {I I' : Nat → Nat → Int32} {T cu ac j n s m : Nat} (hcr : CR I T cu ac n) (hj : j ≤ 40) (hs : s < 3) (em : I 124 s = nI (m + 1)) (hm : m < 30) (hrd : (rt I T (48 + s)).toNatClampNeg ≤ m) (haw : aw I j T (fun z => if z = s then (I 124 z).toNatClampNeg - 1 else (I 124 z).toNatClampNeg))
    (e28 : I' 28 = upd (I 28) s (nI m)) (e124 : I' 124 = upd (I 124) s (nI m)) (e34 : I' 34 4 = nI j) (e43 : I' 99 43 = nI j) (e12 : I' 99 12 = I 99 12) (e13 : I' 99 13 = I 99 13) (hf : ∀ k, 12 ≤ k ∧ k < 28 ∨ 29 ≤ k ∧ k < 34 ∨ 35 ≤ k ∧ k < 39 ∨ 103 ≤ k ∧ k < 111 ∨ 117 ≤ k ∧ k < 124 ∨ k = 126 ∨ k = 127 → I' k = I k) : CR I' T cu j n := by
  obtain ⟨h1, h2, h3, h4, h5, h6, h7, h8, h9, h10, h11, h12, h13, h14⟩ := hcr
  have hpe : p_eq I I' := fun j a b => hf j (by omega)
  have hq : p_q I I' := ⟨fun j a b => hf j (by omega), hpe⟩
  have hh : h_eq I I' := ⟨hpe, hf 117 (by omega), hf 120 (by omega), hf 121 (by omega), hf 122 (by omega), hf 123 (by omega)⟩
  have er : rt I' = rt I := rt_e hh.2.1
  have hv := (h4.2.1 T (Nat.le_refl _)).1.2.2.2
  have hgs : I' 124 s = nI m := by rw [e124, upd_eq]
  have hgc : ∀ z, z ≠ s → I' 124 z = I 124 z := fun z hz => by rw [e124, upd_ne hz]
  refine ⟨(p_in_e hpe).mpr h1, (p_cl_e hq).mpr h2, ?_, RW_e hh h4, ?_, ?_, ?_, ?_, ?_, ?_, ?_, ?_, ?_, ?_⟩
  · unfold st_ok
    rw [hf 103 (by omega)]
    exact h3
  · unfold sq
    rw [hf 18 (by omega), hf 29 (by omega), hf 30 (by omega), hf 31 (by omega), hf 120 (by omega), hf 121 (by omega), hf 122 (by omega)]
    exact h5
  · intro z hz
    obtain ⟨a, b, c⟩ := h6 z hz
    rw [hf 27 (by omega), hf 123 (by omega)]
    by_cases e : z = s
    · subst e
      rw [hgs, e28, upd_eq]
      refine ⟨rfl, vp_in_nI (by omega) (by omega), fun i hi => c i ?_⟩
      rw [nI_clamp (by omega)] at hi
      rw [em, nI_clamp (by omega)]
      omega
    · rw [hgc z e, e28, upd_ne e]
      exact ⟨a, b, c⟩
  · intro z hz
    rw [er]
    by_cases e : z = s
    · subst e
      have b := vb (hv z hz)
      rw [hgs, vc (hv z hz), nI_leI (by omega) (by omega)]
      exact hrd
    · rw [hgc z e]
      exact h7 z hz
  · rw [e12, hf 18 (by omega)]; exact h8
  · rw [e13, hf 18 (by omega)]; exact h9
  · rw [er, hf 19 (by omega)]
    exact ⟨rm_e h10.1 (fun j a b => hf j (by omega)), h10.2⟩
  · intro t a b
    obtain ⟨C, p, q⟩ := h11 t a b
    refine ⟨C, p, ?_⟩
    rw [er, hf 103 (by omega), hf 105 (by omega), hf 119 (by omega), hf 118 (by omega), hf 33 (by omega)]
    exact q
  · unfold DG
    rw [er, hf 103 (by omega), hf 32 (by omega)]
    exact h12
  · refine ⟨e43, e34, hj, ?_⟩
    have eg : (fun z => (I' 124 z).toNatClampNeg) = (fun z => if z = s then (I 124 z).toNatClampNeg - 1 else (I 124 z).toNatClampNeg) := by
      funext z
      by_cases e : z = s
      · subst e
        rw [if_pos rfl, hgs, em, nI_clamp (by omega), nI_clamp (by omega)]
        omega
      · rw [if_neg e, hgc z e]
    rw [eg]
    exact aw_e (fun k hk => hf k (by omega)) _ _ _ haw
  · rw [hf 110 (by omega), hf 18 (by omega)]; exact h14
theorem nI_min {a b : Nat} (ha : a < 2 ^ 31) (hb : b < 2 ^ 31) : (if nI a < nI b then nI a else nI b) = nI (min a b) := by
  by_cases c : a < b
  · rw [if_pos ((nI_ltI ha hb).mpr c), Nat.min_eq_left (by omega)]
  · rw [if_neg (fun q => c ((nI_ltI ha hb).mp q)), Nat.min_eq_right (by omega)]
theorem k_undo {E : am_Ev} {I : Nat → Nat → Int32} {J : Nat → Nat → Int64} {S : Nat → Nat → Option Nat} {Q : am_Qt} {T cu ac n d : Nat} {x4 : Int32} {d5 d6 : Value} (hd5 : am_isL d5 = false) (hd6 : am_isL d6 = false) (hcr : CR I T cu ac n) (hvw : vw I T d) (h : Hn I J S E x4 Q) : am_ww 291 238 [.ref 1000000, .ref 0, .ref 99, .ref 145, .int x4, d5, d6] [] E I J S Q := by
  apply g291_238 hd5 hd6
  obtain ⟨h1, h2, h3, h4, h5, h6, h7, h8, h9, h10, h11, h12, h13, h14⟩ := id hcr
  obtain ⟨a1, a2, a3, a4⟩ := h13
  have hT := h4.1.1
  have hv := CR_vr0 hcr
  show am_ww 44 0 [.ref 0, am_U, am_U] [] E I J S _
  apply g44_0
  rw [a2, nI_e0 (by omega)]
  refine ⟨fun c => q_mkI ?_, fun c => ?_⟩
  · subst c
    show am_ww 243 0 [.ref 99] [] E I J S _
    apply g243_0
    rw [a1, nI_e0 (by omega)]
    refine ⟨fun _ => q_mkI ⟨fun _ => h _ _ _ _ _ _ _ _ (Or.inl rfl) (CR_e (ce_99 (by omega)) hcr) (vw_e (fun k hk => u_I_ne (by omega)) hvw) ⟨fun k hk => u_I_ne (by omega), fun f hf => by rw [u_I_eq, upd_ne (by omega)]⟩ (Or.inr ⟨fun k _ _ => u_I_ne (by omega), u_I_ne (by decide), by rw [u_I_ne (by decide)], rfl⟩) _ _ hd5 hd6, fun q => absurd rfl q⟩, fun q => absurd rfl q⟩
  · obtain ⟨j, rfl⟩ : ∃ j, ac = j + 1 := ⟨ac - 1, by omega⟩
    rw [nI_subI (by omega), show j + 1 - 1 = j by omega, nI_clamp (by omega)]
    refine ⟨vp_in_nI (by omega) (by omega), fun w2 ew => ?_⟩
    obtain ⟨⟨b1, b2⟩, b3⟩ := a4
    rw [b1] at ew
    rw [b2]
    -- what the reference does behind, whatever the class did
    have fin : ∀ (I4 : Nat → Nat → Int32) (T' n' : Nat) (g' : Nat → Int32), T' ≤ T → I 127 j = nI T' → I4 99 = I 99 → I4 126 = I 126 → I4 127 = I 127 → I4 124 = I 124 → I4 34 4 = nI j → (I 126 j = -1 ∧ g' = I 124 ∨ ∃ s, s < 3 ∧ I 126 j = nI s ∧ g' = upd (I 124) s (I 124 s - nI 1)) → CR (u_I (u_I I4 99 (upd (upd (upd (upd (I 99) 3 (nI 0)) 43 (nI j)) 12 (nI T')) 13 (nI (min T' cu)))) 124 g') T' (min T' cu) j n' → vw I4 T' 0 → (∀ k, k < 18 ∨ 39 ≤ k ∧ k < 60 ∨ 100 ≤ k ∧ k < 110 ∨ 111 ≤ k ∧ k < 116 ∨ 134 ≤ k ∧ k < 146 → I4 k = I k) → I4 89 8 = nI 0 → q_I (fun v1 E1 I1 J1 S1 => am_cl 243 [.ref 99] E1 I1 J1 S1 (q_I fun v2 E2 I2 J2 S2 => (v1 = v2 → (am_ww 291 1129 [.ref 1000000, .ref 0, .ref 99, .ref 145, .int x4, d5, d6] [] E2 I2 J2 S2 Q)) ∧ (¬ v1 = v2 → (Q (.inl (some (.int (nI 0)))) E2 I2 J2 S2)))) (.inl (some (.int (I4 34 4)))) E I4 J S := by
      intro I4 T' n' g' p1 p2 e99 e126 e127 e124 e34 hg hcr' hvw' hk h89
      refine q_mkI ?_
      rw [e34]
      show am_ww 243 0 [.ref 99] [] E I4 J S _
      apply g243_0
      rw [e99, e126, e124, a1, nI_e0 (by omega), nI_subI (by omega), show j + 1 - 1 = j by omega, nI_clamp (by omega)]
      refine ⟨fun q => absurd q (by omega), fun _ => ⟨vp_in_nI (by omega) (by omega), ?_⟩⟩
      -- the last piece
      have last : ∀ I5 : Nat → Nat → Int32, I5 = u_I (u_I I4 99 (upd (upd (I 99) 3 (nI 0)) 43 (nI j))) 124 g' → am_ww 243 33 [.ref 99] [] E I5 J S (q_I fun v2 E2 I2 J2 S2 => (nI j = v2 → (am_ww 291 1129 [.ref 1000000, .ref 0, .ref 99, .ref 145, .int x4, d5, d6] [] E2 I2 J2 S2 Q)) ∧ (¬ nI j = v2 → (Q (.inl (some (.int (nI 0)))) E2 I2 J2 S2))) := by
        intro I5 e5
        have f99 : I5 99 = upd (upd (I 99) 3 (nI 0)) 43 (nI j) := by rw [e5, u_I_ne (by decide), u_I_eq]
        have f127 : I5 127 = I 127 := by rw [e5, u_I_ne (by decide), u_I_ne (by decide), e127]
        have f43 : I5 99 43 = nI j := by rw [f99, upd_eq]
        have f13 : I5 99 13 = nI cu := by rw [f99, upd_ne (by omega), upd_ne (by omega)]; exact h9.1
        have hcu := h9.2.2
        apply g243_33
        rw [f43, f127, f13, nI_clamp (by omega), p2, nI_min (by omega) (by omega)]
        refine ⟨vp_in_nI (by omega) (by omega), q_mkI ⟨fun _ => ?_, fun q => absurd rfl q⟩⟩
        have ee : u_I I5 99 (upd (upd (I5 99) 12 (nI T')) 13 (nI (min T' cu))) = u_I (u_I I4 99 (upd (upd (upd (upd (I 99) 3 (nI 0)) 43 (nI j)) 12 (nI T')) 13 (nI (min T' cu)))) 124 g' := by
          rw [f99, e5, uI_1]
          funext a
          simp only [u_I]
          by_cases q1 : a = 99
          · subst q1
            simp
          · simp [q1]
        rw [ee]
        refine h _ _ _ _ _ _ _ _ (Or.inl rfl) hcr' (vw_e (fun k hk => by rw [u_I_ne (by omega), u_I_ne (by omega)]) hvw') ⟨fun k hk' => by rw [u_I_ne (by omega), u_I_ne (by omega)]; exact hk k hk', fun f hf => by rw [u_I_ne (by decide), u_I_eq, upd_ne (by omega), upd_ne (by omega), upd_ne (by omega), upd_ne (by omega)]⟩ (Or.inl (by rw [u_I_ne (by decide), u_I_ne (by decide)]; exact h89)) _ _ hd5 hd6
      rcases hg with ⟨q1, q2⟩ | ⟨s, q0, q1, q2⟩
      · refine ⟨fun _ => last _ ?_, fun q => absurd q1 q⟩
        rw [q2, ← e124]
        funext a
        simp only [u_I]
        by_cases q3 : a = 124
        · subst q3
          simp
        · simp [q3]
      · rw [q1, nI_clamp (by omega)]
        refine ⟨fun q => absurd q (nI_nm (by omega)), fun _ => ⟨vp_in_nI (by omega) (by omega), last _ ?_⟩⟩
        rw [q2]
    rcases b3 with ⟨c1, t, c2, c3, c4, c5, c6⟩ | ⟨s, c0, c1, c2, c3, c4, c5⟩
    · -- steps are taken back
      rw [c1] at ew
      have f0 : ∀ k, k ≠ 34 → u_I I 34 (upd (I 34) 4 (nI j)) k = I k := fun k hk => u_I_ne hk
      have f34 : u_I I 34 (upd (I 34) 4 (nI j)) 34 = upd (I 34) 4 (nI j) := u_I_eq
      generalize u_I I 34 (upd (I 34) 4 (nI j)) = I0 at f0 f34 ⊢
      subst ew
      refine ⟨fun _ => ?_, fun q => absurd (by decide) q⟩
      have er0 : rt I0 = rt I := rt_e (f0 117 (by omega))
      rw [c2]
      refine c45 (vr0_e hv (fun k hk => f0 k (by omega))) c3 (fun I3 w3 m3 e18 f3 => q_mkV ?_)
      have e34 : I3 34 = upd (I 34) 4 (nI j) := by rw [f3 34 (by omega), f34]
      have e37 : I3 37 = I 37 := by rw [f3 37 (by omega), f0 37 (by omega)]
      have e38 : I3 38 = I 38 := by rw [f3 38 (by omega), f0 38 (by omega)]
      rw [e34, upd_eq, nI_clamp (by omega), e37, e38, c4, c5]
      refine ⟨vp_in_nI (by omega) (by omega), ?_⟩
      apply g44_59 rfl
      have z18 : u_I I3 19 (upd (upd (I3 19) 2 (rt I t 45)) 1 (rt I t 46)) 18 = upd (upd (I 18) 9 (rt I t 47)) 10 (nI t) := by rw [u_I_ne (by decide), e18, f0 18 (by omega), er0]
      have z19 : u_I I3 19 (upd (upd (I3 19) 2 (rt I t 45)) 1 (rt I t 46)) 19 = upd (upd (I3 19) 2 (rt I t 45)) 1 (rt I t 46) := u_I_eq
      have zo : ∀ k, k ≠ 19 → u_I I3 19 (upd (upd (I3 19) 2 (rt I t 45)) 1 (rt I t 46)) k = I3 k := fun k hk => u_I_ne hk
      generalize u_I I3 19 (upd (upd (I3 19) 2 (rt I t 45)) 1 (rt I t 46)) = I4 at z18 z19 zo ⊢
      have y10 : I4 18 10 = nI t := by rw [z18, upd_eq]
      have y11 : I4 18 11 = nI cu := by rw [z18, upd_ne (by omega), upd_ne (by omega)]; exact h9.2.1
      have hcu := h9.2.2
      rw [y10, y11, nI_min (by omega) (by omega)]
      have x18 : u_I I4 18 (upd (I4 18) 11 (nI (min t cu))) 18 = upd (upd (upd (I 18) 9 (rt I t 47)) 10 (nI t)) 11 (nI (min t cu)) := by rw [u_I_eq, z18]
      have xo : ∀ k, k ≠ 18 → u_I I4 18 (upd (I4 18) 11 (nI (min t cu))) k = I4 k := fun k hk => u_I_ne hk
      generalize u_I I4 18 (upd (I4 18) 11 (nI (min t cu))) = I5 at x18 xo ⊢
      -- the course, with the reference's fields put ahead
      have oth : ∀ k, k < 18 ∨ 26 < k ∧ k < 34 ∨ 34 < k ∧ k < 60 ∨ 67 < k → I5 k = I k := fun k hk => by rw [xo k (by omega), zo k (by omega), f3 k (by omega), f0 k (by omega)]
      have gen : ∀ I6 : Nat → Nat → Int32, (∀ k, k < 60 ∨ 67 < k → k ≠ 99 → k ≠ 89 → I6 k = I5 k) → I6 99 = upd (upd (upd (upd (I 99) 3 (nI 0)) 43 (nI j)) 12 (nI t)) 13 (nI (min t cu)) → ∃ n', CR I6 t (min t cu) j n' := by
        intro I6 hk h99
        refine CR_cut (I' := I6) hcr c3 (Nat.min_le_left _ _) c6 (by omega) ?_ ?_ ?_ ?_ ?_ ?_ ?_ ?_ ?_ ?_ ?_ ?_ ?_
        · have m3' := m3
          rw [er0] at m3'
          exact rm_e m3' (fun k a b => by rw [hk k (by omega) (by omega) (by omega), xo k (by omega), zo k (by omega)])
        · rw [hk 19 (by omega) (by omega) (by omega), xo 19 (by omega), z19, upd_ne (by omega), upd_eq]
        · rw [hk 19 (by omega) (by omega) (by omega), xo 19 (by omega), z19, upd_eq]
        · rw [hk 18 (by omega) (by omega) (by omega), x18, upd_ne (by omega), upd_ne (by omega), upd_eq]
        · rw [hk 18 (by omega) (by omega) (by omega), x18, upd_ne (by omega), upd_eq]
        · rw [hk 18 (by omega) (by omega) (by omega), x18, upd_eq]
        · rw [hk 18 (by omega) (by omega) (by omega), x18, upd_ne (by omega), upd_ne (by omega), upd_ne (by omega)]
        · rw [hk 18 (by omega) (by omega) (by omega), x18, upd_ne (by omega), upd_ne (by omega), upd_ne (by omega)]
        · rw [hk 34 (by omega) (by omega) (by omega), xo 34 (by omega), zo 34 (by omega), e34, upd_eq]
        · rw [h99, upd_ne (by omega), upd_ne (by omega), upd_eq]
        · rw [h99, upd_ne (by omega), upd_eq]
        · rw [h99, upd_eq]
        · intro k hk'
          rw [hk k (by omega) (by omega) (by omega), oth k (by omega)]
      obtain ⟨n5, hc5⟩ := gen (u_I I5 99 (upd (upd (upd (upd (I 99) 3 (nI 0)) 43 (nI j)) 12 (nI t)) 13 (nI (min t cu)))) (fun k _ hk _ => u_I_ne hk) u_I_eq
      have hv5 : vr0 I5 t n5 := vr0_e (CR_vr0 hc5) (fun k hk => (u_I_ne (by omega)).symm)
      refine c41 hv5 (fun I6 w6 e89 f6 _ => q_mkV ?_)
      have g124 : I6 124 = I 124 := by rw [f6 124 (by omega) (by omega), oth 124 (by omega)]
      refine fin I6 t n5 (I 124) c3 c2 (by rw [f6 99 (by omega) (by omega), oth 99 (by omega)]) (by rw [f6 126 (by omega) (by omega), oth 126 (by omega)]) (by rw [f6 127 (by omega) (by omega), oth 127 (by omega)]) g124 (by rw [f6 34 (by omega) (by omega), xo 34 (by omega), zo 34 (by omega), e34, upd_eq]) (Or.inl ⟨c1, rfl⟩) ?_ w6 (fun k hk => by rw [f6 k (by omega) (by omega), oth k (by omega)]) e89
      refine CR_e (I := u_I I5 99 (upd (upd (upd (upd (I 99) 3 (nI 0)) 43 (nI j)) 12 (nI t)) 13 (nI (min t cu)))) ⟨fun k hk => ?_, ?_, ?_, ?_⟩ hc5
      · by_cases q : k = 124
        · subst q
          rw [u_I_eq, u_I_ne (by decide), oth 124 (by omega)]
        · rw [u_I_ne q, u_I_ne (by omega), u_I_ne (by omega), f6 k (by omega) (by omega)]
      · rw [u_I_ne (by decide), u_I_eq, u_I_eq]
      · rw [u_I_ne (by decide), u_I_eq, u_I_eq]
      · rw [u_I_ne (by decide), u_I_eq, u_I_eq]
    · -- a gift is taken back
      obtain ⟨b4, b5, b6⟩ := h6 s c0
      obtain ⟨m, hm, em⟩ := vn b5
      have c3' : 0 < (I 124 s).toNatClampNeg := c3
      have c4' : (rt I T (48 + s)).toNatClampNeg ≤ (I 124 s).toNatClampNeg - 1 := c4
      rw [em, nI_clamp (by omega)] at c3' c4'
      obtain ⟨m, rfl⟩ : ∃ m', m = m' + 1 := ⟨m - 1, by omega⟩
      rw [c1] at ew
      subst ew
      rw [em] at b4
      have hcu := h9.2.2
      rw [nI_clamp (by omega), nI_n0 (by omega), nI_leI (by omega) (by omega), b4, nI_subI (by omega), show m + 1 - 1 = m by omega]
      refine ⟨fun q => q.elim, fun _ => ⟨fun q => absurd q (by omega), fun _ => ⟨vp_in_nI (by omega) (by omega), ?_⟩⟩⟩
      apply g44_59 rfl
      have z28 : u_I (u_I I 34 (upd (I 34) 4 (nI j))) 28 (upd (I 28) s (nI m)) 28 = upd (I 28) s (nI m) := u_I_eq
      have z34 : u_I (u_I I 34 (upd (I 34) 4 (nI j))) 28 (upd (I 28) s (nI m)) 34 = upd (I 34) 4 (nI j) := by rw [u_I_ne (by decide), u_I_eq]
      have zo : ∀ k, k ≠ 28 → k ≠ 34 → u_I (u_I I 34 (upd (I 34) 4 (nI j))) 28 (upd (I 28) s (nI m)) k = I k := fun k a b => by rw [u_I_ne a, u_I_ne b]
      generalize u_I (u_I I 34 (upd (I 34) 4 (nI j))) 28 (upd (I 28) s (nI m)) = I4 at z28 z34 zo ⊢
      rw [zo 18 (by omega) (by omega), h8.2, h9.2.1, nI_min (by omega) (by omega), Nat.min_eq_right hcu, upd_id h9.2.1, ← zo 18 (by omega) (by omega), u_I_id]
      refine c41 (n := n) (T := T) (vr0_e hv (fun k hk => zo k (by omega) (by omega))) (fun I6 w6 e89 f6 _ => q_mkV ?_)
      have hmin : min T cu = cu := Nat.min_eq_right hcu
      refine fin I6 T n (upd (I 124) s (I 124 s - nI 1)) (Nat.le_refl _) c2 (by rw [f6 99 (by omega) (by omega), zo 99 (by omega) (by omega)]) (by rw [f6 126 (by omega) (by omega), zo 126 (by omega) (by omega)]) (by rw [f6 127 (by omega) (by omega), zo 127 (by omega) (by omega)]) (by rw [f6 124 (by omega) (by omega), zo 124 (by omega) (by omega)]) (by rw [f6 34 (by omega) (by omega), z34, upd_eq]) (Or.inr ⟨s, c0, c1, rfl⟩) ?_ w6 (fun k hk => by rw [f6 k (by omega) (by omega), zo k (by omega) (by omega)]) e89
      rw [hmin, em, nI_subI (by omega), show m + 1 - 1 = m by omega]
      refine CR_ungive hcr (by omega) c0 em (by omega) (by omega) c5 ?_ ?_ ?_ ?_ ?_ ?_ ?_
      · rw [u_I_ne (by decide), u_I_ne (by decide), f6 28 (by omega) (by omega), z28]
      · rw [u_I_eq]
      · rw [u_I_ne (by decide), u_I_ne (by decide), f6 34 (by omega) (by omega), z34, upd_eq]
      · rw [u_I_ne (by decide), u_I_eq, upd_ne (by omega), upd_ne (by omega), upd_eq]
      · rw [u_I_ne (by decide), u_I_eq, upd_ne (by omega), upd_eq, h8.1]
      · rw [u_I_ne (by decide), u_I_eq, upd_eq, h9.1]
      · intro k hk
        rw [u_I_ne (by omega), u_I_ne (by omega), f6 k (by omega) (by omega), zo k (by omega) (by omega)]
