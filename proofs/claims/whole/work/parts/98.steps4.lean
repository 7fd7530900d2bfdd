/-! steps: the reference's loop, the call -/
theorem gst_of {F I1 : Nat → Nat → Int32} {s : Nat → Int32} {t : Nat} (et : F 99 12 = nI t) (ht : t < 400) (p1 : I1 116 = m_st F (F 123) s) (p2 : I1 99 = upd (upd (F 99) 39 (s 44)) 40 (nI (m_i (F 116) (s 44).toNatClampNeg))) (p3 : I1 120 = m_rec true (F 116) s (F 120) (m_lb (F 116))) (p4 : I1 121 = m_rec true (F 116) s (F 121) (m_lp (F 116))) (p5 : I1 122 = m_rec true (F 116) s (F 122) (s 44)) (p6 : fr F I1 [99, 116, 120, 121, 122]) : u_I (u_I (u_I (u_I I1 99 (upd (I1 99) 12 (nI (t + 1)))) 118 (upd (I1 118) (t + 1) (s 44))) 119 (upd (I1 119) (t + 1) (nI (m_i (F 116) (s 44).toNatClampNeg)))) 117 (cpk (I1 117) (m_st F (F 123) s) (51 * (t + 1)) 51) = gst F s := by
  have ft : (F 99 12).toNatClampNeg = t := by rw [et, nI_clamp (by omega)]
  funext k
  by_cases c1 : k = 117
  · subst c1
    rw [u_I_eq, gst_117, ft, p6 117 (by decide)]
  rw [u_I_ne c1]
  by_cases c2 : k = 119
  · subst c2
    rw [u_I_eq, gst_119, ft, p6 119 (by decide)]
  rw [u_I_ne c2]
  by_cases c3 : k = 118
  · subst c3
    rw [u_I_eq, gst_118, ft, p6 118 (by decide)]
  rw [u_I_ne c3]
  by_cases c4 : k = 99
  · subst c4
    rw [u_I_eq, gst_99, p2, et, nI_add]
  rw [u_I_ne c4]
  by_cases c5 : k = 116
  · subst c5
    rw [gst_116, p1]
  by_cases c6 : k = 120
  · subst c6
    rw [gst_120, p3]
  by_cases c7 : k = 121
  · subst c7
    rw [gst_121, p4]
  by_cases c8 : k = 122
  · subst c8
    rw [gst_122, p5]
  rw [gst_o (by omega), p6 k (by simp [c4, c5, c6, c7, c8])]
theorem m233_l {E : am_Ev} {J : Nat → Nat → Int64} {S : Nat → Nat → Option Nat} {Q : am_Qt} {C G0 : Nat → Nat → Int32} {T0 q many k : Nat} (hp : p_in G0) (hG : ∀ s, s < 3 → vp_in (G0 124 s) 31) (hq : 0 < q) (hq9 : q < 10) (eq : G0 103 0 = nI q) (hmany : T0 + many ≤ 400) (hk : k ≤ many) (hend : k = many ∨ gnx q (git q k G0) = none) (hgo : ∀ i, i < k → ¬ gnx q (git q i G0) = none) (hok : ∀ i, i ≤ k → okj q G0 T0 i) (h : Q (.inl (some (.int (nI k)))) E (mg C (git q k G0)) J S) :
    ∀ m j, j + m = k → am_ww 233 30 [.ref 99, .int (nI many), .int (nI T0)] [] E (mg C (git q j G0)) J S Q := by
  -- a step, done or not
  have one : ∀ (Q' : am_Qt) j, j ≤ k → j < many → (gnx q (git q j G0) = none → Q' (.inl (some (.int (nI 0)))) E (mg C (git q j G0)) J S) → (∀ s I1, gnx q (git q j G0) = some s → I1 116 = m_st (mg C (git q j G0)) (mg C (git q j G0) 123) s → I1 99 = upd (upd (mg C (git q j G0) 99) 39 (s 44)) 40 (nI (m_i (mg C (git q j G0) 116) (s 44).toNatClampNeg)) → I1 120 = m_rec true (mg C (git q j G0) 116) s (mg C (git q j G0) 120) (m_lb (mg C (git q j G0) 116)) → I1 121 = m_rec true (mg C (git q j G0) 116) s (mg C (git q j G0) 121) (m_lp (mg C (git q j G0) 116)) → I1 122 = m_rec true (mg C (git q j G0) 116) s (mg C (git q j G0) 122) (s 44) → fr (mg C (git q j G0)) I1 [99, 116, 120, 121, 122] → Q' (.inl (some (.int (nI 1)))) E I1 J S) → am_cl 236 [.ref 99, .int (nI q), .int (nI 1)] E (mg C (git q j G0)) J S Q' := by
    intro Q' j hj hjm n0 n1
    obtain ⟨o1, ⟨n, o2, o3⟩, o4⟩ := hok j hj
    have eg : gnx q (mg C (git q j G0)) = gnx q (git q j G0) := gnx_mg
    have hpe : p_eq G0 (mg C (git q j G0)) := fun k a b => by rw [mg_hi (by omega), git_o (by omega)]
    have e116 : mg C (git q j G0) 116 = git q j G0 116 := mg_hi (by omega)
    refine m236 (b := true) ((p_in_e hpe).mpr hp) (by rw [e116]; exact (r_ok_e hpe).mpr o1) (fun s hs => by rw [mg_hi (by omega), git_o (by omega)]; exact hG s hs) hq hq9 (fun _ => by rw [e116, o3]; exact vp_in_nI (by omega) (by omega)) (fun en => n0 ?_) (fun s I1 es p1 p2 p3 p4 p5 p6 => n1 s I1 (by rw [← eg]; exact es) p1 p2 p3 p4 p5 p6)
    rw [← eg]
    unfold gnx
    unfold m_live at en
    exact Option.map_eq_none_iff.mp en
  have tm : ∀ j, j ≤ k → mg C (git q j G0) 99 12 = nI (T0 + j) := fun j hj => by rw [mg_hi (by omega)]; exact (hok j hj).2.2
  have eq' : ∀ j, mg C (git q j G0) 103 0 = nI q := fun j => by rw [mg_hi (by omega), git_o (by omega)]; exact eq
  intro m
  induction m with
  | zero =>
    intro j ej
    have : j = k := by omega
    subst this
    apply g233_30
    rw [tm j (Nat.le_refl _), eq', nI_add, nI_leI (by omega) (by omega), nI_subI (by omega), show T0 + j - T0 = j by omega]
    refine ⟨fun _ => h, fun c => ?_⟩
    refine one _ j (Nat.le_refl _) (by omega) (fun _ => q_mkI ⟨fun _ => ?_, fun q => absurd nI_0 q⟩) (fun s I1 es _ _ _ _ _ _ => ?_)
    · rw [tm j (Nat.le_refl _), nI_subI (by omega), show T0 + j - T0 = j by omega]
      exact h
    · rcases hend with e | e
      · omega
      · rw [e] at es
        exact nomatch es
  | succ m ih =>
    intro j ej
    apply g233_30
    rw [tm j (by omega), eq', nI_add, nI_leI (by omega) (by omega)]
    refine ⟨fun c => absurd c (by omega), fun _ => ?_⟩
    refine one _ j (by omega) (by omega) (fun en => absurd en (hgo j (by omega))) (fun s I1 es p1 p2 p3 p4 p5 p6 => q_mkI ⟨fun q => absurd q (by decide), fun _ => ?_⟩)
    have e12 : I1 99 12 = nI (T0 + j) := by rw [p2, upd_ne (by omega), upd_ne (by omega)]; exact tm j (by omega)
    have e39 : I1 99 39 = s 44 := by rw [p2, upd_ne (by omega), upd_eq]
    have e40 : I1 99 40 = nI (m_i (mg C (git q j G0) 116) (s 44).toNatClampNeg) := by rw [p2, upd_eq]
    rw [e12, e39, e40, nI_add, nI_clamp (by omega)]
    refine ⟨vp_in_nI (by omega) (by omega), m185 (by omega) (q_mkV ?_)⟩
    have z117 : u_I (u_I (u_I I1 99 (upd (I1 99) 12 (nI (T0 + j + 1)))) 118 (upd (I1 118) (T0 + j + 1) (s 44))) 119 (upd (I1 119) (T0 + j + 1) (nI (m_i (mg C (git q j G0) 116) (s 44).toNatClampNeg))) 117 = I1 117 := by rw [u_I_ne (by decide), u_I_ne (by decide), u_I_ne (by decide)]
    have z116 : u_I (u_I (u_I I1 99 (upd (I1 99) 12 (nI (T0 + j + 1)))) 118 (upd (I1 118) (T0 + j + 1) (s 44))) 119 (upd (I1 119) (T0 + j + 1) (nI (m_i (mg C (git q j G0) 116) (s 44).toNatClampNeg))) 116 = m_st (mg C (git q j G0)) (mg C (git q j G0) 123) s := by rw [u_I_ne (by decide), u_I_ne (by decide), u_I_ne (by decide), p1]
    rw [z117, z116, gst_of (tm j (by omega)) (by omega) p1 p2 p3 p4 p5 p6, gst_mg, ← git_s es]
    exact ih (j + 1) (by omega)
/-- an act of steps is kept -/
theorem CR_keep {I I' : Nat → Nat → Int32} {T cu ac n k off : Nat} (hcr : CR I T cu ac n) (hk : ac < 40 ∧ k = ac ∧ off = 0 ∨ ac = 40 ∧ k = 39 ∧ off = 1)
    (k35 : kept (I 35) (I' 35) k off (-1)) (k36 : kept (I 36) (I' 36) k off (nI T)) (k37 : kept (I 37) (I' 37) k off (rt I T 45)) (k38 : kept (I 38) (I' 38) k off (rt I T 46)) (k126 : kept (I 126) (I' 126) k off (-1)) (k127 : kept (I 127) (I' 127) k off (nI T))
    (e34 : I' 34 4 = nI (k + 1)) (e43 : I' 99 43 = nI (k + 1)) (e12 : I' 99 12 = I 99 12) (e13 : I' 99 13 = I 99 13)
    (hf : ∀ j, 12 ≤ j ∧ j < 34 ∨ 103 ≤ j ∧ j < 111 ∨ 117 ≤ j ∧ j < 125 → I' j = I j) : CR I' T cu (k + 1) n := by
  obtain ⟨h1, h2, h3, h4, h5, h6, h7, h8, h9, h10, h11, h12, h13, h14⟩ := hcr
  have hpe : p_eq I I' := fun j a b => hf j (by omega)
  have hq : p_q I I' := ⟨fun j a b => hf j (by omega), hpe⟩
  have hh : h_eq I I' := ⟨hpe, hf 117 (by omega), hf 120 (by omega), hf 121 (by omega), hf 122 (by omega), hf 123 (by omega)⟩
  have er : rt I' = rt I := rt_e hh.2.1
  refine ⟨(p_in_e hpe).mpr h1, (p_cl_e hq).mpr h2, ?_, RW_e hh h4, ?_, (gq_e (fun k hk => hf k (by omega))).mpr h6, ?_, ?_, ?_, ?_, ?_, ?_, ?_, ?_⟩
  · unfold st_ok
    rw [hf 103 (by omega)]
    exact h3
  · unfold sq
    rw [hf 18 (by omega), hf 29 (by omega), hf 30 (by omega), hf 31 (by omega), hh.2.2.1, hh.2.2.2.1, hh.2.2.2.2.1]
    exact h5
  · rw [er, hf 124 (by omega)]; exact h7
  · rw [e12, hf 18 (by omega)]; exact h8
  · rw [e13, hf 18 (by omega)]; exact h9
  · rw [er, hf 19 (by omega)]
    exact ⟨rm_e h10.1 (fun k a b => hf k (by omega)), h10.2⟩
  · intro t a b
    obtain ⟨C, p, q⟩ := h11 t a b
    refine ⟨C, p, ?_⟩
    rw [er, hf 103 (by omega), hf 105 (by omega), hf 119 (by omega), hf 118 (by omega), hf 33 (by omega)]
    exact q
  · unfold DG
    rw [er, hf 103 (by omega), hf 32 (by omega)]
    exact h12
  · obtain ⟨a, b, c, d⟩ := h13
    refine ⟨e43, e34, by omega, ⟨by rw [k35.2, k126.2], by rw [k36.2, k127.2]⟩, Or.inl ⟨k126.2, T, k127.2, Nat.le_refl _, by rw [er]; exact k37.2, by rw [er]; exact k38.2, ?_⟩⟩
    have hac : ac = k + off := by omega
    rw [hac] at d
    rw [hf 124 (by omega)]
    refine aw_off (I := I) (I' := I') (off := off) (hf 117 (by omega)) k T _ (fun a ha j hj => ?_) d
    rcases ha with rfl | rfl | rfl | rfl | rfl | rfl
    · exact k35.1 j hj
    · exact k36.1 j hj
    · exact k37.1 j hj
    · exact k38.1 j hj
    · exact k126.1 j hj
    · exact k127.1 j hj
  · rw [hf 110 (by omega), hf 18 (by omega)]; exact h14
