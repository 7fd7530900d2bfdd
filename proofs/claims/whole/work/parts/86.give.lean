/-! one more input: the course relation -/
theorem CR_give {I I' : Nat → Nat → Int32} {T cu ac n k off s m : Nat} {v : Int32} (hcr : CR I T cu ac n) (hs : s < 3) (em : I 124 s = nI m) (hm : m < 30) (hk : ac < 40 ∧ k = ac ∧ off = 0 ∨ ac = 40 ∧ k = 39 ∧ off = 1)
    (k35 : kept (I 35) (I' 35) k off (nI s)) (k36 : kept (I 36) (I' 36) k off (nI T)) (k37 : ∀ j, j < k → I' 37 j = I 37 (j + off)) (k38 : ∀ j, j < k → I' 38 j = I 38 (j + off)) (k126 : kept (I 126) (I' 126) k off (nI s)) (k127 : kept (I 127) (I' 127) k off (nI T))
    (e34 : I' 34 4 = nI (k + 1)) (e43 : I' 99 43 = nI (k + 1)) (e12 : I' 99 12 = I 99 12) (e13 : I' 99 13 = I 99 13)
    (e27 : I' 27 = upd (I 27) (s * 30 + m) v) (e28 : I' 28 = upd (I 28) s (nI (m + 1))) (e123 : I' 123 = upd (I 123) (30 * s + m) v) (e124 : I' 124 = upd (I 124) s (nI (m + 1)))
    (hf : ∀ j, 12 ≤ j ∧ j < 27 ∨ 29 ≤ j ∧ j < 34 ∨ 103 ≤ j ∧ j < 111 ∨ 117 ≤ j ∧ j < 123 → I' j = I j) : CR I' T cu (k + 1) n := by
  obtain ⟨h1, h2, h3, h4, h5, h6, h7, h8, h9, h10, h11, h12, h13, h14⟩ := hcr
  have hpe : p_eq I I' := fun j a b => hf j (by omega)
  have hq : p_q I I' := ⟨fun j a b => hf j (by omega), hpe⟩
  have er : rt I' = rt I := rt_e (hf 117 (by omega))
  have hv := (h4.2.1 T (Nat.le_refl _)).1.2.2.2
  have hrd : (rt I T (48 + s)).toNatClampNeg ≤ m := by
    have a := h7 s hs
    have b := vb (hv s hs)
    rw [em, vc (hv s hs), nI_leI (by omega) (by omega)] at a
    exact a
  have hgc : ∀ z, z < 3 → z ≠ s → I' 124 z = I 124 z := fun z _ hz => by rw [e124, upd_ne hz]
  have hgs : I' 124 s = nI (m + 1) := by rw [e124, upd_eq]
  refine ⟨(p_in_e hpe).mpr h1, (p_cl_e hq).mpr h2, ?_, ?_, ?_, ?_, ?_, ?_, ?_, ?_, ?_, ?_, ?_, ?_⟩
  · unfold st_ok
    rw [hf 103 (by omega)]
    exact h3
  · refine RW_g h1 hpe (hf 117 (by omega)) (hf 120 (by omega)) (hf 121 (by omega)) (hf 122 (by omega)) (fun z hz y hy => ?_) h4
    rw [e123, upd_ne]
    intro c
    have y30 : y < (rt I T (48 + z)).toNatClampNeg := hy
    have b := vb (hv z hz)
    have : z = s := by omega
    subst this
    omega
  · unfold sq
    rw [hf 18 (by omega), hf 29 (by omega), hf 30 (by omega), hf 31 (by omega), hf 120 (by omega), hf 121 (by omega), hf 122 (by omega)]
    exact h5
  · intro z hz
    obtain ⟨a, b, c⟩ := h6 z hz
    by_cases e : z = s
    · subst e
      rw [hgs, e28, upd_eq, e27, e123]
      refine ⟨rfl, vp_in_nI (by omega) (by omega), fun i hi => ?_⟩
      rw [nI_clamp (by omega)] at hi
      by_cases ei : i = m
      · subst ei
        rw [upd_eq, upd_eq]
      · rw [upd_ne (by omega), upd_ne (by omega)]
        exact c i (by rw [em, nI_clamp (by omega)]; omega)
    · rw [hgc z hz e, e28, upd_ne e, e27, e123]
      refine ⟨a, b, fun i hi => ?_⟩
      have b' := vb b
      rw [upd_ne (by omega), upd_ne (by omega)]
      exact c i hi
  · intro z hz
    rw [er]
    by_cases e : z = s
    · subst e
      rw [hgs]
      refine Int32.le_trans (h7 z hz) ?_
      rw [em, nI_leI (by omega) (by omega)]
      omega
    · rw [hgc z hz e]
      exact h7 z hz
  · rw [e12, hf 18 (by omega)]; exact h8
  · rw [e13, hf 18 (by omega)]; exact h9
  · rw [er, hf 19 (by omega)]
    exact ⟨rm_e h10.1 (fun j a b => hf j (by omega)), h10.2⟩
  · intro t a b
    obtain ⟨C, p, q⟩ := h11 t a b
    refine ⟨C, p, ?_⟩
    rw [er, hf 103 (by omega), hf 105 (by omega), hf 119 (by omega), hf 118 (by omega), hf 33 (by omega)]
    exact q
  · unfold DG
    rw [er, hf 103 (by omega), hf 32 (by omega)]
    exact h12
  · obtain ⟨a, b, c, d⟩ := h13
    refine ⟨e43, e34, by omega, ⟨by rw [k35.2, k126.2], by rw [k36.2, k127.2]⟩, Or.inr ⟨s, hs, k126.2, k127.2, ?_, ?_, ?_⟩⟩
    · show 0 < (I' 124 s).toNatClampNeg
      rw [hgs, nI_clamp (by omega)]
      omega
    · show (rt I' T (48 + s)).toNatClampNeg ≤ (I' 124 s).toNatClampNeg - 1
      rw [er, hgs, nI_clamp (by omega)]
      omega
    · have eg : (fun z => if z = s then (I' 124 z).toNatClampNeg - 1 else (I' 124 z).toNatClampNeg) = (fun z => (I 124 z).toNatClampNeg) := by
        funext z
        by_cases e : z = s
        · subst e
          rw [if_pos rfl, hgs, em, nI_clamp (by omega), nI_clamp (by omega)]
          omega
        · rw [if_neg e, e124, upd_ne e]
      have hac : ac = k + off := by omega
      rw [hac] at d
      have w := aw_off (I := I) (I' := I') (off := off) (hf 117 (by omega)) k T (fun z => (I 124 z).toNatClampNeg) (fun a ha j hj => ?_) d
      · rw [← eg] at w
        exact w
      · rcases ha with rfl | rfl | rfl | rfl | rfl | rfl
        · exact k35.1 j hj
        · exact k36.1 j hj
        · exact k37 j hj
        · exact k38 j hj
        · exact k126.1 j hj
        · exact k127.1 j hj
  · rw [hf 110 (by omega), hf 18 (by omega)]; exact h14
/-- a refused act is counted -/
theorem CR_ref {I I' : Nat → Nat → Int32} {T cu ac n : Nat} (hcr : CR I T cu ac n) (e18 : I' 18 = upd (I 18) 13 (I 18 13 + nI 1)) (e110 : I' 110 = upd (I 110) 1 (I 110 1 + nI 1)) (e12 : I' 99 12 = I 99 12) (e13 : I' 99 13 = I 99 13) (e43 : I' 99 43 = I 99 43) (hf : ∀ j, 12 ≤ j ∧ j < 39 ∧ j ≠ 18 ∨ 103 ≤ j ∧ j < 110 ∨ 117 ≤ j ∧ j < 125 ∨ j = 126 ∨ j = 127 → I' j = I j) : CR I' T cu ac n := by
  obtain ⟨h1, h2, h3, h4, h5, h6, h7, h8, h9, h10, h11, h12, h13, h14⟩ := hcr
  have hpe : p_eq I I' := fun j a b => hf j (by omega)
  have hq : p_q I I' := ⟨fun j a b => hf j (by omega), hpe⟩
  have hh : h_eq I I' := ⟨hpe, hf 117 (by omega), hf 120 (by omega), hf 121 (by omega), hf 122 (by omega), hf 123 (by omega)⟩
  have er : rt I' = rt I := rt_e hh.2.1
  have f18 : ∀ f, f ≠ 13 → I' 18 f = I 18 f := fun f hf' => by rw [e18, upd_ne hf']
  refine ⟨(p_in_e hpe).mpr h1, (p_cl_e hq).mpr h2, ?_, RW_e hh h4, ?_, (gq_e (fun k hk => hf k (by omega))).mpr h6, ?_, ?_, ?_, ?_, ?_, ?_, ?_, ?_⟩
  · unfold st_ok
    rw [hf 103 (by omega)]
    exact h3
  · unfold sq
    rw [f18 9 (by omega), hf 29 (by omega), hf 30 (by omega), hf 31 (by omega), hh.2.2.1, hh.2.2.2.1, hh.2.2.2.2.1]
    exact h5
  · rw [er, hf 124 (by omega)]; exact h7
  · rw [e12, f18 10 (by omega)]; exact h8
  · rw [e13, f18 11 (by omega)]; exact h9
  · rw [er, hf 19 (by omega)]
    exact ⟨rm_e h10.1 (fun k a b => hf k (by omega)), h10.2⟩
  · intro t a b
    obtain ⟨C, p, q⟩ := h11 t a b
    refine ⟨C, p, ?_⟩
    rw [er, hf 103 (by omega), hf 105 (by omega), hf 119 (by omega), hf 118 (by omega), hf 33 (by omega)]
    exact q
  · unfold DG
    rw [er, hf 103 (by omega), hf 32 (by omega)]
    exact h12
  · obtain ⟨a, b, c, d⟩ := h13
    refine ⟨by rw [e43]; exact a, by rw [hf 34 (by omega)]; exact b, c, ?_⟩
    rw [hf 124 (by omega)]
    exact aw_e (fun k hk => hf k (by omega)) _ _ _ d
  · rw [e110, e18, upd_eq, upd_eq, upd_ne (by omega), upd_ne (by omega), h14.2]
    exact ⟨h14.1, rfl⟩
