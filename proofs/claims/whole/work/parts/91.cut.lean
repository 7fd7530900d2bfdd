/-! the course relation, cut off at an earlier time -/
theorem CR_cut {I I' : Nat → Nat → Int32} {T T' cu cu' ac ac' n : Nat} (hcr : CR I T cu ac n) (hT' : T' ≤ T) (hcu : cu' ≤ T') (haw : aw I ac' T' (fun s => (I 124 s).toNatClampNeg)) (hac : ac' ≤ 40) (m20 : rm I' 20 (rt I T')) (l19 : I' 19 2 = rt I T' 45) (d19 : I' 19 1 = rt I T' 46) (f9 : I' 18 9 = rt I T' 47) (f10 : I' 18 10 = nI T') (f11 : I' 18 11 = nI cu') (f12 : I' 18 12 = I 18 12) (f13 : I' 18 13 = I 18 13) (e34 : I' 34 4 = nI ac') (e43 : I' 99 43 = nI ac') (e12 : I' 99 12 = nI T') (e13 : I' 99 13 = nI cu') (hf : ∀ j, 12 ≤ j ∧ j < 18 ∨ 27 ≤ j ∧ j < 34 ∨ 35 ≤ j ∧ j < 39 ∨ 103 ≤ j ∧ j < 111 ∨ 117 ≤ j ∧ j < 125 ∨ j = 126 ∨ j = 127 → I' j = I j) : ∃ n', CR I' T' cu' ac' n' := by
  obtain ⟨h1, h2, h3, h4, h5, h6, h7, h8, h9, h10, h11, h12, h13, h14⟩ := hcr
  have hpe : p_eq I I' := fun j a b => hf j (by omega)
  have hq : p_q I I' := ⟨fun j a b => hf j (by omega), hpe⟩
  have hh : h_eq I I' := ⟨hpe, hf 117 (by omega), hf 120 (by omega), hf 121 (by omega), hf 122 (by omega), hf 123 (by omega)⟩
  have er : rt I' = rt I := rt_e hh.2.1
  have hT := h4.1.1
  obtain ⟨_, ⟨n', n1, n2⟩, _⟩ := h4.2.1 T' hT'
  have mono := RW_mono h1 h4 (T - T') T' (by omega)
  rw [show T' + (T - T') = T by omega] at mono
  have hnn : n' ≤ n := mono.1 n' n n2 h4.2.2.2.1 (by omega) (by have := h4.1.2; omega)
  refine ⟨n', (p_in_e hpe).mpr h1, (p_cl_e hq).mpr h2, ?_, RW_e hh (RW_shrink h1 h4 hT' n2 n1), ?_, (gq_e (fun k hk => hf k (by omega))).mpr h6, ?_, ⟨e12, f10⟩, ⟨e13, f11, hcu⟩, ?_, ?_, ?_, ?_, ?_⟩
  · unfold st_ok
    rw [hf 103 (by omega)]
    exact h3
  · unfold sq
    rw [f9, hf 29 (by omega), hf 30 (by omega), hf 31 (by omega), hh.2.2.1, hh.2.2.2.1, hh.2.2.2.2.1]
    exact ⟨n2, fun i hi => h5.2 i (by omega)⟩
  · intro s hs
    rw [er, hf 124 (by omega)]
    exact Int32.le_trans (mono.2 s hs) (h7 s hs)
  · rw [er]
    exact ⟨m20, l19, d19⟩
  · intro t a b
    obtain ⟨C, p, q⟩ := h11 t a (by omega)
    refine ⟨C, p, ?_⟩
    rw [er, hf 103 (by omega), hf 105 (by omega), hf 119 (by omega), hf 118 (by omega), hf 33 (by omega)]
    exact q
  · unfold DG
    rw [er, hf 103 (by omega), hf 32 (by omega)]
    intro i hi
    exact h12 i (Nat.lt_of_lt_of_le hi (Nat.div_le_div_right hT'))
  · refine ⟨e43, e34, hac, ?_⟩
    rw [hf 124 (by omega)]
    exact aw_e (fun k hk => hf k (by omega)) _ _ _ haw
  · rw [hf 110 (by omega), f12, f13]
    exact h14
