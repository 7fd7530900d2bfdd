/-! a live step is a step by the record that it leaves -/
theorem m_can_L {P : Nat → Nat → Int32} {G L r : Nat → Int32} {t : Nat} (h : m_can P G r t = true) (hl : P 106 (m_i r t) = nI 6 → r (48 + (P 108 (m_i r t)).toNatClampNeg) < L (P 108 (m_i r t)).toNatClampNeg) : m_can P L r t = true := by
  obtain ⟨h1, h2, h3⟩ := m_can_t h
  unfold m_can
  rw [decide_eq_true h1, Bool.true_and]
  by_cases c7 : P 106 (m_i r t) = nI 7
  · rw [if_pos c7, decide_eq_true (h3 c7)]
  · rw [if_neg c7]
    by_cases c6 : P 106 (m_i r t) = nI 6
    · rw [if_pos c6, decide_eq_true (hl c6)]
    · rw [if_neg c6]
theorem m_ri_e {P P' : Nat → Nat → Int32} {how wh ins : Int32} {r : Nat → Int32} {t : Nat} (h : p_eq P P') (h3 : P' 123 = P 123) : m_ri P' how wh ins r t = m_ri P how wh ins r t := by
  unfold m_ri
  rw [h 106 (by omega) (by omega), h 108 (by omega) (by omega), h3]
theorem nI_lts {a : Nat} (h : a < 400) : nI a < nI a + nI 1 := by
  rw [nI_add, nI_ltI (by omega) (by omega)]
  omega
/-- the step itself -/
theorem live_go {I I' : Nat → Nat → Int32} {G s1 s : Nat → Int32} {T : Nat} (hp : p_in I) (hr1 : r_ok I s1) (hT : T < (I 103 4).toNatClampNeg) (h44 : s1 44 = nI T) (hcan : m_can I G s1 T = true) (hpe : p_eq I I') (e123 : I' 123 = I 123) (hs : c_eq s s1) (hs47 : s 47 = s1 47) : go I' (fun z => m_st I (I 123) s1 (48 + z)) s (m_st I (I 123) s1) T := by
  have hm := vb hp.1
  obtain ⟨g1, g2, g3⟩ := m_can_t hcan
  obtain ⟨p, n, ep, en, hpn, hn, hi, ht4, hok⟩ := r_at hp hr1 hT
  have hrs : r_ok I s := r_ok_c hp hr1 (c_eq_sym hs)
  have his : m_i s T = 16 * T + p := by rw [m_i_c ht4 (c_eq_sym hs)]; exact hi
  have g1s : s (16 + 6 * T + 4) < I 105 T := by rw [hs _ (by omega)]; exact g1
  have g1' := g1
  rw [ep, en, nI_ltI (by omega) (by omega)] at g1'
  refine ⟨(hs 44 (by omega)).trans h44, by rw [hpe 103 (by omega) (by omega)]; exact hT, ?_, ?_, ?_⟩
  · rw [m_can_e hpe]
    have hcs : m_can I G s T = true := by rw [m_can_c hp hrs hT hs]; exact hcan
    refine m_can_L hcs (fun c6 => ?_)
    rw [his] at c6 ⊢
    obtain ⟨o, ho, eo, q1, q2, q3, q4, q5, q6⟩ := hok g1'
    have o6 : o = 6 := by rw [eo, nI_eq (by omega) (by omega)] at c6; exact c6
    have bz := vb (q5 o6)
    have bz' := hr1.2.2.2 _ bz
    have bz'' := vb bz'
    show s (48 + (I 108 (16 * T + p)).toNatClampNeg) < m_st I (I 123) s1 (48 + (I 108 (16 * T + p)).toNatClampNeg)
    unfold m_st m_do
    rw [h44, nI_clamp (by omega), upd_ne (by omega), upd_ne (by omega), upd_ne (by omega), m_val_rd hi (hok g1') ht4 (by omega) (by omega), if_pos ⟨c6, rfl⟩, hs _ (by omega), vc bz']
    exact nI_lts (by omega)
  · rw [m_do_e hpe, m_ri_e hpe e123, m_inp_ri hp hrs hT g1s]
    have e1 : m_inp I (I 123) s T = m_inp I (I 123) s1 T := by
      rw [← m_inp_ri hp hrs hT g1s, ← m_inp_ri hp hr1 hT g1]
      exact m_ri_c hp hrs hT g1s hs
    rw [e1]
    exact c_eq_tr (m_do_c hp hrs hT g1s hs) (c_eq_st (by omega) h44)
  · rw [hs47]
    unfold m_st
    rw [h44, nI_clamp (by omega), upd_ne (by omega)]
    exact m_do_k hp hr1 hT g1 (by omega) (by omega)
theorem m_ix_n {k : Nat} : m_ix (-1) 0 (nI k) = nI k := by
  unfold m_ix
  rw [if_neg (fun q => nI_nm (show 1 < 2 ^ 31 by omega) q.symm)]
theorem live_cs {I I' : Nat → Nat → Int32} {G r s1 : Nat → Int32} {q n : Nat} (hp : p_in I) (hr : r_ok I r) (h47 : r 47 = nI n) (hn : n < 400) (hpre : m_pre I G q r = some s1) (hpe : p_eq I I') (e123 : I' 123 = I 123) (e120 : I' 120 = m_rec true r s1 (I 120) (m_lb r)) (e121 : I' 121 = m_rec true r s1 (I 121) (m_lp r)) (e122 : I' 122 = m_rec true r s1 (I 122) (s1 44)) :
    (s1 44 = r 44 ∧ m_st I (I 123) s1 47 = nI n ∧ cs I' n (fun z => m_st I (I 123) s1 (48 + z)) r (m_st I (I 123) s1)) ∨ (¬ s1 44 = r 44 ∧ m_st I (I 123) s1 47 = nI (n + 1) ∧ cs I' (n + 1) (fun z => m_st I (I 123) s1 (48 + z)) r (m_st I (I 123) s1)) := by
  obtain ⟨T, t1, t2, t3, t4, t5, t6, t7⟩ := m_pre_ok hp hr hpre
  have hm := vb hp.1
  obtain ⟨g1, g2, g3⟩ := m_can_t t4
  have d47 : m_st I (I 123) s1 47 = s1 47 := by
    unfold m_st
    rw [t2, nI_clamp (by omega), upd_ne (by omega)]
    exact m_do_k hp t6 t1 g1 (by omega) (by omega)
  by_cases c : s1 44 = r 44
  · rw [if_pos c] at t7
    refine Or.inl ⟨c, by rw [d47, t7, h47], r, T, ⟨fun _ => rfl, fun q => absurd q ?_, fun q => absurd q ?_⟩, live_go hp t6 t1 t2 t4 hpe e123 ?_ t7.symm⟩
    · rw [h47, m_ix_n]; exact fun q => Int32.lt_irrefl q
    · rw [h47, m_ix_n]; exact fun q => Int32.lt_irrefl q
    · intro k hk
      by_cases k44 : k = 44
      · rw [k44]; exact c.symm
      · exact (t5 k (by omega)).symm
  · rw [if_neg c] at t7
    rw [m_rec_t c, h47, nI_clamp (by omega)] at e120 e121 e122
    have hlt : m_ix (-1) 0 (r 47) < nI (n + 1) := by rw [h47, m_ix_n, nI_ltI (by omega) (by omega)]; omega
    have hdue : m_due I' (m_ix (-1) 0 (r 47)).toNatClampNeg r := by
      rw [h47, m_ix_n, nI_clamp (by omega)]
      unfold m_due
      rw [e120, e121, upd_eq, upd_eq]
      by_cases c44 : r 44 = -1
      · exact Or.inl c44
      · unfold m_lb m_lp
        rw [if_neg c44, if_neg c44]
        exact Or.inr ⟨rfl, rfl⟩
    have hnx : m_nx I' (-1) 0 0 (m_ix (-1) 0 (r 47)) = s1 44 := by
      unfold m_nx
      rw [if_neg (fun q => nI_nm (show 0 < 2 ^ 31 by omega) q.symm), h47, m_ix_n, nI_clamp (by omega), e122, upd_eq]
    refine Or.inr ⟨c, by rw [d47, t7, h47, nI_add], upd (upd r 47 (r 47 + nI 1)) 44 (s1 44), T, ⟨fun q => absurd hlt q, fun _ q => absurd hdue q, fun _ _ => by rw [hnx]⟩, live_go hp t6 t1 t2 t4 hpe e123 ?_ ?_⟩
    · intro k hk
      by_cases k44 : k = 44
      · rw [k44, upd_eq]
      · rw [upd_ne k44, upd_ne (by omega)]
        exact (t5 k (by omega)).symm
    · rw [upd_ne (by omega), upd_eq, t7]
/-- the same on other rows that are alike in 51 places -/
def e51 (r s : Nat → Int32) : Prop := ∀ k, k < 51 → r k = s k
theorem e51_c {r s : Nat → Int32} (h : e51 r s) : c_eq r s := fun k hk => h k (by omega)
theorem m_tk_51 {I : Nat → Nat → Int32} {n : Nat} {how wh ins : Int32} {r r' s : Nat → Int32} (hp : p_in I) (hr : r_ok I r) (h : e51 r r') (ht : m_tk I n how wh ins r s) : ∃ s', m_tk I n how wh ins r' s' ∧ e51 s s' := by
  have hm := vb hp.1
  have e47 := h 47 (by omega)
  have e44 := h 44 (by omega)
  have hd : ∀ i, m_due I i r' ↔ m_due I i r := by
    intro i
    unfold m_due
    rw [← e44]
    by_cases c : r 44 = -1
    · exact ⟨fun _ => Or.inl c, fun _ => Or.inl c⟩
    · have b := vb (hr.2.2.1.resolve_left c)
      rw [← h _ (by omega), ← h _ (by omega)]
  by_cases c : m_ix how wh (r 47) < nI n
  · by_cases d : m_due I (m_ix how wh (r 47)).toNatClampNeg r
    · refine ⟨upd (upd r' 47 (r' 47 + nI 1)) 44 (m_nx I how wh ins (m_ix how wh (r' 47))), ⟨fun q => absurd (by rw [← e47]; exact c) q, fun _ q => absurd ((hd _).mpr (by rw [← e47]; exact d)) q, fun _ _ => rfl⟩, ?_⟩
      rw [ht.2.2 c d, e47]
      intro k hk
      by_cases k4 : k = 44
      · rw [k4, upd_eq, upd_eq]
      · rw [upd_ne k4, upd_ne k4]
        by_cases k7 : k = 47
        · rw [k7, upd_eq, upd_eq]
        · rw [upd_ne k7, upd_ne k7]; exact h k hk
    · refine ⟨r', ⟨fun _ => rfl, fun _ _ => rfl, fun _ q => absurd ((hd _).mp (by rw [← e47] at q; exact q)) d⟩, ?_⟩
      rw [ht.2.1 c d]; exact h
  · refine ⟨r', ⟨fun _ => rfl, fun q => absurd (by rw [← e47] at q; exact q) c, fun q => absurd (by rw [← e47] at q; exact q) c⟩, ?_⟩
    rw [ht.1 c]; exact h
theorem go_51 {P : Nat → Nat → Int32} {L s s' r2 r2' : Nat → Int32} {C : Nat} (hp : p_in P) (hr : r_ok P s) (hs : e51 s s') (h2 : e51 r2 r2') (h : go P L s r2 C) : go P L s' r2' C := by
  obtain ⟨h44, hC, hcan, hc, h47⟩ := h
  have g1 := (m_can_t hcan).1
  refine ⟨by rw [← hs 44 (by omega)]; exact h44, hC, by rw [← m_can_c hp hr hC (e51_c hs)]; exact hcan, ?_, by rw [← h2 47 (by omega), ← hs 47 (by omega)]; exact h47⟩
  rw [← m_ri_c hp hr hC g1 (e51_c hs)]
  exact c_eq_tr (c_eq_sym (m_do_c hp hr hC g1 (e51_c hs))) (c_eq_tr hc (e51_c h2))
