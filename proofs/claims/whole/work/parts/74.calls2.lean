/-! calls that only look: lock, mark, thread, fault, set -/
def Hq (I : Nat → Nat → Int32) (J : Nat → Nat → Int64) (S : Nat → Nat → Option Nat) (E : am_Ev) (T : Nat) (x4 : Int32) (Q : am_Qt) : Prop := ∀ E' I' J', E' = E ∨ E' = Ex E → quiet I I' → (∃ d', vw I' T d') → Jq J J' → lk x4 E' I' J' S Q
theorem t_bad {E : am_Ev} {I : Nat → Nat → Int32} {J : Nat → Nat → Int64} {S : Nat → Nat → Option Nat} {Q : am_Qt} {E0 : am_Ev} {I0 : Nat → Nat → Int32} {J0 : Nat → Nat → Int64} {T d : Nat} {x4 v : Int32} (h : Hq I0 J0 S E0 T x4 Q) (hE : E = Ex E0) (hf : fb I0 I 60 67) (hJ : Jq J0 J) (hvw : vw I T d) : q_I (fun v2 E2 I2 J2 S2 => tl (nI 1) v2 x4 E2 I2 J2 S2 Q) (.inl (some (.int v))) E (u_I I 99 (upd (upd (I 99) 3 (nI 0)) 3 (nI 1))) J S := by
  rw [upd_upd]
  exact q_mkI (tl_bad (by omega) (by omega) (by rw [u_I_eq, upd_eq]) (h _ _ _ (Or.inr hE) ⟨fun k hk hk' => by rw [u_I_ne hk', hf k hk], fun f hf' => by rw [u_I_eq, upd_ne hf', hf 99 (by omega)]⟩ ⟨d, vw_e (fun k hk => u_I_ne (by omega)) hvw⟩ hJ))
theorem t_ok {E : am_Ev} {I : Nat → Nat → Int32} {J : Nat → Nat → Int64} {S : Nat → Nat → Option Nat} {Q : am_Qt} {E0 : am_Ev} {I0 : Nat → Nat → Int32} {J0 : Nat → Nat → Int64} {T d : Nat} {x4 v v' : Int32} (h : Hq I0 J0 S E0 T x4 Q) (hE : E = E0) (hf : fb I0 I 60 67) (hJ : Jq J0 J) (hvw : vw I T d) (hv : v' = v) : q_I (fun v2 E2 I2 J2 S2 => tl (nI 0) v2 x4 E2 I2 J2 S2 Q) (.inl (some (.int v'))) E (u_I I 99 (upd (I 99) 3 (nI 0))) (u_J J 145 (vp_updL (J 145) 0 v.toInt64)) S := by
  subst hv
  refine q_mkI (tl_ok (by rw [u_I_eq, upd_eq]) ?_ (h _ _ _ (Or.inl hE) ⟨fun k hk hk' => by rw [u_I_ne hk', hf k hk], fun f hf' => by rw [u_I_eq, upd_ne hf', hf 99 (by omega)]⟩ ⟨d, vw_e (fun k hk => u_I_ne (by omega)) hvw⟩ (fun k hk => by rw [u_J_ne hk]; exact hJ k hk)))
  rw [u_J_eq]
  exact if_pos rfl
theorem Jq_id {J : Nat → Nat → Int64} : Jq J J := fun _ _ => rfl
/-- an int below a number, or not -/
theorem rng (x : Int32) (n : Nat) (hn : n < 2 ^ 31) : (∃ c, c < n ∧ x = nI c) ∨ (x < 0 ∨ nI n ≤ x) := by
  by_cases c0 : x < 0
  · exact Or.inr (Or.inl c0)
  · obtain ⟨j, hj, e⟩ := nI_of c0
    by_cases c : j < n
    · exact Or.inl ⟨j, c, e⟩
    · refine Or.inr (Or.inr ?_)
      rw [e, nI_leI hn hj]
      omega
theorem k_lock {E : am_Ev} {I : Nat → Nat → Int32} {J : Nat → Nat → Int64} {S : Nat → Nat → Option Nat} {Q : am_Qt} {T cu ac n d i : Nat} {x4 : Int32} {d5 d6 : Value} (hd5 : am_isL d5 = false) (hd6 : am_isL d6 = false) (hcr : CR I T cu ac n) (hvw : vw I T d) (hx : x4 = nI i) (hi : i + 6 ≤ E.2.2.1) (hL : E.2.2.1 ≤ 3072) (h : Hq I J S E T x4 Q) : am_ww 291 520 [.ref 1000000, .ref 0, .ref 99, .ref 145, .int x4, d5, d6] [] E I J S Q := by
  apply g291_520 hd5 hd6
  refine L1 hx hi hL ?_
  generalize E.2.2.2 (i + 1) = x
  have hv := CR_vr0 hcr
  obtain ⟨h1, h2, h3, h4, h5, h6, h7, h8, h9, h10, h11, h12, h13, h14⟩ := hcr
  have hT := h4.1.1
  have hcu := h9.2.2
  show am_ww 128 0 [.ref 0, .int x, .ref 145, am_U] [] E I J S _
  apply g128_0
  show am_ww 129 0 [.ref 0, .int x] [] E I J S _
  apply g129_0
  rcases rng x 4 (by omega) with ⟨c, hc, rfl⟩ | hb
  · simp (disch := omega) only [Nat.reduceEqDiff, reduceIte, nI_mulI, nI_add, nI_clamp, nI_ltI, nI_leI, nI_eq, nI_e0, nI_n0, vt, forall_eq, true_and, and_true, true_implies, forall_const, not_true_eq_false, not_false_eq_true, false_implies, implies_true]
    refine ⟨fun _ => ?_, fun q => absurd hc q⟩
    rw [h9.2.1]
    refine c52 hv hvw h9.2.2 (fun I' w' f' => q_mkR ⟨rfl, ?_⟩)
    rw [w'.2.2.2.2.2.2.2.2.2.1 c hc]
    refine W_ok (y := 128) (q_mkI ⟨rfl, ?_⟩)
    show am_ww 253 0 [.ref 99, .int (nI c)] [] E I' _ S _
    apply g253_0
    have e13 : I' 99 13 = nI cu := by rw [f' 99 (by omega)]; exact h9.1
    rw [e13]
    simp (disch := omega) only [Nat.reduceEqDiff, reduceIte, nI_mulI, nI_add, nI_clamp, nI_ltI, nI_leI, nI_eq, nI_e0, nI_n0, vt, forall_eq, true_and, and_true, true_implies, forall_const, not_true_eq_false, not_false_eq_true, false_implies, implies_true]
    refine ⟨fun q => absurd q (by omega), fun _ => ⟨fun q => absurd q (by omega), fun _ => ?_⟩⟩
    exact t_ok h rfl f' Jq_id w' (by rw [← rt_k (I := I') (t := cu) (show 40 + c < 51 by omega)])
  · have fin : q_I (fun v1 E1 I1 J1 S1 => E1.2.2 = E.2.2 ∧ am_cl 253 [.ref 99, .int x] E1 I1 J1 S1 (q_I fun v2 E2 I2 J2 S2 => tl v1 v2 x4 E2 I2 J2 S2 Q)) (.inl (some (.int (nI 1)))) (Ex E) I J S := by
      refine q_mkI ⟨rfl, ?_⟩
      show am_ww 253 0 [.ref 99, .int x] [] (Ex E) I J S _
      apply g253_0
      have t := t_bad (v := nI 0) h rfl fb_id Jq_id hvw
      refine ⟨fun _ => t, fun c0 => ⟨fun _ => t, fun c1 => ?_⟩⟩
      exfalso
      obtain ⟨j, _, j2, ej⟩ := vr (a := 0) (b := 3) (by omega) (by omega) c0 c1
      rcases hb with c | c
      · rw [nI_0] at c0; exact c0 c
      · rw [ej, nI_leI (by omega) (by omega)] at c
        omega
    refine ⟨fun _ => ⟨1, rfl, fin⟩, fun c0 => ⟨fun c1 => ?_, fun _ => ⟨1, rfl, fin⟩⟩⟩
    exfalso
    rcases hb with c | c
    · exact c0 c
    · exact Int32.not_lt.mpr c c1
theorem k_mark {E : am_Ev} {I : Nat → Nat → Int32} {J : Nat → Nat → Int64} {S : Nat → Nat → Option Nat} {Q : am_Qt} {T cu ac n d i : Nat} {x4 : Int32} {d5 d6 : Value} (hd5 : am_isL d5 = false) (hd6 : am_isL d6 = false) (hcr : CR I T cu ac n) (hvw : vw I T d) (h : Hq I J S E T x4 Q) : am_ww 291 555 [.ref 1000000, .ref 0, .ref 99, .ref 145, .int x4, d5, d6] [] E I J S Q := by
  apply g291_555 hd5 hd6
  have hv := CR_vr0 hcr
  obtain ⟨h1, h2, h3, h4, h5, h6, h7, h8, h9, h10, h11, h12, h13, h14⟩ := hcr
  have hT := h4.1.1
  have hcu := h9.2.2
  show am_ww 51 0 [.ref 0] [] E I J S _
  apply g51_0
  rw [h9.2.1]
  refine c52 hv hvw h9.2.2 (fun I' w' f' => q_mkR ⟨rfl, ?_⟩)
  have hv' := vr0_fb hv f' (by omega) (by omega)
  refine c40_61 hv'.1 hv'.2.1 w'.2.2.2.2.2 (q_mkI (q_mkI ?_))
  show am_ww 254 0 [.ref 99] [] E I' J S _
  apply g254_0
  have e13 : I' 99 13 = nI cu := by rw [f' 99 (by omega)]; exact h9.1
  rw [e13]
  have hpu : p_eq I' (u_I I' 99 (upd (I' 99) 3 (nI 0))) := p_eq_u (by omega)
  refine m248 ((p_in_e hpu).mpr hv'.1) (by omega) (q_mkI (q_mkI ?_))
  rw [u_I_ne (by decide), rt_e (I' := u_I I' 99 (upd (I' 99) 3 (nI 0))) (I := I') (u_I_ne (by decide))]
  exact ⟨fun _ => h _ _ _ (Or.inl rfl) ⟨fun k hk hk' => by rw [u_I_ne hk', f' k hk], fun f hf' => by rw [u_I_eq, upd_ne hf', f' 99 (by omega)]⟩ ⟨cu, vw_e (fun k hk => u_I_ne (by omega)) w'⟩ Jq_id _ _ hd5 hd6, fun q => absurd rfl q⟩
