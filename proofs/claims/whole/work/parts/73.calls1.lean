/-! the law's calls: what they have in common -/
def lk (x4 : Int32) (E : am_Ev) (I : Nat → Nat → Int32) (J : Nat → Nat → Int64) (S : Nat → Nat → Option Nat) (Q : am_Qt) : Prop := ∀ d5 d6 : Value, am_isL d5 = false → am_isL d6 = false → am_ww 291 1129 [.ref 1000000, .ref 0, .ref 99, .ref 145, .int x4, d5, d6] [] E I J S Q
def tl (v1 v2 x4 : Int32) (E2 : am_Ev) (I2 : Nat → Nat → Int32) (J2 : Nat → Nat → Int64) (S2 : Nat → Nat → Option Nat) (Q : am_Qt) : Prop := (((I2 99) 3) = v1 → ((v1 = 0 → (((lg_cmp ((J2 145) 0) v2.toInt64) = 0 → (am_ww 291 1129 [.ref 1000000, .ref 0, .ref 99, .ref 145, .int x4, .int v1, .int v2] [] E2 I2 J2 S2 Q)) ∧ (¬ (lg_cmp ((J2 145) 0) v2.toInt64) = 0 → (Q (.inl (some (.int (nI 0)))) E2 I2 J2 S2)))) ∧ (¬ v1 = 0 → (am_ww 291 1129 [.ref 1000000, .ref 0, .ref 99, .ref 145, .int x4, .int v1, .int v2] [] E2 I2 J2 S2 Q)))) ∧ (¬ ((I2 99) 3) = v1 → (Q (.inl (some (.int (nI 0)))) E2 I2 J2 S2))
theorem lg_self (x : Int64) : lg_cmp x x = 0 := by
  unfold lg_cmp
  simp
theorem tl_ok {E : am_Ev} {I : Nat → Nat → Int32} {J : Nat → Nat → Int64} {S : Nat → Nat → Option Nat} {Q : am_Qt} {v x4 : Int32} (h3 : I 99 3 = nI 0) (hj : J 145 0 = v.toInt64) (h : lk x4 E I J S Q) : tl (nI 0) v x4 E I J S Q := by
  refine ⟨fun _ => ⟨fun _ => ⟨fun _ => h _ _ rfl rfl, fun q => absurd ?_ q⟩, fun q => absurd nI_0 q⟩, fun q => absurd h3 q⟩
  rw [hj]
  exact lg_self _
theorem tl_bad {E : am_Ev} {I : Nat → Nat → Int32} {J : Nat → Nat → Int64} {S : Nat → Nat → Option Nat} {Q : am_Qt} {c : Nat} {v x4 : Int32} (hc : 0 < c) (hc' : c < 10) (h3 : I 99 3 = nI c) (h : lk x4 E I J S Q) : tl (nI c) v x4 E I J S Q :=
  ⟨fun _ => ⟨fun q => absurd q (nI_ne0 hc (by omega)), fun _ => h _ _ rfl rfl⟩, fun q => absurd h3 q⟩
/-- a call of one number that may throw -/
theorem L1 {E : am_Ev} {I : Nat → Nat → Int32} {J : Nat → Nat → Int64} {S : Nat → Nat → Option Nat} {Q : am_Qt} {W M i : Nat} {x4 : Int32} (hx : x4 = nI i) (hi : i + 6 ≤ E.2.2.1) (hL : E.2.2.1 ≤ 3072) (h : am_cl W [.ref 0, .int (E.2.2.2 (i + 1)), .ref 145] E I J S (q_I fun v1 E1 I1 J1 S1 => E1.2.2 = E.2.2 ∧ am_cl M [.ref 99, .int (E.2.2.2 (i + 1))] E1 I1 J1 S1 (q_I fun v2 E2 I2 J2 S2 => tl v1 v2 x4 E2 I2 J2 S2 Q))) :
    vp_in (x4 + (nI 1)) E.2.2.1 ∧ (am_cl W [.ref 0, .int (E.2.2.2 (x4 + (nI 1)).toNatClampNeg), .ref 145] E I J S (q_I fun v1 E1 I1 J1 S1 => vp_in (x4 + (nI 1)) E1.2.2.1 ∧ (am_cl M [.ref 99, .int (E1.2.2.2 (x4 + (nI 1)).toNatClampNeg)] E1 I1 J1 S1 (q_I fun v2 E2 I2 J2 S2 => tl v1 v2 x4 E2 I2 J2 S2 Q)))) := by
  subst hx
  rw [nI_add, nI_clamp (by omega)]
  refine ⟨vp_in_nI (by omega) (by omega), am_ww.mono h ?_⟩
  rintro r E1 I1 J1 S1 ⟨v, rfl, he, hq⟩
  refine q_mkI ?_
  rw [he]
  exact ⟨vp_in_nI (by omega) (by omega), hq⟩
theorem L2 {E : am_Ev} {I : Nat → Nat → Int32} {J : Nat → Nat → Int64} {S : Nat → Nat → Option Nat} {Q : am_Qt} {W M i : Nat} {x4 : Int32} (hx : x4 = nI i) (hi : i + 6 ≤ E.2.2.1) (hL : E.2.2.1 ≤ 3072) (h : am_cl W [.ref 0, .int (E.2.2.2 (i + 1)), .int (E.2.2.2 (i + 2)), .ref 145] E I J S (q_I fun v1 E1 I1 J1 S1 => E1.2.2 = E.2.2 ∧ am_cl M [.ref 99, .int (E.2.2.2 (i + 1)), .int (E.2.2.2 (i + 2))] E1 I1 J1 S1 (q_I fun v2 E2 I2 J2 S2 => tl v1 v2 x4 E2 I2 J2 S2 Q))) :
    vp_in (x4 + (nI 1)) E.2.2.1 ∧ (vp_in (x4 + (nI 2)) E.2.2.1 ∧ (am_cl W [.ref 0, .int (E.2.2.2 (x4 + (nI 1)).toNatClampNeg), .int (E.2.2.2 (x4 + (nI 2)).toNatClampNeg), .ref 145] E I J S (q_I fun v1 E1 I1 J1 S1 => vp_in (x4 + (nI 1)) E1.2.2.1 ∧ (vp_in (x4 + (nI 2)) E1.2.2.1 ∧ (am_cl M [.ref 99, .int (E1.2.2.2 (x4 + (nI 1)).toNatClampNeg), .int (E1.2.2.2 (x4 + (nI 2)).toNatClampNeg)] E1 I1 J1 S1 (q_I fun v2 E2 I2 J2 S2 => tl v1 v2 x4 E2 I2 J2 S2 Q)))))) := by
  subst hx
  rw [nI_add, nI_add, nI_clamp (by omega), nI_clamp (by omega)]
  refine ⟨vp_in_nI (by omega) (by omega), vp_in_nI (by omega) (by omega), am_ww.mono h ?_⟩
  rintro r E1 I1 J1 S1 ⟨v, rfl, he, hq⟩
  refine q_mkI ?_
  rw [he]
  exact ⟨vp_in_nI (by omega) (by omega), vp_in_nI (by omega) (by omega), hq⟩
/-- only the view, the code and the law's own cell have changed -/
def quiet (I I' : Nat → Nat → Int32) : Prop := (∀ k, k < 60 ∨ 67 < k → k ≠ 99 → I' k = I k) ∧ (∀ f, f ≠ 3 → I' 99 f = I 99 f)
def Jq (J J' : Nat → Nat → Int64) : Prop := ∀ k, k ≠ 145 → J' k = J k
theorem quiet_ce {I I' : Nat → Nat → Int32} (h : quiet I I') : ce I I' := ⟨fun k hk => h.1 k (by omega) (by omega), h.2 12 (by omega), h.2 13 (by omega), h.2 43 (by omega)⟩
/-- how an answer of the class, thrown or not, becomes the wrapper's -/
theorem W_ok {E : am_Ev} {I : Nat → Nat → Int32} {J : Nat → Nat → Int64} {S : Nat → Nat → Option Nat} {Q : am_Qt} {y : Nat} {v : Int32} (h : Q (.inl (some (.int (nI 0)))) E I (u_J J 145 (vp_updL (J 145) 0 v.toInt64)) S) : (fun (r : Option Value ⊕ Nat) (E1 : am_Ev) (I1 : Nat → Nat → Int32) (J1 : Nat → Nat → Int64) (S1 : Nat → Nat → Option Nat) => match r with | .inl w => ∃ v1, w = some (.int v1) ∧ (Q (.inl (some (.int (nI 0)))) E1 I1 (u_J J1 145 (vp_updL (J1 145) 0 v1.toInt64)) S1) | .inr e => ∃ n, am_hd y e = some n ∧ Q (.inl (some (.int (nI n)))) E1 I1 J1 S1) (.inl (some (.int v))) E I J S := ⟨v, rfl, h⟩
def Ex (E : am_Ev) : am_Ev := (E.1 + 1, E.2.1 + 6, E.2.2)
theorem k_cell {E : am_Ev} {I : Nat → Nat → Int32} {J : Nat → Nat → Int64} {S : Nat → Nat → Option Nat} {Q : am_Qt} {T cu ac n d i : Nat} {x4 : Int32} {d5 d6 : Value} (hd5 : am_isL d5 = false) (hd6 : am_isL d6 = false) (hcr : CR I T cu ac n) (hvw : vw I T d) (hx : x4 = nI i) (hi : i + 6 ≤ E.2.2.1) (hL : E.2.2.1 ≤ 3072) (h : ∀ E' I' J', E' = E ∨ E' = Ex E → quiet I I' → (∃ d', vw I' T d') → Jq J J' → lk x4 E' I' J' S Q) : am_ww 291 440 [.ref 1000000, .ref 0, .ref 99, .ref 145, .int x4, d5, d6] [] E I J S Q := by
  apply g291_440 hd5 hd6
  refine L1 hx hi hL ?_
  generalize E.2.2.2 (i + 1) = x
  have hv := CR_vr0 hcr
  obtain ⟨h1, h2, h3, h4, h5, h6, h7, h8, h9, h10, h11, h12, h13, h14⟩ := hcr
  have hT := h4.1.1
  -- out of range
  have bad : ∀ c : x < 0 ∨ ¬ x < nI 16, am_cl 122 [.ref 0, .int x, .ref 145] E I J S (q_I fun v1 E1 I1 J1 S1 => E1.2.2 = E.2.2 ∧ am_cl 251 [.ref 99, .int x] E1 I1 J1 S1 (q_I fun v2 E2 I2 J2 S2 => tl v1 v2 x4 E2 I2 J2 S2 Q)) := by
    intro c
    show am_ww 122 0 [.ref 0, .int x, .ref 145, am_U] [] E I J S _
    apply g122_0
    show am_ww 123 0 [.ref 0, .int x] [] E I J S _
    apply g123_0
    show am_ww 124 0 [.ref 0, .int x] [] E I J S _
    apply g124_0
    have fin : q_I (fun v1 E1 I1 J1 S1 => E1.2.2 = E.2.2 ∧ am_cl 251 [.ref 99, .int x] E1 I1 J1 S1 (q_I fun v2 E2 I2 J2 S2 => tl v1 v2 x4 E2 I2 J2 S2 Q)) (.inl (some (.int (nI 1)))) (Ex E) I J S := by
      refine q_mkI ⟨rfl, ?_⟩
      show am_ww 251 0 [.ref 99, .int x] [] (Ex E) I J S _
      apply g251_0
      rw [nI_0, upd_upd]
      have t : q_I (fun v2 E2 I2 J2 S2 => tl (nI 1) v2 x4 E2 I2 J2 S2 Q) (.inl (some (.int 0))) (Ex E) (u_I I 99 (upd (I 99) 3 (nI 1))) J S := by
        refine q_mkI (tl_bad (by omega) (by omega) (by rw [u_I_eq, upd_eq]) (h _ _ _ (Or.inr rfl) ⟨fun k _ hk => u_I_ne hk, fun f hf => by rw [u_I_eq, upd_ne hf]⟩ ⟨d, vw_e (fun k hk => u_I_ne (by omega)) hvw⟩ (fun _ _ => rfl)))
      refine ⟨fun _ => t, fun c0 => ⟨fun _ => t, fun c1 => ?_⟩⟩
      exfalso
      obtain ⟨j, _, j2, ej⟩ := vr (a := 0) (b := 15) (by omega) (by omega) (by rw [nI_0]; exact c0) c1
      rcases c with c | c
      · exact c0 c
      · rw [ej, nI_ltI (by omega) (by omega)] at c
        omega
    refine ⟨fun _ => ⟨1, rfl, fin⟩, fun c0 => ⟨fun c1 => ?_, fun _ => ⟨1, rfl, fin⟩⟩⟩
    exfalso
    rcases c with c | c
    · exact c0 c
    · exact c c1
  by_cases c0 : x < 0
  · exact bad (Or.inl c0)
  by_cases c1 : x < nI 16
  · obtain ⟨c, hc⟩ : ∃ c, c < 16 ∧ x = nI c := by
      obtain ⟨j, hj, e⟩ := nI_of c0
      rw [e, nI_ltI hj (by omega)] at c1
      exact ⟨j, c1, e⟩
    obtain ⟨hc16, rfl⟩ := hc
    show am_ww 122 0 [.ref 0, .int (nI c), .ref 145, am_U] [] E I J S _
    apply g122_0
    show am_ww 123 0 [.ref 0, .int (nI c)] [] E I J S _
    apply g123_0
    show am_ww 124 0 [.ref 0, .int (nI c)] [] E I J S _
    apply g124_0
    refine ⟨fun q => absurd q c0, fun _ => ⟨fun _ => ⟨rfl, ?_⟩, fun q => absurd c1 q⟩⟩
    rw [h9.2.1]
    refine c52 hv hvw h9.2.2 (fun I' w' f' => q_mkR ⟨rfl, vp_in_nI hc16 (by omega), ?_⟩)
    rw [nI_clamp (by omega), w'.2.2.2.2.2.1 c hc16]
    refine W_ok (y := 122) (q_mkI ⟨rfl, ?_⟩)
    show am_ww 251 0 [.ref 99, .int (nI c)] [] E I' _ S _
    apply g251_0
    have e13 : I' 99 13 = nI cu := by rw [f' 99 (by omega)]; exact h9.1
    have e117 : rt I' = rt I := rt_e (f' 117 (by omega))
    rw [e13]
    have hcu := h9.2.2
    simp (disch := omega) only [Nat.reduceEqDiff, reduceIte, nI_mulI, nI_add, nI_clamp, nI_ltI, nI_leI, nI_eq, nI_e0, nI_n0, vt, forall_eq, true_and, and_true, true_implies, forall_const, not_true_eq_false, not_false_eq_true, false_implies, implies_true]
    refine ⟨fun q => absurd q (by omega), fun _ => ⟨fun q => absurd q (by omega), fun _ => ?_⟩⟩
    refine q_mkI (tl_ok (by rw [u_I_eq, upd_eq]) ?_ (h _ _ _ (Or.inl rfl) ⟨fun k hk hk' => by rw [u_I_ne hk', f' k hk], fun f hf => by rw [u_I_eq, upd_ne hf, f' 99 (by omega)]⟩ ⟨cu, vw_e (fun k hk => u_I_ne (by omega)) w'⟩ (fun k hk => u_J_ne hk)))
    rw [u_J_eq, ← rt_k (I := I') (t := cu) (show c < 51 by omega)]
    exact if_pos rfl
  · exact bad (Or.inr c1)
