/-! weakest preconditions over the abstract machine -/
def am_body (F : Nat → Nat → List Value → List Value → am_St → Option ((Option Value ⊕ Nat) × am_St)) (y i : Nat) (ls st : List Value) (σ : am_St) : Option ((Option Value ⊕ Nat) × am_St) := match (am_code y)[i]? with
  | none => none
  | some ins => match am_tgt ins with
    | some z =>
      if am_na z ≤ st.length ∧ am_nd z < am_nd y ∧ ((st.drop (am_na z)).map fun v => v.category).sum ≤ 8 ∧ am_rcv ins z (st.take (am_na z)).reverse σ = true ∧ (am_lay (st.take (am_na z)).reverse).length ≤ am_ml z then
        match F z 0 (am_l0 z (st.take (am_na z)).reverse) [] σ with
        | none => none
        | some (.inl v, σ') => F y (i + 1) ls (v.toList ++ st.drop (am_na z)) σ'
        | some (.inr e, σ') => match am_hd y e with
          | some k => some (.inl (some (.int (nI k))), σ')
          | none => if (am_hdL.getD y []).isEmpty then some (.inr e, σ') else none
      else none
    | none => match am_end ins y st σ with
      | some r => some r
      | none => match am_step ins i ls st σ with
        | none => none
        | some (i', ls', st', σ') => F y i' ls' st' σ'
theorem am_run_eq (n y i : Nat) (ls st : List Value) (σ : am_St) : am_run (n + 1) y i ls st σ = am_body (am_run n) y i ls st σ := rfl
theorem am_body_mono {F F' : Nat → Nat → List Value → List Value → am_St → Option ((Option Value ⊕ Nat) × am_St)} (hF : ∀ y i ls st σ r, F y i ls st σ = some r → F' y i ls st σ = some r) {y i : Nat} {ls st : List Value} {σ : am_St} {r : (Option Value ⊕ Nat) × am_St} (h : am_body F y i ls st σ = some r) : am_body F' y i ls st σ = some r := by
  unfold am_body at h ⊢
  split at h
  · cases h
  · split at h
    · split at h
      · rename_i hc
        rw [if_pos hc]
        split at h
        · cases h
        · rename_i v σ1 h1
          rw [hF _ _ _ _ _ _ h1]
          exact hF _ _ _ _ _ _ h
        · rename_i e1 σ1 h1
          rw [hF _ _ _ _ _ _ h1]
          exact h
      · cases h
    · split at h
      · exact h
      · split at h
        · cases h
        · exact hF _ _ _ _ _ _ h
theorem am_run_succ : ∀ (n y i : Nat) (ls st : List Value) (σ : am_St) (r : (Option Value ⊕ Nat) × am_St), am_run n y i ls st σ = some r → am_run (n + 1) y i ls st σ = some r := by
  intro n
  induction n with
  | zero => intro y i ls st σ r h; cases h
  | succ n ih =>
    intro y i ls st σ r h
    rw [am_run_eq] at h ⊢
    exact am_body_mono (fun y i ls st σ r h => ih y i ls st σ r h) h
theorem am_run_le {n m y i : Nat} {ls st : List Value} {σ : am_St} {r : (Option Value ⊕ Nat) × am_St} (h : am_run n y i ls st σ = some r) (hm : n ≤ m) : am_run m y i ls st σ = some r := by
  induction hm with
  | refl => exact h
  | step _ ih => exact am_run_succ _ _ _ _ _ _ _ ih
def am_wp (y i : Nat) (ls st : List Value) (σ : am_St) (Q : (Option Value ⊕ Nat) → am_St → Prop) : Prop := ∃ n r σ', am_run n y i ls st σ = some (r, σ') ∧ Q r σ'
theorem am_wp_step {y i i' : Nat} {ls st ls' st' : List Value} {σ σ' : am_St} {Q : (Option Value ⊕ Nat) → am_St → Prop} {ins : Instr} (hi : (am_code y)[i]? = some ins) (ht : am_tgt ins = none) (he : am_end ins y st σ = none) (hs : am_step ins i ls st σ = some (i', ls', st', σ')) (k : am_wp y i' ls' st' σ' Q) : am_wp y i ls st σ Q := by
  obtain ⟨n, r, τ, h1, h2⟩ := k
  refine ⟨n + 1, r, τ, ?_, h2⟩
  rw [am_run_eq]
  unfold am_body
  rw [hi]
  dsimp only
  rw [ht]
  dsimp only
  rw [he]
  dsimp only
  rw [hs]
  exact h1
theorem am_wp_end {y i : Nat} {ls st : List Value} {σ σ' : am_St} {Q : (Option Value ⊕ Nat) → am_St → Prop} {ins : Instr} {r : Option Value ⊕ Nat} (hi : (am_code y)[i]? = some ins) (ht : am_tgt ins = none) (he : am_end ins y st σ = some (r, σ')) (k : Q r σ') : am_wp y i ls st σ Q := by
  refine ⟨1, r, σ', ?_, k⟩
  rw [am_run_eq]
  unfold am_body
  rw [hi]
  dsimp only
  rw [ht]
  dsimp only
  rw [he]
def am_ck (y z : Nat) (ins : Instr) (as rest : List Value) (σ : am_St) : Bool := decide (as.length = am_na z) && decide (am_nd z < am_nd y) && decide ((rest.map fun v => v.category).sum ≤ 8) && am_rcv ins z as σ && decide ((am_lay as).length ≤ am_ml z)
theorem am_wp_call {y i z : Nat} {ls st as rest : List Value} {σ : am_St} {Q : (Option Value ⊕ Nat) → am_St → Prop} {ins : Instr} (hi : (am_code y)[i]? = some ins) (ht : am_tgt ins = some z) (hst : st = as.reverse ++ rest) (hck : am_ck y z ins as rest σ = true)
    (k : am_wp z 0 (am_l0 z as) [] σ (fun r τ => match r with
      | .inl v => am_wp y (i + 1) ls (v.toList ++ rest) τ Q
      | .inr e => match am_hd y e with
        | some k => Q (.inl (some (.int (nI k)))) τ
        | none => (am_hdL.getD y []).isEmpty = true ∧ Q (.inr e) τ)) : am_wp y i ls st σ Q := by
  unfold am_ck at hck
  simp only [Bool.and_eq_true, decide_eq_true_eq] at hck
  obtain ⟨⟨⟨⟨h1, h2⟩, h3⟩, h4⟩, h5⟩ := hck
  have e1 : st.take (am_na z) = as.reverse := by rw [hst, List.take_append_of_le_length (by rw [List.length_reverse, h1]; exact Nat.le_refl _), List.take_of_length_le (by rw [List.length_reverse, h1]; exact Nat.le_refl _)]
  have e2 : st.drop (am_na z) = rest := by rw [hst, ← h1, ← List.length_reverse, List.drop_left]
  obtain ⟨n, r, τ, hr, hq⟩ := k
  have hc : am_na z ≤ st.length ∧ am_nd z < am_nd y ∧ ((st.drop (am_na z)).map fun v => v.category).sum ≤ 8 ∧ am_rcv ins z (st.take (am_na z)).reverse σ = true ∧ (am_lay (st.take (am_na z)).reverse).length ≤ am_ml z := by
    rw [e1, e2, List.reverse_reverse]
    exact ⟨by rw [hst, List.length_append, List.length_reverse, h1]; exact Nat.le_add_right _ _, h2, h3, h4, h5⟩
  cases r with
  | inl v =>
    obtain ⟨m, r2, τ2, hr2, hq2⟩ := hq
    refine ⟨max n m + 1, r2, τ2, ?_, hq2⟩
    rw [am_run_eq]
    unfold am_body
    rw [hi]
    dsimp only
    rw [ht]
    dsimp only
    rw [if_pos hc, e1, List.reverse_reverse, am_run_le hr (Nat.le_max_left _ _)]
    dsimp only
    rw [e2]
    exact am_run_le hr2 (Nat.le_max_right _ _)
  | inr e1' =>
    dsimp only at hq
    cases hh : am_hd y e1' with
    | some k =>
      rw [hh] at hq
      refine ⟨n + 1, _, τ, ?_, hq⟩
      rw [am_run_eq]
      unfold am_body
      rw [hi]
      dsimp only
      rw [ht]
      dsimp only
      rw [if_pos hc, e1, List.reverse_reverse, hr]
      dsimp only
      rw [hh]
    | none =>
      rw [hh] at hq
      refine ⟨n + 1, _, τ, ?_, hq.2⟩
      rw [am_run_eq]
      unfold am_body
      rw [hi]
      dsimp only
      rw [ht]
      dsimp only
      rw [if_pos hc, e1, List.reverse_reverse, hr]
      dsimp only
      rw [hh]
      dsimp only
      rw [if_pos hq.1]
/-! the state once all objects are made -/
abbrev am_Ev : Type := Nat × Nat × (Nat × (Nat → Int32))
def am_M (E : am_Ev) (I : Nat → Nat → Int32) (J : Nat → Nat → Int64) (S : Nat → Nat → Option Nat) : am_St := (146, E.1, E.2.1, E.2.2, I, J, am_kk, S)
def u_I (I : Nat → Nat → Int32) (k : Nat) (f : Nat → Int32) : Nat → Nat → Int32 := fun a => if a = k then f else I a
def u_J (J : Nat → Nat → Int64) (k : Nat) (f : Nat → Int64) : Nat → Nat → Int64 := fun a => if a = k then f else J a
def u_S (S : Nat → Nat → Option Nat) (k : Nat) (f : Nat → Option Nat) : Nat → Nat → Option Nat := fun a => if a = k then f else S a
abbrev am_Qt : Type := (Option Value ⊕ Nat) → am_Ev → (Nat → Nat → Int32) → (Nat → Nat → Int64) → (Nat → Nat → Option Nat) → Prop
def am_ww (y i : Nat) (ls st : List Value) (E : am_Ev) (I : Nat → Nat → Int32) (J : Nat → Nat → Int64) (S : Nat → Nat → Option Nat) (Q : am_Qt) : Prop := am_wp y i ls st (am_M E I J S) (fun r τ => ∃ E' I' J' S', τ = am_M E' I' J' S' ∧ Q r E' I' J' S')
/-- a call -/
def am_cl (z : Nat) (as : List Value) (E : am_Ev) (I : Nat → Nat → Int32) (J : Nat → Nat → Int64) (S : Nat → Nat → Option Nat) (Q : am_Qt) : Prop := am_ww z 0 (am_l0 z as) [] E I J S Q
def q_I (K : Int32 → am_Ev → (Nat → Nat → Int32) → (Nat → Nat → Int64) → (Nat → Nat → Option Nat) → Prop) : am_Qt := fun r E I J S => ∃ v, r = .inl (some (.int v)) ∧ K v E I J S
def q_V (K : am_Ev → (Nat → Nat → Int32) → (Nat → Nat → Int64) → (Nat → Nat → Option Nat) → Prop) : am_Qt := fun r E I J S => r = .inl none ∧ K E I J S
def q_R (K : Nat → am_Ev → (Nat → Nat → Int32) → (Nat → Nat → Int64) → (Nat → Nat → Option Nat) → Prop) : am_Qt := fun r E I J S => ∃ a, r = .inl (some (.ref a)) ∧ K a E I J S
theorem am_wp_mono {y i : Nat} {ls st : List Value} {σ : am_St} {Q Q' : (Option Value ⊕ Nat) → am_St → Prop} (h : am_wp y i ls st σ Q) (hq : ∀ r τ, Q r τ → Q' r τ) : am_wp y i ls st σ Q' := by
  obtain ⟨n, r, τ, h1, h2⟩ := h
  exact ⟨n, r, τ, h1, hq r τ h2⟩
section Rules
variable {y i i' z : Nat} {ls st ls' st' as rest : List Value} {E E' : am_Ev} {I I' : Nat → Nat → Int32} {J J' : Nat → Nat → Int64} {S S' : Nat → Nat → Option Nat} {Q Q' : am_Qt} {cc : List Instr} {ins : Instr}
theorem am_ww.mono (h : am_ww y i ls st E I J S Q) (hq : ∀ r E I J S, Q r E I J S → Q' r E I J S) : am_ww y i ls st E I J S Q' :=
  am_wp_mono h (fun r τ ⟨E1, I1, J1, S1, h1, h2⟩ => ⟨E1, I1, J1, S1, h1, hq _ _ _ _ _ h2⟩)
theorem w_st (hc : am_code y = cc) (hi : cc[i]? = some ins) (ht : am_tgt ins = none) (he : am_end ins y st (am_M E I J S) = none) (hs : am_step ins i ls st (am_M E I J S) = some (i', ls', st', am_M E' I' J' S')) (k : am_ww y i' ls' st' E' I' J' S' Q) : am_ww y i ls st E I J S Q :=
  am_wp_step (by rw [hc]; exact hi) ht he hs k
theorem w_end {r : Option Value ⊕ Nat} (hc : am_code y = cc) (hi : cc[i]? = some ins) (ht : am_tgt ins = none) (he : am_end ins y st (am_M E I J S) = some (r, am_M E' I' J' S')) (k : Q r E' I' J' S') : am_ww y i ls st E I J S Q :=
  am_wp_end (by rw [hc]; exact hi) ht he ⟨E', I', J', S', rfl, k⟩
theorem w_cI (hc : am_code y = cc) (hi : cc[i]? = some ins) (ht : am_tgt ins = some z) (hst : st = as.reverse ++ rest) (hck : am_ck y z ins as rest (am_M E I J S) = true) (k : am_cl z as E I J S (q_I fun v E I J S => am_ww y (i + 1) ls (.int v :: rest) E I J S Q)) : am_ww y i ls st E I J S Q := by
  refine am_wp_call (by rw [hc]; exact hi) ht hst hck (am_wp_mono k ?_)
  rintro r τ ⟨E1, I1, J1, S1, rfl, v, rfl, h⟩
  exact h
theorem w_cV (hc : am_code y = cc) (hi : cc[i]? = some ins) (ht : am_tgt ins = some z) (hst : st = as.reverse ++ rest) (hck : am_ck y z ins as rest (am_M E I J S) = true) (k : am_cl z as E I J S (q_V fun E I J S => am_ww y (i + 1) ls rest E I J S Q)) : am_ww y i ls st E I J S Q := by
  refine am_wp_call (by rw [hc]; exact hi) ht hst hck (am_wp_mono k ?_)
  rintro r τ ⟨E1, I1, J1, S1, rfl, rfl, h⟩
  exact h
theorem w_cR (hc : am_code y = cc) (hi : cc[i]? = some ins) (ht : am_tgt ins = some z) (hst : st = as.reverse ++ rest) (hck : am_ck y z ins as rest (am_M E I J S) = true) (k : am_cl z as E I J S (q_R fun v E I J S => am_ww y (i + 1) ls (.ref v :: rest) E I J S Q)) : am_ww y i ls st E I J S Q := by
  refine am_wp_call (by rw [hc]; exact hi) ht hst hck (am_wp_mono k ?_)
  rintro r τ ⟨E1, I1, J1, S1, rfl, v, rfl, h⟩
  exact h
/-- a call that may throw -/
theorem w_cX (hc : am_code y = cc) (hi : cc[i]? = some ins) (ht : am_tgt ins = some z) (hst : st = as.reverse ++ rest) (hck : am_ck y z ins as rest (am_M E I J S) = true) (hy : am_hdL.getD y [] = []) (k : am_cl z as E I J S (fun r E I J S => match r with
    | .inl v => am_ww y (i + 1) ls (v.toList ++ rest) E I J S Q
    | .inr e => Q (.inr e) E I J S)) : am_ww y i ls st E I J S Q := by
  refine am_wp_call (by rw [hc]; exact hi) ht hst hck (am_wp_mono k ?_)
  rintro r τ ⟨E1, I1, J1, S1, rfl, h⟩
  cases r with
  | inl v => exact h
  | inr e =>
    have hd : am_hd y e = none := by unfold am_hd; rw [hy]; rfl
    dsimp only
    rw [hd]
    exact ⟨by rw [hy]; rfl, _, _, _, _, rfl, h⟩
/-- a call in a method that catches -/
theorem w_cH (hc : am_code y = cc) (hi : cc[i]? = some ins) (ht : am_tgt ins = some z) (hst : st = as.reverse ++ rest) (hck : am_ck y z ins as rest (am_M E I J S) = true) (k : am_cl z as E I J S (fun r E I J S => match r with
    | .inl v => am_ww y (i + 1) ls (v.toList ++ rest) E I J S Q
    | .inr e => ∃ n, am_hd y e = some n ∧ Q (.inl (some (.int (nI n)))) E I J S)) : am_ww y i ls st E I J S Q := by
  refine am_wp_call (by rw [hc]; exact hi) ht hst hck (am_wp_mono k ?_)
  rintro r τ ⟨E1, I1, J1, S1, rfl, h⟩
  cases r with
  | inl v => exact h
  | inr e =>
    obtain ⟨n, hd, h⟩ := h
    dsimp only
    rw [hd]
    exact ⟨_, _, _, _, rfl, h⟩
theorem w_if1 {o : ClassFile.Cond} {t : Int} {tn : Nat} {x : Int32} {r : List Value} (hc : am_code y = cc) (hi : cc[i]? = some (.ifCond o t)) (hn : t.toNat = tn) (kt : am_cz o x = true → am_ww y tn ls r E I J S Q) (kf : am_cz o x = false → am_ww y (i + 1) ls r E I J S Q) : am_ww y i ls (.int x :: r) E I J S Q := by
  subst hn
  cases h : am_cz o x with
  | true => exact w_st hc hi rfl rfl (by simp only [am_step, h]; rfl) (kt h)
  | false => exact w_st hc hi rfl rfl (by simp only [am_step, h]; rfl) (kf h)
theorem w_if2 {o : ClassFile.Cond} {t : Int} {tn : Nat} {x v : Int32} {r : List Value} (hc : am_code y = cc) (hi : cc[i]? = some (.if_icmp o t)) (hn : t.toNat = tn) (kt : am_cc o x v = true → am_ww y tn ls r E I J S Q) (kf : am_cc o x v = false → am_ww y (i + 1) ls r E I J S Q) : am_ww y i ls (.int v :: .int x :: r) E I J S Q := by
  subst hn
  cases h : am_cc o x v with
  | true => exact w_st hc hi rfl rfl (by simp only [am_step, h]; rfl) (kt h)
  | false => exact w_st hc hi rfl rfl (by simp only [am_step, h]; rfl) (kf h)
theorem am_okM {k t : Nat} (hk : k < 146) (ht : (am_tau k).1 = t) : am_ok (am_M E I J S) k t = true := by
  unfold am_ok
  rw [ht]
  have h : k < g_N (am_M E I J S) := hk
  simp [h]
theorem am_out_of {j : Int32} {n : Nat} (h : vp_in j n) : am_out j n = false := by
  unfold am_out
  simp only [Bool.or_eq_false_iff, decide_eq_false_iff_not]
  exact ⟨fun q => h (Or.inl q), fun q => h (Or.inr q)⟩
theorem w_ia {k n jn : Nat} {j : Int32} {r : List Value} (hc : am_code y = cc) (hi : cc[i]? = some .iaload) (ht : am_tau k = (0, n)) (hk : k < 146) (hin : vp_in j n) (hj : j.toNatClampNeg = jn) (kk : am_ww y (i + 1) ls (.int (I k jn) :: r) E I J S Q) : am_ww y i ls (.int j :: .ref k :: r) E I J S Q := by
  subst hj
  refine w_st hc hi rfl rfl ?_ kk
  show am_ald .iaload i ls (.int j :: .ref k :: r) (am_M E I J S) = _
  unfold am_ald
  dsimp only
  rw [if_pos (show k < 1000000 by omega), ht]
  dsimp only
  rw [am_okM hk (by rw [ht]), am_out_of hin]
  rfl
theorem w_la {k n jn : Nat} {j : Int32} {r : List Value} (hc : am_code y = cc) (hi : cc[i]? = some .laload) (ht : am_tau k = (1, n)) (hk : k < 146) (hin : vp_in j n) (hj : j.toNatClampNeg = jn) (kk : am_ww y (i + 1) ls (.long (J k jn) :: r) E I J S Q) : am_ww y i ls (.int j :: .ref k :: r) E I J S Q := by
  subst hj
  refine w_st hc hi rfl rfl ?_ kk
  show am_ald .laload i ls (.int j :: .ref k :: r) (am_M E I J S) = _
  unfold am_ald
  dsimp only
  rw [if_pos (show k < 1000000 by omega), ht]
  dsimp only
  rw [am_okM hk (by rw [ht]), am_out_of hin]
  rfl
theorem w_ba {k n jn : Nat} {j : Int32} {r : List Value} (hc : am_code y = cc) (hi : cc[i]? = some .baload) (ht : am_tau k = (2, n)) (hk : k < 146) (hin : vp_in j n) (hj : j.toNatClampNeg = jn) (kk : am_ww y (i + 1) ls (.int (I k jn) :: r) E I J S Q) : am_ww y i ls (.int j :: .ref k :: r) E I J S Q := by
  subst hj
  refine w_st hc hi rfl rfl ?_ kk
  show am_ald .baload i ls (.int j :: .ref k :: r) (am_M E I J S) = _
  unfold am_ald
  dsimp only
  rw [if_pos (show k < 1000000 by omega), ht]
  dsimp only
  rw [am_okM hk (by rw [ht]), am_out_of hin]
  rfl
theorem w_za {k n jn : Nat} {j : Int32} {r : List Value} (hc : am_code y = cc) (hi : cc[i]? = some .baload) (ht : am_tau k = (3, n)) (hk : k < 146) (hin : vp_in j n) (hj : j.toNatClampNeg = jn) (kk : am_ww y (i + 1) ls (.int (I k jn) :: r) E I J S Q) : am_ww y i ls (.int j :: .ref k :: r) E I J S Q := by
  subst hj
  refine w_st hc hi rfl rfl ?_ kk
  show am_ald .baload i ls (.int j :: .ref k :: r) (am_M E I J S) = _
  unfold am_ald
  dsimp only
  rw [if_pos (show k < 1000000 by omega), ht]
  dsimp only
  rw [am_okM hk (by rw [ht]), am_out_of hin]
  rfl
theorem w_is {k n jn : Nat} {j : Int32} {x : Int32} {r : List Value} (hc : am_code y = cc) (hi : cc[i]? = some .iastore) (ht : am_tau k = (0, n)) (hk : k < 146) (hin : vp_in j n) (hj : j.toNatClampNeg = jn) (kk : am_ww y (i + 1) ls r E (u_I I k (upd (I k) jn x)) J S Q) : am_ww y i ls (.int x :: .int j :: .ref k :: r) E I J S Q := by
  subst hj
  refine w_st hc hi rfl rfl ?_ kk
  show am_ast .iastore i ls (.int x :: .int j :: .ref k :: r) (am_M E I J S) = _
  unfold am_ast
  dsimp only
  rw [if_pos (show k < 1000000 by omega), ht]
  dsimp only
  rw [am_okM hk (by rw [ht]), am_out_of hin]
  rfl
theorem w_ls {k n jn : Nat} {j : Int32} {x : Int64} {r : List Value} (hc : am_code y = cc) (hi : cc[i]? = some .lastore) (ht : am_tau k = (1, n)) (hk : k < 146) (hin : vp_in j n) (hj : j.toNatClampNeg = jn) (kk : am_ww y (i + 1) ls r E I (u_J J k (vp_updL (J k) jn x)) S Q) : am_ww y i ls (.long x :: .int j :: .ref k :: r) E I J S Q := by
  subst hj
  refine w_st hc hi rfl rfl ?_ kk
  show am_ast .lastore i ls (.long x :: .int j :: .ref k :: r) (am_M E I J S) = _
  unfold am_ast
  dsimp only
  rw [if_pos (show k < 1000000 by omega), ht]
  dsimp only
  rw [am_okM hk (by rw [ht]), am_out_of hin]
  rfl
theorem w_bs {k n jn : Nat} {j : Int32} {x : Int32} {r : List Value} (hc : am_code y = cc) (hi : cc[i]? = some .bastore) (ht : am_tau k = (2, n)) (hk : k < 146) (hin : vp_in j n) (hj : j.toNatClampNeg = jn) (kk : am_ww y (i + 1) ls r E (u_I I k (upd (I k) jn (vp_nar .byte x))) J S Q) : am_ww y i ls (.int x :: .int j :: .ref k :: r) E I J S Q := by
  subst hj
  refine w_st hc hi rfl rfl ?_ kk
  show am_ast .bastore i ls (.int x :: .int j :: .ref k :: r) (am_M E I J S) = _
  unfold am_ast
  dsimp only
  rw [if_pos (show k < 1000000 by omega), ht]
  dsimp only
  rw [am_okM hk (by rw [ht]), am_out_of hin]
  rfl
theorem w_zs {k n jn : Nat} {j : Int32} {x : Int32} {r : List Value} (hc : am_code y = cc) (hi : cc[i]? = some .bastore) (ht : am_tau k = (3, n)) (hk : k < 146) (hin : vp_in j n) (hj : j.toNatClampNeg = jn) (kk : am_ww y (i + 1) ls r E (u_I I k (upd (I k) jn (vp_nar .boolean x))) J S Q) : am_ww y i ls (.int x :: .int j :: .ref k :: r) E I J S Q := by
  subst hj
  refine w_st hc hi rfl rfl ?_ kk
  show am_ast .bastore i ls (.int x :: .int j :: .ref k :: r) (am_M E I J S) = _
  unfold am_ast
  dsimp only
  rw [if_pos (show k < 1000000 by omega), ht]
  dsimp only
  rw [am_okM hk (by rw [ht]), am_out_of hin]
  rfl
theorem w_sa {j : Int32} {r : List Value} (hc : am_code y = cc) (hi : cc[i]? = some .iaload) (hin : vp_in j E.2.2.1) (kk : am_ww y (i + 1) ls (.int (E.2.2.2 j.toNatClampNeg) :: r) E I J S Q) : am_ww y i ls (.int j :: .ref 1000000 :: r) E I J S Q := by
  refine w_st hc hi rfl rfl ?_ kk
  show am_ald .iaload i ls (.int j :: .ref 1000000 :: r) (am_M E I J S) = _
  unfold am_ald
  dsimp only
  rw [if_neg (by decide), if_pos rfl]
  have h : am_out j (g_L (am_M E I J S)) = false := am_out_of hin
  rw [h]
  rfl
theorem w_aa {k n q : Nat} {j : Int32} {r : List Value} (hc : am_code y = cc) (hi : cc[i]? = some .aaload) (ht : am_tau k = (4, n)) (hk : k < 146) (hin : vp_in j n) (hq : S k j.toNatClampNeg = some q) (hq5 : q < 55) (kk : am_ww y (i + 1) ls (.ref (2000000 + q) :: r) E I J S Q) : am_ww y i ls (.int j :: .ref k :: r) E I J S Q := by
  refine w_st hc hi rfl rfl ?_ kk
  show am_ald .aaload i ls (.int j :: .ref k :: r) (am_M E I J S) = _
  unfold am_ald
  dsimp only
  rw [if_pos (show k < 1000000 by omega), ht]
  dsimp only
  rw [am_okM hk (by rw [ht]), am_out_of hin]
  have h : am_el (am_M E I J S) k j.toNatClampNeg 4 = some (.ref (2000000 + q)) := by
    show (S k j.toNatClampNeg).bind _ = _
    rw [hq]
    show (if q < 55 then _ else _) = _
    rw [if_pos hq5]
  rw [h]
  rfl
theorem w_dv {x z : Int32} {r : List Value} (hz : ¬ z = 0) (hc : am_code y = cc) (hi : cc[i]? = some .idiv) (kk : am_ww y (i + 1) ls (.int (x / z) :: r) E I J S Q) : am_ww y i ls (.int z :: .int x :: r) E I J S Q := by
  refine w_st hc hi rfl rfl ?_ kk
  show Option.map _ (if z = 0 then none else some (x / z)) = _
  rw [if_neg hz]
  rfl
theorem w_rm {x z : Int32} {r : List Value} (hz : ¬ z = 0) (hc : am_code y = cc) (hi : cc[i]? = some .irem) (kk : am_ww y (i + 1) ls (.int (x - x / z * z) :: r) E I J S Q) : am_ww y i ls (.int z :: .int x :: r) E I J S Q := by
  refine w_st hc hi rfl rfl ?_ kk
  show Option.map _ (if z = 0 then none else some (x - x / z * z)) = _
  rw [if_neg hz]
  rfl
/-- a field that holds a String -/
theorem w_gs {n k q : Nat} {r : List Value} (hc : am_code y = cc) (hi : cc[i]? = some (.getfield n)) (hk : k < 146) (hck : (decide (n < 990000) && decide ((am_tau k).1 = 10 + n / 1000) && decide (n / 10 % 100 < am_nf (n / 1000)) && decide (am_fk (n / 1000) (n / 10 % 100) = 3) && decide (n % 10 = 3)) = true) (hq : S k (n / 10 % 100) = some q) (hq5 : q < 55) (kk : am_ww y (i + 1) ls (.ref (2000000 + q) :: r) E I J S Q) : am_ww y i ls (.ref k :: r) E I J S Q := by
  simp only [Bool.and_eq_true, decide_eq_true_eq] at hck
  obtain ⟨⟨⟨⟨h1, h2⟩, h3⟩, h4⟩, h5⟩ := hck
  refine w_st hc hi rfl rfl ?_ kk
  show am_get n i ls (.ref k :: r) (am_M E I J S) = _
  unfold am_get
  dsimp only
  rw [if_pos h1, am_okM hk h2, h5, h4]
  have h : am_fv (am_M E I J S) k (n / 10 % 100) 3 = some (.ref (2000000 + q)) := by
    show (S k (n / 10 % 100)).bind _ = _
    rw [hq]
    show (if q < 55 then _ else _) = _
    rw [if_pos hq5]
  rw [h, if_pos (by rw [decide_eq_true h3, decide_eq_true (show k < 1000000 by omega)]; rfl)]
  rfl
theorem w_ps {n k q : Nat} {r : List Value} (f : Nat) (hc : am_code y = cc) (hi : cc[i]? = some (.putfield n)) (hk : k < 146) (hck : (decide ((am_tau k).1 = 10 + n / 1000) && decide (n / 10 % 100 < am_nf (n / 1000)) && decide (am_fk (n / 1000) (n / 10 % 100) = 3) && decide (n % 10 = 3) && decide (n / 10 % 100 = f)) = true) (hq5 : q < 55) (kk : am_ww y (i + 1) ls r E I J (u_S S k (am_upO (S k) f (some q))) Q) : am_ww y i ls (.ref (2000000 + q) :: .ref k :: r) E I J S Q := by
  simp only [Bool.and_eq_true, decide_eq_true_eq] at hck
  obtain ⟨⟨⟨⟨h2, h3⟩, h4⟩, h5⟩, h6⟩ := hck
  subst h6
  refine w_st hc hi rfl rfl ?_ kk
  show am_put n i ls (.ref (2000000 + q) :: .ref k :: r) (am_M E I J S) = _
  unfold am_put
  dsimp only
  rw [am_okM hk h2, h5, h4, if_pos (by rw [decide_eq_true h3, decide_eq_true (show k < 1000000 by omega)]; rfl)]
  have h : am_pv (am_M E I J S) k (n / 10 % 100) 3 (.ref (2000000 + q)) = some (am_M E I J (u_S S k (am_upO (S k) (n / 10 % 100) (some q)))) := by
    show (if 2000000 ≤ 2000000 + q ∧ 2000000 + q < 2000055 then _ else none) = _
    rw [if_pos ⟨by omega, by omega⟩, Nat.add_sub_cancel_left]
    rfl
  rw [h]
  rfl
/-- a boolean field -/
theorem w_pz {n k : Nat} {x : Int32} {r : List Value} (f : Nat) (hc : am_code y = cc) (hi : cc[i]? = some (.putfield n)) (hk : k < 146) (hck : (decide ((am_tau k).1 = 10 + n / 1000) && decide (n / 10 % 100 < am_nf (n / 1000)) && decide (am_fk (n / 1000) (n / 10 % 100) = 5) && decide (n % 10 = 5) && decide (n / 10 % 100 = f)) = true) (hx : x = 0 ∨ x = 1) (kk : am_ww y (i + 1) ls r E (u_I I k (upd (I k) f x)) J S Q) : am_ww y i ls (.int x :: .ref k :: r) E I J S Q := by
  simp only [Bool.and_eq_true, decide_eq_true_eq] at hck
  obtain ⟨⟨⟨⟨h2, h3⟩, h4⟩, h5⟩, h6⟩ := hck
  subst h6
  refine w_st hc hi rfl rfl ?_ kk
  show am_put n i ls (.int x :: .ref k :: r) (am_M E I J S) = _
  unfold am_put
  dsimp only
  rw [am_okM hk h2, h5, h4, if_pos (by rw [decide_eq_true h3, decide_eq_true (show k < 1000000 by omega)]; rfl)]
  have h : am_pv (am_M E I J S) k (n / 10 % 100) 5 (.int x) = some (am_M E (u_I I k (upd (I k) (n / 10 % 100) x)) J S) := by
    show (if x = 0 ∨ x = 1 then _ else none) = _
    rw [if_pos hx]
    rfl
  rw [h]
  rfl
/-- a boolean answer -/
theorem w_rz {x : Int32} (hc : am_code y = cc) (hi : cc[i]? = some .ireturn) (hrk : am_rk y = 2) (hx : x = 0 ∨ x = 1) (kk : Q (.inl (some (.int x))) E I J S) : am_ww y i ls [.int x] E I J S Q := by
  refine w_end hc hi rfl ?_ kk
  show (if 1 ≤ am_rk y ∧ am_rk y ≤ 4 ∧ narrow (am_rty (am_rk y)) (.int x) = .int x then some (Sum.inl (some (Value.int x)), am_M E I J S) else none) = _
  rw [hrk, if_pos ⟨by omega, by omega, by rcases hx with rfl | rfl <;> rfl⟩]
theorem w_tb {d lo up : Int} {ts : Array Int} {x : Int32} {r : List Value} (hc : am_code y = cc) (hi : cc[i]? = some (.tableswitch d lo up ts)) (kk : am_ww y (am_tab d lo up ts x) ls r E I J S Q) : am_ww y i ls (.int x :: r) E I J S Q := w_st hc hi rfl rfl rfl kk
theorem w_lk {d : Int} {ps : Array (Int × Int)} {x : Int32} {r : List Value} (hc : am_code y = cc) (hi : cc[i]? = some (.lookupswitch d ps)) (kk : am_ww y (am_look d ps.toList x) ls r E I J S Q) : am_ww y i ls (.int x :: r) E I J S Q := w_st hc hi rfl rfl rfl kk
def am_cpOk (sp dp n : Int32) (nk na : Nat) : Prop := ¬ sp < 0 ∧ ¬ dp < 0 ∧ ¬ n < 0 ∧ sp.toNatClampNeg + n.toNatClampNeg ≤ nk ∧ dp.toNatClampNeg + n.toNatClampNeg ≤ na
theorem w_cp {k a nk na : Nat} {sp dp n : Int32} {r : List Value} (hc : am_code y = cc) (hi : cc[i]? = some (.invokestatic 10003)) (hk : k < 146) (ha : a < 146) (htk : am_tau k = (0, nk)) (hta : am_tau a = (0, na)) (hr : (r.map fun v => v.category).sum ≤ 8) (h : am_cpOk sp dp n nk na) (kk : am_ww y (i + 1) ls r E (u_I I a (va_cpy (I k) (I a) sp.toNatClampNeg dp.toNatClampNeg n.toNatClampNeg)) J S Q) : am_ww y i ls (.int n :: .int dp :: .ref a :: .int sp :: .ref k :: r) E I J S Q := by
  obtain ⟨h1, h2, h3, h4, h5⟩ := h
  refine w_st hc hi rfl rfl ?_ kk
  show (if (r.map fun v => v.category).sum ≤ 8 then am_copy i ls (.int n :: .int dp :: .ref a :: .int sp :: .ref k :: r) (am_M E I J S) else none) = _
  rw [if_pos hr]
  unfold am_copy
  dsimp only
  rw [am_okM hk (by rw [htk]), am_okM ha (by rw [hta]), htk, hta, if_pos (by simp only [decide_eq_true h4, decide_eq_true h5, decide_eq_false h1, decide_eq_false h2, decide_eq_false h3, decide_eq_true (show k < 1000000 by omega), decide_eq_true (show a < 1000000 by omega), Bool.and_true, Bool.not_false])]
  rfl
end Rules
theorem am_e0 : am_code 0 = am_c0 := rfl
theorem am_e1 : am_code 1 = am_c1 := rfl
theorem am_e2 : am_code 2 = am_c2 := rfl
theorem am_e3 : am_code 3 = am_c3 := rfl
theorem am_e4 : am_code 4 = am_c4 := rfl
theorem am_e5 : am_code 5 = am_c5 := rfl
theorem am_e6 : am_code 6 = am_c6 := rfl
theorem am_e7 : am_code 7 = am_c7 := rfl
theorem am_e8 : am_code 8 = am_c8 := rfl
theorem am_e9 : am_code 9 = am_c9 := rfl
theorem am_e10 : am_code 10 = am_c10 := rfl
theorem am_e11 : am_code 11 = am_c11 := rfl
theorem am_e12 : am_code 12 = am_c12 := rfl
theorem am_e13 : am_code 13 = am_c13 := rfl
theorem am_e14 : am_code 14 = am_c14 := rfl
theorem am_e15 : am_code 15 = am_c15 := rfl
theorem am_e16 : am_code 16 = am_c16 := rfl
theorem am_e17 : am_code 17 = am_c17 := rfl
theorem am_e18 : am_code 18 = am_c18 := rfl
theorem am_e19 : am_code 19 = am_c19 := rfl
theorem am_e20 : am_code 20 = am_c20 := rfl
theorem am_e21 : am_code 21 = am_c21 := rfl
theorem am_e22 : am_code 22 = am_c22 := rfl
theorem am_e23 : am_code 23 = am_c23 := rfl
theorem am_e24 : am_code 24 = am_c24 := rfl
theorem am_e25 : am_code 25 = am_c25 := rfl
theorem am_e26 : am_code 26 = am_c26 := rfl
theorem am_e27 : am_code 27 = am_c27 := rfl
theorem am_e28 : am_code 28 = am_c28 := rfl
theorem am_e29 : am_code 29 = am_c29 := rfl
theorem am_e30 : am_code 30 = am_c30 := rfl
theorem am_e31 : am_code 31 = am_c31 := rfl
theorem am_e32 : am_code 32 = am_c32 := rfl
theorem am_e33 : am_code 33 = am_c33 := rfl
theorem am_e34 : am_code 34 = am_c34 := rfl
theorem am_e35 : am_code 35 = am_c35 := rfl
theorem am_e36 : am_code 36 = am_c36 := rfl
theorem am_e37 : am_code 37 = am_c37 := rfl
theorem am_e38 : am_code 38 = am_c38 := rfl
theorem am_e39 : am_code 39 = am_c39 := rfl
theorem am_e40 : am_code 40 = am_c40 := rfl
theorem am_e41 : am_code 41 = am_c41 := rfl
theorem am_e42 : am_code 42 = am_c42 := rfl
theorem am_e43 : am_code 43 = am_c43 := rfl
theorem am_e44 : am_code 44 = am_c44 := rfl
theorem am_e45 : am_code 45 = am_c45 := rfl
theorem am_e46 : am_code 46 = am_c46 := rfl
theorem am_e47 : am_code 47 = am_c47 := rfl
theorem am_e48 : am_code 48 = am_c48 := rfl
theorem am_e49 : am_code 49 = am_c49 := rfl
theorem am_e50 : am_code 50 = am_c50 := rfl
theorem am_e51 : am_code 51 = am_c51 := rfl
theorem am_e52 : am_code 52 = am_c52 := rfl
theorem am_e53 : am_code 53 = am_c53 := rfl
theorem am_e54 : am_code 54 = am_c54 := rfl
theorem am_e55 : am_code 55 = am_c55 := rfl
theorem am_e56 : am_code 56 = am_c56 := rfl
theorem am_e57 : am_code 57 = am_c57 := rfl
theorem am_e58 : am_code 58 = am_c58 := rfl
theorem am_e59 : am_code 59 = am_c59 := rfl
theorem am_e60 : am_code 60 = am_c60 := rfl
theorem am_e61 : am_code 61 = am_c61 := rfl
theorem am_e62 : am_code 62 = am_c62 := rfl
theorem am_e63 : am_code 63 = am_c63 := rfl
theorem am_e64 : am_code 64 = am_c64 := rfl
theorem am_e65 : am_code 65 = am_c65 := rfl
theorem am_e66 : am_code 66 = am_c66 := rfl
theorem am_e67 : am_code 67 = am_c67 := rfl
theorem am_e68 : am_code 68 = am_c68 := rfl
theorem am_e69 : am_code 69 = am_c69 := rfl
theorem am_e70 : am_code 70 = am_c70 := rfl
theorem am_e71 : am_code 71 = am_c71 := rfl
theorem am_e72 : am_code 72 = am_c72 := rfl
theorem am_e73 : am_code 73 = am_c73 := rfl
theorem am_e74 : am_code 74 = am_c74 := rfl
theorem am_e75 : am_code 75 = am_c75 := rfl
theorem am_e76 : am_code 76 = am_c76 := rfl
theorem am_e77 : am_code 77 = am_c77 := rfl
theorem am_e78 : am_code 78 = am_c78 := rfl
theorem am_e79 : am_code 79 = am_c79 := rfl
theorem am_e80 : am_code 80 = am_c80 := rfl
theorem am_e81 : am_code 81 = am_c81 := rfl
theorem am_e82 : am_code 82 = am_c82 := rfl
theorem am_e83 : am_code 83 = am_c83 := rfl
theorem am_e84 : am_code 84 = am_c84 := rfl
theorem am_e85 : am_code 85 = am_c85 := rfl
theorem am_e86 : am_code 86 = am_c86 := rfl
theorem am_e87 : am_code 87 = am_c87 := rfl
theorem am_e88 : am_code 88 = am_c88 := rfl
theorem am_e89 : am_code 89 = am_c89 := rfl
theorem am_e90 : am_code 90 = am_c90 := rfl
theorem am_e91 : am_code 91 = am_c91 := rfl
theorem am_e92 : am_code 92 = am_c92 := rfl
theorem am_e93 : am_code 93 = am_c93 := rfl
theorem am_e94 : am_code 94 = am_c94 := rfl
theorem am_e95 : am_code 95 = am_c95 := rfl
theorem am_e96 : am_code 96 = am_c96 := rfl
theorem am_e97 : am_code 97 = am_c97 := rfl
theorem am_e98 : am_code 98 = am_c98 := rfl
theorem am_e99 : am_code 99 = am_c99 := rfl
theorem am_e100 : am_code 100 = am_c100 := rfl
theorem am_e101 : am_code 101 = am_c101 := rfl
theorem am_e102 : am_code 102 = am_c102 := rfl
theorem am_e103 : am_code 103 = am_c103 := rfl
theorem am_e104 : am_code 104 = am_c104 := rfl
theorem am_e105 : am_code 105 = am_c105 := rfl
theorem am_e106 : am_code 106 = am_c106 := rfl
theorem am_e107 : am_code 107 = am_c107 := rfl
theorem am_e108 : am_code 108 = am_c108 := rfl
theorem am_e109 : am_code 109 = am_c109 := rfl
theorem am_e110 : am_code 110 = am_c110 := rfl
theorem am_e111 : am_code 111 = am_c111 := rfl
theorem am_e112 : am_code 112 = am_c112 := rfl
theorem am_e113 : am_code 113 = am_c113 := rfl
theorem am_e114 : am_code 114 = am_c114 := rfl
theorem am_e115 : am_code 115 = am_c115 := rfl
theorem am_e116 : am_code 116 = am_c116 := rfl
theorem am_e117 : am_code 117 = am_c117 := rfl
theorem am_e118 : am_code 118 = am_c118 := rfl
theorem am_e119 : am_code 119 = am_c119 := rfl
theorem am_e120 : am_code 120 = am_c120 := rfl
theorem am_e121 : am_code 121 = am_c121 := rfl
theorem am_e122 : am_code 122 = am_c122 := rfl
theorem am_e123 : am_code 123 = am_c123 := rfl
theorem am_e124 : am_code 124 = am_c124 := rfl
theorem am_e125 : am_code 125 = am_c125 := rfl
theorem am_e126 : am_code 126 = am_c126 := rfl
theorem am_e127 : am_code 127 = am_c127 := rfl
theorem am_e128 : am_code 128 = am_c128 := rfl
theorem am_e129 : am_code 129 = am_c129 := rfl
theorem am_e130 : am_code 130 = am_c130 := rfl
theorem am_e131 : am_code 131 = am_c131 := rfl
theorem am_e132 : am_code 132 = am_c132 := rfl
theorem am_e133 : am_code 133 = am_c133 := rfl
theorem am_e134 : am_code 134 = am_c134 := rfl
theorem am_e135 : am_code 135 = am_c135 := rfl
theorem am_e136 : am_code 136 = am_c136 := rfl
theorem am_e137 : am_code 137 = am_c137 := rfl
theorem am_e138 : am_code 138 = am_c138 := rfl
theorem am_e139 : am_code 139 = am_c139 := rfl
theorem am_e140 : am_code 140 = am_c140 := rfl
theorem am_e141 : am_code 141 = am_c141 := rfl
theorem am_e142 : am_code 142 = am_c142 := rfl
theorem am_e143 : am_code 143 = am_c143 := rfl
theorem am_e144 : am_code 144 = am_c144 := rfl
theorem am_e145 : am_code 145 = am_c145 := rfl
theorem am_e146 : am_code 146 = am_c146 := rfl
theorem am_e147 : am_code 147 = am_c147 := rfl
theorem am_e148 : am_code 148 = am_c148 := rfl
theorem am_e149 : am_code 149 = am_c149 := rfl
theorem am_e150 : am_code 150 = am_c150 := rfl
theorem am_e151 : am_code 151 = am_c151 := rfl
theorem am_e152 : am_code 152 = am_c152 := rfl
theorem am_e153 : am_code 153 = am_c153 := rfl
theorem am_e154 : am_code 154 = am_c154 := rfl
theorem am_e155 : am_code 155 = am_c155 := rfl
theorem am_e156 : am_code 156 = am_c156 := rfl
theorem am_e157 : am_code 157 = am_c157 := rfl
theorem am_e158 : am_code 158 = am_c158 := rfl
theorem am_e159 : am_code 159 = am_c159 := rfl
theorem am_e160 : am_code 160 = am_c160 := rfl
theorem am_e161 : am_code 161 = am_c161 := rfl
theorem am_e162 : am_code 162 = am_c162 := rfl
theorem am_e163 : am_code 163 = am_c163 := rfl
theorem am_e164 : am_code 164 = am_c164 := rfl
theorem am_e165 : am_code 165 = am_c165 := rfl
theorem am_e166 : am_code 166 = am_c166 := rfl
theorem am_e167 : am_code 167 = am_c167 := rfl
theorem am_e168 : am_code 168 = am_c168 := rfl
theorem am_e169 : am_code 169 = am_c169 := rfl
theorem am_e170 : am_code 170 = am_c170 := rfl
theorem am_e171 : am_code 171 = am_c171 := rfl
theorem am_e172 : am_code 172 = am_c172 := rfl
theorem am_e173 : am_code 173 = am_c173 := rfl
theorem am_e174 : am_code 174 = am_c174 := rfl
theorem am_e175 : am_code 175 = am_c175 := rfl
theorem am_e176 : am_code 176 = am_c176 := rfl
theorem am_e177 : am_code 177 = am_c177 := rfl
theorem am_e178 : am_code 178 = am_c178 := rfl
theorem am_e179 : am_code 179 = am_c179 := rfl
theorem am_e180 : am_code 180 = am_c180 := rfl
theorem am_e181 : am_code 181 = am_c181 := rfl
theorem am_e182 : am_code 182 = am_c182 := rfl
theorem am_e183 : am_code 183 = am_c183 := rfl
theorem am_e184 : am_code 184 = am_c184 := rfl
theorem am_e185 : am_code 185 = am_c185 := rfl
theorem am_e186 : am_code 186 = am_c186 := rfl
theorem am_e187 : am_code 187 = am_c187 := rfl
theorem am_e188 : am_code 188 = am_c188 := rfl
theorem am_e189 : am_code 189 = am_c189 := rfl
theorem am_e190 : am_code 190 = am_c190 := rfl
theorem am_e191 : am_code 191 = am_c191 := rfl
theorem am_e192 : am_code 192 = am_c192 := rfl
theorem am_e193 : am_code 193 = am_c193 := rfl
theorem am_e194 : am_code 194 = am_c194 := rfl
theorem am_e195 : am_code 195 = am_c195 := rfl
theorem am_e196 : am_code 196 = am_c196 := rfl
theorem am_e197 : am_code 197 = am_c197 := rfl
theorem am_e198 : am_code 198 = am_c198 := rfl
theorem am_e199 : am_code 199 = am_c199 := rfl
theorem am_e200 : am_code 200 = am_c200 := rfl
theorem am_e201 : am_code 201 = am_c201 := rfl
theorem am_e202 : am_code 202 = am_c202 := rfl
theorem am_e203 : am_code 203 = am_c203 := rfl
theorem am_e204 : am_code 204 = am_c204 := rfl
theorem am_e205 : am_code 205 = am_c205 := rfl
theorem am_e206 : am_code 206 = am_c206 := rfl
theorem am_e207 : am_code 207 = am_c207 := rfl
theorem am_e208 : am_code 208 = am_c208 := rfl
theorem am_e209 : am_code 209 = am_c209 := rfl
theorem am_e210 : am_code 210 = am_c210 := rfl
theorem am_e211 : am_code 211 = am_c211 := rfl
theorem am_e212 : am_code 212 = am_c212 := rfl
theorem am_e213 : am_code 213 = am_c213 := rfl
theorem am_e214 : am_code 214 = am_c214 := rfl
theorem am_e215 : am_code 215 = am_c215 := rfl
theorem am_e216 : am_code 216 = am_c216 := rfl
theorem am_e217 : am_code 217 = am_c217 := rfl
theorem am_e218 : am_code 218 = am_c218 := rfl
theorem am_e219 : am_code 219 = am_c219 := rfl
theorem am_e220 : am_code 220 = am_c220 := rfl
theorem am_e221 : am_code 221 = am_c221 := rfl
theorem am_e222 : am_code 222 = am_c222 := rfl
theorem am_e223 : am_code 223 = am_c223 := rfl
theorem am_e224 : am_code 224 = am_c224 := rfl
theorem am_e225 : am_code 225 = am_c225 := rfl
theorem am_e226 : am_code 226 = am_c226 := rfl
theorem am_e227 : am_code 227 = am_c227 := rfl
theorem am_e228 : am_code 228 = am_c228 := rfl
theorem am_e229 : am_code 229 = am_c229 := rfl
theorem am_e230 : am_code 230 = am_c230 := rfl
theorem am_e231 : am_code 231 = am_c231 := rfl
theorem am_e232 : am_code 232 = am_c232 := rfl
theorem am_e233 : am_code 233 = am_c233 := rfl
theorem am_e234 : am_code 234 = am_c234 := rfl
theorem am_e235 : am_code 235 = am_c235 := rfl
theorem am_e236 : am_code 236 = am_c236 := rfl
theorem am_e237 : am_code 237 = am_c237 := rfl
theorem am_e238 : am_code 238 = am_c238 := rfl
theorem am_e239 : am_code 239 = am_c239 := rfl
theorem am_e240 : am_code 240 = am_c240 := rfl
theorem am_e241 : am_code 241 = am_c241 := rfl
theorem am_e242 : am_code 242 = am_c242 := rfl
theorem am_e243 : am_code 243 = am_c243 := rfl
theorem am_e244 : am_code 244 = am_c244 := rfl
theorem am_e245 : am_code 245 = am_c245 := rfl
theorem am_e246 : am_code 246 = am_c246 := rfl
theorem am_e247 : am_code 247 = am_c247 := rfl
theorem am_e248 : am_code 248 = am_c248 := rfl
theorem am_e249 : am_code 249 = am_c249 := rfl
theorem am_e250 : am_code 250 = am_c250 := rfl
theorem am_e251 : am_code 251 = am_c251 := rfl
theorem am_e252 : am_code 252 = am_c252 := rfl
theorem am_e253 : am_code 253 = am_c253 := rfl
theorem am_e254 : am_code 254 = am_c254 := rfl
theorem am_e255 : am_code 255 = am_c255 := rfl
theorem am_e256 : am_code 256 = am_c256 := rfl
theorem am_e257 : am_code 257 = am_c257 := rfl
theorem am_e258 : am_code 258 = am_c258 := rfl
theorem am_e259 : am_code 259 = am_c259 := rfl
theorem am_e260 : am_code 260 = am_c260 := rfl
theorem am_e261 : am_code 261 = am_c261 := rfl
theorem am_e262 : am_code 262 = am_c262 := rfl
theorem am_e263 : am_code 263 = am_c263 := rfl
theorem am_e264 : am_code 264 = am_c264 := rfl
theorem am_e265 : am_code 265 = am_c265 := rfl
theorem am_e266 : am_code 266 = am_c266 := rfl
theorem am_e267 : am_code 267 = am_c267 := rfl
theorem am_e268 : am_code 268 = am_c268 := rfl
theorem am_e269 : am_code 269 = am_c269 := rfl
theorem am_e270 : am_code 270 = am_c270 := rfl
theorem am_e271 : am_code 271 = am_c271 := rfl
theorem am_e272 : am_code 272 = am_c272 := rfl
theorem am_e273 : am_code 273 = am_c273 := rfl
theorem am_e274 : am_code 274 = am_c274 := rfl
theorem am_e275 : am_code 275 = am_c275 := rfl
theorem am_e276 : am_code 276 = am_c276 := rfl
theorem am_e277 : am_code 277 = am_c277 := rfl
theorem am_e278 : am_code 278 = am_c278 := rfl
theorem am_e279 : am_code 279 = am_c279 := rfl
theorem am_e280 : am_code 280 = am_c280 := rfl
theorem am_e281 : am_code 281 = am_c281 := rfl
theorem am_e282 : am_code 282 = am_c282 := rfl
theorem am_e283 : am_code 283 = am_c283 := rfl
theorem am_e284 : am_code 284 = am_c284 := rfl
theorem am_e285 : am_code 285 = am_c285 := rfl
theorem am_e286 : am_code 286 = am_c286 := rfl
theorem am_e287 : am_code 287 = am_c287 := rfl
theorem am_e288 : am_code 288 = am_c288 := rfl
theorem am_e289 : am_code 289 = am_c289 := rfl
theorem am_e290 : am_code 290 = am_c290 := rfl
theorem am_e291 : am_code 291 = am_c291 := rfl
theorem am_tb_out {d lo up : Int} {ts : Array Int} {x : Int32} (h : ∀ q : Int, lo ≤ q → q ≤ up → ¬ x = Int32.ofInt q) : am_tab d lo up ts x = d.toNat := by
  unfold am_tab
  by_cases c : x.toInt < lo ∨ up < x.toInt
  · rw [if_pos c]
  · exact absurd (Int32.ofInt_toInt _).symm (h x.toInt (by omega) (by omega))
theorem am_lk_out {d : Int} {ps : List (Int × Int)} {x : Int32} (h : ∀ q : Int, q ∈ ps.map Prod.fst → ¬ x = Int32.ofInt q) : am_look d ps x = d.toNat := by
  unfold am_look
  have : ps.lookup x.toInt = none := by
    rw [List.lookup_eq_none_iff]
    intro p hp
    have h1 := h p.1 (List.mem_map_of_mem hp)
    simp only [beq_eq_false_iff_ne, bne_iff_ne, ne_eq]
    intro e
    exact h1 (by rw [← e]; exact (Int32.ofInt_toInt _).symm)
  rw [this]
  rfl
