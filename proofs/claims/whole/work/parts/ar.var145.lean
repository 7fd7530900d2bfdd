/-! rows for the state of 145 objects, by program -/
def dm_M (E : am_Ev) (I : Nat → Nat → Int32) (J : Nat → Nat → Int64) (S : Nat → Nat → Option Nat) : am_St := (145, E.1, E.2.1, E.2.2, I, J, am_kk, S)
def dm_ww (y i : Nat) (ls st : List Value) (E : am_Ev) (I : Nat → Nat → Int32) (J : Nat → Nat → Int64) (S : Nat → Nat → Option Nat) (Q : am_Qt) : Prop := am_wp y i ls st (dm_M E I J S) (fun r τ => ∃ E' I' J' S', τ = dm_M E' I' J' S' ∧ Q r E' I' J' S')
def dm_cl (z : Nat) (as : List Value) (E : am_Ev) (I : Nat → Nat → Int32) (J : Nat → Nat → Int64) (S : Nat → Nat → Option Nat) (Q : am_Qt) : Prop := dm_ww z 0 (am_l0 z as) [] E I J S Q
section Rulesd
variable {y i i' z : Nat} {ls st ls' st' as rest : List Value} {E E' : am_Ev} {I I' : Nat → Nat → Int32} {J J' : Nat → Nat → Int64} {S S' : Nat → Nat → Option Nat} {Q Q' : am_Qt} {cc : List Instr} {ins : Instr}
theorem dm_ww.mono (h : dm_ww y i ls st E I J S Q) (hq : ∀ r E I J S, Q r E I J S → Q' r E I J S) : dm_ww y i ls st E I J S Q' :=
  am_wp_mono h (fun r τ ⟨E1, I1, J1, S1, h1, h2⟩ => ⟨E1, I1, J1, S1, h1, hq _ _ _ _ _ h2⟩)
theorem dw_st (hc : am_code y = cc) (hi : cc[i]? = some ins) (ht : am_tgt ins = none) (he : am_end ins y st (dm_M E I J S) = none) (hs : am_step ins i ls st (dm_M E I J S) = some (i', ls', st', dm_M E' I' J' S')) (k : dm_ww y i' ls' st' E' I' J' S' Q) : dm_ww y i ls st E I J S Q :=
  am_wp_step (by rw [hc]; exact hi) ht he hs k
theorem dw_end {r : Option Value ⊕ Nat} (hc : am_code y = cc) (hi : cc[i]? = some ins) (ht : am_tgt ins = none) (he : am_end ins y st (dm_M E I J S) = some (r, dm_M E' I' J' S')) (k : Q r E' I' J' S') : dm_ww y i ls st E I J S Q :=
  am_wp_end (by rw [hc]; exact hi) ht he ⟨E', I', J', S', rfl, k⟩
theorem dw_cI (hc : am_code y = cc) (hi : cc[i]? = some ins) (ht : am_tgt ins = some z) (hst : st = as.reverse ++ rest) (hck : am_ck y z ins as rest (dm_M E I J S) = true) (k : dm_cl z as E I J S (q_I fun v E I J S => dm_ww y (i + 1) ls (.int v :: rest) E I J S Q)) : dm_ww y i ls st E I J S Q := by
  refine am_wp_call (by rw [hc]; exact hi) ht hst hck (am_wp_mono k ?_)
  rintro r τ ⟨E1, I1, J1, S1, rfl, v, rfl, h⟩
  exact h
theorem dw_cV (hc : am_code y = cc) (hi : cc[i]? = some ins) (ht : am_tgt ins = some z) (hst : st = as.reverse ++ rest) (hck : am_ck y z ins as rest (dm_M E I J S) = true) (k : dm_cl z as E I J S (q_V fun E I J S => dm_ww y (i + 1) ls rest E I J S Q)) : dm_ww y i ls st E I J S Q := by
  refine am_wp_call (by rw [hc]; exact hi) ht hst hck (am_wp_mono k ?_)
  rintro r τ ⟨E1, I1, J1, S1, rfl, rfl, h⟩
  exact h
theorem dw_cR (hc : am_code y = cc) (hi : cc[i]? = some ins) (ht : am_tgt ins = some z) (hst : st = as.reverse ++ rest) (hck : am_ck y z ins as rest (dm_M E I J S) = true) (k : dm_cl z as E I J S (q_R fun v E I J S => dm_ww y (i + 1) ls (.ref v :: rest) E I J S Q)) : dm_ww y i ls st E I J S Q := by
  refine am_wp_call (by rw [hc]; exact hi) ht hst hck (am_wp_mono k ?_)
  rintro r τ ⟨E1, I1, J1, S1, rfl, v, rfl, h⟩
  exact h
/-- a call that may throw -/
theorem dw_cX (hc : am_code y = cc) (hi : cc[i]? = some ins) (ht : am_tgt ins = some z) (hst : st = as.reverse ++ rest) (hck : am_ck y z ins as rest (dm_M E I J S) = true) (hy : am_hdL.getD y [] = []) (k : dm_cl z as E I J S (fun r E I J S => match r with
    | .inl v => dm_ww y (i + 1) ls (v.toList ++ rest) E I J S Q
    | .inr e => Q (.inr e) E I J S)) : dm_ww y i ls st E I J S Q := by
  refine am_wp_call (by rw [hc]; exact hi) ht hst hck (am_wp_mono k ?_)
  rintro r τ ⟨E1, I1, J1, S1, rfl, h⟩
  cases r with
  | inl v => exact h
  | inr e =>
    have hd : am_hd y e = none := by unfold am_hd; rw [hy]; rfl
    dsimp only
    rw [hd]
    exact ⟨by rw [hy]; rfl, _, _, _, _, rfl, h⟩
/-- a call in a method that catches -/
theorem dw_cH (hc : am_code y = cc) (hi : cc[i]? = some ins) (ht : am_tgt ins = some z) (hst : st = as.reverse ++ rest) (hck : am_ck y z ins as rest (dm_M E I J S) = true) (k : dm_cl z as E I J S (fun r E I J S => match r with
    | .inl v => dm_ww y (i + 1) ls (v.toList ++ rest) E I J S Q
    | .inr e => ∃ n, am_hd y e = some n ∧ Q (.inl (some (.int (nI n)))) E I J S)) : dm_ww y i ls st E I J S Q := by
  refine am_wp_call (by rw [hc]; exact hi) ht hst hck (am_wp_mono k ?_)
  rintro r τ ⟨E1, I1, J1, S1, rfl, h⟩
  cases r with
  | inl v => exact h
  | inr e =>
    obtain ⟨n, hd, h⟩ := h
    dsimp only
    rw [hd]
    exact ⟨_, _, _, _, rfl, h⟩
theorem dw_if1 {o : ClassFile.Cond} {t : Int} {tn : Nat} {x : Int32} {r : List Value} (hc : am_code y = cc) (hi : cc[i]? = some (.ifCond o t)) (hn : t.toNat = tn) (kt : am_cz o x = true → dm_ww y tn ls r E I J S Q) (kf : am_cz o x = false → dm_ww y (i + 1) ls r E I J S Q) : dm_ww y i ls (.int x :: r) E I J S Q := by
  subst hn
  cases h : am_cz o x with
  | true => exact dw_st hc hi rfl rfl (by simp only [am_step, h]; rfl) (kt h)
  | false => exact dw_st hc hi rfl rfl (by simp only [am_step, h]; rfl) (kf h)
theorem dw_if2 {o : ClassFile.Cond} {t : Int} {tn : Nat} {x v : Int32} {r : List Value} (hc : am_code y = cc) (hi : cc[i]? = some (.if_icmp o t)) (hn : t.toNat = tn) (kt : am_cc o x v = true → dm_ww y tn ls r E I J S Q) (kf : am_cc o x v = false → dm_ww y (i + 1) ls r E I J S Q) : dm_ww y i ls (.int v :: .int x :: r) E I J S Q := by
  subst hn
  cases h : am_cc o x v with
  | true => exact dw_st hc hi rfl rfl (by simp only [am_step, h]; rfl) (kt h)
  | false => exact dw_st hc hi rfl rfl (by simp only [am_step, h]; rfl) (kf h)
theorem dm_okM {k t : Nat} (hk : k < 145) (ht : (am_tau k).1 = t) : am_ok (dm_M E I J S) k t = true := by
  unfold am_ok
  rw [ht]
  have h : k < g_N (dm_M E I J S) := hk
  simp [h]

theorem dw_ia {k n jn : Nat} {j : Int32} {r : List Value} (hc : am_code y = cc) (hi : cc[i]? = some .iaload) (ht : am_tau k = (0, n)) (hk : k < 145) (hin : vp_in j n) (hj : j.toNatClampNeg = jn) (kk : dm_ww y (i + 1) ls (.int (I k jn) :: r) E I J S Q) : dm_ww y i ls (.int j :: .ref k :: r) E I J S Q := by
  subst hj
  refine dw_st hc hi rfl rfl ?_ kk
  show am_ald .iaload i ls (.int j :: .ref k :: r) (dm_M E I J S) = _
  unfold am_ald
  dsimp only
  rw [if_pos (show k < 1000000 by omega), ht]
  dsimp only
  rw [dm_okM hk (by rw [ht]), am_out_of hin]
  rfl
theorem dw_la {k n jn : Nat} {j : Int32} {r : List Value} (hc : am_code y = cc) (hi : cc[i]? = some .laload) (ht : am_tau k = (1, n)) (hk : k < 145) (hin : vp_in j n) (hj : j.toNatClampNeg = jn) (kk : dm_ww y (i + 1) ls (.long (J k jn) :: r) E I J S Q) : dm_ww y i ls (.int j :: .ref k :: r) E I J S Q := by
  subst hj
  refine dw_st hc hi rfl rfl ?_ kk
  show am_ald .laload i ls (.int j :: .ref k :: r) (dm_M E I J S) = _
  unfold am_ald
  dsimp only
  rw [if_pos (show k < 1000000 by omega), ht]
  dsimp only
  rw [dm_okM hk (by rw [ht]), am_out_of hin]
  rfl
theorem dw_ba {k n jn : Nat} {j : Int32} {r : List Value} (hc : am_code y = cc) (hi : cc[i]? = some .baload) (ht : am_tau k = (2, n)) (hk : k < 145) (hin : vp_in j n) (hj : j.toNatClampNeg = jn) (kk : dm_ww y (i + 1) ls (.int (I k jn) :: r) E I J S Q) : dm_ww y i ls (.int j :: .ref k :: r) E I J S Q := by
  subst hj
  refine dw_st hc hi rfl rfl ?_ kk
  show am_ald .baload i ls (.int j :: .ref k :: r) (dm_M E I J S) = _
  unfold am_ald
  dsimp only
  rw [if_pos (show k < 1000000 by omega), ht]
  dsimp only
  rw [dm_okM hk (by rw [ht]), am_out_of hin]
  rfl
theorem dw_za {k n jn : Nat} {j : Int32} {r : List Value} (hc : am_code y = cc) (hi : cc[i]? = some .baload) (ht : am_tau k = (3, n)) (hk : k < 145) (hin : vp_in j n) (hj : j.toNatClampNeg = jn) (kk : dm_ww y (i + 1) ls (.int (I k jn) :: r) E I J S Q) : dm_ww y i ls (.int j :: .ref k :: r) E I J S Q := by
  subst hj
  refine dw_st hc hi rfl rfl ?_ kk
  show am_ald .baload i ls (.int j :: .ref k :: r) (dm_M E I J S) = _
  unfold am_ald
  dsimp only
  rw [if_pos (show k < 1000000 by omega), ht]
  dsimp only
  rw [dm_okM hk (by rw [ht]), am_out_of hin]
  rfl
theorem dw_is {k n jn : Nat} {j : Int32} {x : Int32} {r : List Value} (hc : am_code y = cc) (hi : cc[i]? = some .iastore) (ht : am_tau k = (0, n)) (hk : k < 145) (hin : vp_in j n) (hj : j.toNatClampNeg = jn) (kk : dm_ww y (i + 1) ls r E (u_I I k (upd (I k) jn x)) J S Q) : dm_ww y i ls (.int x :: .int j :: .ref k :: r) E I J S Q := by
  subst hj
  refine dw_st hc hi rfl rfl ?_ kk
  show am_ast .iastore i ls (.int x :: .int j :: .ref k :: r) (dm_M E I J S) = _
  unfold am_ast
  dsimp only
  rw [if_pos (show k < 1000000 by omega), ht]
  dsimp only
  rw [dm_okM hk (by rw [ht]), am_out_of hin]
  rfl
theorem dw_ls {k n jn : Nat} {j : Int32} {x : Int64} {r : List Value} (hc : am_code y = cc) (hi : cc[i]? = some .lastore) (ht : am_tau k = (1, n)) (hk : k < 145) (hin : vp_in j n) (hj : j.toNatClampNeg = jn) (kk : dm_ww y (i + 1) ls r E I (u_J J k (vp_updL (J k) jn x)) S Q) : dm_ww y i ls (.long x :: .int j :: .ref k :: r) E I J S Q := by
  subst hj
  refine dw_st hc hi rfl rfl ?_ kk
  show am_ast .lastore i ls (.long x :: .int j :: .ref k :: r) (dm_M E I J S) = _
  unfold am_ast
  dsimp only
  rw [if_pos (show k < 1000000 by omega), ht]
  dsimp only
  rw [dm_okM hk (by rw [ht]), am_out_of hin]
  rfl
theorem dw_bs {k n jn : Nat} {j : Int32} {x : Int32} {r : List Value} (hc : am_code y = cc) (hi : cc[i]? = some .bastore) (ht : am_tau k = (2, n)) (hk : k < 145) (hin : vp_in j n) (hj : j.toNatClampNeg = jn) (kk : dm_ww y (i + 1) ls r E (u_I I k (upd (I k) jn (vp_nar .byte x))) J S Q) : dm_ww y i ls (.int x :: .int j :: .ref k :: r) E I J S Q := by
  subst hj
  refine dw_st hc hi rfl rfl ?_ kk
  show am_ast .bastore i ls (.int x :: .int j :: .ref k :: r) (dm_M E I J S) = _
  unfold am_ast
  dsimp only
  rw [if_pos (show k < 1000000 by omega), ht]
  dsimp only
  rw [dm_okM hk (by rw [ht]), am_out_of hin]
  rfl
theorem dw_zs {k n jn : Nat} {j : Int32} {x : Int32} {r : List Value} (hc : am_code y = cc) (hi : cc[i]? = some .bastore) (ht : am_tau k = (3, n)) (hk : k < 145) (hin : vp_in j n) (hj : j.toNatClampNeg = jn) (kk : dm_ww y (i + 1) ls r E (u_I I k (upd (I k) jn (vp_nar .boolean x))) J S Q) : dm_ww y i ls (.int x :: .int j :: .ref k :: r) E I J S Q := by
  subst hj
  refine dw_st hc hi rfl rfl ?_ kk
  show am_ast .bastore i ls (.int x :: .int j :: .ref k :: r) (dm_M E I J S) = _
  unfold am_ast
  dsimp only
  rw [if_pos (show k < 1000000 by omega), ht]
  dsimp only
  rw [dm_okM hk (by rw [ht]), am_out_of hin]
  rfl
theorem dw_sa {j : Int32} {r : List Value} (hc : am_code y = cc) (hi : cc[i]? = some .iaload) (hin : vp_in j E.2.2.1) (kk : dm_ww y (i + 1) ls (.int (E.2.2.2 j.toNatClampNeg) :: r) E I J S Q) : dm_ww y i ls (.int j :: .ref 1000000 :: r) E I J S Q := by
  refine dw_st hc hi rfl rfl ?_ kk
  show am_ald .iaload i ls (.int j :: .ref 1000000 :: r) (dm_M E I J S) = _
  unfold am_ald
  dsimp only
  rw [if_neg (by decide), if_pos rfl]
  have h : am_out j (g_L (dm_M E I J S)) = false := am_out_of hin
  rw [h]
  rfl
theorem dw_aa {k n q : Nat} {j : Int32} {r : List Value} (hc : am_code y = cc) (hi : cc[i]? = some .aaload) (ht : am_tau k = (4, n)) (hk : k < 145) (hin : vp_in j n) (hq : S k j.toNatClampNeg = some q) (hq5 : q < 55) (kk : dm_ww y (i + 1) ls (.ref (2000000 + q) :: r) E I J S Q) : dm_ww y i ls (.int j :: .ref k :: r) E I J S Q := by
  refine dw_st hc hi rfl rfl ?_ kk
  show am_ald .aaload i ls (.int j :: .ref k :: r) (dm_M E I J S) = _
  unfold am_ald
  dsimp only
  rw [if_pos (show k < 1000000 by omega), ht]
  dsimp only
  rw [dm_okM hk (by rw [ht]), am_out_of hin]
  have h : am_el (dm_M E I J S) k j.toNatClampNeg 4 = some (.ref (2000000 + q)) := by
    show (S k j.toNatClampNeg).bind _ = _
    rw [hq]
    show (if q < 55 then _ else _) = _
    rw [if_pos hq5]
  rw [h]
  rfl
theorem dw_dv {x z : Int32} {r : List Value} (hz : ¬ z = 0) (hc : am_code y = cc) (hi : cc[i]? = some .idiv) (kk : dm_ww y (i + 1) ls (.int (x / z) :: r) E I J S Q) : dm_ww y i ls (.int z :: .int x :: r) E I J S Q := by
  refine dw_st hc hi rfl rfl ?_ kk
  show Option.map _ (if z = 0 then none else some (x / z)) = _
  rw [if_neg hz]
  rfl
theorem dw_rm {x z : Int32} {r : List Value} (hz : ¬ z = 0) (hc : am_code y = cc) (hi : cc[i]? = some .irem) (kk : dm_ww y (i + 1) ls (.int (x - x / z * z) :: r) E I J S Q) : dm_ww y i ls (.int z :: .int x :: r) E I J S Q := by
  refine dw_st hc hi rfl rfl ?_ kk
  show Option.map _ (if z = 0 then none else some (x - x / z * z)) = _
  rw [if_neg hz]
  rfl
/-- a field that holds a String -/
theorem dw_gs {n k q : Nat} {r : List Value} (hc : am_code y = cc) (hi : cc[i]? = some (.getfield n)) (hk : k < 145) (hck : (decide (n < 990000) && decide ((am_tau k).1 = 10 + n / 1000) && decide (n / 10 % 100 < am_nf (n / 1000)) && decide (am_fk (n / 1000) (n / 10 % 100) = 3) && decide (n % 10 = 3)) = true) (hq : S k (n / 10 % 100) = some q) (hq5 : q < 55) (kk : dm_ww y (i + 1) ls (.ref (2000000 + q) :: r) E I J S Q) : dm_ww y i ls (.ref k :: r) E I J S Q := by
  simp only [Bool.and_eq_true, decide_eq_true_eq] at hck
  obtain ⟨⟨⟨⟨h1, h2⟩, h3⟩, h4⟩, h5⟩ := hck
  refine dw_st hc hi rfl rfl ?_ kk
  show am_get n i ls (.ref k :: r) (dm_M E I J S) = _
  unfold am_get
  dsimp only
  rw [if_pos h1, dm_okM hk h2, h5, h4]
  have h : am_fv (dm_M E I J S) k (n / 10 % 100) 3 = some (.ref (2000000 + q)) := by
    show (S k (n / 10 % 100)).bind _ = _
    rw [hq]
    show (if q < 55 then _ else _) = _
    rw [if_pos hq5]
  rw [h, if_pos (by rw [decide_eq_true h3, decide_eq_true (show k < 1000000 by omega)]; rfl)]
  rfl
theorem dw_ps {n k q : Nat} {r : List Value} (f : Nat) (hc : am_code y = cc) (hi : cc[i]? = some (.putfield n)) (hk : k < 145) (hck : (decide ((am_tau k).1 = 10 + n / 1000) && decide (n / 10 % 100 < am_nf (n / 1000)) && decide (am_fk (n / 1000) (n / 10 % 100) = 3) && decide (n % 10 = 3) && decide (n / 10 % 100 = f)) = true) (hq5 : q < 55) (kk : dm_ww y (i + 1) ls r E I J (u_S S k (am_upO (S k) f (some q))) Q) : dm_ww y i ls (.ref (2000000 + q) :: .ref k :: r) E I J S Q := by
  simp only [Bool.and_eq_true, decide_eq_true_eq] at hck
  obtain ⟨⟨⟨⟨h2, h3⟩, h4⟩, h5⟩, h6⟩ := hck
  subst h6
  refine dw_st hc hi rfl rfl ?_ kk
  show am_put n i ls (.ref (2000000 + q) :: .ref k :: r) (dm_M E I J S) = _
  unfold am_put
  dsimp only
  rw [dm_okM hk h2, h5, h4, if_pos (by rw [decide_eq_true h3, decide_eq_true (show k < 1000000 by omega)]; rfl)]
  have h : am_pv (dm_M E I J S) k (n / 10 % 100) 3 (.ref (2000000 + q)) = some (dm_M E I J (u_S S k (am_upO (S k) (n / 10 % 100) (some q)))) := by
    show (if 2000000 ≤ 2000000 + q ∧ 2000000 + q < 2000055 then _ else none) = _
    rw [if_pos ⟨by omega, by omega⟩, Nat.add_sub_cancel_left]
    rfl
  rw [h]
  rfl
/-- a boolean field -/
theorem dw_pz {n k : Nat} {x : Int32} {r : List Value} (f : Nat) (hc : am_code y = cc) (hi : cc[i]? = some (.putfield n)) (hk : k < 145) (hck : (decide ((am_tau k).1 = 10 + n / 1000) && decide (n / 10 % 100 < am_nf (n / 1000)) && decide (am_fk (n / 1000) (n / 10 % 100) = 5) && decide (n % 10 = 5) && decide (n / 10 % 100 = f)) = true) (hx : x = 0 ∨ x = 1) (kk : dm_ww y (i + 1) ls r E (u_I I k (upd (I k) f x)) J S Q) : dm_ww y i ls (.int x :: .ref k :: r) E I J S Q := by
  simp only [Bool.and_eq_true, decide_eq_true_eq] at hck
  obtain ⟨⟨⟨⟨h2, h3⟩, h4⟩, h5⟩, h6⟩ := hck
  subst h6
  refine dw_st hc hi rfl rfl ?_ kk
  show am_put n i ls (.int x :: .ref k :: r) (dm_M E I J S) = _
  unfold am_put
  dsimp only
  rw [dm_okM hk h2, h5, h4, if_pos (by rw [decide_eq_true h3, decide_eq_true (show k < 1000000 by omega)]; rfl)]
  have h : am_pv (dm_M E I J S) k (n / 10 % 100) 5 (.int x) = some (dm_M E (u_I I k (upd (I k) (n / 10 % 100) x)) J S) := by
    show (if x = 0 ∨ x = 1 then _ else none) = _
    rw [if_pos hx]
    rfl
  rw [h]
  rfl
/-- a boolean answer -/
theorem dw_rz {x : Int32} (hc : am_code y = cc) (hi : cc[i]? = some .ireturn) (hrk : am_rk y = 2) (hx : x = 0 ∨ x = 1) (kk : Q (.inl (some (.int x))) E I J S) : dm_ww y i ls [.int x] E I J S Q := by
  refine dw_end hc hi rfl ?_ kk
  show (if 1 ≤ am_rk y ∧ am_rk y ≤ 4 ∧ narrow (am_rty (am_rk y)) (.int x) = .int x then some (Sum.inl (some (Value.int x)), dm_M E I J S) else none) = _
  rw [hrk, if_pos ⟨by omega, by omega, by rcases hx with rfl | rfl <;> rfl⟩]
theorem dw_tb {d lo up : Int} {ts : Array Int} {x : Int32} {r : List Value} (hc : am_code y = cc) (hi : cc[i]? = some (.tableswitch d lo up ts)) (kk : dm_ww y (am_tab d lo up ts x) ls r E I J S Q) : dm_ww y i ls (.int x :: r) E I J S Q := dw_st hc hi rfl rfl rfl kk
theorem dw_lk {d : Int} {ps : Array (Int × Int)} {x : Int32} {r : List Value} (hc : am_code y = cc) (hi : cc[i]? = some (.lookupswitch d ps)) (kk : dm_ww y (am_look d ps.toList x) ls r E I J S Q) : dm_ww y i ls (.int x :: r) E I J S Q := dw_st hc hi rfl rfl rfl kk
theorem dw_cp {k a nk na : Nat} {sp dp n : Int32} {r : List Value} (hc : am_code y = cc) (hi : cc[i]? = some (.invokestatic 10003)) (hk : k < 145) (ha : a < 145) (htk : am_tau k = (0, nk)) (hta : am_tau a = (0, na)) (hr : (r.map fun v => v.category).sum ≤ 8) (h : am_cpOk sp dp n nk na) (kk : dm_ww y (i + 1) ls r E (u_I I a (va_cpy (I k) (I a) sp.toNatClampNeg dp.toNatClampNeg n.toNatClampNeg)) J S Q) : dm_ww y i ls (.int n :: .int dp :: .ref a :: .int sp :: .ref k :: r) E I J S Q := by
  obtain ⟨h1, h2, h3, h4, h5⟩ := h
  refine dw_st hc hi rfl rfl ?_ kk
  show (if (r.map fun v => v.category).sum ≤ 8 then am_copy i ls (.int n :: .int dp :: .ref a :: .int sp :: .ref k :: r) (dm_M E I J S) else none) = _
  rw [if_pos hr]
  unfold am_copy
  dsimp only
  rw [dm_okM hk (by rw [htk]), dm_okM ha (by rw [hta]), htk, hta, if_pos (by simp only [decide_eq_true h4, decide_eq_true h5, decide_eq_false h1, decide_eq_false h2, decide_eq_false h3, decide_eq_true (show k < 1000000 by omega), decide_eq_true (show a < 1000000 by omega), Bool.and_true, Bool.not_false])]
  rfl
end Rulesd
theorem dw_eI {y i : Nat} {ls st : List Value} {E : am_Ev} {I1 I2 : Nat → Nat → Int32} {J : Nat → Nat → Int64} {S : Nat → Nat → Option Nat} {Q : am_Qt} (h : I1 = I2) (k : dm_ww y i ls st E I2 J S Q) : dm_ww y i ls st E I1 J S Q := h ▸ k
theorem dw_mg {y i i0 : Nat} {ls0 st0 ls' st' : List Value} {E : am_Ev} {I : Nat → Nat → Int32} {J : Nat → Nat → Int64} {S : Nat → Nat → Option Nat} {Q : am_Qt} (k : dm_ww y i ls' st' E I J S Q → dm_ww y i0 ls0 st0 E I J S Q) (h : dm_ww y i ls' st' E I J S Q) : dm_ww y i0 ls0 st0 E I J S Q := k h
theorem dg184_0 {p1 : Int32} {E : am_Ev} {I : Nat → Nat → Int32} {J : Nat → Nat → Int64} {S : Nat → Nat → Option Nat} {Q : am_Qt}  (h : dm_ww 184 2 [.ref 99, .int p1, .int (nI 0)] [] E I J S Q) : dm_ww 184 0 [.ref 99, .int p1, am_U] [] E I J S Q := by
  refine dw_st (i' := 1) (ls' := [.ref 99, .int p1, am_U]) (st' := [.int (nI 0)]) (E' := E) (I' := I) (J' := J) (S' := S) am_e184 rfl rfl rfl rfl ?_
  refine dw_st (i' := 2) (ls' := [.ref 99, .int p1, .int (nI 0)]) (st' := []) (E' := E) (I' := I) (J' := J) (S' := S) am_e184 rfl rfl rfl rfl ?_
  exact h
theorem dg184_2 {x1 : Int32} {x2 : Int32} {E : am_Ev} {I : Nat → Nat → Int32} {J : Nat → Nat → Int64} {S : Nat → Nat → Option Nat} {Q : am_Qt}  (h : ((nI 51) ≤ x2 → (dm_ww 184 22 [.ref 99, .int x1, .int (nI 0)] [] E I J S Q)) ∧ (¬ (nI 51) ≤ x2 → ((((nI 16) ≤ x2 → (True)) ∧ (¬ (nI 16) ≤ x2 → (vp_in x2 32 ∧ True))) ∧ (∀ w2 : Int32, w2 = (if (nI 16) ≤ x2 then nI 0 else ((I 104) x2.toNatClampNeg)) → (vp_in x2 51 ∧ (dm_ww 184 2 [.ref 99, .int x1, .int (x2 + nI 1)] [] E (u_I I 116 (upd (I 116) x2.toNatClampNeg w2)) J S Q)))))) : dm_ww 184 2 [.ref 99, .int x1, .int x2] [] E I J S Q := by
  refine dw_st (i' := 3) (ls' := [.ref 99, .int x1, .int x2]) (st' := [.int x2]) (E' := E) (I' := I) (J' := J) (S' := S) am_e184 rfl rfl rfl rfl ?_
  refine dw_st (i' := 4) (ls' := [.ref 99, .int x1, .int x2]) (st' := [.int (nI 51), .int x2]) (E' := E) (I' := I) (J' := J) (S' := S) am_e184 rfl rfl rfl rfl ?_
  refine dw_if2 am_e184 rfl rfl (fun c => ?_) (fun c => ?_)
  · replace h := h.1 (of_decide_eq_true c)
    refine dw_st (i' := 21) (ls' := [.ref 99, .int x1, .int x2]) (st' := [.int (nI 0)]) (E' := E) (I' := I) (J' := J) (S' := S) am_e184 rfl rfl rfl rfl ?_
    refine dw_st (i' := 22) (ls' := [.ref 99, .int x1, .int (nI 0)]) (st' := []) (E' := E) (I' := I) (J' := J) (S' := S) am_e184 rfl rfl rfl rfl ?_
    exact h
  · replace h := h.2 (of_decide_eq_false c)
    refine dw_st (i' := 6) (ls' := [.ref 99, .int x1, .int x2]) (st' := [.ref 99]) (E' := E) (I' := I) (J' := J) (S' := S) am_e184 rfl rfl rfl rfl ?_
    refine dw_st (i' := 7) (ls' := [.ref 99, .int x1, .int x2]) (st' := [.ref 116]) (E' := E) (I' := I) (J' := J) (S' := S) am_e184 rfl rfl rfl rfl ?_
    refine dw_st (i' := 8) (ls' := [.ref 99, .int x1, .int x2]) (st' := [.int x2, .ref 116]) (E' := E) (I' := I) (J' := J) (S' := S) am_e184 rfl rfl rfl rfl ?_
    refine dw_st (i' := 9) (ls' := [.ref 99, .int x1, .int x2]) (st' := [.int x2, .int x2, .ref 116]) (E' := E) (I' := I) (J' := J) (S' := S) am_e184 rfl rfl rfl rfl ?_
    refine dw_st (i' := 10) (ls' := [.ref 99, .int x1, .int x2]) (st' := [.int (nI 16), .int x2, .int x2, .ref 116]) (E' := E) (I' := I) (J' := J) (S' := S) am_e184 rfl rfl rfl rfl ?_
    refine dw_mg (i := 17) (ls' := [.ref 99, .int x1, .int x2]) (st' := [.int (if (nI 16) ≤ x2 then nI 0 else ((I 104) x2.toNatClampNeg)), .int x2, .ref 116]) (fun hm => ?_) ?_
    · replace h := h.1
      refine dw_if2 am_e184 rfl rfl (fun c => ?_) (fun c => ?_)
      · have m1 : (nI 16) ≤ x2 := (of_decide_eq_true c)
        replace h := h.1 m1
        refine dw_st (i' := 17) (ls' := [.ref 99, .int x1, .int x2]) (st' := [.int (nI 0), .int x2, .ref 116]) (E' := E) (I' := I) (J' := J) (S' := S) am_e184 rfl rfl rfl rfl ?_
        first | exact hm | (simp only [if_pos m1] at hm; exact hm)
      · have m1 : ¬ ((nI 16) ≤ x2) := (of_decide_eq_false c)
        replace h := h.2 m1
        refine dw_st (i' := 12) (ls' := [.ref 99, .int x1, .int x2]) (st' := [.ref 99, .int x2, .ref 116]) (E' := E) (I' := I) (J' := J) (S' := S) am_e184 rfl rfl rfl rfl ?_
        refine dw_st (i' := 13) (ls' := [.ref 99, .int x1, .int x2]) (st' := [.ref 104, .int x2, .ref 116]) (E' := E) (I' := I) (J' := J) (S' := S) am_e184 rfl rfl rfl rfl ?_
        refine dw_st (i' := 14) (ls' := [.ref 99, .int x1, .int x2]) (st' := [.int x2, .ref 104, .int x2, .ref 116]) (E' := E) (I' := I) (J' := J) (S' := S) am_e184 rfl rfl rfl rfl ?_
        refine dw_ia (k := 104) (n := 32) (jn := x2.toNatClampNeg) am_e184 rfl rfl (by decide) h.1 rfl ?_
        replace h := h.2
        show dm_ww 184 15 [.ref 99, .int x1, .int x2] [.int ((I 104) x2.toNatClampNeg), .int x2, .ref 116] E I J S _
        refine dw_st (i' := 17) (ls' := [.ref 99, .int x1, .int x2]) (st' := [.int ((I 104) x2.toNatClampNeg), .int x2, .ref 116]) (E' := E) (I' := I) (J' := J) (S' := S) am_e184 rfl rfl rfl rfl ?_
        first | exact hm | (simp only [if_neg m1] at hm; exact hm)
    replace h := h.2
    refine w_var (fun w2 => dm_ww 184 17 [.ref 99, .int x1, .int x2] [.int w2, .int x2, .ref 116] E I J S _) (if (nI 16) ≤ x2 then nI 0 else ((I 104) x2.toNatClampNeg)) (fun w2 hw2 => ?_)
    replace h := h w2 hw2
    have hf3 := h.1
    replace h := h.2
    refine dw_is (k := 116) (n := 51) (jn := x2.toNatClampNeg) am_e184 rfl rfl (by decide) hf3 rfl ?_
    show dm_ww 184 18 [.ref 99, .int x1, .int x2] [] E (u_I I 116 (upd (I 116) x2.toNatClampNeg w2)) J S _
    refine dw_st (i' := 19) (ls' := [.ref 99, .int x1, .int (x2 + nI 1)]) (st' := []) (E' := E) (I' := (u_I I 116 (upd (I 116) x2.toNatClampNeg w2))) (J' := J) (S' := S) am_e184 rfl rfl rfl rfl ?_
    refine dw_st (i' := 2) (ls' := [.ref 99, .int x1, .int (x2 + nI 1)]) (st' := []) (E' := E) (I' := (u_I I 116 (upd (I 116) x2.toNatClampNeg w2))) (J' := J) (S' := S) am_e184 rfl rfl rfl rfl ?_
    exact h
theorem dg184_22 {x1 : Int32} {x2 : Int32} {E : am_Ev} {I : Nat → Nat → Int32} {J : Nat → Nat → Int64} {S : Nat → Nat → Option Nat} {Q : am_Qt}  (h : ((nI 4) ≤ x2 → (Q (.inl none) E (u_I I 116 (upd (upd (I 116) 44 (-1)) 46 x1)) J S)) ∧ (¬ (nI 4) ≤ x2 → (vp_in ((nI 40) + x2) 51 ∧ (dm_ww 184 22 [.ref 99, .int x1, .int (x2 + nI 1)] [] E (u_I I 116 (upd (I 116) (((nI 40) + x2).toNatClampNeg) (-1))) J S Q)))) : dm_ww 184 22 [.ref 99, .int x1, .int x2] [] E I J S Q := by
  refine dw_st (i' := 23) (ls' := [.ref 99, .int x1, .int x2]) (st' := [.int x2]) (E' := E) (I' := I) (J' := J) (S' := S) am_e184 rfl rfl rfl rfl ?_
  refine dw_st (i' := 24) (ls' := [.ref 99, .int x1, .int x2]) (st' := [.int (nI 4), .int x2]) (E' := E) (I' := I) (J' := J) (S' := S) am_e184 rfl rfl rfl rfl ?_
  refine dw_if2 am_e184 rfl rfl (fun c => ?_) (fun c => ?_)
  · replace h := h.1 (of_decide_eq_true c)
    refine dw_st (i' := 35) (ls' := [.ref 99, .int x1, .int x2]) (st' := [.ref 99]) (E' := E) (I' := I) (J' := J) (S' := S) am_e184 rfl rfl rfl rfl ?_
    refine dw_st (i' := 36) (ls' := [.ref 99, .int x1, .int x2]) (st' := [.ref 116]) (E' := E) (I' := I) (J' := J) (S' := S) am_e184 rfl rfl rfl rfl ?_
    refine dw_st (i' := 37) (ls' := [.ref 99, .int x1, .int x2]) (st' := [.int (nI 44), .ref 116]) (E' := E) (I' := I) (J' := J) (S' := S) am_e184 rfl rfl rfl rfl ?_
    refine dw_st (i' := 38) (ls' := [.ref 99, .int x1, .int x2]) (st' := [.int (-1), .int (nI 44), .ref 116]) (E' := E) (I' := I) (J' := J) (S' := S) am_e184 rfl rfl rfl rfl ?_
    refine dw_is (k := 116) (n := 51) (jn := 44) am_e184 rfl rfl (by decide) (vp_in_nI (by decide) (by decide)) rfl ?_
    show dm_ww 184 39 [.ref 99, .int x1, .int x2] [] E (u_I I 116 (upd (I 116) 44 (-1))) J S _
    refine dw_st (i' := 40) (ls' := [.ref 99, .int x1, .int x2]) (st' := [.ref 99]) (E' := E) (I' := (u_I I 116 (upd (I 116) 44 (-1)))) (J' := J) (S' := S) am_e184 rfl rfl rfl rfl ?_
    refine dw_st (i' := 41) (ls' := [.ref 99, .int x1, .int x2]) (st' := [.ref 116]) (E' := E) (I' := (u_I I 116 (upd (I 116) 44 (-1)))) (J' := J) (S' := S) am_e184 rfl rfl rfl rfl ?_
    refine dw_st (i' := 42) (ls' := [.ref 99, .int x1, .int x2]) (st' := [.int (nI 46), .ref 116]) (E' := E) (I' := (u_I I 116 (upd (I 116) 44 (-1)))) (J' := J) (S' := S) am_e184 rfl rfl rfl rfl ?_
    refine dw_st (i' := 43) (ls' := [.ref 99, .int x1, .int x2]) (st' := [.int x1, .int (nI 46), .ref 116]) (E' := E) (I' := (u_I I 116 (upd (I 116) 44 (-1)))) (J' := J) (S' := S) am_e184 rfl rfl rfl rfl ?_
    refine dw_is (k := 116) (n := 51) (jn := 46) am_e184 rfl rfl (by decide) (vp_in_nI (by decide) (by decide)) rfl ?_
    refine dw_eI (uI_0 ..) ?_
    show dm_ww 184 44 [.ref 99, .int x1, .int x2] [] E (u_I I 116 (upd (upd (I 116) 44 (-1)) 46 x1)) J S _
    exact dw_end am_e184 rfl rfl rfl h
  · replace h := h.2 (of_decide_eq_false c)
    refine dw_st (i' := 26) (ls' := [.ref 99, .int x1, .int x2]) (st' := [.ref 99]) (E' := E) (I' := I) (J' := J) (S' := S) am_e184 rfl rfl rfl rfl ?_
    refine dw_st (i' := 27) (ls' := [.ref 99, .int x1, .int x2]) (st' := [.ref 116]) (E' := E) (I' := I) (J' := J) (S' := S) am_e184 rfl rfl rfl rfl ?_
    refine dw_st (i' := 28) (ls' := [.ref 99, .int x1, .int x2]) (st' := [.int (nI 40), .ref 116]) (E' := E) (I' := I) (J' := J) (S' := S) am_e184 rfl rfl rfl rfl ?_
    refine dw_st (i' := 29) (ls' := [.ref 99, .int x1, .int x2]) (st' := [.int x2, .int (nI 40), .ref 116]) (E' := E) (I' := I) (J' := J) (S' := S) am_e184 rfl rfl rfl rfl ?_
    refine dw_st (i' := 30) (ls' := [.ref 99, .int x1, .int x2]) (st' := [.int ((nI 40) + x2), .ref 116]) (E' := E) (I' := I) (J' := J) (S' := S) am_e184 rfl rfl rfl rfl ?_
    refine dw_st (i' := 31) (ls' := [.ref 99, .int x1, .int x2]) (st' := [.int (-1), .int ((nI 40) + x2), .ref 116]) (E' := E) (I' := I) (J' := J) (S' := S) am_e184 rfl rfl rfl rfl ?_
    have hf1 := h.1
    replace h := h.2
    refine dw_is (k := 116) (n := 51) (jn := ((nI 40) + x2).toNatClampNeg) am_e184 rfl rfl (by decide) hf1 rfl ?_
    show dm_ww 184 32 [.ref 99, .int x1, .int x2] [] E (u_I I 116 (upd (I 116) (((nI 40) + x2).toNatClampNeg) (-1))) J S _
    refine dw_st (i' := 33) (ls' := [.ref 99, .int x1, .int (x2 + nI 1)]) (st' := []) (E' := E) (I' := (u_I I 116 (upd (I 116) (((nI 40) + x2).toNatClampNeg) (-1)))) (J' := J) (S' := S) am_e184 rfl rfl rfl rfl ?_
    refine dw_st (i' := 22) (ls' := [.ref 99, .int x1, .int (x2 + nI 1)]) (st' := []) (E' := E) (I' := (u_I I 116 (upd (I 116) (((nI 40) + x2).toNatClampNeg) (-1)))) (J' := J) (S' := S) am_e184 rfl rfl rfl rfl ?_
    exact h
theorem dg185_0 {p1 : Int32} {E : am_Ev} {I : Nat → Nat → Int32} {J : Nat → Nat → Int64} {S : Nat → Nat → Option Nat} {Q : am_Qt}  (h : dm_ww 185 2 [.ref 99, .int p1, .int (nI 0)] [] E I J S Q) : dm_ww 185 0 [.ref 99, .int p1, am_U] [] E I J S Q := by
  refine dw_st (i' := 1) (ls' := [.ref 99, .int p1, am_U]) (st' := [.int (nI 0)]) (E' := E) (I' := I) (J' := J) (S' := S) am_e185 rfl rfl rfl rfl ?_
  refine dw_st (i' := 2) (ls' := [.ref 99, .int p1, .int (nI 0)]) (st' := []) (E' := E) (I' := I) (J' := J) (S' := S) am_e185 rfl rfl rfl rfl ?_
  exact h
theorem dg185_2 {x1 : Int32} {x2 : Int32} {E : am_Ev} {I : Nat → Nat → Int32} {J : Nat → Nat → Int64} {S : Nat → Nat → Option Nat} {Q : am_Qt}  (h : ((nI 51) ≤ x2 → (Q (.inl none) E I J S)) ∧ (¬ (nI 51) ≤ x2 → (vp_in x2 51 ∧ (vp_in (((nI 51) * x1) + x2) 20451 ∧ (dm_ww 185 2 [.ref 99, .int x1, .int (x2 + nI 1)] [] E (u_I I 117 (upd (I 117) ((((nI 51) * x1) + x2).toNatClampNeg) ((I 116) x2.toNatClampNeg))) J S Q))))) : dm_ww 185 2 [.ref 99, .int x1, .int x2] [] E I J S Q := by
  refine dw_st (i' := 3) (ls' := [.ref 99, .int x1, .int x2]) (st' := [.int x2]) (E' := E) (I' := I) (J' := J) (S' := S) am_e185 rfl rfl rfl rfl ?_
  refine dw_st (i' := 4) (ls' := [.ref 99, .int x1, .int x2]) (st' := [.int (nI 51), .int x2]) (E' := E) (I' := I) (J' := J) (S' := S) am_e185 rfl rfl rfl rfl ?_
  refine dw_if2 am_e185 rfl rfl (fun c => ?_) (fun c => ?_)
  · replace h := h.1 (of_decide_eq_true c)
    exact dw_end am_e185 rfl rfl rfl h
  · replace h := h.2 (of_decide_eq_false c)
    refine dw_st (i' := 6) (ls' := [.ref 99, .int x1, .int x2]) (st' := [.ref 99]) (E' := E) (I' := I) (J' := J) (S' := S) am_e185 rfl rfl rfl rfl ?_
    refine dw_st (i' := 7) (ls' := [.ref 99, .int x1, .int x2]) (st' := [.ref 117]) (E' := E) (I' := I) (J' := J) (S' := S) am_e185 rfl rfl rfl rfl ?_
    refine dw_st (i' := 8) (ls' := [.ref 99, .int x1, .int x2]) (st' := [.int (nI 51), .ref 117]) (E' := E) (I' := I) (J' := J) (S' := S) am_e185 rfl rfl rfl rfl ?_
    refine dw_st (i' := 9) (ls' := [.ref 99, .int x1, .int x2]) (st' := [.int x1, .int (nI 51), .ref 117]) (E' := E) (I' := I) (J' := J) (S' := S) am_e185 rfl rfl rfl rfl ?_
    refine dw_st (i' := 10) (ls' := [.ref 99, .int x1, .int x2]) (st' := [.int ((nI 51) * x1), .ref 117]) (E' := E) (I' := I) (J' := J) (S' := S) am_e185 rfl rfl rfl rfl ?_
    refine dw_st (i' := 11) (ls' := [.ref 99, .int x1, .int x2]) (st' := [.int x2, .int ((nI 51) * x1), .ref 117]) (E' := E) (I' := I) (J' := J) (S' := S) am_e185 rfl rfl rfl rfl ?_
    refine dw_st (i' := 12) (ls' := [.ref 99, .int x1, .int x2]) (st' := [.int (((nI 51) * x1) + x2), .ref 117]) (E' := E) (I' := I) (J' := J) (S' := S) am_e185 rfl rfl rfl rfl ?_
    refine dw_st (i' := 13) (ls' := [.ref 99, .int x1, .int x2]) (st' := [.ref 99, .int (((nI 51) * x1) + x2), .ref 117]) (E' := E) (I' := I) (J' := J) (S' := S) am_e185 rfl rfl rfl rfl ?_
    refine dw_st (i' := 14) (ls' := [.ref 99, .int x1, .int x2]) (st' := [.ref 116, .int (((nI 51) * x1) + x2), .ref 117]) (E' := E) (I' := I) (J' := J) (S' := S) am_e185 rfl rfl rfl rfl ?_
    refine dw_st (i' := 15) (ls' := [.ref 99, .int x1, .int x2]) (st' := [.int x2, .ref 116, .int (((nI 51) * x1) + x2), .ref 117]) (E' := E) (I' := I) (J' := J) (S' := S) am_e185 rfl rfl rfl rfl ?_
    have hf1 := h.1
    replace h := h.2
    refine dw_ia (k := 116) (n := 51) (jn := x2.toNatClampNeg) am_e185 rfl rfl (by decide) hf1 rfl ?_
    have hf2 := h.1
    replace h := h.2
    refine dw_is (k := 117) (n := 20451) (jn := (((nI 51) * x1) + x2).toNatClampNeg) am_e185 rfl rfl (by decide) hf2 rfl ?_
    show dm_ww 185 17 [.ref 99, .int x1, .int x2] [] E (u_I I 117 (upd (I 117) ((((nI 51) * x1) + x2).toNatClampNeg) ((I 116) x2.toNatClampNeg))) J S _
    refine dw_st (i' := 18) (ls' := [.ref 99, .int x1, .int (x2 + nI 1)]) (st' := []) (E' := E) (I' := (u_I I 117 (upd (I 117) ((((nI 51) * x1) + x2).toNatClampNeg) ((I 116) x2.toNatClampNeg)))) (J' := J) (S' := S) am_e185 rfl rfl rfl rfl ?_
    refine dw_st (i' := 2) (ls' := [.ref 99, .int x1, .int (x2 + nI 1)]) (st' := []) (E' := E) (I' := (u_I I 117 (upd (I 117) ((((nI 51) * x1) + x2).toNatClampNeg) ((I 116) x2.toNatClampNeg)))) (J' := J) (S' := S) am_e185 rfl rfl rfl rfl ?_
    exact h
theorem dm185 {E : am_Ev} {I : Nat → Nat → Int32} {J : Nat → Nat → Int64} {S : Nat → Nat → Option Nat} {Q : am_Qt} {t : Nat} (ht : t ≤ 400) (h : Q (.inl none) E (u_I I 117 (cpk (I 117) (I 116) (51 * t) 51)) J S) : dm_cl 185 [.ref 99, .int (nI t)] E I J S Q := by
  show dm_ww 185 0 [.ref 99, .int (nI t), am_U] [] E I J S Q
  apply dg185_0
  have l : ∀ m k, k + m = 51 → dm_ww 185 2 [.ref 99, .int (nI t), .int (nI k)] [] E (u_I I 117 (cpk (I 117) (I 116) (51 * t) k)) J S Q := by
    intro m
    induction m with
    | zero =>
      intro k e
      have : k = 51 := by omega
      subst this
      apply dg185_2
      exact ⟨fun _ => h, fun q => absurd (Int32.le_refl _) q⟩
    | succ m ih =>
      intro k e
      apply dg185_2
      have e116 : u_I I 117 (cpk (I 117) (I 116) (51 * t) k) 116 = I 116 := u_I_ne (by decide)
      simp (disch := omega) only [Nat.reduceEqDiff, reduceIte, nI_mulI, nI_add, nI_clamp, nI_ltI, nI_leI, nI_eq, nI_e0, nI_n0, vt, forall_eq, true_and, and_true, true_implies, forall_const, not_true_eq_false, not_false_eq_true, false_implies, implies_true, uI_0, u_I_eq, e116, cpk_s]
      exact ⟨fun q => absurd q (by omega), fun _ => ih (k + 1) (by omega)⟩
  have := l 51 0 (by omega)
  rw [cpk_0, u_I_id] at this
  exact this
theorem dm184 {E : am_Ev} {I : Nat → Nat → Int32} {J : Nat → Nat → Int64} {S : Nat → Nat → Option Nat} {Q : am_Qt} {seed : Int32} (h : ∀ f, e51 f (m_first I seed) → Q (.inl none) E (u_I I 116 f) J S) : dm_cl 184 [.ref 99, .int seed] E I J S Q := by
  show dm_ww 184 0 [.ref 99, .int seed, am_U] [] E I J S Q
  apply dg184_0
  have l2 : ∀ m k f, k + m = 4 → (∀ j, j < 51 → f j = if j < 16 then I 104 j else if 40 ≤ j ∧ j < 40 + k then -1 else nI 0) → dm_ww 184 22 [.ref 99, .int seed, .int (nI k)] [] E (u_I I 116 f) J S Q := by
    intro m
    induction m with
    | zero =>
      intro k f e hf
      have : k = 4 := by omega
      subst this
      apply dg184_22
      simp only [uI_0, u_I_eq]
      refine ⟨fun _ => h _ (fun j hj => ?_), fun q => absurd (Int32.le_refl _) q⟩
      unfold m_first
      by_cases c46 : j = 46
      · subst c46
        rw [upd_eq, if_neg (by omega), if_neg (by omega), if_pos rfl]
      · rw [upd_ne c46]
        by_cases c44 : j = 44
        · subst c44
          rw [upd_eq, if_neg (by omega), if_pos (by omega)]
        · rw [upd_ne c44, hf j hj]
          by_cases c1 : j < 16
          · rw [if_pos c1, if_pos c1]
          · rw [if_neg c1, if_neg c1]
            by_cases c2 : 40 ≤ j ∧ j < 40 + 4
            · rw [if_pos c2, if_pos (by omega)]
            · rw [if_neg c2, if_neg (by omega), if_neg c46]
    | succ m ih =>
      intro k f e hf
      apply dg184_22
      simp (disch := omega) only [Nat.reduceEqDiff, reduceIte, nI_mulI, nI_add, nI_clamp, nI_ltI, nI_leI, nI_eq, nI_e0, nI_n0, vt, forall_eq, true_and, and_true, true_implies, forall_const, not_true_eq_false, not_false_eq_true, false_implies, implies_true, uI_0, u_I_eq]
      refine ⟨fun q => absurd q (by omega), fun _ => ih (k + 1) _ (by omega) (fun j hj => ?_)⟩
      by_cases c : j = 40 + k
      · subst c
        rw [upd_eq, if_neg (by omega), if_pos (by omega)]
      · rw [upd_ne c, hf j hj]
        by_cases c1 : j < 16
        · rw [if_pos c1, if_pos c1]
        · rw [if_neg c1, if_neg c1]
          by_cases c2 : 40 ≤ j ∧ j < 40 + k
          · rw [if_pos c2, if_pos (by omega)]
          · rw [if_neg c2, if_neg (by omega)]
  have l : ∀ m k f, k + m = 51 → (∀ j, j < k → f j = if j < 16 then I 104 j else nI 0) → dm_ww 184 2 [.ref 99, .int seed, .int (nI k)] [] E (u_I I 116 f) J S Q := by
    intro m
    induction m with
    | zero =>
      intro k f e hf
      have : k = 51 := by omega
      subst this
      apply dg184_2
      refine ⟨fun _ => l2 4 0 f (by omega) (fun j hj => ?_), fun q => absurd (Int32.le_refl _) q⟩
      rw [hf j hj]
      by_cases c1 : j < 16
      · rw [if_pos c1, if_pos c1]
      · rw [if_neg c1, if_neg c1, if_neg (by omega)]
    | succ m ih =>
      intro k f e hf
      apply dg184_2
      have e104 : u_I I 116 f 104 = I 104 := u_I_ne (by decide)
      simp (disch := omega) only [Nat.reduceEqDiff, reduceIte, nI_mulI, nI_add, nI_clamp, nI_ltI, nI_leI, nI_eq, nI_e0, nI_n0, vt, forall_eq, true_and, and_true, true_implies, forall_const, not_true_eq_false, not_false_eq_true, false_implies, implies_true, uI_0, u_I_eq, e104]
      refine ⟨fun q => absurd q (by omega), fun _ => ⟨fun c => vp_in_nI (by omega) (by omega), ih (k + 1) _ (by omega) (fun j hj => ?_)⟩⟩
      by_cases c : j = k
      · subst c
        rw [upd_eq]
        by_cases c1 : 16 ≤ j
        · rw [if_pos c1, if_neg (by omega)]
        · rw [if_neg c1, if_pos (by omega)]
      · rw [upd_ne c, hf j (by omega)]
  have := l 51 0 (I 116) (by omega) (fun j hj => absurd hj (by omega))
  rw [u_I_id] at this
  exact this
