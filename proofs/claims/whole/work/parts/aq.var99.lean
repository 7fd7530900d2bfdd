/-! rows for the state of 99 objects, by program -/
def kk9 (k f : Nat) : Option Nat := if k < 99 then am_kk k f else none
def bm_M (E : am_Ev) (I : Nat → Nat → Int32) (J : Nat → Nat → Int64) (S : Nat → Nat → Option Nat) : am_St := (99, E.1, E.2.1, E.2.2, I, J, kk9, S)
def bm_ww (y i : Nat) (ls st : List Value) (E : am_Ev) (I : Nat → Nat → Int32) (J : Nat → Nat → Int64) (S : Nat → Nat → Option Nat) (Q : am_Qt) : Prop := am_wp y i ls st (bm_M E I J S) (fun r τ => ∃ E' I' J' S', τ = bm_M E' I' J' S' ∧ Q r E' I' J' S')
def bm_cl (z : Nat) (as : List Value) (E : am_Ev) (I : Nat → Nat → Int32) (J : Nat → Nat → Int64) (S : Nat → Nat → Option Nat) (Q : am_Qt) : Prop := bm_ww z 0 (am_l0 z as) [] E I J S Q
section Rulesb
variable {y i i' z : Nat} {ls st ls' st' as rest : List Value} {E E' : am_Ev} {I I' : Nat → Nat → Int32} {J J' : Nat → Nat → Int64} {S S' : Nat → Nat → Option Nat} {Q Q' : am_Qt} {cc : List Instr} {ins : Instr}
theorem bm_ww.mono (h : bm_ww y i ls st E I J S Q) (hq : ∀ r E I J S, Q r E I J S → Q' r E I J S) : bm_ww y i ls st E I J S Q' :=
  am_wp_mono h (fun r τ ⟨E1, I1, J1, S1, h1, h2⟩ => ⟨E1, I1, J1, S1, h1, hq _ _ _ _ _ h2⟩)
theorem bw_st (hc : am_code y = cc) (hi : cc[i]? = some ins) (ht : am_tgt ins = none) (he : am_end ins y st (bm_M E I J S) = none) (hs : am_step ins i ls st (bm_M E I J S) = some (i', ls', st', bm_M E' I' J' S')) (k : bm_ww y i' ls' st' E' I' J' S' Q) : bm_ww y i ls st E I J S Q :=
  am_wp_step (by rw [hc]; exact hi) ht he hs k
theorem bw_end {r : Option Value ⊕ Nat} (hc : am_code y = cc) (hi : cc[i]? = some ins) (ht : am_tgt ins = none) (he : am_end ins y st (bm_M E I J S) = some (r, bm_M E' I' J' S')) (k : Q r E' I' J' S') : bm_ww y i ls st E I J S Q :=
  am_wp_end (by rw [hc]; exact hi) ht he ⟨E', I', J', S', rfl, k⟩
theorem bw_cI (hc : am_code y = cc) (hi : cc[i]? = some ins) (ht : am_tgt ins = some z) (hst : st = as.reverse ++ rest) (hck : am_ck y z ins as rest (bm_M E I J S) = true) (k : bm_cl z as E I J S (q_I fun v E I J S => bm_ww y (i + 1) ls (.int v :: rest) E I J S Q)) : bm_ww y i ls st E I J S Q := by
  refine am_wp_call (by rw [hc]; exact hi) ht hst hck (am_wp_mono k ?_)
  rintro r τ ⟨E1, I1, J1, S1, rfl, v, rfl, h⟩
  exact h
theorem bw_cV (hc : am_code y = cc) (hi : cc[i]? = some ins) (ht : am_tgt ins = some z) (hst : st = as.reverse ++ rest) (hck : am_ck y z ins as rest (bm_M E I J S) = true) (k : bm_cl z as E I J S (q_V fun E I J S => bm_ww y (i + 1) ls rest E I J S Q)) : bm_ww y i ls st E I J S Q := by
  refine am_wp_call (by rw [hc]; exact hi) ht hst hck (am_wp_mono k ?_)
  rintro r τ ⟨E1, I1, J1, S1, rfl, rfl, h⟩
  exact h
theorem bw_cR (hc : am_code y = cc) (hi : cc[i]? = some ins) (ht : am_tgt ins = some z) (hst : st = as.reverse ++ rest) (hck : am_ck y z ins as rest (bm_M E I J S) = true) (k : bm_cl z as E I J S (q_R fun v E I J S => bm_ww y (i + 1) ls (.ref v :: rest) E I J S Q)) : bm_ww y i ls st E I J S Q := by
  refine am_wp_call (by rw [hc]; exact hi) ht hst hck (am_wp_mono k ?_)
  rintro r τ ⟨E1, I1, J1, S1, rfl, v, rfl, h⟩
  exact h
/-- a call that may throw -/
theorem bw_cX (hc : am_code y = cc) (hi : cc[i]? = some ins) (ht : am_tgt ins = some z) (hst : st = as.reverse ++ rest) (hck : am_ck y z ins as rest (bm_M E I J S) = true) (hy : am_hdL.getD y [] = []) (k : bm_cl z as E I J S (fun r E I J S => match r with
    | .inl v => bm_ww y (i + 1) ls (v.toList ++ rest) E I J S Q
    | .inr e => Q (.inr e) E I J S)) : bm_ww y i ls st E I J S Q := by
  refine am_wp_call (by rw [hc]; exact hi) ht hst hck (am_wp_mono k ?_)
  rintro r τ ⟨E1, I1, J1, S1, rfl, h⟩
  cases r with
  | inl v => exact h
  | inr e =>
    have hd : am_hd y e = none := by unfold am_hd; rw [hy]; rfl
    dsimp only
    rw [hd]
    exact ⟨by rw [hy]; rfl, _, _, _, _, rfl, h⟩
/-- a call in a method that catches -/
theorem bw_cH (hc : am_code y = cc) (hi : cc[i]? = some ins) (ht : am_tgt ins = some z) (hst : st = as.reverse ++ rest) (hck : am_ck y z ins as rest (bm_M E I J S) = true) (k : bm_cl z as E I J S (fun r E I J S => match r with
    | .inl v => bm_ww y (i + 1) ls (v.toList ++ rest) E I J S Q
    | .inr e => ∃ n, am_hd y e = some n ∧ Q (.inl (some (.int (nI n)))) E I J S)) : bm_ww y i ls st E I J S Q := by
  refine am_wp_call (by rw [hc]; exact hi) ht hst hck (am_wp_mono k ?_)
  rintro r τ ⟨E1, I1, J1, S1, rfl, h⟩
  cases r with
  | inl v => exact h
  | inr e =>
    obtain ⟨n, hd, h⟩ := h
    dsimp only
    rw [hd]
    exact ⟨_, _, _, _, rfl, h⟩
theorem bw_if1 {o : ClassFile.Cond} {t : Int} {tn : Nat} {x : Int32} {r : List Value} (hc : am_code y = cc) (hi : cc[i]? = some (.ifCond o t)) (hn : t.toNat = tn) (kt : am_cz o x = true → bm_ww y tn ls r E I J S Q) (kf : am_cz o x = false → bm_ww y (i + 1) ls r E I J S Q) : bm_ww y i ls (.int x :: r) E I J S Q := by
  subst hn
  cases h : am_cz o x with
  | true => exact bw_st hc hi rfl rfl (by simp only [am_step, h]; rfl) (kt h)
  | false => exact bw_st hc hi rfl rfl (by simp only [am_step, h]; rfl) (kf h)
theorem bw_if2 {o : ClassFile.Cond} {t : Int} {tn : Nat} {x v : Int32} {r : List Value} (hc : am_code y = cc) (hi : cc[i]? = some (.if_icmp o t)) (hn : t.toNat = tn) (kt : am_cc o x v = true → bm_ww y tn ls r E I J S Q) (kf : am_cc o x v = false → bm_ww y (i + 1) ls r E I J S Q) : bm_ww y i ls (.int v :: .int x :: r) E I J S Q := by
  subst hn
  cases h : am_cc o x v with
  | true => exact bw_st hc hi rfl rfl (by simp only [am_step, h]; rfl) (kt h)
  | false => exact bw_st hc hi rfl rfl (by simp only [am_step, h]; rfl) (kf h)
theorem bm_okM {k t : Nat} (hk : k < 99) (ht : (am_tau k).1 = t) : am_ok (bm_M E I J S) k t = true := by
  unfold am_ok
  rw [ht]
  have h : k < g_N (bm_M E I J S) := hk
  simp [h]

theorem bw_ia {k n jn : Nat} {j : Int32} {r : List Value} (hc : am_code y = cc) (hi : cc[i]? = some .iaload) (ht : am_tau k = (0, n)) (hk : k < 99) (hin : vp_in j n) (hj : j.toNatClampNeg = jn) (kk : bm_ww y (i + 1) ls (.int (I k jn) :: r) E I J S Q) : bm_ww y i ls (.int j :: .ref k :: r) E I J S Q := by
  subst hj
  refine bw_st hc hi rfl rfl ?_ kk
  show am_ald .iaload i ls (.int j :: .ref k :: r) (bm_M E I J S) = _
  unfold am_ald
  dsimp only
  rw [if_pos (show k < 1000000 by omega), ht]
  dsimp only
  rw [bm_okM hk (by rw [ht]), am_out_of hin]
  rfl
theorem bw_la {k n jn : Nat} {j : Int32} {r : List Value} (hc : am_code y = cc) (hi : cc[i]? = some .laload) (ht : am_tau k = (1, n)) (hk : k < 99) (hin : vp_in j n) (hj : j.toNatClampNeg = jn) (kk : bm_ww y (i + 1) ls (.long (J k jn) :: r) E I J S Q) : bm_ww y i ls (.int j :: .ref k :: r) E I J S Q := by
  subst hj
  refine bw_st hc hi rfl rfl ?_ kk
  show am_ald .laload i ls (.int j :: .ref k :: r) (bm_M E I J S) = _
  unfold am_ald
  dsimp only
  rw [if_pos (show k < 1000000 by omega), ht]
  dsimp only
  rw [bm_okM hk (by rw [ht]), am_out_of hin]
  rfl
theorem bw_ba {k n jn : Nat} {j : Int32} {r : List Value} (hc : am_code y = cc) (hi : cc[i]? = some .baload) (ht : am_tau k = (2, n)) (hk : k < 99) (hin : vp_in j n) (hj : j.toNatClampNeg = jn) (kk : bm_ww y (i + 1) ls (.int (I k jn) :: r) E I J S Q) : bm_ww y i ls (.int j :: .ref k :: r) E I J S Q := by
  subst hj
  refine bw_st hc hi rfl rfl ?_ kk
  show am_ald .baload i ls (.int j :: .ref k :: r) (bm_M E I J S) = _
  unfold am_ald
  dsimp only
  rw [if_pos (show k < 1000000 by omega), ht]
  dsimp only
  rw [bm_okM hk (by rw [ht]), am_out_of hin]
  rfl
theorem bw_za {k n jn : Nat} {j : Int32} {r : List Value} (hc : am_code y = cc) (hi : cc[i]? = some .baload) (ht : am_tau k = (3, n)) (hk : k < 99) (hin : vp_in j n) (hj : j.toNatClampNeg = jn) (kk : bm_ww y (i + 1) ls (.int (I k jn) :: r) E I J S Q) : bm_ww y i ls (.int j :: .ref k :: r) E I J S Q := by
  subst hj
  refine bw_st hc hi rfl rfl ?_ kk
  show am_ald .baload i ls (.int j :: .ref k :: r) (bm_M E I J S) = _
  unfold am_ald
  dsimp only
  rw [if_pos (show k < 1000000 by omega), ht]
  dsimp only
  rw [bm_okM hk (by rw [ht]), am_out_of hin]
  rfl
theorem bw_is {k n jn : Nat} {j : Int32} {x : Int32} {r : List Value} (hc : am_code y = cc) (hi : cc[i]? = some .iastore) (ht : am_tau k = (0, n)) (hk : k < 99) (hin : vp_in j n) (hj : j.toNatClampNeg = jn) (kk : bm_ww y (i + 1) ls r E (u_I I k (upd (I k) jn x)) J S Q) : bm_ww y i ls (.int x :: .int j :: .ref k :: r) E I J S Q := by
  subst hj
  refine bw_st hc hi rfl rfl ?_ kk
  show am_ast .iastore i ls (.int x :: .int j :: .ref k :: r) (bm_M E I J S) = _
  unfold am_ast
  dsimp only
  rw [if_pos (show k < 1000000 by omega), ht]
  dsimp only
  rw [bm_okM hk (by rw [ht]), am_out_of hin]
  rfl
theorem bw_ls {k n jn : Nat} {j : Int32} {x : Int64} {r : List Value} (hc : am_code y = cc) (hi : cc[i]? = some .lastore) (ht : am_tau k = (1, n)) (hk : k < 99) (hin : vp_in j n) (hj : j.toNatClampNeg = jn) (kk : bm_ww y (i + 1) ls r E I (u_J J k (vp_updL (J k) jn x)) S Q) : bm_ww y i ls (.long x :: .int j :: .ref k :: r) E I J S Q := by
  subst hj
  refine bw_st hc hi rfl rfl ?_ kk
  show am_ast .lastore i ls (.long x :: .int j :: .ref k :: r) (bm_M E I J S) = _
  unfold am_ast
  dsimp only
  rw [if_pos (show k < 1000000 by omega), ht]
  dsimp only
  rw [bm_okM hk (by rw [ht]), am_out_of hin]
  rfl
theorem bw_bs {k n jn : Nat} {j : Int32} {x : Int32} {r : List Value} (hc : am_code y = cc) (hi : cc[i]? = some .bastore) (ht : am_tau k = (2, n)) (hk : k < 99) (hin : vp_in j n) (hj : j.toNatClampNeg = jn) (kk : bm_ww y (i + 1) ls r E (u_I I k (upd (I k) jn (vp_nar .byte x))) J S Q) : bm_ww y i ls (.int x :: .int j :: .ref k :: r) E I J S Q := by
  subst hj
  refine bw_st hc hi rfl rfl ?_ kk
  show am_ast .bastore i ls (.int x :: .int j :: .ref k :: r) (bm_M E I J S) = _
  unfold am_ast
  dsimp only
  rw [if_pos (show k < 1000000 by omega), ht]
  dsimp only
  rw [bm_okM hk (by rw [ht]), am_out_of hin]
  rfl
theorem bw_zs {k n jn : Nat} {j : Int32} {x : Int32} {r : List Value} (hc : am_code y = cc) (hi : cc[i]? = some .bastore) (ht : am_tau k = (3, n)) (hk : k < 99) (hin : vp_in j n) (hj : j.toNatClampNeg = jn) (kk : bm_ww y (i + 1) ls r E (u_I I k (upd (I k) jn (vp_nar .boolean x))) J S Q) : bm_ww y i ls (.int x :: .int j :: .ref k :: r) E I J S Q := by
  subst hj
  refine bw_st hc hi rfl rfl ?_ kk
  show am_ast .bastore i ls (.int x :: .int j :: .ref k :: r) (bm_M E I J S) = _
  unfold am_ast
  dsimp only
  rw [if_pos (show k < 1000000 by omega), ht]
  dsimp only
  rw [bm_okM hk (by rw [ht]), am_out_of hin]
  rfl
theorem bw_sa {j : Int32} {r : List Value} (hc : am_code y = cc) (hi : cc[i]? = some .iaload) (hin : vp_in j E.2.2.1) (kk : bm_ww y (i + 1) ls (.int (E.2.2.2 j.toNatClampNeg) :: r) E I J S Q) : bm_ww y i ls (.int j :: .ref 1000000 :: r) E I J S Q := by
  refine bw_st hc hi rfl rfl ?_ kk
  show am_ald .iaload i ls (.int j :: .ref 1000000 :: r) (bm_M E I J S) = _
  unfold am_ald
  dsimp only
  rw [if_neg (by decide), if_pos rfl]
  have h : am_out j (g_L (bm_M E I J S)) = false := am_out_of hin
  rw [h]
  rfl
theorem bw_aa {k n q : Nat} {j : Int32} {r : List Value} (hc : am_code y = cc) (hi : cc[i]? = some .aaload) (ht : am_tau k = (4, n)) (hk : k < 99) (hin : vp_in j n) (hq : S k j.toNatClampNeg = some q) (hq5 : q < 55) (kk : bm_ww y (i + 1) ls (.ref (2000000 + q) :: r) E I J S Q) : bm_ww y i ls (.int j :: .ref k :: r) E I J S Q := by
  refine bw_st hc hi rfl rfl ?_ kk
  show am_ald .aaload i ls (.int j :: .ref k :: r) (bm_M E I J S) = _
  unfold am_ald
  dsimp only
  rw [if_pos (show k < 1000000 by omega), ht]
  dsimp only
  rw [bm_okM hk (by rw [ht]), am_out_of hin]
  have h : am_el (bm_M E I J S) k j.toNatClampNeg 4 = some (.ref (2000000 + q)) := by
    show (S k j.toNatClampNeg).bind _ = _
    rw [hq]
    show (if q < 55 then _ else _) = _
    rw [if_pos hq5]
  rw [h]
  rfl
theorem bw_dv {x z : Int32} {r : List Value} (hz : ¬ z = 0) (hc : am_code y = cc) (hi : cc[i]? = some .idiv) (kk : bm_ww y (i + 1) ls (.int (x / z) :: r) E I J S Q) : bm_ww y i ls (.int z :: .int x :: r) E I J S Q := by
  refine bw_st hc hi rfl rfl ?_ kk
  show Option.map _ (if z = 0 then none else some (x / z)) = _
  rw [if_neg hz]
  rfl
theorem bw_rm {x z : Int32} {r : List Value} (hz : ¬ z = 0) (hc : am_code y = cc) (hi : cc[i]? = some .irem) (kk : bm_ww y (i + 1) ls (.int (x - x / z * z) :: r) E I J S Q) : bm_ww y i ls (.int z :: .int x :: r) E I J S Q := by
  refine bw_st hc hi rfl rfl ?_ kk
  show Option.map _ (if z = 0 then none else some (x - x / z * z)) = _
  rw [if_neg hz]
  rfl
/-- a field that holds a String -/
theorem bw_gs {n k q : Nat} {r : List Value} (hc : am_code y = cc) (hi : cc[i]? = some (.getfield n)) (hk : k < 99) (hck : (decide (n < 990000) && decide ((am_tau k).1 = 10 + n / 1000) && decide (n / 10 % 100 < am_nf (n / 1000)) && decide (am_fk (n / 1000) (n / 10 % 100) = 3) && decide (n % 10 = 3)) = true) (hq : S k (n / 10 % 100) = some q) (hq5 : q < 55) (kk : bm_ww y (i + 1) ls (.ref (2000000 + q) :: r) E I J S Q) : bm_ww y i ls (.ref k :: r) E I J S Q := by
  simp only [Bool.and_eq_true, decide_eq_true_eq] at hck
  obtain ⟨⟨⟨⟨h1, h2⟩, h3⟩, h4⟩, h5⟩ := hck
  refine bw_st hc hi rfl rfl ?_ kk
  show am_get n i ls (.ref k :: r) (bm_M E I J S) = _
  unfold am_get
  dsimp only
  rw [if_pos h1, bm_okM hk h2, h5, h4]
  have h : am_fv (bm_M E I J S) k (n / 10 % 100) 3 = some (.ref (2000000 + q)) := by
    show (S k (n / 10 % 100)).bind _ = _
    rw [hq]
    show (if q < 55 then _ else _) = _
    rw [if_pos hq5]
  rw [h, if_pos (by rw [decide_eq_true h3, decide_eq_true (show k < 1000000 by omega)]; rfl)]
  rfl
theorem bw_ps {n k q : Nat} {r : List Value} (f : Nat) (hc : am_code y = cc) (hi : cc[i]? = some (.putfield n)) (hk : k < 99) (hck : (decide ((am_tau k).1 = 10 + n / 1000) && decide (n / 10 % 100 < am_nf (n / 1000)) && decide (am_fk (n / 1000) (n / 10 % 100) = 3) && decide (n % 10 = 3) && decide (n / 10 % 100 = f)) = true) (hq5 : q < 55) (kk : bm_ww y (i + 1) ls r E I J (u_S S k (am_upO (S k) f (some q))) Q) : bm_ww y i ls (.ref (2000000 + q) :: .ref k :: r) E I J S Q := by
  simp only [Bool.and_eq_true, decide_eq_true_eq] at hck
  obtain ⟨⟨⟨⟨h2, h3⟩, h4⟩, h5⟩, h6⟩ := hck
  subst h6
  refine bw_st hc hi rfl rfl ?_ kk
  show am_put n i ls (.ref (2000000 + q) :: .ref k :: r) (bm_M E I J S) = _
  unfold am_put
  dsimp only
  rw [bm_okM hk h2, h5, h4, if_pos (by rw [decide_eq_true h3, decide_eq_true (show k < 1000000 by omega)]; rfl)]
  have h : am_pv (bm_M E I J S) k (n / 10 % 100) 3 (.ref (2000000 + q)) = some (bm_M E I J (u_S S k (am_upO (S k) (n / 10 % 100) (some q)))) := by
    show (if 2000000 ≤ 2000000 + q ∧ 2000000 + q < 2000055 then _ else none) = _
    rw [if_pos ⟨by omega, by omega⟩, Nat.add_sub_cancel_left]
    rfl
  rw [h]
  rfl
/-- a boolean field -/
theorem bw_pz {n k : Nat} {x : Int32} {r : List Value} (f : Nat) (hc : am_code y = cc) (hi : cc[i]? = some (.putfield n)) (hk : k < 99) (hck : (decide ((am_tau k).1 = 10 + n / 1000) && decide (n / 10 % 100 < am_nf (n / 1000)) && decide (am_fk (n / 1000) (n / 10 % 100) = 5) && decide (n % 10 = 5) && decide (n / 10 % 100 = f)) = true) (hx : x = 0 ∨ x = 1) (kk : bm_ww y (i + 1) ls r E (u_I I k (upd (I k) f x)) J S Q) : bm_ww y i ls (.int x :: .ref k :: r) E I J S Q := by
  simp only [Bool.and_eq_true, decide_eq_true_eq] at hck
  obtain ⟨⟨⟨⟨h2, h3⟩, h4⟩, h5⟩, h6⟩ := hck
  subst h6
  refine bw_st hc hi rfl rfl ?_ kk
  show am_put n i ls (.int x :: .ref k :: r) (bm_M E I J S) = _
  unfold am_put
  dsimp only
  rw [bm_okM hk h2, h5, h4, if_pos (by rw [decide_eq_true h3, decide_eq_true (show k < 1000000 by omega)]; rfl)]
  have h : am_pv (bm_M E I J S) k (n / 10 % 100) 5 (.int x) = some (bm_M E (u_I I k (upd (I k) (n / 10 % 100) x)) J S) := by
    show (if x = 0 ∨ x = 1 then _ else none) = _
    rw [if_pos hx]
    rfl
  rw [h]
  rfl
/-- a boolean answer -/
theorem bw_rz {x : Int32} (hc : am_code y = cc) (hi : cc[i]? = some .ireturn) (hrk : am_rk y = 2) (hx : x = 0 ∨ x = 1) (kk : Q (.inl (some (.int x))) E I J S) : bm_ww y i ls [.int x] E I J S Q := by
  refine bw_end hc hi rfl ?_ kk
  show (if 1 ≤ am_rk y ∧ am_rk y ≤ 4 ∧ narrow (am_rty (am_rk y)) (.int x) = .int x then some (Sum.inl (some (Value.int x)), bm_M E I J S) else none) = _
  rw [hrk, if_pos ⟨by omega, by omega, by rcases hx with rfl | rfl <;> rfl⟩]
theorem bw_tb {d lo up : Int} {ts : Array Int} {x : Int32} {r : List Value} (hc : am_code y = cc) (hi : cc[i]? = some (.tableswitch d lo up ts)) (kk : bm_ww y (am_tab d lo up ts x) ls r E I J S Q) : bm_ww y i ls (.int x :: r) E I J S Q := bw_st hc hi rfl rfl rfl kk
theorem bw_lk {d : Int} {ps : Array (Int × Int)} {x : Int32} {r : List Value} (hc : am_code y = cc) (hi : cc[i]? = some (.lookupswitch d ps)) (kk : bm_ww y (am_look d ps.toList x) ls r E I J S Q) : bm_ww y i ls (.int x :: r) E I J S Q := bw_st hc hi rfl rfl rfl kk
theorem bw_cp {k a nk na : Nat} {sp dp n : Int32} {r : List Value} (hc : am_code y = cc) (hi : cc[i]? = some (.invokestatic 10003)) (hk : k < 99) (ha : a < 99) (htk : am_tau k = (0, nk)) (hta : am_tau a = (0, na)) (hr : (r.map fun v => v.category).sum ≤ 8) (h : am_cpOk sp dp n nk na) (kk : bm_ww y (i + 1) ls r E (u_I I a (va_cpy (I k) (I a) sp.toNatClampNeg dp.toNatClampNeg n.toNatClampNeg)) J S Q) : bm_ww y i ls (.int n :: .int dp :: .ref a :: .int sp :: .ref k :: r) E I J S Q := by
  obtain ⟨h1, h2, h3, h4, h5⟩ := h
  refine bw_st hc hi rfl rfl ?_ kk
  show (if (r.map fun v => v.category).sum ≤ 8 then am_copy i ls (.int n :: .int dp :: .ref a :: .int sp :: .ref k :: r) (bm_M E I J S) else none) = _
  rw [if_pos hr]
  unfold am_copy
  dsimp only
  rw [bm_okM hk (by rw [htk]), bm_okM ha (by rw [hta]), htk, hta, if_pos (by simp only [decide_eq_true h4, decide_eq_true h5, decide_eq_false h1, decide_eq_false h2, decide_eq_false h3, decide_eq_true (show k < 1000000 by omega), decide_eq_true (show a < 1000000 by omega), Bool.and_true, Bool.not_false])]
  rfl
end Rulesb
theorem bw_eI {y i : Nat} {ls st : List Value} {E : am_Ev} {I1 I2 : Nat → Nat → Int32} {J : Nat → Nat → Int64} {S : Nat → Nat → Option Nat} {Q : am_Qt} (h : I1 = I2) (k : bm_ww y i ls st E I2 J S Q) : bm_ww y i ls st E I1 J S Q := h ▸ k
theorem bw_mg {y i i0 : Nat} {ls0 st0 ls' st' : List Value} {E : am_Ev} {I : Nat → Nat → Int32} {J : Nat → Nat → Int64} {S : Nat → Nat → Option Nat} {Q : am_Qt} (k : bm_ww y i ls' st' E I J S Q → bm_ww y i0 ls0 st0 E I J S Q) (h : bm_ww y i ls' st' E I J S Q) : bm_ww y i0 ls0 st0 E I J S Q := k h
theorem bg13_0_13 {p2 : Int32} {E : am_Ev} {I : Nat → Nat → Int32} {J : Nat → Nat → Int64} {S : Nat → Nat → Option Nat} {Q : am_Qt}  (h : bm_ww 13 5 [.ref 13, .int p2, .int (nI 0), .int (nI 64)] [] E I J S Q) : bm_ww 13 0 [.ref 13, .int p2, am_U, am_U] [] E I J S Q := by
  refine bw_st (i' := 1) (ls' := [.ref 13, .int p2, am_U, am_U]) (st' := [.int (nI 0)]) (E' := E) (I' := I) (J' := J) (S' := S) am_e13 rfl rfl rfl rfl ?_
  refine bw_st (i' := 2) (ls' := [.ref 13, .int p2, .int (nI 0), am_U]) (st' := []) (E' := E) (I' := I) (J' := J) (S' := S) am_e13 rfl rfl rfl rfl ?_
  refine bw_st (i' := 3) (ls' := [.ref 13, .int p2, .int (nI 0), am_U]) (st' := [.ref 13]) (E' := E) (I' := I) (J' := J) (S' := S) am_e13 rfl rfl rfl rfl ?_
  refine bw_st (i' := 4) (ls' := [.ref 13, .int p2, .int (nI 0), am_U]) (st' := [.int (nI 64)]) (E' := E) (I' := I) (J' := J) (S' := S) am_e13 rfl rfl rfl rfl ?_
  refine bw_st (i' := 5) (ls' := [.ref 13, .int p2, .int (nI 0), .int (nI 64)]) (st' := []) (E' := E) (I' := I) (J' := J) (S' := S) am_e13 rfl rfl rfl rfl ?_
  exact h
theorem bg13_5_13 {x1 : Int32} {x2 : Int32} {x3 : Int32} {E : am_Ev} {I : Nat → Nat → Int32} {J : Nat → Nat → Int64} {S : Nat → Nat → Option Nat} {Q : am_Qt}  (h : (x3 ≤ x2 → (Q (.inl none) E I J S)) ∧ (¬ x3 ≤ x2 → (vp_in x2 64 ∧ (bm_ww 13 5 [.ref 13, .int x1, .int (x2 + nI 1), .int x3] [] E (u_I I 13 (upd (I 13) x2.toNatClampNeg x1)) J S Q)))) : bm_ww 13 5 [.ref 13, .int x1, .int x2, .int x3] [] E I J S Q := by
  refine bw_st (i' := 6) (ls' := [.ref 13, .int x1, .int x2, .int x3]) (st' := [.int x2]) (E' := E) (I' := I) (J' := J) (S' := S) am_e13 rfl rfl rfl rfl ?_
  refine bw_st (i' := 7) (ls' := [.ref 13, .int x1, .int x2, .int x3]) (st' := [.int x3, .int x2]) (E' := E) (I' := I) (J' := J) (S' := S) am_e13 rfl rfl rfl rfl ?_
  refine bw_if2 am_e13 rfl rfl (fun c => ?_) (fun c => ?_)
  · replace h := h.1 (of_decide_eq_true c)
    exact bw_end am_e13 rfl rfl rfl h
  · replace h := h.2 (of_decide_eq_false c)
    refine bw_st (i' := 9) (ls' := [.ref 13, .int x1, .int x2, .int x3]) (st' := [.ref 13]) (E' := E) (I' := I) (J' := J) (S' := S) am_e13 rfl rfl rfl rfl ?_
    refine bw_st (i' := 10) (ls' := [.ref 13, .int x1, .int x2, .int x3]) (st' := [.int x2, .ref 13]) (E' := E) (I' := I) (J' := J) (S' := S) am_e13 rfl rfl rfl rfl ?_
    refine bw_st (i' := 11) (ls' := [.ref 13, .int x1, .int x2, .int x3]) (st' := [.int x1, .int x2, .ref 13]) (E' := E) (I' := I) (J' := J) (S' := S) am_e13 rfl rfl rfl rfl ?_
    have hf1 := h.1
    replace h := h.2
    refine bw_is (k := 13) (n := 64) (jn := x2.toNatClampNeg) am_e13 rfl rfl (by decide) hf1 rfl ?_
    show bm_ww 13 12 [.ref 13, .int x1, .int x2, .int x3] [] E (u_I I 13 (upd (I 13) x2.toNatClampNeg x1)) J S _
    refine bw_st (i' := 13) (ls' := [.ref 13, .int x1, .int (x2 + nI 1), .int x3]) (st' := []) (E' := E) (I' := (u_I I 13 (upd (I 13) x2.toNatClampNeg x1))) (J' := J) (S' := S) am_e13 rfl rfl rfl rfl ?_
    refine bw_st (i' := 5) (ls' := [.ref 13, .int x1, .int (x2 + nI 1), .int x3]) (st' := []) (E' := E) (I' := (u_I I 13 (upd (I 13) x2.toNatClampNeg x1))) (J' := J) (S' := S) am_e13 rfl rfl rfl rfl ?_
    exact h
theorem bg13_0_14 {p2 : Int32} {E : am_Ev} {I : Nat → Nat → Int32} {J : Nat → Nat → Int64} {S : Nat → Nat → Option Nat} {Q : am_Qt}  (h : bm_ww 13 5 [.ref 14, .int p2, .int (nI 0), .int (nI 192)] [] E I J S Q) : bm_ww 13 0 [.ref 14, .int p2, am_U, am_U] [] E I J S Q := by
  refine bw_st (i' := 1) (ls' := [.ref 14, .int p2, am_U, am_U]) (st' := [.int (nI 0)]) (E' := E) (I' := I) (J' := J) (S' := S) am_e13 rfl rfl rfl rfl ?_
  refine bw_st (i' := 2) (ls' := [.ref 14, .int p2, .int (nI 0), am_U]) (st' := []) (E' := E) (I' := I) (J' := J) (S' := S) am_e13 rfl rfl rfl rfl ?_
  refine bw_st (i' := 3) (ls' := [.ref 14, .int p2, .int (nI 0), am_U]) (st' := [.ref 14]) (E' := E) (I' := I) (J' := J) (S' := S) am_e13 rfl rfl rfl rfl ?_
  refine bw_st (i' := 4) (ls' := [.ref 14, .int p2, .int (nI 0), am_U]) (st' := [.int (nI 192)]) (E' := E) (I' := I) (J' := J) (S' := S) am_e13 rfl rfl rfl rfl ?_
  refine bw_st (i' := 5) (ls' := [.ref 14, .int p2, .int (nI 0), .int (nI 192)]) (st' := []) (E' := E) (I' := I) (J' := J) (S' := S) am_e13 rfl rfl rfl rfl ?_
  exact h
theorem bg13_5_14 {x1 : Int32} {x2 : Int32} {x3 : Int32} {E : am_Ev} {I : Nat → Nat → Int32} {J : Nat → Nat → Int64} {S : Nat → Nat → Option Nat} {Q : am_Qt}  (h : (x3 ≤ x2 → (Q (.inl none) E I J S)) ∧ (¬ x3 ≤ x2 → (vp_in x2 192 ∧ (bm_ww 13 5 [.ref 14, .int x1, .int (x2 + nI 1), .int x3] [] E (u_I I 14 (upd (I 14) x2.toNatClampNeg x1)) J S Q)))) : bm_ww 13 5 [.ref 14, .int x1, .int x2, .int x3] [] E I J S Q := by
  refine bw_st (i' := 6) (ls' := [.ref 14, .int x1, .int x2, .int x3]) (st' := [.int x2]) (E' := E) (I' := I) (J' := J) (S' := S) am_e13 rfl rfl rfl rfl ?_
  refine bw_st (i' := 7) (ls' := [.ref 14, .int x1, .int x2, .int x3]) (st' := [.int x3, .int x2]) (E' := E) (I' := I) (J' := J) (S' := S) am_e13 rfl rfl rfl rfl ?_
  refine bw_if2 am_e13 rfl rfl (fun c => ?_) (fun c => ?_)
  · replace h := h.1 (of_decide_eq_true c)
    exact bw_end am_e13 rfl rfl rfl h
  · replace h := h.2 (of_decide_eq_false c)
    refine bw_st (i' := 9) (ls' := [.ref 14, .int x1, .int x2, .int x3]) (st' := [.ref 14]) (E' := E) (I' := I) (J' := J) (S' := S) am_e13 rfl rfl rfl rfl ?_
    refine bw_st (i' := 10) (ls' := [.ref 14, .int x1, .int x2, .int x3]) (st' := [.int x2, .ref 14]) (E' := E) (I' := I) (J' := J) (S' := S) am_e13 rfl rfl rfl rfl ?_
    refine bw_st (i' := 11) (ls' := [.ref 14, .int x1, .int x2, .int x3]) (st' := [.int x1, .int x2, .ref 14]) (E' := E) (I' := I) (J' := J) (S' := S) am_e13 rfl rfl rfl rfl ?_
    have hf1 := h.1
    replace h := h.2
    refine bw_is (k := 14) (n := 192) (jn := x2.toNatClampNeg) am_e13 rfl rfl (by decide) hf1 rfl ?_
    show bm_ww 13 12 [.ref 14, .int x1, .int x2, .int x3] [] E (u_I I 14 (upd (I 14) x2.toNatClampNeg x1)) J S _
    refine bw_st (i' := 13) (ls' := [.ref 14, .int x1, .int (x2 + nI 1), .int x3]) (st' := []) (E' := E) (I' := (u_I I 14 (upd (I 14) x2.toNatClampNeg x1))) (J' := J) (S' := S) am_e13 rfl rfl rfl rfl ?_
    refine bw_st (i' := 5) (ls' := [.ref 14, .int x1, .int (x2 + nI 1), .int x3]) (st' := []) (E' := E) (I' := (u_I I 14 (upd (I 14) x2.toNatClampNeg x1))) (J' := J) (S' := S) am_e13 rfl rfl rfl rfl ?_
    exact h
theorem bg13_0_15 {p2 : Int32} {E : am_Ev} {I : Nat → Nat → Int32} {J : Nat → Nat → Int64} {S : Nat → Nat → Option Nat} {Q : am_Qt}  (h : bm_ww 13 5 [.ref 15, .int p2, .int (nI 0), .int (nI 4)] [] E I J S Q) : bm_ww 13 0 [.ref 15, .int p2, am_U, am_U] [] E I J S Q := by
  refine bw_st (i' := 1) (ls' := [.ref 15, .int p2, am_U, am_U]) (st' := [.int (nI 0)]) (E' := E) (I' := I) (J' := J) (S' := S) am_e13 rfl rfl rfl rfl ?_
  refine bw_st (i' := 2) (ls' := [.ref 15, .int p2, .int (nI 0), am_U]) (st' := []) (E' := E) (I' := I) (J' := J) (S' := S) am_e13 rfl rfl rfl rfl ?_
  refine bw_st (i' := 3) (ls' := [.ref 15, .int p2, .int (nI 0), am_U]) (st' := [.ref 15]) (E' := E) (I' := I) (J' := J) (S' := S) am_e13 rfl rfl rfl rfl ?_
  refine bw_st (i' := 4) (ls' := [.ref 15, .int p2, .int (nI 0), am_U]) (st' := [.int (nI 4)]) (E' := E) (I' := I) (J' := J) (S' := S) am_e13 rfl rfl rfl rfl ?_
  refine bw_st (i' := 5) (ls' := [.ref 15, .int p2, .int (nI 0), .int (nI 4)]) (st' := []) (E' := E) (I' := I) (J' := J) (S' := S) am_e13 rfl rfl rfl rfl ?_
  exact h
theorem bg13_5_15 {x1 : Int32} {x2 : Int32} {x3 : Int32} {E : am_Ev} {I : Nat → Nat → Int32} {J : Nat → Nat → Int64} {S : Nat → Nat → Option Nat} {Q : am_Qt}  (h : (x3 ≤ x2 → (Q (.inl none) E I J S)) ∧ (¬ x3 ≤ x2 → (vp_in x2 4 ∧ (bm_ww 13 5 [.ref 15, .int x1, .int (x2 + nI 1), .int x3] [] E (u_I I 15 (upd (I 15) x2.toNatClampNeg x1)) J S Q)))) : bm_ww 13 5 [.ref 15, .int x1, .int x2, .int x3] [] E I J S Q := by
  refine bw_st (i' := 6) (ls' := [.ref 15, .int x1, .int x2, .int x3]) (st' := [.int x2]) (E' := E) (I' := I) (J' := J) (S' := S) am_e13 rfl rfl rfl rfl ?_
  refine bw_st (i' := 7) (ls' := [.ref 15, .int x1, .int x2, .int x3]) (st' := [.int x3, .int x2]) (E' := E) (I' := I) (J' := J) (S' := S) am_e13 rfl rfl rfl rfl ?_
  refine bw_if2 am_e13 rfl rfl (fun c => ?_) (fun c => ?_)
  · replace h := h.1 (of_decide_eq_true c)
    exact bw_end am_e13 rfl rfl rfl h
  · replace h := h.2 (of_decide_eq_false c)
    refine bw_st (i' := 9) (ls' := [.ref 15, .int x1, .int x2, .int x3]) (st' := [.ref 15]) (E' := E) (I' := I) (J' := J) (S' := S) am_e13 rfl rfl rfl rfl ?_
    refine bw_st (i' := 10) (ls' := [.ref 15, .int x1, .int x2, .int x3]) (st' := [.int x2, .ref 15]) (E' := E) (I' := I) (J' := J) (S' := S) am_e13 rfl rfl rfl rfl ?_
    refine bw_st (i' := 11) (ls' := [.ref 15, .int x1, .int x2, .int x3]) (st' := [.int x1, .int x2, .ref 15]) (E' := E) (I' := I) (J' := J) (S' := S) am_e13 rfl rfl rfl rfl ?_
    have hf1 := h.1
    replace h := h.2
    refine bw_is (k := 15) (n := 4) (jn := x2.toNatClampNeg) am_e13 rfl rfl (by decide) hf1 rfl ?_
    show bm_ww 13 12 [.ref 15, .int x1, .int x2, .int x3] [] E (u_I I 15 (upd (I 15) x2.toNatClampNeg x1)) J S _
    refine bw_st (i' := 13) (ls' := [.ref 15, .int x1, .int (x2 + nI 1), .int x3]) (st' := []) (E' := E) (I' := (u_I I 15 (upd (I 15) x2.toNatClampNeg x1))) (J' := J) (S' := S) am_e13 rfl rfl rfl rfl ?_
    refine bw_st (i' := 5) (ls' := [.ref 15, .int x1, .int (x2 + nI 1), .int x3]) (st' := []) (E' := E) (I' := (u_I I 15 (upd (I 15) x2.toNatClampNeg x1))) (J' := J) (S' := S) am_e13 rfl rfl rfl rfl ?_
    exact h
theorem bg13_0_16 {p2 : Int32} {E : am_Ev} {I : Nat → Nat → Int32} {J : Nat → Nat → Int64} {S : Nat → Nat → Option Nat} {Q : am_Qt}  (h : bm_ww 13 5 [.ref 16, .int p2, .int (nI 0), .int (nI 16)] [] E I J S Q) : bm_ww 13 0 [.ref 16, .int p2, am_U, am_U] [] E I J S Q := by
  refine bw_st (i' := 1) (ls' := [.ref 16, .int p2, am_U, am_U]) (st' := [.int (nI 0)]) (E' := E) (I' := I) (J' := J) (S' := S) am_e13 rfl rfl rfl rfl ?_
  refine bw_st (i' := 2) (ls' := [.ref 16, .int p2, .int (nI 0), am_U]) (st' := []) (E' := E) (I' := I) (J' := J) (S' := S) am_e13 rfl rfl rfl rfl ?_
  refine bw_st (i' := 3) (ls' := [.ref 16, .int p2, .int (nI 0), am_U]) (st' := [.ref 16]) (E' := E) (I' := I) (J' := J) (S' := S) am_e13 rfl rfl rfl rfl ?_
  refine bw_st (i' := 4) (ls' := [.ref 16, .int p2, .int (nI 0), am_U]) (st' := [.int (nI 16)]) (E' := E) (I' := I) (J' := J) (S' := S) am_e13 rfl rfl rfl rfl ?_
  refine bw_st (i' := 5) (ls' := [.ref 16, .int p2, .int (nI 0), .int (nI 16)]) (st' := []) (E' := E) (I' := I) (J' := J) (S' := S) am_e13 rfl rfl rfl rfl ?_
  exact h
theorem bg13_5_16 {x1 : Int32} {x2 : Int32} {x3 : Int32} {E : am_Ev} {I : Nat → Nat → Int32} {J : Nat → Nat → Int64} {S : Nat → Nat → Option Nat} {Q : am_Qt}  (h : (x3 ≤ x2 → (Q (.inl none) E I J S)) ∧ (¬ x3 ≤ x2 → (vp_in x2 16 ∧ (bm_ww 13 5 [.ref 16, .int x1, .int (x2 + nI 1), .int x3] [] E (u_I I 16 (upd (I 16) x2.toNatClampNeg x1)) J S Q)))) : bm_ww 13 5 [.ref 16, .int x1, .int x2, .int x3] [] E I J S Q := by
  refine bw_st (i' := 6) (ls' := [.ref 16, .int x1, .int x2, .int x3]) (st' := [.int x2]) (E' := E) (I' := I) (J' := J) (S' := S) am_e13 rfl rfl rfl rfl ?_
  refine bw_st (i' := 7) (ls' := [.ref 16, .int x1, .int x2, .int x3]) (st' := [.int x3, .int x2]) (E' := E) (I' := I) (J' := J) (S' := S) am_e13 rfl rfl rfl rfl ?_
  refine bw_if2 am_e13 rfl rfl (fun c => ?_) (fun c => ?_)
  · replace h := h.1 (of_decide_eq_true c)
    exact bw_end am_e13 rfl rfl rfl h
  · replace h := h.2 (of_decide_eq_false c)
    refine bw_st (i' := 9) (ls' := [.ref 16, .int x1, .int x2, .int x3]) (st' := [.ref 16]) (E' := E) (I' := I) (J' := J) (S' := S) am_e13 rfl rfl rfl rfl ?_
    refine bw_st (i' := 10) (ls' := [.ref 16, .int x1, .int x2, .int x3]) (st' := [.int x2, .ref 16]) (E' := E) (I' := I) (J' := J) (S' := S) am_e13 rfl rfl rfl rfl ?_
    refine bw_st (i' := 11) (ls' := [.ref 16, .int x1, .int x2, .int x3]) (st' := [.int x1, .int x2, .ref 16]) (E' := E) (I' := I) (J' := J) (S' := S) am_e13 rfl rfl rfl rfl ?_
    have hf1 := h.1
    replace h := h.2
    refine bw_is (k := 16) (n := 16) (jn := x2.toNatClampNeg) am_e13 rfl rfl (by decide) hf1 rfl ?_
    show bm_ww 13 12 [.ref 16, .int x1, .int x2, .int x3] [] E (u_I I 16 (upd (I 16) x2.toNatClampNeg x1)) J S _
    refine bw_st (i' := 13) (ls' := [.ref 16, .int x1, .int (x2 + nI 1), .int x3]) (st' := []) (E' := E) (I' := (u_I I 16 (upd (I 16) x2.toNatClampNeg x1))) (J' := J) (S' := S) am_e13 rfl rfl rfl rfl ?_
    refine bw_st (i' := 5) (ls' := [.ref 16, .int x1, .int (x2 + nI 1), .int x3]) (st' := []) (E' := E) (I' := (u_I I 16 (upd (I 16) x2.toNatClampNeg x1))) (J' := J) (S' := S) am_e13 rfl rfl rfl rfl ?_
    exact h
theorem bg13_0_22 {p2 : Int32} {E : am_Ev} {I : Nat → Nat → Int32} {J : Nat → Nat → Int64} {S : Nat → Nat → Option Nat} {Q : am_Qt}  (h : bm_ww 13 5 [.ref 22, .int p2, .int (nI 0), .int (nI 16)] [] E I J S Q) : bm_ww 13 0 [.ref 22, .int p2, am_U, am_U] [] E I J S Q := by
  refine bw_st (i' := 1) (ls' := [.ref 22, .int p2, am_U, am_U]) (st' := [.int (nI 0)]) (E' := E) (I' := I) (J' := J) (S' := S) am_e13 rfl rfl rfl rfl ?_
  refine bw_st (i' := 2) (ls' := [.ref 22, .int p2, .int (nI 0), am_U]) (st' := []) (E' := E) (I' := I) (J' := J) (S' := S) am_e13 rfl rfl rfl rfl ?_
  refine bw_st (i' := 3) (ls' := [.ref 22, .int p2, .int (nI 0), am_U]) (st' := [.ref 22]) (E' := E) (I' := I) (J' := J) (S' := S) am_e13 rfl rfl rfl rfl ?_
  refine bw_st (i' := 4) (ls' := [.ref 22, .int p2, .int (nI 0), am_U]) (st' := [.int (nI 16)]) (E' := E) (I' := I) (J' := J) (S' := S) am_e13 rfl rfl rfl rfl ?_
  refine bw_st (i' := 5) (ls' := [.ref 22, .int p2, .int (nI 0), .int (nI 16)]) (st' := []) (E' := E) (I' := I) (J' := J) (S' := S) am_e13 rfl rfl rfl rfl ?_
  exact h
theorem bg13_5_22 {x1 : Int32} {x2 : Int32} {x3 : Int32} {E : am_Ev} {I : Nat → Nat → Int32} {J : Nat → Nat → Int64} {S : Nat → Nat → Option Nat} {Q : am_Qt}  (h : (x3 ≤ x2 → (Q (.inl none) E I J S)) ∧ (¬ x3 ≤ x2 → (vp_in x2 16 ∧ (bm_ww 13 5 [.ref 22, .int x1, .int (x2 + nI 1), .int x3] [] E (u_I I 22 (upd (I 22) x2.toNatClampNeg x1)) J S Q)))) : bm_ww 13 5 [.ref 22, .int x1, .int x2, .int x3] [] E I J S Q := by
  refine bw_st (i' := 6) (ls' := [.ref 22, .int x1, .int x2, .int x3]) (st' := [.int x2]) (E' := E) (I' := I) (J' := J) (S' := S) am_e13 rfl rfl rfl rfl ?_
  refine bw_st (i' := 7) (ls' := [.ref 22, .int x1, .int x2, .int x3]) (st' := [.int x3, .int x2]) (E' := E) (I' := I) (J' := J) (S' := S) am_e13 rfl rfl rfl rfl ?_
  refine bw_if2 am_e13 rfl rfl (fun c => ?_) (fun c => ?_)
  · replace h := h.1 (of_decide_eq_true c)
    exact bw_end am_e13 rfl rfl rfl h
  · replace h := h.2 (of_decide_eq_false c)
    refine bw_st (i' := 9) (ls' := [.ref 22, .int x1, .int x2, .int x3]) (st' := [.ref 22]) (E' := E) (I' := I) (J' := J) (S' := S) am_e13 rfl rfl rfl rfl ?_
    refine bw_st (i' := 10) (ls' := [.ref 22, .int x1, .int x2, .int x3]) (st' := [.int x2, .ref 22]) (E' := E) (I' := I) (J' := J) (S' := S) am_e13 rfl rfl rfl rfl ?_
    refine bw_st (i' := 11) (ls' := [.ref 22, .int x1, .int x2, .int x3]) (st' := [.int x1, .int x2, .ref 22]) (E' := E) (I' := I) (J' := J) (S' := S) am_e13 rfl rfl rfl rfl ?_
    have hf1 := h.1
    replace h := h.2
    refine bw_is (k := 22) (n := 16) (jn := x2.toNatClampNeg) am_e13 rfl rfl (by decide) hf1 rfl ?_
    show bm_ww 13 12 [.ref 22, .int x1, .int x2, .int x3] [] E (u_I I 22 (upd (I 22) x2.toNatClampNeg x1)) J S _
    refine bw_st (i' := 13) (ls' := [.ref 22, .int x1, .int (x2 + nI 1), .int x3]) (st' := []) (E' := E) (I' := (u_I I 22 (upd (I 22) x2.toNatClampNeg x1))) (J' := J) (S' := S) am_e13 rfl rfl rfl rfl ?_
    refine bw_st (i' := 5) (ls' := [.ref 22, .int x1, .int (x2 + nI 1), .int x3]) (st' := []) (E' := E) (I' := (u_I I 22 (upd (I 22) x2.toNatClampNeg x1))) (J' := J) (S' := S) am_e13 rfl rfl rfl rfl ?_
    exact h
theorem bg13_0_23 {p2 : Int32} {E : am_Ev} {I : Nat → Nat → Int32} {J : Nat → Nat → Int64} {S : Nat → Nat → Option Nat} {Q : am_Qt}  (h : bm_ww 13 5 [.ref 23, .int p2, .int (nI 0), .int (nI 4)] [] E I J S Q) : bm_ww 13 0 [.ref 23, .int p2, am_U, am_U] [] E I J S Q := by
  refine bw_st (i' := 1) (ls' := [.ref 23, .int p2, am_U, am_U]) (st' := [.int (nI 0)]) (E' := E) (I' := I) (J' := J) (S' := S) am_e13 rfl rfl rfl rfl ?_
  refine bw_st (i' := 2) (ls' := [.ref 23, .int p2, .int (nI 0), am_U]) (st' := []) (E' := E) (I' := I) (J' := J) (S' := S) am_e13 rfl rfl rfl rfl ?_
  refine bw_st (i' := 3) (ls' := [.ref 23, .int p2, .int (nI 0), am_U]) (st' := [.ref 23]) (E' := E) (I' := I) (J' := J) (S' := S) am_e13 rfl rfl rfl rfl ?_
  refine bw_st (i' := 4) (ls' := [.ref 23, .int p2, .int (nI 0), am_U]) (st' := [.int (nI 4)]) (E' := E) (I' := I) (J' := J) (S' := S) am_e13 rfl rfl rfl rfl ?_
  refine bw_st (i' := 5) (ls' := [.ref 23, .int p2, .int (nI 0), .int (nI 4)]) (st' := []) (E' := E) (I' := I) (J' := J) (S' := S) am_e13 rfl rfl rfl rfl ?_
  exact h
theorem bg13_5_23 {x1 : Int32} {x2 : Int32} {x3 : Int32} {E : am_Ev} {I : Nat → Nat → Int32} {J : Nat → Nat → Int64} {S : Nat → Nat → Option Nat} {Q : am_Qt}  (h : (x3 ≤ x2 → (Q (.inl none) E I J S)) ∧ (¬ x3 ≤ x2 → (vp_in x2 4 ∧ (bm_ww 13 5 [.ref 23, .int x1, .int (x2 + nI 1), .int x3] [] E (u_I I 23 (upd (I 23) x2.toNatClampNeg x1)) J S Q)))) : bm_ww 13 5 [.ref 23, .int x1, .int x2, .int x3] [] E I J S Q := by
  refine bw_st (i' := 6) (ls' := [.ref 23, .int x1, .int x2, .int x3]) (st' := [.int x2]) (E' := E) (I' := I) (J' := J) (S' := S) am_e13 rfl rfl rfl rfl ?_
  refine bw_st (i' := 7) (ls' := [.ref 23, .int x1, .int x2, .int x3]) (st' := [.int x3, .int x2]) (E' := E) (I' := I) (J' := J) (S' := S) am_e13 rfl rfl rfl rfl ?_
  refine bw_if2 am_e13 rfl rfl (fun c => ?_) (fun c => ?_)
  · replace h := h.1 (of_decide_eq_true c)
    exact bw_end am_e13 rfl rfl rfl h
  · replace h := h.2 (of_decide_eq_false c)
    refine bw_st (i' := 9) (ls' := [.ref 23, .int x1, .int x2, .int x3]) (st' := [.ref 23]) (E' := E) (I' := I) (J' := J) (S' := S) am_e13 rfl rfl rfl rfl ?_
    refine bw_st (i' := 10) (ls' := [.ref 23, .int x1, .int x2, .int x3]) (st' := [.int x2, .ref 23]) (E' := E) (I' := I) (J' := J) (S' := S) am_e13 rfl rfl rfl rfl ?_
    refine bw_st (i' := 11) (ls' := [.ref 23, .int x1, .int x2, .int x3]) (st' := [.int x1, .int x2, .ref 23]) (E' := E) (I' := I) (J' := J) (S' := S) am_e13 rfl rfl rfl rfl ?_
    have hf1 := h.1
    replace h := h.2
    refine bw_is (k := 23) (n := 4) (jn := x2.toNatClampNeg) am_e13 rfl rfl (by decide) hf1 rfl ?_
    show bm_ww 13 12 [.ref 23, .int x1, .int x2, .int x3] [] E (u_I I 23 (upd (I 23) x2.toNatClampNeg x1)) J S _
    refine bw_st (i' := 13) (ls' := [.ref 23, .int x1, .int (x2 + nI 1), .int x3]) (st' := []) (E' := E) (I' := (u_I I 23 (upd (I 23) x2.toNatClampNeg x1))) (J' := J) (S' := S) am_e13 rfl rfl rfl rfl ?_
    refine bw_st (i' := 5) (ls' := [.ref 23, .int x1, .int (x2 + nI 1), .int x3]) (st' := []) (E' := E) (I' := (u_I I 23 (upd (I 23) x2.toNatClampNeg x1))) (J' := J) (S' := S) am_e13 rfl rfl rfl rfl ?_
    exact h
theorem bg13_0_24 {p2 : Int32} {E : am_Ev} {I : Nat → Nat → Int32} {J : Nat → Nat → Int64} {S : Nat → Nat → Option Nat} {Q : am_Qt}  (h : bm_ww 13 5 [.ref 24, .int p2, .int (nI 0), .int (nI 4)] [] E I J S Q) : bm_ww 13 0 [.ref 24, .int p2, am_U, am_U] [] E I J S Q := by
  refine bw_st (i' := 1) (ls' := [.ref 24, .int p2, am_U, am_U]) (st' := [.int (nI 0)]) (E' := E) (I' := I) (J' := J) (S' := S) am_e13 rfl rfl rfl rfl ?_
  refine bw_st (i' := 2) (ls' := [.ref 24, .int p2, .int (nI 0), am_U]) (st' := []) (E' := E) (I' := I) (J' := J) (S' := S) am_e13 rfl rfl rfl rfl ?_
  refine bw_st (i' := 3) (ls' := [.ref 24, .int p2, .int (nI 0), am_U]) (st' := [.ref 24]) (E' := E) (I' := I) (J' := J) (S' := S) am_e13 rfl rfl rfl rfl ?_
  refine bw_st (i' := 4) (ls' := [.ref 24, .int p2, .int (nI 0), am_U]) (st' := [.int (nI 4)]) (E' := E) (I' := I) (J' := J) (S' := S) am_e13 rfl rfl rfl rfl ?_
  refine bw_st (i' := 5) (ls' := [.ref 24, .int p2, .int (nI 0), .int (nI 4)]) (st' := []) (E' := E) (I' := I) (J' := J) (S' := S) am_e13 rfl rfl rfl rfl ?_
  exact h
theorem bg13_5_24 {x1 : Int32} {x2 : Int32} {x3 : Int32} {E : am_Ev} {I : Nat → Nat → Int32} {J : Nat → Nat → Int64} {S : Nat → Nat → Option Nat} {Q : am_Qt}  (h : (x3 ≤ x2 → (Q (.inl none) E I J S)) ∧ (¬ x3 ≤ x2 → (vp_in x2 4 ∧ (bm_ww 13 5 [.ref 24, .int x1, .int (x2 + nI 1), .int x3] [] E (u_I I 24 (upd (I 24) x2.toNatClampNeg x1)) J S Q)))) : bm_ww 13 5 [.ref 24, .int x1, .int x2, .int x3] [] E I J S Q := by
  refine bw_st (i' := 6) (ls' := [.ref 24, .int x1, .int x2, .int x3]) (st' := [.int x2]) (E' := E) (I' := I) (J' := J) (S' := S) am_e13 rfl rfl rfl rfl ?_
  refine bw_st (i' := 7) (ls' := [.ref 24, .int x1, .int x2, .int x3]) (st' := [.int x3, .int x2]) (E' := E) (I' := I) (J' := J) (S' := S) am_e13 rfl rfl rfl rfl ?_
  refine bw_if2 am_e13 rfl rfl (fun c => ?_) (fun c => ?_)
  · replace h := h.1 (of_decide_eq_true c)
    exact bw_end am_e13 rfl rfl rfl h
  · replace h := h.2 (of_decide_eq_false c)
    refine bw_st (i' := 9) (ls' := [.ref 24, .int x1, .int x2, .int x3]) (st' := [.ref 24]) (E' := E) (I' := I) (J' := J) (S' := S) am_e13 rfl rfl rfl rfl ?_
    refine bw_st (i' := 10) (ls' := [.ref 24, .int x1, .int x2, .int x3]) (st' := [.int x2, .ref 24]) (E' := E) (I' := I) (J' := J) (S' := S) am_e13 rfl rfl rfl rfl ?_
    refine bw_st (i' := 11) (ls' := [.ref 24, .int x1, .int x2, .int x3]) (st' := [.int x1, .int x2, .ref 24]) (E' := E) (I' := I) (J' := J) (S' := S) am_e13 rfl rfl rfl rfl ?_
    have hf1 := h.1
    replace h := h.2
    refine bw_is (k := 24) (n := 4) (jn := x2.toNatClampNeg) am_e13 rfl rfl (by decide) hf1 rfl ?_
    show bm_ww 13 12 [.ref 24, .int x1, .int x2, .int x3] [] E (u_I I 24 (upd (I 24) x2.toNatClampNeg x1)) J S _
    refine bw_st (i' := 13) (ls' := [.ref 24, .int x1, .int (x2 + nI 1), .int x3]) (st' := []) (E' := E) (I' := (u_I I 24 (upd (I 24) x2.toNatClampNeg x1))) (J' := J) (S' := S) am_e13 rfl rfl rfl rfl ?_
    refine bw_st (i' := 5) (ls' := [.ref 24, .int x1, .int (x2 + nI 1), .int x3]) (st' := []) (E' := E) (I' := (u_I I 24 (upd (I 24) x2.toNatClampNeg x1))) (J' := J) (S' := S) am_e13 rfl rfl rfl rfl ?_
    exact h
theorem bg13_0_25 {p2 : Int32} {E : am_Ev} {I : Nat → Nat → Int32} {J : Nat → Nat → Int64} {S : Nat → Nat → Option Nat} {Q : am_Qt}  (h : bm_ww 13 5 [.ref 25, .int p2, .int (nI 0), .int (nI 4)] [] E I J S Q) : bm_ww 13 0 [.ref 25, .int p2, am_U, am_U] [] E I J S Q := by
  refine bw_st (i' := 1) (ls' := [.ref 25, .int p2, am_U, am_U]) (st' := [.int (nI 0)]) (E' := E) (I' := I) (J' := J) (S' := S) am_e13 rfl rfl rfl rfl ?_
  refine bw_st (i' := 2) (ls' := [.ref 25, .int p2, .int (nI 0), am_U]) (st' := []) (E' := E) (I' := I) (J' := J) (S' := S) am_e13 rfl rfl rfl rfl ?_
  refine bw_st (i' := 3) (ls' := [.ref 25, .int p2, .int (nI 0), am_U]) (st' := [.ref 25]) (E' := E) (I' := I) (J' := J) (S' := S) am_e13 rfl rfl rfl rfl ?_
  refine bw_st (i' := 4) (ls' := [.ref 25, .int p2, .int (nI 0), am_U]) (st' := [.int (nI 4)]) (E' := E) (I' := I) (J' := J) (S' := S) am_e13 rfl rfl rfl rfl ?_
  refine bw_st (i' := 5) (ls' := [.ref 25, .int p2, .int (nI 0), .int (nI 4)]) (st' := []) (E' := E) (I' := I) (J' := J) (S' := S) am_e13 rfl rfl rfl rfl ?_
  exact h
theorem bg13_5_25 {x1 : Int32} {x2 : Int32} {x3 : Int32} {E : am_Ev} {I : Nat → Nat → Int32} {J : Nat → Nat → Int64} {S : Nat → Nat → Option Nat} {Q : am_Qt}  (h : (x3 ≤ x2 → (Q (.inl none) E I J S)) ∧ (¬ x3 ≤ x2 → (vp_in x2 4 ∧ (bm_ww 13 5 [.ref 25, .int x1, .int (x2 + nI 1), .int x3] [] E (u_I I 25 (upd (I 25) x2.toNatClampNeg x1)) J S Q)))) : bm_ww 13 5 [.ref 25, .int x1, .int x2, .int x3] [] E I J S Q := by
  refine bw_st (i' := 6) (ls' := [.ref 25, .int x1, .int x2, .int x3]) (st' := [.int x2]) (E' := E) (I' := I) (J' := J) (S' := S) am_e13 rfl rfl rfl rfl ?_
  refine bw_st (i' := 7) (ls' := [.ref 25, .int x1, .int x2, .int x3]) (st' := [.int x3, .int x2]) (E' := E) (I' := I) (J' := J) (S' := S) am_e13 rfl rfl rfl rfl ?_
  refine bw_if2 am_e13 rfl rfl (fun c => ?_) (fun c => ?_)
  · replace h := h.1 (of_decide_eq_true c)
    exact bw_end am_e13 rfl rfl rfl h
  · replace h := h.2 (of_decide_eq_false c)
    refine bw_st (i' := 9) (ls' := [.ref 25, .int x1, .int x2, .int x3]) (st' := [.ref 25]) (E' := E) (I' := I) (J' := J) (S' := S) am_e13 rfl rfl rfl rfl ?_
    refine bw_st (i' := 10) (ls' := [.ref 25, .int x1, .int x2, .int x3]) (st' := [.int x2, .ref 25]) (E' := E) (I' := I) (J' := J) (S' := S) am_e13 rfl rfl rfl rfl ?_
    refine bw_st (i' := 11) (ls' := [.ref 25, .int x1, .int x2, .int x3]) (st' := [.int x1, .int x2, .ref 25]) (E' := E) (I' := I) (J' := J) (S' := S) am_e13 rfl rfl rfl rfl ?_
    have hf1 := h.1
    replace h := h.2
    refine bw_is (k := 25) (n := 4) (jn := x2.toNatClampNeg) am_e13 rfl rfl (by decide) hf1 rfl ?_
    show bm_ww 13 12 [.ref 25, .int x1, .int x2, .int x3] [] E (u_I I 25 (upd (I 25) x2.toNatClampNeg x1)) J S _
    refine bw_st (i' := 13) (ls' := [.ref 25, .int x1, .int (x2 + nI 1), .int x3]) (st' := []) (E' := E) (I' := (u_I I 25 (upd (I 25) x2.toNatClampNeg x1))) (J' := J) (S' := S) am_e13 rfl rfl rfl rfl ?_
    refine bw_st (i' := 5) (ls' := [.ref 25, .int x1, .int (x2 + nI 1), .int x3]) (st' := []) (E' := E) (I' := (u_I I 25 (upd (I 25) x2.toNatClampNeg x1))) (J' := J) (S' := S) am_e13 rfl rfl rfl rfl ?_
    exact h
theorem bg13_0_26 {p2 : Int32} {E : am_Ev} {I : Nat → Nat → Int32} {J : Nat → Nat → Int64} {S : Nat → Nat → Option Nat} {Q : am_Qt}  (h : bm_ww 13 5 [.ref 26, .int p2, .int (nI 0), .int (nI 3)] [] E I J S Q) : bm_ww 13 0 [.ref 26, .int p2, am_U, am_U] [] E I J S Q := by
  refine bw_st (i' := 1) (ls' := [.ref 26, .int p2, am_U, am_U]) (st' := [.int (nI 0)]) (E' := E) (I' := I) (J' := J) (S' := S) am_e13 rfl rfl rfl rfl ?_
  refine bw_st (i' := 2) (ls' := [.ref 26, .int p2, .int (nI 0), am_U]) (st' := []) (E' := E) (I' := I) (J' := J) (S' := S) am_e13 rfl rfl rfl rfl ?_
  refine bw_st (i' := 3) (ls' := [.ref 26, .int p2, .int (nI 0), am_U]) (st' := [.ref 26]) (E' := E) (I' := I) (J' := J) (S' := S) am_e13 rfl rfl rfl rfl ?_
  refine bw_st (i' := 4) (ls' := [.ref 26, .int p2, .int (nI 0), am_U]) (st' := [.int (nI 3)]) (E' := E) (I' := I) (J' := J) (S' := S) am_e13 rfl rfl rfl rfl ?_
  refine bw_st (i' := 5) (ls' := [.ref 26, .int p2, .int (nI 0), .int (nI 3)]) (st' := []) (E' := E) (I' := I) (J' := J) (S' := S) am_e13 rfl rfl rfl rfl ?_
  exact h
theorem bg13_5_26 {x1 : Int32} {x2 : Int32} {x3 : Int32} {E : am_Ev} {I : Nat → Nat → Int32} {J : Nat → Nat → Int64} {S : Nat → Nat → Option Nat} {Q : am_Qt}  (h : (x3 ≤ x2 → (Q (.inl none) E I J S)) ∧ (¬ x3 ≤ x2 → (vp_in x2 3 ∧ (bm_ww 13 5 [.ref 26, .int x1, .int (x2 + nI 1), .int x3] [] E (u_I I 26 (upd (I 26) x2.toNatClampNeg x1)) J S Q)))) : bm_ww 13 5 [.ref 26, .int x1, .int x2, .int x3] [] E I J S Q := by
  refine bw_st (i' := 6) (ls' := [.ref 26, .int x1, .int x2, .int x3]) (st' := [.int x2]) (E' := E) (I' := I) (J' := J) (S' := S) am_e13 rfl rfl rfl rfl ?_
  refine bw_st (i' := 7) (ls' := [.ref 26, .int x1, .int x2, .int x3]) (st' := [.int x3, .int x2]) (E' := E) (I' := I) (J' := J) (S' := S) am_e13 rfl rfl rfl rfl ?_
  refine bw_if2 am_e13 rfl rfl (fun c => ?_) (fun c => ?_)
  · replace h := h.1 (of_decide_eq_true c)
    exact bw_end am_e13 rfl rfl rfl h
  · replace h := h.2 (of_decide_eq_false c)
    refine bw_st (i' := 9) (ls' := [.ref 26, .int x1, .int x2, .int x3]) (st' := [.ref 26]) (E' := E) (I' := I) (J' := J) (S' := S) am_e13 rfl rfl rfl rfl ?_
    refine bw_st (i' := 10) (ls' := [.ref 26, .int x1, .int x2, .int x3]) (st' := [.int x2, .ref 26]) (E' := E) (I' := I) (J' := J) (S' := S) am_e13 rfl rfl rfl rfl ?_
    refine bw_st (i' := 11) (ls' := [.ref 26, .int x1, .int x2, .int x3]) (st' := [.int x1, .int x2, .ref 26]) (E' := E) (I' := I) (J' := J) (S' := S) am_e13 rfl rfl rfl rfl ?_
    have hf1 := h.1
    replace h := h.2
    refine bw_is (k := 26) (n := 3) (jn := x2.toNatClampNeg) am_e13 rfl rfl (by decide) hf1 rfl ?_
    show bm_ww 13 12 [.ref 26, .int x1, .int x2, .int x3] [] E (u_I I 26 (upd (I 26) x2.toNatClampNeg x1)) J S _
    refine bw_st (i' := 13) (ls' := [.ref 26, .int x1, .int (x2 + nI 1), .int x3]) (st' := []) (E' := E) (I' := (u_I I 26 (upd (I 26) x2.toNatClampNeg x1))) (J' := J) (S' := S) am_e13 rfl rfl rfl rfl ?_
    refine bw_st (i' := 5) (ls' := [.ref 26, .int x1, .int (x2 + nI 1), .int x3]) (st' := []) (E' := E) (I' := (u_I I 26 (upd (I 26) x2.toNatClampNeg x1))) (J' := J) (S' := S) am_e13 rfl rfl rfl rfl ?_
    exact h
theorem bg13_0_28 {p2 : Int32} {E : am_Ev} {I : Nat → Nat → Int32} {J : Nat → Nat → Int64} {S : Nat → Nat → Option Nat} {Q : am_Qt}  (h : bm_ww 13 5 [.ref 28, .int p2, .int (nI 0), .int (nI 3)] [] E I J S Q) : bm_ww 13 0 [.ref 28, .int p2, am_U, am_U] [] E I J S Q := by
  refine bw_st (i' := 1) (ls' := [.ref 28, .int p2, am_U, am_U]) (st' := [.int (nI 0)]) (E' := E) (I' := I) (J' := J) (S' := S) am_e13 rfl rfl rfl rfl ?_
  refine bw_st (i' := 2) (ls' := [.ref 28, .int p2, .int (nI 0), am_U]) (st' := []) (E' := E) (I' := I) (J' := J) (S' := S) am_e13 rfl rfl rfl rfl ?_
  refine bw_st (i' := 3) (ls' := [.ref 28, .int p2, .int (nI 0), am_U]) (st' := [.ref 28]) (E' := E) (I' := I) (J' := J) (S' := S) am_e13 rfl rfl rfl rfl ?_
  refine bw_st (i' := 4) (ls' := [.ref 28, .int p2, .int (nI 0), am_U]) (st' := [.int (nI 3)]) (E' := E) (I' := I) (J' := J) (S' := S) am_e13 rfl rfl rfl rfl ?_
  refine bw_st (i' := 5) (ls' := [.ref 28, .int p2, .int (nI 0), .int (nI 3)]) (st' := []) (E' := E) (I' := I) (J' := J) (S' := S) am_e13 rfl rfl rfl rfl ?_
  exact h
theorem bg13_5_28 {x1 : Int32} {x2 : Int32} {x3 : Int32} {E : am_Ev} {I : Nat → Nat → Int32} {J : Nat → Nat → Int64} {S : Nat → Nat → Option Nat} {Q : am_Qt}  (h : (x3 ≤ x2 → (Q (.inl none) E I J S)) ∧ (¬ x3 ≤ x2 → (vp_in x2 3 ∧ (bm_ww 13 5 [.ref 28, .int x1, .int (x2 + nI 1), .int x3] [] E (u_I I 28 (upd (I 28) x2.toNatClampNeg x1)) J S Q)))) : bm_ww 13 5 [.ref 28, .int x1, .int x2, .int x3] [] E I J S Q := by
  refine bw_st (i' := 6) (ls' := [.ref 28, .int x1, .int x2, .int x3]) (st' := [.int x2]) (E' := E) (I' := I) (J' := J) (S' := S) am_e13 rfl rfl rfl rfl ?_
  refine bw_st (i' := 7) (ls' := [.ref 28, .int x1, .int x2, .int x3]) (st' := [.int x3, .int x2]) (E' := E) (I' := I) (J' := J) (S' := S) am_e13 rfl rfl rfl rfl ?_
  refine bw_if2 am_e13 rfl rfl (fun c => ?_) (fun c => ?_)
  · replace h := h.1 (of_decide_eq_true c)
    exact bw_end am_e13 rfl rfl rfl h
  · replace h := h.2 (of_decide_eq_false c)
    refine bw_st (i' := 9) (ls' := [.ref 28, .int x1, .int x2, .int x3]) (st' := [.ref 28]) (E' := E) (I' := I) (J' := J) (S' := S) am_e13 rfl rfl rfl rfl ?_
    refine bw_st (i' := 10) (ls' := [.ref 28, .int x1, .int x2, .int x3]) (st' := [.int x2, .ref 28]) (E' := E) (I' := I) (J' := J) (S' := S) am_e13 rfl rfl rfl rfl ?_
    refine bw_st (i' := 11) (ls' := [.ref 28, .int x1, .int x2, .int x3]) (st' := [.int x1, .int x2, .ref 28]) (E' := E) (I' := I) (J' := J) (S' := S) am_e13 rfl rfl rfl rfl ?_
    have hf1 := h.1
    replace h := h.2
    refine bw_is (k := 28) (n := 3) (jn := x2.toNatClampNeg) am_e13 rfl rfl (by decide) hf1 rfl ?_
    show bm_ww 13 12 [.ref 28, .int x1, .int x2, .int x3] [] E (u_I I 28 (upd (I 28) x2.toNatClampNeg x1)) J S _
    refine bw_st (i' := 13) (ls' := [.ref 28, .int x1, .int (x2 + nI 1), .int x3]) (st' := []) (E' := E) (I' := (u_I I 28 (upd (I 28) x2.toNatClampNeg x1))) (J' := J) (S' := S) am_e13 rfl rfl rfl rfl ?_
    refine bw_st (i' := 5) (ls' := [.ref 28, .int x1, .int (x2 + nI 1), .int x3]) (st' := []) (E' := E) (I' := (u_I I 28 (upd (I 28) x2.toNatClampNeg x1))) (J' := J) (S' := S) am_e13 rfl rfl rfl rfl ?_
    exact h
theorem bg13_0_63 {p2 : Int32} {E : am_Ev} {I : Nat → Nat → Int32} {J : Nat → Nat → Int64} {S : Nat → Nat → Option Nat} {Q : am_Qt}  (h : bm_ww 13 5 [.ref 63, .int p2, .int (nI 0), .int (nI 16)] [] E I J S Q) : bm_ww 13 0 [.ref 63, .int p2, am_U, am_U] [] E I J S Q := by
  refine bw_st (i' := 1) (ls' := [.ref 63, .int p2, am_U, am_U]) (st' := [.int (nI 0)]) (E' := E) (I' := I) (J' := J) (S' := S) am_e13 rfl rfl rfl rfl ?_
  refine bw_st (i' := 2) (ls' := [.ref 63, .int p2, .int (nI 0), am_U]) (st' := []) (E' := E) (I' := I) (J' := J) (S' := S) am_e13 rfl rfl rfl rfl ?_
  refine bw_st (i' := 3) (ls' := [.ref 63, .int p2, .int (nI 0), am_U]) (st' := [.ref 63]) (E' := E) (I' := I) (J' := J) (S' := S) am_e13 rfl rfl rfl rfl ?_
  refine bw_st (i' := 4) (ls' := [.ref 63, .int p2, .int (nI 0), am_U]) (st' := [.int (nI 16)]) (E' := E) (I' := I) (J' := J) (S' := S) am_e13 rfl rfl rfl rfl ?_
  refine bw_st (i' := 5) (ls' := [.ref 63, .int p2, .int (nI 0), .int (nI 16)]) (st' := []) (E' := E) (I' := I) (J' := J) (S' := S) am_e13 rfl rfl rfl rfl ?_
  exact h
theorem bg13_5_63 {x1 : Int32} {x2 : Int32} {x3 : Int32} {E : am_Ev} {I : Nat → Nat → Int32} {J : Nat → Nat → Int64} {S : Nat → Nat → Option Nat} {Q : am_Qt}  (h : (x3 ≤ x2 → (Q (.inl none) E I J S)) ∧ (¬ x3 ≤ x2 → (vp_in x2 16 ∧ (bm_ww 13 5 [.ref 63, .int x1, .int (x2 + nI 1), .int x3] [] E (u_I I 63 (upd (I 63) x2.toNatClampNeg x1)) J S Q)))) : bm_ww 13 5 [.ref 63, .int x1, .int x2, .int x3] [] E I J S Q := by
  refine bw_st (i' := 6) (ls' := [.ref 63, .int x1, .int x2, .int x3]) (st' := [.int x2]) (E' := E) (I' := I) (J' := J) (S' := S) am_e13 rfl rfl rfl rfl ?_
  refine bw_st (i' := 7) (ls' := [.ref 63, .int x1, .int x2, .int x3]) (st' := [.int x3, .int x2]) (E' := E) (I' := I) (J' := J) (S' := S) am_e13 rfl rfl rfl rfl ?_
  refine bw_if2 am_e13 rfl rfl (fun c => ?_) (fun c => ?_)
  · replace h := h.1 (of_decide_eq_true c)
    exact bw_end am_e13 rfl rfl rfl h
  · replace h := h.2 (of_decide_eq_false c)
    refine bw_st (i' := 9) (ls' := [.ref 63, .int x1, .int x2, .int x3]) (st' := [.ref 63]) (E' := E) (I' := I) (J' := J) (S' := S) am_e13 rfl rfl rfl rfl ?_
    refine bw_st (i' := 10) (ls' := [.ref 63, .int x1, .int x2, .int x3]) (st' := [.int x2, .ref 63]) (E' := E) (I' := I) (J' := J) (S' := S) am_e13 rfl rfl rfl rfl ?_
    refine bw_st (i' := 11) (ls' := [.ref 63, .int x1, .int x2, .int x3]) (st' := [.int x1, .int x2, .ref 63]) (E' := E) (I' := I) (J' := J) (S' := S) am_e13 rfl rfl rfl rfl ?_
    have hf1 := h.1
    replace h := h.2
    refine bw_is (k := 63) (n := 16) (jn := x2.toNatClampNeg) am_e13 rfl rfl (by decide) hf1 rfl ?_
    show bm_ww 13 12 [.ref 63, .int x1, .int x2, .int x3] [] E (u_I I 63 (upd (I 63) x2.toNatClampNeg x1)) J S _
    refine bw_st (i' := 13) (ls' := [.ref 63, .int x1, .int (x2 + nI 1), .int x3]) (st' := []) (E' := E) (I' := (u_I I 63 (upd (I 63) x2.toNatClampNeg x1))) (J' := J) (S' := S) am_e13 rfl rfl rfl rfl ?_
    refine bw_st (i' := 5) (ls' := [.ref 63, .int x1, .int (x2 + nI 1), .int x3]) (st' := []) (E' := E) (I' := (u_I I 63 (upd (I 63) x2.toNatClampNeg x1))) (J' := J) (S' := S) am_e13 rfl rfl rfl rfl ?_
    exact h
theorem bg13_0_64 {p2 : Int32} {E : am_Ev} {I : Nat → Nat → Int32} {J : Nat → Nat → Int64} {S : Nat → Nat → Option Nat} {Q : am_Qt}  (h : bm_ww 13 5 [.ref 64, .int p2, .int (nI 0), .int (nI 4)] [] E I J S Q) : bm_ww 13 0 [.ref 64, .int p2, am_U, am_U] [] E I J S Q := by
  refine bw_st (i' := 1) (ls' := [.ref 64, .int p2, am_U, am_U]) (st' := [.int (nI 0)]) (E' := E) (I' := I) (J' := J) (S' := S) am_e13 rfl rfl rfl rfl ?_
  refine bw_st (i' := 2) (ls' := [.ref 64, .int p2, .int (nI 0), am_U]) (st' := []) (E' := E) (I' := I) (J' := J) (S' := S) am_e13 rfl rfl rfl rfl ?_
  refine bw_st (i' := 3) (ls' := [.ref 64, .int p2, .int (nI 0), am_U]) (st' := [.ref 64]) (E' := E) (I' := I) (J' := J) (S' := S) am_e13 rfl rfl rfl rfl ?_
  refine bw_st (i' := 4) (ls' := [.ref 64, .int p2, .int (nI 0), am_U]) (st' := [.int (nI 4)]) (E' := E) (I' := I) (J' := J) (S' := S) am_e13 rfl rfl rfl rfl ?_
  refine bw_st (i' := 5) (ls' := [.ref 64, .int p2, .int (nI 0), .int (nI 4)]) (st' := []) (E' := E) (I' := I) (J' := J) (S' := S) am_e13 rfl rfl rfl rfl ?_
  exact h
theorem bg13_5_64 {x1 : Int32} {x2 : Int32} {x3 : Int32} {E : am_Ev} {I : Nat → Nat → Int32} {J : Nat → Nat → Int64} {S : Nat → Nat → Option Nat} {Q : am_Qt}  (h : (x3 ≤ x2 → (Q (.inl none) E I J S)) ∧ (¬ x3 ≤ x2 → (vp_in x2 4 ∧ (bm_ww 13 5 [.ref 64, .int x1, .int (x2 + nI 1), .int x3] [] E (u_I I 64 (upd (I 64) x2.toNatClampNeg x1)) J S Q)))) : bm_ww 13 5 [.ref 64, .int x1, .int x2, .int x3] [] E I J S Q := by
  refine bw_st (i' := 6) (ls' := [.ref 64, .int x1, .int x2, .int x3]) (st' := [.int x2]) (E' := E) (I' := I) (J' := J) (S' := S) am_e13 rfl rfl rfl rfl ?_
  refine bw_st (i' := 7) (ls' := [.ref 64, .int x1, .int x2, .int x3]) (st' := [.int x3, .int x2]) (E' := E) (I' := I) (J' := J) (S' := S) am_e13 rfl rfl rfl rfl ?_
  refine bw_if2 am_e13 rfl rfl (fun c => ?_) (fun c => ?_)
  · replace h := h.1 (of_decide_eq_true c)
    exact bw_end am_e13 rfl rfl rfl h
  · replace h := h.2 (of_decide_eq_false c)
    refine bw_st (i' := 9) (ls' := [.ref 64, .int x1, .int x2, .int x3]) (st' := [.ref 64]) (E' := E) (I' := I) (J' := J) (S' := S) am_e13 rfl rfl rfl rfl ?_
    refine bw_st (i' := 10) (ls' := [.ref 64, .int x1, .int x2, .int x3]) (st' := [.int x2, .ref 64]) (E' := E) (I' := I) (J' := J) (S' := S) am_e13 rfl rfl rfl rfl ?_
    refine bw_st (i' := 11) (ls' := [.ref 64, .int x1, .int x2, .int x3]) (st' := [.int x1, .int x2, .ref 64]) (E' := E) (I' := I) (J' := J) (S' := S) am_e13 rfl rfl rfl rfl ?_
    have hf1 := h.1
    replace h := h.2
    refine bw_is (k := 64) (n := 4) (jn := x2.toNatClampNeg) am_e13 rfl rfl (by decide) hf1 rfl ?_
    show bm_ww 13 12 [.ref 64, .int x1, .int x2, .int x3] [] E (u_I I 64 (upd (I 64) x2.toNatClampNeg x1)) J S _
    refine bw_st (i' := 13) (ls' := [.ref 64, .int x1, .int (x2 + nI 1), .int x3]) (st' := []) (E' := E) (I' := (u_I I 64 (upd (I 64) x2.toNatClampNeg x1))) (J' := J) (S' := S) am_e13 rfl rfl rfl rfl ?_
    refine bw_st (i' := 5) (ls' := [.ref 64, .int x1, .int (x2 + nI 1), .int x3]) (st' := []) (E' := E) (I' := (u_I I 64 (upd (I 64) x2.toNatClampNeg x1))) (J' := J) (S' := S) am_e13 rfl rfl rfl rfl ?_
    exact h
theorem bg13_0_65 {p2 : Int32} {E : am_Ev} {I : Nat → Nat → Int32} {J : Nat → Nat → Int64} {S : Nat → Nat → Option Nat} {Q : am_Qt}  (h : bm_ww 13 5 [.ref 65, .int p2, .int (nI 0), .int (nI 4)] [] E I J S Q) : bm_ww 13 0 [.ref 65, .int p2, am_U, am_U] [] E I J S Q := by
  refine bw_st (i' := 1) (ls' := [.ref 65, .int p2, am_U, am_U]) (st' := [.int (nI 0)]) (E' := E) (I' := I) (J' := J) (S' := S) am_e13 rfl rfl rfl rfl ?_
  refine bw_st (i' := 2) (ls' := [.ref 65, .int p2, .int (nI 0), am_U]) (st' := []) (E' := E) (I' := I) (J' := J) (S' := S) am_e13 rfl rfl rfl rfl ?_
  refine bw_st (i' := 3) (ls' := [.ref 65, .int p2, .int (nI 0), am_U]) (st' := [.ref 65]) (E' := E) (I' := I) (J' := J) (S' := S) am_e13 rfl rfl rfl rfl ?_
  refine bw_st (i' := 4) (ls' := [.ref 65, .int p2, .int (nI 0), am_U]) (st' := [.int (nI 4)]) (E' := E) (I' := I) (J' := J) (S' := S) am_e13 rfl rfl rfl rfl ?_
  refine bw_st (i' := 5) (ls' := [.ref 65, .int p2, .int (nI 0), .int (nI 4)]) (st' := []) (E' := E) (I' := I) (J' := J) (S' := S) am_e13 rfl rfl rfl rfl ?_
  exact h
theorem bg13_5_65 {x1 : Int32} {x2 : Int32} {x3 : Int32} {E : am_Ev} {I : Nat → Nat → Int32} {J : Nat → Nat → Int64} {S : Nat → Nat → Option Nat} {Q : am_Qt}  (h : (x3 ≤ x2 → (Q (.inl none) E I J S)) ∧ (¬ x3 ≤ x2 → (vp_in x2 4 ∧ (bm_ww 13 5 [.ref 65, .int x1, .int (x2 + nI 1), .int x3] [] E (u_I I 65 (upd (I 65) x2.toNatClampNeg x1)) J S Q)))) : bm_ww 13 5 [.ref 65, .int x1, .int x2, .int x3] [] E I J S Q := by
  refine bw_st (i' := 6) (ls' := [.ref 65, .int x1, .int x2, .int x3]) (st' := [.int x2]) (E' := E) (I' := I) (J' := J) (S' := S) am_e13 rfl rfl rfl rfl ?_
  refine bw_st (i' := 7) (ls' := [.ref 65, .int x1, .int x2, .int x3]) (st' := [.int x3, .int x2]) (E' := E) (I' := I) (J' := J) (S' := S) am_e13 rfl rfl rfl rfl ?_
  refine bw_if2 am_e13 rfl rfl (fun c => ?_) (fun c => ?_)
  · replace h := h.1 (of_decide_eq_true c)
    exact bw_end am_e13 rfl rfl rfl h
  · replace h := h.2 (of_decide_eq_false c)
    refine bw_st (i' := 9) (ls' := [.ref 65, .int x1, .int x2, .int x3]) (st' := [.ref 65]) (E' := E) (I' := I) (J' := J) (S' := S) am_e13 rfl rfl rfl rfl ?_
    refine bw_st (i' := 10) (ls' := [.ref 65, .int x1, .int x2, .int x3]) (st' := [.int x2, .ref 65]) (E' := E) (I' := I) (J' := J) (S' := S) am_e13 rfl rfl rfl rfl ?_
    refine bw_st (i' := 11) (ls' := [.ref 65, .int x1, .int x2, .int x3]) (st' := [.int x1, .int x2, .ref 65]) (E' := E) (I' := I) (J' := J) (S' := S) am_e13 rfl rfl rfl rfl ?_
    have hf1 := h.1
    replace h := h.2
    refine bw_is (k := 65) (n := 4) (jn := x2.toNatClampNeg) am_e13 rfl rfl (by decide) hf1 rfl ?_
    show bm_ww 13 12 [.ref 65, .int x1, .int x2, .int x3] [] E (u_I I 65 (upd (I 65) x2.toNatClampNeg x1)) J S _
    refine bw_st (i' := 13) (ls' := [.ref 65, .int x1, .int (x2 + nI 1), .int x3]) (st' := []) (E' := E) (I' := (u_I I 65 (upd (I 65) x2.toNatClampNeg x1))) (J' := J) (S' := S) am_e13 rfl rfl rfl rfl ?_
    refine bw_st (i' := 5) (ls' := [.ref 65, .int x1, .int (x2 + nI 1), .int x3]) (st' := []) (E' := E) (I' := (u_I I 65 (upd (I 65) x2.toNatClampNeg x1))) (J' := J) (S' := S) am_e13 rfl rfl rfl rfl ?_
    exact h
theorem bg13_0_66 {p2 : Int32} {E : am_Ev} {I : Nat → Nat → Int32} {J : Nat → Nat → Int64} {S : Nat → Nat → Option Nat} {Q : am_Qt}  (h : bm_ww 13 5 [.ref 66, .int p2, .int (nI 0), .int (nI 4)] [] E I J S Q) : bm_ww 13 0 [.ref 66, .int p2, am_U, am_U] [] E I J S Q := by
  refine bw_st (i' := 1) (ls' := [.ref 66, .int p2, am_U, am_U]) (st' := [.int (nI 0)]) (E' := E) (I' := I) (J' := J) (S' := S) am_e13 rfl rfl rfl rfl ?_
  refine bw_st (i' := 2) (ls' := [.ref 66, .int p2, .int (nI 0), am_U]) (st' := []) (E' := E) (I' := I) (J' := J) (S' := S) am_e13 rfl rfl rfl rfl ?_
  refine bw_st (i' := 3) (ls' := [.ref 66, .int p2, .int (nI 0), am_U]) (st' := [.ref 66]) (E' := E) (I' := I) (J' := J) (S' := S) am_e13 rfl rfl rfl rfl ?_
  refine bw_st (i' := 4) (ls' := [.ref 66, .int p2, .int (nI 0), am_U]) (st' := [.int (nI 4)]) (E' := E) (I' := I) (J' := J) (S' := S) am_e13 rfl rfl rfl rfl ?_
  refine bw_st (i' := 5) (ls' := [.ref 66, .int p2, .int (nI 0), .int (nI 4)]) (st' := []) (E' := E) (I' := I) (J' := J) (S' := S) am_e13 rfl rfl rfl rfl ?_
  exact h
theorem bg13_5_66 {x1 : Int32} {x2 : Int32} {x3 : Int32} {E : am_Ev} {I : Nat → Nat → Int32} {J : Nat → Nat → Int64} {S : Nat → Nat → Option Nat} {Q : am_Qt}  (h : (x3 ≤ x2 → (Q (.inl none) E I J S)) ∧ (¬ x3 ≤ x2 → (vp_in x2 4 ∧ (bm_ww 13 5 [.ref 66, .int x1, .int (x2 + nI 1), .int x3] [] E (u_I I 66 (upd (I 66) x2.toNatClampNeg x1)) J S Q)))) : bm_ww 13 5 [.ref 66, .int x1, .int x2, .int x3] [] E I J S Q := by
  refine bw_st (i' := 6) (ls' := [.ref 66, .int x1, .int x2, .int x3]) (st' := [.int x2]) (E' := E) (I' := I) (J' := J) (S' := S) am_e13 rfl rfl rfl rfl ?_
  refine bw_st (i' := 7) (ls' := [.ref 66, .int x1, .int x2, .int x3]) (st' := [.int x3, .int x2]) (E' := E) (I' := I) (J' := J) (S' := S) am_e13 rfl rfl rfl rfl ?_
  refine bw_if2 am_e13 rfl rfl (fun c => ?_) (fun c => ?_)
  · replace h := h.1 (of_decide_eq_true c)
    exact bw_end am_e13 rfl rfl rfl h
  · replace h := h.2 (of_decide_eq_false c)
    refine bw_st (i' := 9) (ls' := [.ref 66, .int x1, .int x2, .int x3]) (st' := [.ref 66]) (E' := E) (I' := I) (J' := J) (S' := S) am_e13 rfl rfl rfl rfl ?_
    refine bw_st (i' := 10) (ls' := [.ref 66, .int x1, .int x2, .int x3]) (st' := [.int x2, .ref 66]) (E' := E) (I' := I) (J' := J) (S' := S) am_e13 rfl rfl rfl rfl ?_
    refine bw_st (i' := 11) (ls' := [.ref 66, .int x1, .int x2, .int x3]) (st' := [.int x1, .int x2, .ref 66]) (E' := E) (I' := I) (J' := J) (S' := S) am_e13 rfl rfl rfl rfl ?_
    have hf1 := h.1
    replace h := h.2
    refine bw_is (k := 66) (n := 4) (jn := x2.toNatClampNeg) am_e13 rfl rfl (by decide) hf1 rfl ?_
    show bm_ww 13 12 [.ref 66, .int x1, .int x2, .int x3] [] E (u_I I 66 (upd (I 66) x2.toNatClampNeg x1)) J S _
    refine bw_st (i' := 13) (ls' := [.ref 66, .int x1, .int (x2 + nI 1), .int x3]) (st' := []) (E' := E) (I' := (u_I I 66 (upd (I 66) x2.toNatClampNeg x1))) (J' := J) (S' := S) am_e13 rfl rfl rfl rfl ?_
    refine bw_st (i' := 5) (ls' := [.ref 66, .int x1, .int (x2 + nI 1), .int x3]) (st' := []) (E' := E) (I' := (u_I I 66 (upd (I 66) x2.toNatClampNeg x1))) (J' := J) (S' := S) am_e13 rfl rfl rfl rfl ?_
    exact h
theorem bg13_0_67 {p2 : Int32} {E : am_Ev} {I : Nat → Nat → Int32} {J : Nat → Nat → Int64} {S : Nat → Nat → Option Nat} {Q : am_Qt}  (h : bm_ww 13 5 [.ref 67, .int p2, .int (nI 0), .int (nI 3)] [] E I J S Q) : bm_ww 13 0 [.ref 67, .int p2, am_U, am_U] [] E I J S Q := by
  refine bw_st (i' := 1) (ls' := [.ref 67, .int p2, am_U, am_U]) (st' := [.int (nI 0)]) (E' := E) (I' := I) (J' := J) (S' := S) am_e13 rfl rfl rfl rfl ?_
  refine bw_st (i' := 2) (ls' := [.ref 67, .int p2, .int (nI 0), am_U]) (st' := []) (E' := E) (I' := I) (J' := J) (S' := S) am_e13 rfl rfl rfl rfl ?_
  refine bw_st (i' := 3) (ls' := [.ref 67, .int p2, .int (nI 0), am_U]) (st' := [.ref 67]) (E' := E) (I' := I) (J' := J) (S' := S) am_e13 rfl rfl rfl rfl ?_
  refine bw_st (i' := 4) (ls' := [.ref 67, .int p2, .int (nI 0), am_U]) (st' := [.int (nI 3)]) (E' := E) (I' := I) (J' := J) (S' := S) am_e13 rfl rfl rfl rfl ?_
  refine bw_st (i' := 5) (ls' := [.ref 67, .int p2, .int (nI 0), .int (nI 3)]) (st' := []) (E' := E) (I' := I) (J' := J) (S' := S) am_e13 rfl rfl rfl rfl ?_
  exact h
theorem bg13_5_67 {x1 : Int32} {x2 : Int32} {x3 : Int32} {E : am_Ev} {I : Nat → Nat → Int32} {J : Nat → Nat → Int64} {S : Nat → Nat → Option Nat} {Q : am_Qt}  (h : (x3 ≤ x2 → (Q (.inl none) E I J S)) ∧ (¬ x3 ≤ x2 → (vp_in x2 3 ∧ (bm_ww 13 5 [.ref 67, .int x1, .int (x2 + nI 1), .int x3] [] E (u_I I 67 (upd (I 67) x2.toNatClampNeg x1)) J S Q)))) : bm_ww 13 5 [.ref 67, .int x1, .int x2, .int x3] [] E I J S Q := by
  refine bw_st (i' := 6) (ls' := [.ref 67, .int x1, .int x2, .int x3]) (st' := [.int x2]) (E' := E) (I' := I) (J' := J) (S' := S) am_e13 rfl rfl rfl rfl ?_
  refine bw_st (i' := 7) (ls' := [.ref 67, .int x1, .int x2, .int x3]) (st' := [.int x3, .int x2]) (E' := E) (I' := I) (J' := J) (S' := S) am_e13 rfl rfl rfl rfl ?_
  refine bw_if2 am_e13 rfl rfl (fun c => ?_) (fun c => ?_)
  · replace h := h.1 (of_decide_eq_true c)
    exact bw_end am_e13 rfl rfl rfl h
  · replace h := h.2 (of_decide_eq_false c)
    refine bw_st (i' := 9) (ls' := [.ref 67, .int x1, .int x2, .int x3]) (st' := [.ref 67]) (E' := E) (I' := I) (J' := J) (S' := S) am_e13 rfl rfl rfl rfl ?_
    refine bw_st (i' := 10) (ls' := [.ref 67, .int x1, .int x2, .int x3]) (st' := [.int x2, .ref 67]) (E' := E) (I' := I) (J' := J) (S' := S) am_e13 rfl rfl rfl rfl ?_
    refine bw_st (i' := 11) (ls' := [.ref 67, .int x1, .int x2, .int x3]) (st' := [.int x1, .int x2, .ref 67]) (E' := E) (I' := I) (J' := J) (S' := S) am_e13 rfl rfl rfl rfl ?_
    have hf1 := h.1
    replace h := h.2
    refine bw_is (k := 67) (n := 3) (jn := x2.toNatClampNeg) am_e13 rfl rfl (by decide) hf1 rfl ?_
    show bm_ww 13 12 [.ref 67, .int x1, .int x2, .int x3] [] E (u_I I 67 (upd (I 67) x2.toNatClampNeg x1)) J S _
    refine bw_st (i' := 13) (ls' := [.ref 67, .int x1, .int (x2 + nI 1), .int x3]) (st' := []) (E' := E) (I' := (u_I I 67 (upd (I 67) x2.toNatClampNeg x1))) (J' := J) (S' := S) am_e13 rfl rfl rfl rfl ?_
    refine bw_st (i' := 5) (ls' := [.ref 67, .int x1, .int (x2 + nI 1), .int x3]) (st' := []) (E' := E) (I' := (u_I I 67 (upd (I 67) x2.toNatClampNeg x1))) (J' := J) (S' := S) am_e13 rfl rfl rfl rfl ?_
    exact h
theorem bg12_0_12  {E : am_Ev} {I : Nat → Nat → Int32} {J : Nat → Nat → Int64} {S : Nat → Nat → Option Nat} {Q : am_Qt}  (h : bm_cl 13 [.ref 13, .int (-1)] E I J S (q_V fun E1 I1 J1 S1 => bm_cl 13 [.ref 14, .int (nI 0)] E1 I1 J1 S1 (q_V fun E2 I2 J2 S2 => bm_cl 13 [.ref 15, .int (nI 0)] E2 I2 J2 S2 (q_V fun E3 I3 J3 S3 => bm_cl 13 [.ref 16, .int (nI 0)] E3 I3 J3 S3 (q_V fun E4 I4 J4 S4 => Q (.inl none) E4 (u_I (u_I I4 12 (upd (I4 12) 5 (nI 0))) 17 (upd (upd (upd (upd (I4 17) 0 (nI 3)) 1 (nI 1)) 2 (nI 10)) 3 (nI 4))) J4 S4))))) : bm_ww 12 0 [.ref 12] [] E I J S Q := by
  refine bw_st (i' := 1) (ls' := [.ref 12]) (st' := [.ref 12]) (E' := E) (I' := I) (J' := J) (S' := S) am_e12 rfl rfl rfl rfl ?_
  refine bw_st (i' := 2) (ls' := [.ref 12]) (st' := [.ref 13]) (E' := E) (I' := I) (J' := J) (S' := S) am_e12 rfl rfl rfl rfl ?_
  refine bw_st (i' := 3) (ls' := [.ref 12]) (st' := [.int (-1), .ref 13]) (E' := E) (I' := I) (J' := J) (S' := S) am_e12 rfl rfl rfl rfl ?_
  refine bw_cV am_e12 rfl rfl (as := [.ref 13, .int (-1)]) (rest := []) rfl rfl (bm_ww.mono h ?_)
  rintro _ E1 I1 J1 S1 ⟨rfl, h⟩
  refine q_mkV ?_
  refine bw_st (i' := 5) (ls' := [.ref 12]) (st' := [.ref 12]) (E' := E1) (I' := I1) (J' := J1) (S' := S1) am_e12 rfl rfl rfl rfl ?_
  refine bw_st (i' := 6) (ls' := [.ref 12]) (st' := [.ref 14]) (E' := E1) (I' := I1) (J' := J1) (S' := S1) am_e12 rfl rfl rfl rfl ?_
  refine bw_st (i' := 7) (ls' := [.ref 12]) (st' := [.int (nI 0), .ref 14]) (E' := E1) (I' := I1) (J' := J1) (S' := S1) am_e12 rfl rfl rfl rfl ?_
  refine bw_cV am_e12 rfl rfl (as := [.ref 14, .int (nI 0)]) (rest := []) rfl rfl (bm_ww.mono h ?_)
  rintro _ E2 I2 J2 S2 ⟨rfl, h⟩
  refine q_mkV ?_
  refine bw_st (i' := 9) (ls' := [.ref 12]) (st' := [.ref 12]) (E' := E2) (I' := I2) (J' := J2) (S' := S2) am_e12 rfl rfl rfl rfl ?_
  refine bw_st (i' := 10) (ls' := [.ref 12]) (st' := [.ref 15]) (E' := E2) (I' := I2) (J' := J2) (S' := S2) am_e12 rfl rfl rfl rfl ?_
  refine bw_st (i' := 11) (ls' := [.ref 12]) (st' := [.int (nI 0), .ref 15]) (E' := E2) (I' := I2) (J' := J2) (S' := S2) am_e12 rfl rfl rfl rfl ?_
  refine bw_cV am_e12 rfl rfl (as := [.ref 15, .int (nI 0)]) (rest := []) rfl rfl (bm_ww.mono h ?_)
  rintro _ E3 I3 J3 S3 ⟨rfl, h⟩
  refine q_mkV ?_
  refine bw_st (i' := 13) (ls' := [.ref 12]) (st' := [.ref 12]) (E' := E3) (I' := I3) (J' := J3) (S' := S3) am_e12 rfl rfl rfl rfl ?_
  refine bw_st (i' := 14) (ls' := [.ref 12]) (st' := [.ref 16]) (E' := E3) (I' := I3) (J' := J3) (S' := S3) am_e12 rfl rfl rfl rfl ?_
  refine bw_st (i' := 15) (ls' := [.ref 12]) (st' := [.int (nI 0), .ref 16]) (E' := E3) (I' := I3) (J' := J3) (S' := S3) am_e12 rfl rfl rfl rfl ?_
  refine bw_cV am_e12 rfl rfl (as := [.ref 16, .int (nI 0)]) (rest := []) rfl rfl (bm_ww.mono h ?_)
  rintro _ E4 I4 J4 S4 ⟨rfl, h⟩
  refine q_mkV ?_
  refine bw_st (i' := 17) (ls' := [.ref 12]) (st' := [.ref 12]) (E' := E4) (I' := I4) (J' := J4) (S' := S4) am_e12 rfl rfl rfl rfl ?_
  refine bw_st (i' := 18) (ls' := [.ref 12]) (st' := [.int (nI 0), .ref 12]) (E' := E4) (I' := I4) (J' := J4) (S' := S4) am_e12 rfl rfl rfl rfl ?_
  refine bw_st (i' := 19) (ls' := [.ref 12]) (st' := []) (E' := E4) (I' := (u_I I4 12 (upd (I4 12) 5 (nI 0)))) (J' := J4) (S' := S4) am_e12 rfl rfl rfl rfl ?_
  refine bw_st (i' := 20) (ls' := [.ref 12]) (st' := [.ref 12]) (E' := E4) (I' := (u_I I4 12 (upd (I4 12) 5 (nI 0)))) (J' := J4) (S' := S4) am_e12 rfl rfl rfl rfl ?_
  refine bw_st (i' := 21) (ls' := [.ref 12]) (st' := [.ref 17]) (E' := E4) (I' := (u_I I4 12 (upd (I4 12) 5 (nI 0)))) (J' := J4) (S' := S4) am_e12 rfl rfl rfl rfl ?_
  refine bw_st (i' := 22) (ls' := [.ref 12]) (st' := [.int (nI 0), .ref 17]) (E' := E4) (I' := (u_I I4 12 (upd (I4 12) 5 (nI 0)))) (J' := J4) (S' := S4) am_e12 rfl rfl rfl rfl ?_
  refine bw_st (i' := 23) (ls' := [.ref 12]) (st' := [.int (nI 3), .int (nI 0), .ref 17]) (E' := E4) (I' := (u_I I4 12 (upd (I4 12) 5 (nI 0)))) (J' := J4) (S' := S4) am_e12 rfl rfl rfl rfl ?_
  refine bw_is (k := 17) (n := 4) (jn := 0) am_e12 rfl rfl (by decide) (vp_in_nI (by decide) (by decide)) rfl ?_
  show bm_ww 12 24 [.ref 12] [] E4 (u_I (u_I I4 12 (upd (I4 12) 5 (nI 0))) 17 (upd (I4 17) 0 (nI 3))) J4 S4 _
  refine bw_st (i' := 25) (ls' := [.ref 12]) (st' := [.ref 12]) (E' := E4) (I' := (u_I (u_I I4 12 (upd (I4 12) 5 (nI 0))) 17 (upd (I4 17) 0 (nI 3)))) (J' := J4) (S' := S4) am_e12 rfl rfl rfl rfl ?_
  refine bw_st (i' := 26) (ls' := [.ref 12]) (st' := [.ref 17]) (E' := E4) (I' := (u_I (u_I I4 12 (upd (I4 12) 5 (nI 0))) 17 (upd (I4 17) 0 (nI 3)))) (J' := J4) (S' := S4) am_e12 rfl rfl rfl rfl ?_
  refine bw_st (i' := 27) (ls' := [.ref 12]) (st' := [.int (nI 1), .ref 17]) (E' := E4) (I' := (u_I (u_I I4 12 (upd (I4 12) 5 (nI 0))) 17 (upd (I4 17) 0 (nI 3)))) (J' := J4) (S' := S4) am_e12 rfl rfl rfl rfl ?_
  refine bw_st (i' := 28) (ls' := [.ref 12]) (st' := [.int (nI 1), .int (nI 1), .ref 17]) (E' := E4) (I' := (u_I (u_I I4 12 (upd (I4 12) 5 (nI 0))) 17 (upd (I4 17) 0 (nI 3)))) (J' := J4) (S' := S4) am_e12 rfl rfl rfl rfl ?_
  refine bw_is (k := 17) (n := 4) (jn := 1) am_e12 rfl rfl (by decide) (vp_in_nI (by decide) (by decide)) rfl ?_
  refine bw_eI (uI_0 ..) ?_
  show bm_ww 12 29 [.ref 12] [] E4 (u_I (u_I I4 12 (upd (I4 12) 5 (nI 0))) 17 (upd (upd (I4 17) 0 (nI 3)) 1 (nI 1))) J4 S4 _
  refine bw_st (i' := 30) (ls' := [.ref 12]) (st' := [.ref 12]) (E' := E4) (I' := (u_I (u_I I4 12 (upd (I4 12) 5 (nI 0))) 17 (upd (upd (I4 17) 0 (nI 3)) 1 (nI 1)))) (J' := J4) (S' := S4) am_e12 rfl rfl rfl rfl ?_
  refine bw_st (i' := 31) (ls' := [.ref 12]) (st' := [.ref 17]) (E' := E4) (I' := (u_I (u_I I4 12 (upd (I4 12) 5 (nI 0))) 17 (upd (upd (I4 17) 0 (nI 3)) 1 (nI 1)))) (J' := J4) (S' := S4) am_e12 rfl rfl rfl rfl ?_
  refine bw_st (i' := 32) (ls' := [.ref 12]) (st' := [.int (nI 2), .ref 17]) (E' := E4) (I' := (u_I (u_I I4 12 (upd (I4 12) 5 (nI 0))) 17 (upd (upd (I4 17) 0 (nI 3)) 1 (nI 1)))) (J' := J4) (S' := S4) am_e12 rfl rfl rfl rfl ?_
  refine bw_st (i' := 33) (ls' := [.ref 12]) (st' := [.int (nI 10), .int (nI 2), .ref 17]) (E' := E4) (I' := (u_I (u_I I4 12 (upd (I4 12) 5 (nI 0))) 17 (upd (upd (I4 17) 0 (nI 3)) 1 (nI 1)))) (J' := J4) (S' := S4) am_e12 rfl rfl rfl rfl ?_
  refine bw_is (k := 17) (n := 4) (jn := 2) am_e12 rfl rfl (by decide) (vp_in_nI (by decide) (by decide)) rfl ?_
  refine bw_eI (uI_0 ..) ?_
  show bm_ww 12 34 [.ref 12] [] E4 (u_I (u_I I4 12 (upd (I4 12) 5 (nI 0))) 17 (upd (upd (upd (I4 17) 0 (nI 3)) 1 (nI 1)) 2 (nI 10))) J4 S4 _
  refine bw_st (i' := 35) (ls' := [.ref 12]) (st' := [.ref 12]) (E' := E4) (I' := (u_I (u_I I4 12 (upd (I4 12) 5 (nI 0))) 17 (upd (upd (upd (I4 17) 0 (nI 3)) 1 (nI 1)) 2 (nI 10)))) (J' := J4) (S' := S4) am_e12 rfl rfl rfl rfl ?_
  refine bw_st (i' := 36) (ls' := [.ref 12]) (st' := [.ref 17]) (E' := E4) (I' := (u_I (u_I I4 12 (upd (I4 12) 5 (nI 0))) 17 (upd (upd (upd (I4 17) 0 (nI 3)) 1 (nI 1)) 2 (nI 10)))) (J' := J4) (S' := S4) am_e12 rfl rfl rfl rfl ?_
  refine bw_st (i' := 37) (ls' := [.ref 12]) (st' := [.int (nI 3), .ref 17]) (E' := E4) (I' := (u_I (u_I I4 12 (upd (I4 12) 5 (nI 0))) 17 (upd (upd (upd (I4 17) 0 (nI 3)) 1 (nI 1)) 2 (nI 10)))) (J' := J4) (S' := S4) am_e12 rfl rfl rfl rfl ?_
  refine bw_st (i' := 38) (ls' := [.ref 12]) (st' := [.int (nI 4), .int (nI 3), .ref 17]) (E' := E4) (I' := (u_I (u_I I4 12 (upd (I4 12) 5 (nI 0))) 17 (upd (upd (upd (I4 17) 0 (nI 3)) 1 (nI 1)) 2 (nI 10)))) (J' := J4) (S' := S4) am_e12 rfl rfl rfl rfl ?_
  refine bw_is (k := 17) (n := 4) (jn := 3) am_e12 rfl rfl (by decide) (vp_in_nI (by decide) (by decide)) rfl ?_
  refine bw_eI (uI_0 ..) ?_
  show bm_ww 12 39 [.ref 12] [] E4 (u_I (u_I I4 12 (upd (I4 12) 5 (nI 0))) 17 (upd (upd (upd (upd (I4 17) 0 (nI 3)) 1 (nI 1)) 2 (nI 10)) 3 (nI 4))) J4 S4 _
  exact bw_end am_e12 rfl rfl rfl h
theorem bg16_0_20  {E : am_Ev} {I : Nat → Nat → Int32} {J : Nat → Nat → Int64} {S : Nat → Nat → Option Nat} {Q : am_Qt}  (h : bm_cl 13 [.ref 22, .int (nI 0)] E (u_I I 21 (va_cpy (I 16) (I 21) 0 0 16)) J S (q_V fun E1 I1 J1 S1 => bm_cl 13 [.ref 23, .int (nI 0)] E1 I1 J1 S1 (q_V fun E2 I2 J2 S2 => bm_cl 13 [.ref 24, .int (nI 0)] E2 I2 J2 S2 (q_V fun E3 I3 J3 S3 => bm_cl 13 [.ref 25, .int (-1)] E3 I3 J3 S3 (q_V fun E4 I4 J4 S4 => bm_cl 13 [.ref 26, .int (nI 0)] E4 I4 J4 S4 (q_V fun E5 I5 J5 S5 => Q (.inl none) E5 (u_I I5 20 (upd (I5 20) 6 (-1))) J5 S5)))))) : bm_ww 16 0 [.ref 20, .ref 12] [] E I J S Q := by
  refine bw_st (i' := 1) (ls' := [.ref 20, .ref 12]) (st' := [.ref 12]) (E' := E) (I' := I) (J' := J) (S' := S) am_e16 rfl rfl rfl rfl ?_
  refine bw_st (i' := 2) (ls' := [.ref 20, .ref 12]) (st' := [.ref 16]) (E' := E) (I' := I) (J' := J) (S' := S) am_e16 rfl rfl rfl rfl ?_
  refine bw_st (i' := 3) (ls' := [.ref 20, .ref 12]) (st' := [.int (nI 0), .ref 16]) (E' := E) (I' := I) (J' := J) (S' := S) am_e16 rfl rfl rfl rfl ?_
  refine bw_st (i' := 4) (ls' := [.ref 20, .ref 12]) (st' := [.ref 20, .int (nI 0), .ref 16]) (E' := E) (I' := I) (J' := J) (S' := S) am_e16 rfl rfl rfl rfl ?_
  refine bw_st (i' := 5) (ls' := [.ref 20, .ref 12]) (st' := [.ref 21, .int (nI 0), .ref 16]) (E' := E) (I' := I) (J' := J) (S' := S) am_e16 rfl rfl rfl rfl ?_
  refine bw_st (i' := 6) (ls' := [.ref 20, .ref 12]) (st' := [.int (nI 0), .ref 21, .int (nI 0), .ref 16]) (E' := E) (I' := I) (J' := J) (S' := S) am_e16 rfl rfl rfl rfl ?_
  refine bw_st (i' := 7) (ls' := [.ref 20, .ref 12]) (st' := [.int (nI 16), .int (nI 0), .ref 21, .int (nI 0), .ref 16]) (E' := E) (I' := I) (J' := J) (S' := S) am_e16 rfl rfl rfl rfl ?_
  refine bw_cp (k := 16) (a := 21) (nk := 16) (na := 16) am_e16 rfl (by decide) (by decide) rfl rfl (by decide) (by unfold am_cpOk; decide) ?_
  show bm_ww 16 8 [.ref 20, .ref 12] [] E (u_I I 21 (va_cpy (I 16) (I 21) 0 0 16)) J S _
  refine bw_st (i' := 9) (ls' := [.ref 20, .ref 12]) (st' := [.ref 20]) (E' := E) (I' := (u_I I 21 (va_cpy (I 16) (I 21) 0 0 16))) (J' := J) (S' := S) am_e16 rfl rfl rfl rfl ?_
  refine bw_st (i' := 10) (ls' := [.ref 20, .ref 12]) (st' := [.ref 22]) (E' := E) (I' := (u_I I 21 (va_cpy (I 16) (I 21) 0 0 16))) (J' := J) (S' := S) am_e16 rfl rfl rfl rfl ?_
  refine bw_st (i' := 11) (ls' := [.ref 20, .ref 12]) (st' := [.int (nI 0), .ref 22]) (E' := E) (I' := (u_I I 21 (va_cpy (I 16) (I 21) 0 0 16))) (J' := J) (S' := S) am_e16 rfl rfl rfl rfl ?_
  refine bw_cV am_e16 rfl rfl (as := [.ref 22, .int (nI 0)]) (rest := []) rfl rfl (bm_ww.mono h ?_)
  rintro _ E1 I1 J1 S1 ⟨rfl, h⟩
  refine q_mkV ?_
  refine bw_st (i' := 13) (ls' := [.ref 20, .ref 12]) (st' := [.ref 20]) (E' := E1) (I' := I1) (J' := J1) (S' := S1) am_e16 rfl rfl rfl rfl ?_
  refine bw_st (i' := 14) (ls' := [.ref 20, .ref 12]) (st' := [.ref 23]) (E' := E1) (I' := I1) (J' := J1) (S' := S1) am_e16 rfl rfl rfl rfl ?_
  refine bw_st (i' := 15) (ls' := [.ref 20, .ref 12]) (st' := [.int (nI 0), .ref 23]) (E' := E1) (I' := I1) (J' := J1) (S' := S1) am_e16 rfl rfl rfl rfl ?_
  refine bw_cV am_e16 rfl rfl (as := [.ref 23, .int (nI 0)]) (rest := []) rfl rfl (bm_ww.mono h ?_)
  rintro _ E2 I2 J2 S2 ⟨rfl, h⟩
  refine q_mkV ?_
  refine bw_st (i' := 17) (ls' := [.ref 20, .ref 12]) (st' := [.ref 20]) (E' := E2) (I' := I2) (J' := J2) (S' := S2) am_e16 rfl rfl rfl rfl ?_
  refine bw_st (i' := 18) (ls' := [.ref 20, .ref 12]) (st' := [.ref 24]) (E' := E2) (I' := I2) (J' := J2) (S' := S2) am_e16 rfl rfl rfl rfl ?_
  refine bw_st (i' := 19) (ls' := [.ref 20, .ref 12]) (st' := [.int (nI 0), .ref 24]) (E' := E2) (I' := I2) (J' := J2) (S' := S2) am_e16 rfl rfl rfl rfl ?_
  refine bw_cV am_e16 rfl rfl (as := [.ref 24, .int (nI 0)]) (rest := []) rfl rfl (bm_ww.mono h ?_)
  rintro _ E3 I3 J3 S3 ⟨rfl, h⟩
  refine q_mkV ?_
  refine bw_st (i' := 21) (ls' := [.ref 20, .ref 12]) (st' := [.ref 20]) (E' := E3) (I' := I3) (J' := J3) (S' := S3) am_e16 rfl rfl rfl rfl ?_
  refine bw_st (i' := 22) (ls' := [.ref 20, .ref 12]) (st' := [.ref 25]) (E' := E3) (I' := I3) (J' := J3) (S' := S3) am_e16 rfl rfl rfl rfl ?_
  refine bw_st (i' := 23) (ls' := [.ref 20, .ref 12]) (st' := [.int (-1), .ref 25]) (E' := E3) (I' := I3) (J' := J3) (S' := S3) am_e16 rfl rfl rfl rfl ?_
  refine bw_cV am_e16 rfl rfl (as := [.ref 25, .int (-1)]) (rest := []) rfl rfl (bm_ww.mono h ?_)
  rintro _ E4 I4 J4 S4 ⟨rfl, h⟩
  refine q_mkV ?_
  refine bw_st (i' := 25) (ls' := [.ref 20, .ref 12]) (st' := [.ref 20]) (E' := E4) (I' := I4) (J' := J4) (S' := S4) am_e16 rfl rfl rfl rfl ?_
  refine bw_st (i' := 26) (ls' := [.ref 20, .ref 12]) (st' := [.ref 26]) (E' := E4) (I' := I4) (J' := J4) (S' := S4) am_e16 rfl rfl rfl rfl ?_
  refine bw_st (i' := 27) (ls' := [.ref 20, .ref 12]) (st' := [.int (nI 0), .ref 26]) (E' := E4) (I' := I4) (J' := J4) (S' := S4) am_e16 rfl rfl rfl rfl ?_
  refine bw_cV am_e16 rfl rfl (as := [.ref 26, .int (nI 0)]) (rest := []) rfl rfl (bm_ww.mono h ?_)
  rintro _ E5 I5 J5 S5 ⟨rfl, h⟩
  refine q_mkV ?_
  refine bw_st (i' := 29) (ls' := [.ref 20, .ref 12]) (st' := [.ref 20]) (E' := E5) (I' := I5) (J' := J5) (S' := S5) am_e16 rfl rfl rfl rfl ?_
  refine bw_st (i' := 30) (ls' := [.ref 20, .ref 12]) (st' := [.int (-1), .ref 20]) (E' := E5) (I' := I5) (J' := J5) (S' := S5) am_e16 rfl rfl rfl rfl ?_
  refine bw_st (i' := 31) (ls' := [.ref 20, .ref 12]) (st' := []) (E' := E5) (I' := (u_I I5 20 (upd (I5 20) 6 (-1)))) (J' := J5) (S' := S5) am_e16 rfl rfl rfl rfl ?_
  exact bw_end am_e16 rfl rfl rfl h
theorem bg16_0_61  {E : am_Ev} {I : Nat → Nat → Int32} {J : Nat → Nat → Int64} {S : Nat → Nat → Option Nat} {Q : am_Qt}  (h : bm_cl 13 [.ref 63, .int (nI 0)] E (u_I I 62 (va_cpy (I 16) (I 62) 0 0 16)) J S (q_V fun E1 I1 J1 S1 => bm_cl 13 [.ref 64, .int (nI 0)] E1 I1 J1 S1 (q_V fun E2 I2 J2 S2 => bm_cl 13 [.ref 65, .int (nI 0)] E2 I2 J2 S2 (q_V fun E3 I3 J3 S3 => bm_cl 13 [.ref 66, .int (-1)] E3 I3 J3 S3 (q_V fun E4 I4 J4 S4 => bm_cl 13 [.ref 67, .int (nI 0)] E4 I4 J4 S4 (q_V fun E5 I5 J5 S5 => Q (.inl none) E5 (u_I I5 61 (upd (I5 61) 6 (-1))) J5 S5)))))) : bm_ww 16 0 [.ref 61, .ref 12] [] E I J S Q := by
  refine bw_st (i' := 1) (ls' := [.ref 61, .ref 12]) (st' := [.ref 12]) (E' := E) (I' := I) (J' := J) (S' := S) am_e16 rfl rfl rfl rfl ?_
  refine bw_st (i' := 2) (ls' := [.ref 61, .ref 12]) (st' := [.ref 16]) (E' := E) (I' := I) (J' := J) (S' := S) am_e16 rfl rfl rfl rfl ?_
  refine bw_st (i' := 3) (ls' := [.ref 61, .ref 12]) (st' := [.int (nI 0), .ref 16]) (E' := E) (I' := I) (J' := J) (S' := S) am_e16 rfl rfl rfl rfl ?_
  refine bw_st (i' := 4) (ls' := [.ref 61, .ref 12]) (st' := [.ref 61, .int (nI 0), .ref 16]) (E' := E) (I' := I) (J' := J) (S' := S) am_e16 rfl rfl rfl rfl ?_
  refine bw_st (i' := 5) (ls' := [.ref 61, .ref 12]) (st' := [.ref 62, .int (nI 0), .ref 16]) (E' := E) (I' := I) (J' := J) (S' := S) am_e16 rfl rfl rfl rfl ?_
  refine bw_st (i' := 6) (ls' := [.ref 61, .ref 12]) (st' := [.int (nI 0), .ref 62, .int (nI 0), .ref 16]) (E' := E) (I' := I) (J' := J) (S' := S) am_e16 rfl rfl rfl rfl ?_
  refine bw_st (i' := 7) (ls' := [.ref 61, .ref 12]) (st' := [.int (nI 16), .int (nI 0), .ref 62, .int (nI 0), .ref 16]) (E' := E) (I' := I) (J' := J) (S' := S) am_e16 rfl rfl rfl rfl ?_
  refine bw_cp (k := 16) (a := 62) (nk := 16) (na := 16) am_e16 rfl (by decide) (by decide) rfl rfl (by decide) (by unfold am_cpOk; decide) ?_
  show bm_ww 16 8 [.ref 61, .ref 12] [] E (u_I I 62 (va_cpy (I 16) (I 62) 0 0 16)) J S _
  refine bw_st (i' := 9) (ls' := [.ref 61, .ref 12]) (st' := [.ref 61]) (E' := E) (I' := (u_I I 62 (va_cpy (I 16) (I 62) 0 0 16))) (J' := J) (S' := S) am_e16 rfl rfl rfl rfl ?_
  refine bw_st (i' := 10) (ls' := [.ref 61, .ref 12]) (st' := [.ref 63]) (E' := E) (I' := (u_I I 62 (va_cpy (I 16) (I 62) 0 0 16))) (J' := J) (S' := S) am_e16 rfl rfl rfl rfl ?_
  refine bw_st (i' := 11) (ls' := [.ref 61, .ref 12]) (st' := [.int (nI 0), .ref 63]) (E' := E) (I' := (u_I I 62 (va_cpy (I 16) (I 62) 0 0 16))) (J' := J) (S' := S) am_e16 rfl rfl rfl rfl ?_
  refine bw_cV am_e16 rfl rfl (as := [.ref 63, .int (nI 0)]) (rest := []) rfl rfl (bm_ww.mono h ?_)
  rintro _ E1 I1 J1 S1 ⟨rfl, h⟩
  refine q_mkV ?_
  refine bw_st (i' := 13) (ls' := [.ref 61, .ref 12]) (st' := [.ref 61]) (E' := E1) (I' := I1) (J' := J1) (S' := S1) am_e16 rfl rfl rfl rfl ?_
  refine bw_st (i' := 14) (ls' := [.ref 61, .ref 12]) (st' := [.ref 64]) (E' := E1) (I' := I1) (J' := J1) (S' := S1) am_e16 rfl rfl rfl rfl ?_
  refine bw_st (i' := 15) (ls' := [.ref 61, .ref 12]) (st' := [.int (nI 0), .ref 64]) (E' := E1) (I' := I1) (J' := J1) (S' := S1) am_e16 rfl rfl rfl rfl ?_
  refine bw_cV am_e16 rfl rfl (as := [.ref 64, .int (nI 0)]) (rest := []) rfl rfl (bm_ww.mono h ?_)
  rintro _ E2 I2 J2 S2 ⟨rfl, h⟩
  refine q_mkV ?_
  refine bw_st (i' := 17) (ls' := [.ref 61, .ref 12]) (st' := [.ref 61]) (E' := E2) (I' := I2) (J' := J2) (S' := S2) am_e16 rfl rfl rfl rfl ?_
  refine bw_st (i' := 18) (ls' := [.ref 61, .ref 12]) (st' := [.ref 65]) (E' := E2) (I' := I2) (J' := J2) (S' := S2) am_e16 rfl rfl rfl rfl ?_
  refine bw_st (i' := 19) (ls' := [.ref 61, .ref 12]) (st' := [.int (nI 0), .ref 65]) (E' := E2) (I' := I2) (J' := J2) (S' := S2) am_e16 rfl rfl rfl rfl ?_
  refine bw_cV am_e16 rfl rfl (as := [.ref 65, .int (nI 0)]) (rest := []) rfl rfl (bm_ww.mono h ?_)
  rintro _ E3 I3 J3 S3 ⟨rfl, h⟩
  refine q_mkV ?_
  refine bw_st (i' := 21) (ls' := [.ref 61, .ref 12]) (st' := [.ref 61]) (E' := E3) (I' := I3) (J' := J3) (S' := S3) am_e16 rfl rfl rfl rfl ?_
  refine bw_st (i' := 22) (ls' := [.ref 61, .ref 12]) (st' := [.ref 66]) (E' := E3) (I' := I3) (J' := J3) (S' := S3) am_e16 rfl rfl rfl rfl ?_
  refine bw_st (i' := 23) (ls' := [.ref 61, .ref 12]) (st' := [.int (-1), .ref 66]) (E' := E3) (I' := I3) (J' := J3) (S' := S3) am_e16 rfl rfl rfl rfl ?_
  refine bw_cV am_e16 rfl rfl (as := [.ref 66, .int (-1)]) (rest := []) rfl rfl (bm_ww.mono h ?_)
  rintro _ E4 I4 J4 S4 ⟨rfl, h⟩
  refine q_mkV ?_
  refine bw_st (i' := 25) (ls' := [.ref 61, .ref 12]) (st' := [.ref 61]) (E' := E4) (I' := I4) (J' := J4) (S' := S4) am_e16 rfl rfl rfl rfl ?_
  refine bw_st (i' := 26) (ls' := [.ref 61, .ref 12]) (st' := [.ref 67]) (E' := E4) (I' := I4) (J' := J4) (S' := S4) am_e16 rfl rfl rfl rfl ?_
  refine bw_st (i' := 27) (ls' := [.ref 61, .ref 12]) (st' := [.int (nI 0), .ref 67]) (E' := E4) (I' := I4) (J' := J4) (S' := S4) am_e16 rfl rfl rfl rfl ?_
  refine bw_cV am_e16 rfl rfl (as := [.ref 67, .int (nI 0)]) (rest := []) rfl rfl (bm_ww.mono h ?_)
  rintro _ E5 I5 J5 S5 ⟨rfl, h⟩
  refine q_mkV ?_
  refine bw_st (i' := 29) (ls' := [.ref 61, .ref 12]) (st' := [.ref 61]) (E' := E5) (I' := I5) (J' := J5) (S' := S5) am_e16 rfl rfl rfl rfl ?_
  refine bw_st (i' := 30) (ls' := [.ref 61, .ref 12]) (st' := [.int (-1), .ref 61]) (E' := E5) (I' := I5) (J' := J5) (S' := S5) am_e16 rfl rfl rfl rfl ?_
  refine bw_st (i' := 31) (ls' := [.ref 61, .ref 12]) (st' := []) (E' := E5) (I' := (u_I I5 61 (upd (I5 61) 6 (-1)))) (J' := J5) (S' := S5) am_e16 rfl rfl rfl rfl ?_
  exact bw_end am_e16 rfl rfl rfl h
theorem bg15_0_19 {p2 : Int32} {E : am_Ev} {I : Nat → Nat → Int32} {J : Nat → Nat → Int64} {S : Nat → Nat → Option Nat} {Q : am_Qt}  (h : bm_cl 16 [.ref 20, .ref 12] E I J S (q_V fun E1 I1 J1 S1 => Q (.inl none) E1 (u_I I1 19 (upd (upd (I1 19) 1 p2) 2 (nI 0))) J1 S1)) : bm_ww 15 0 [.ref 19, .ref 12, .int p2] [] E I J S Q := by
  refine bw_st (i' := 1) (ls' := [.ref 19, .ref 12, .int p2]) (st' := [.ref 19]) (E' := E) (I' := I) (J' := J) (S' := S) am_e15 rfl rfl rfl rfl ?_
  refine bw_st (i' := 2) (ls' := [.ref 19, .ref 12, .int p2]) (st' := [.ref 20]) (E' := E) (I' := I) (J' := J) (S' := S) am_e15 rfl rfl rfl rfl ?_
  refine bw_st (i' := 3) (ls' := [.ref 19, .ref 12, .int p2]) (st' := [.ref 12, .ref 20]) (E' := E) (I' := I) (J' := J) (S' := S) am_e15 rfl rfl rfl rfl ?_
  refine bw_cV am_e15 rfl rfl (as := [.ref 20, .ref 12]) (rest := []) rfl rfl (bm_ww.mono h ?_)
  rintro _ E1 I1 J1 S1 ⟨rfl, h⟩
  refine q_mkV ?_
  refine bw_st (i' := 5) (ls' := [.ref 19, .ref 12, .int p2]) (st' := [.ref 19]) (E' := E1) (I' := I1) (J' := J1) (S' := S1) am_e15 rfl rfl rfl rfl ?_
  refine bw_st (i' := 6) (ls' := [.ref 19, .ref 12, .int p2]) (st' := [.int p2, .ref 19]) (E' := E1) (I' := I1) (J' := J1) (S' := S1) am_e15 rfl rfl rfl rfl ?_
  refine bw_st (i' := 7) (ls' := [.ref 19, .ref 12, .int p2]) (st' := []) (E' := E1) (I' := (u_I I1 19 (upd (I1 19) 1 p2))) (J' := J1) (S' := S1) am_e15 rfl rfl rfl rfl ?_
  refine bw_st (i' := 8) (ls' := [.ref 19, .ref 12, .int p2]) (st' := [.ref 19]) (E' := E1) (I' := (u_I I1 19 (upd (I1 19) 1 p2))) (J' := J1) (S' := S1) am_e15 rfl rfl rfl rfl ?_
  refine bw_st (i' := 9) (ls' := [.ref 19, .ref 12, .int p2]) (st' := [.int (nI 0), .ref 19]) (E' := E1) (I' := (u_I I1 19 (upd (I1 19) 1 p2))) (J' := J1) (S' := S1) am_e15 rfl rfl rfl rfl ?_
  refine bw_st (i' := 10) (ls' := [.ref 19, .ref 12, .int p2]) (st' := []) (E' := E1) (I' := (u_I (u_I I1 19 (upd (I1 19) 1 p2)) 19 (upd (upd (I1 19) 1 p2) 2 (nI 0)))) (J' := J1) (S' := S1) am_e15 rfl rfl rfl rfl ?_
  refine bw_eI (uI_0 ..) ?_
  show bm_ww 15 10 [.ref 19, .ref 12, .int p2] [] E1 (u_I I1 19 (upd (upd (I1 19) 1 p2) 2 (nI 0))) J1 S1 _
  exact bw_end am_e15 rfl rfl rfl h
theorem bg14_0  {E : am_Ev} {I : Nat → Nat → Int32} {J : Nat → Nat → Int64} {S : Nat → Nat → Option Nat} {Q : am_Qt}  (h : bm_cl 15 [.ref 19, .ref 12, .int ((I 17) 1)] E I J S (q_V fun E1 I1 J1 S1 => bm_cl 13 [.ref 28, .int (nI 0)] E1 I1 J1 S1 (q_V fun E2 I2 J2 S2 => Q (.inl none) E2 (u_I (u_I I2 34 (upd (I2 34) 4 (nI 0))) 18 (upd (upd (upd (I2 18) 9 (nI 0)) 10 (nI 0)) 11 (nI 0))) J2 S2))) : bm_ww 14 0 [.ref 18, .ref 12] [] E I J S Q := by
  refine bw_st (i' := 1) (ls' := [.ref 18, .ref 12]) (st' := [.ref 18]) (E' := E) (I' := I) (J' := J) (S' := S) am_e14 rfl rfl rfl rfl ?_
  refine bw_st (i' := 2) (ls' := [.ref 18, .ref 12]) (st' := [.ref 19]) (E' := E) (I' := I) (J' := J) (S' := S) am_e14 rfl rfl rfl rfl ?_
  refine bw_st (i' := 3) (ls' := [.ref 18, .ref 12]) (st' := [.ref 12, .ref 19]) (E' := E) (I' := I) (J' := J) (S' := S) am_e14 rfl rfl rfl rfl ?_
  refine bw_st (i' := 4) (ls' := [.ref 18, .ref 12]) (st' := [.ref 12, .ref 12, .ref 19]) (E' := E) (I' := I) (J' := J) (S' := S) am_e14 rfl rfl rfl rfl ?_
  refine bw_st (i' := 5) (ls' := [.ref 18, .ref 12]) (st' := [.ref 17, .ref 12, .ref 19]) (E' := E) (I' := I) (J' := J) (S' := S) am_e14 rfl rfl rfl rfl ?_
  refine bw_st (i' := 6) (ls' := [.ref 18, .ref 12]) (st' := [.int (nI 1), .ref 17, .ref 12, .ref 19]) (E' := E) (I' := I) (J' := J) (S' := S) am_e14 rfl rfl rfl rfl ?_
  refine bw_ia (k := 17) (n := 4) (jn := 1) am_e14 rfl rfl (by decide) (vp_in_nI (by decide) (by decide)) rfl ?_
  show bm_ww 14 7 [.ref 18, .ref 12] [.int ((I 17) 1), .ref 12, .ref 19] E I J S _
  refine bw_cV am_e14 rfl rfl (as := [.ref 19, .ref 12, .int ((I 17) 1)]) (rest := []) rfl rfl (bm_ww.mono h ?_)
  rintro _ E1 I1 J1 S1 ⟨rfl, h⟩
  refine q_mkV ?_
  refine bw_st (i' := 9) (ls' := [.ref 18, .ref 12]) (st' := [.ref 18]) (E' := E1) (I' := I1) (J' := J1) (S' := S1) am_e14 rfl rfl rfl rfl ?_
  refine bw_st (i' := 10) (ls' := [.ref 18, .ref 12]) (st' := [.ref 28]) (E' := E1) (I' := I1) (J' := J1) (S' := S1) am_e14 rfl rfl rfl rfl ?_
  refine bw_st (i' := 11) (ls' := [.ref 18, .ref 12]) (st' := [.int (nI 0), .ref 28]) (E' := E1) (I' := I1) (J' := J1) (S' := S1) am_e14 rfl rfl rfl rfl ?_
  refine bw_cV am_e14 rfl rfl (as := [.ref 28, .int (nI 0)]) (rest := []) rfl rfl (bm_ww.mono h ?_)
  rintro _ E2 I2 J2 S2 ⟨rfl, h⟩
  refine q_mkV ?_
  refine bw_st (i' := 13) (ls' := [.ref 18, .ref 12]) (st' := [.ref 18]) (E' := E2) (I' := I2) (J' := J2) (S' := S2) am_e14 rfl rfl rfl rfl ?_
  refine bw_st (i' := 14) (ls' := [.ref 18, .ref 12]) (st' := [.ref 34]) (E' := E2) (I' := I2) (J' := J2) (S' := S2) am_e14 rfl rfl rfl rfl ?_
  refine bw_st (i' := 15) (ls' := [.ref 18, .ref 12]) (st' := [.int (nI 0), .ref 34]) (E' := E2) (I' := I2) (J' := J2) (S' := S2) am_e14 rfl rfl rfl rfl ?_
  refine bw_st (i' := 16) (ls' := [.ref 18, .ref 12]) (st' := []) (E' := E2) (I' := (u_I I2 34 (upd (I2 34) 4 (nI 0)))) (J' := J2) (S' := S2) am_e14 rfl rfl rfl rfl ?_
  refine bw_st (i' := 17) (ls' := [.ref 18, .ref 12]) (st' := [.ref 18]) (E' := E2) (I' := (u_I I2 34 (upd (I2 34) 4 (nI 0)))) (J' := J2) (S' := S2) am_e14 rfl rfl rfl rfl ?_
  refine bw_st (i' := 18) (ls' := [.ref 18, .ref 12]) (st' := [.int (nI 0), .ref 18]) (E' := E2) (I' := (u_I I2 34 (upd (I2 34) 4 (nI 0)))) (J' := J2) (S' := S2) am_e14 rfl rfl rfl rfl ?_
  refine bw_st (i' := 19) (ls' := [.ref 18, .ref 12]) (st' := []) (E' := E2) (I' := (u_I (u_I I2 34 (upd (I2 34) 4 (nI 0))) 18 (upd (I2 18) 9 (nI 0)))) (J' := J2) (S' := S2) am_e14 rfl rfl rfl rfl ?_
  refine bw_st (i' := 20) (ls' := [.ref 18, .ref 12]) (st' := [.ref 18]) (E' := E2) (I' := (u_I (u_I I2 34 (upd (I2 34) 4 (nI 0))) 18 (upd (I2 18) 9 (nI 0)))) (J' := J2) (S' := S2) am_e14 rfl rfl rfl rfl ?_
  refine bw_st (i' := 21) (ls' := [.ref 18, .ref 12]) (st' := [.int (nI 0), .ref 18]) (E' := E2) (I' := (u_I (u_I I2 34 (upd (I2 34) 4 (nI 0))) 18 (upd (I2 18) 9 (nI 0)))) (J' := J2) (S' := S2) am_e14 rfl rfl rfl rfl ?_
  refine bw_st (i' := 22) (ls' := [.ref 18, .ref 12]) (st' := []) (E' := E2) (I' := (u_I (u_I (u_I I2 34 (upd (I2 34) 4 (nI 0))) 18 (upd (I2 18) 9 (nI 0))) 18 (upd (upd (I2 18) 9 (nI 0)) 10 (nI 0)))) (J' := J2) (S' := S2) am_e14 rfl rfl rfl rfl ?_
  refine bw_eI (uI_0 ..) ?_
  show bm_ww 14 22 [.ref 18, .ref 12] [] E2 (u_I (u_I I2 34 (upd (I2 34) 4 (nI 0))) 18 (upd (upd (I2 18) 9 (nI 0)) 10 (nI 0))) J2 S2 _
  refine bw_st (i' := 23) (ls' := [.ref 18, .ref 12]) (st' := [.ref 18]) (E' := E2) (I' := (u_I (u_I I2 34 (upd (I2 34) 4 (nI 0))) 18 (upd (upd (I2 18) 9 (nI 0)) 10 (nI 0)))) (J' := J2) (S' := S2) am_e14 rfl rfl rfl rfl ?_
  refine bw_st (i' := 24) (ls' := [.ref 18, .ref 12]) (st' := [.int (nI 0), .ref 18]) (E' := E2) (I' := (u_I (u_I I2 34 (upd (I2 34) 4 (nI 0))) 18 (upd (upd (I2 18) 9 (nI 0)) 10 (nI 0)))) (J' := J2) (S' := S2) am_e14 rfl rfl rfl rfl ?_
  refine bw_st (i' := 25) (ls' := [.ref 18, .ref 12]) (st' := []) (E' := E2) (I' := (u_I (u_I (u_I I2 34 (upd (I2 34) 4 (nI 0))) 18 (upd (upd (I2 18) 9 (nI 0)) 10 (nI 0))) 18 (upd (upd (upd (I2 18) 9 (nI 0)) 10 (nI 0)) 11 (nI 0)))) (J' := J2) (S' := S2) am_e14 rfl rfl rfl rfl ?_
  refine bw_eI (uI_0 ..) ?_
  show bm_ww 14 25 [.ref 18, .ref 12] [] E2 (u_I (u_I I2 34 (upd (I2 34) 4 (nI 0))) 18 (upd (upd (upd (I2 18) 9 (nI 0)) 10 (nI 0)) 11 (nI 0))) J2 S2 _
  exact bw_end am_e14 rfl rfl rfl h
theorem bg17_0_60  {E : am_Ev} {I : Nat → Nat → Int32} {J : Nat → Nat → Int64} {S : Nat → Nat → Option Nat} {Q : am_Qt}  (h : bm_cl 16 [.ref 61, .ref 12] E I J S (q_V fun E1 I1 J1 S1 => Q (.inl none) E1 (u_I I1 60 (upd (upd (upd (upd (I1 60) 1 (nI 0)) 2 (nI 0)) 3 (nI 0)) 4 (-1))) J1 S1)) : bm_ww 17 0 [.ref 60, .ref 12] [] E I J S Q := by
  refine bw_st (i' := 1) (ls' := [.ref 60, .ref 12]) (st' := [.ref 60]) (E' := E) (I' := I) (J' := J) (S' := S) am_e17 rfl rfl rfl rfl ?_
  refine bw_st (i' := 2) (ls' := [.ref 60, .ref 12]) (st' := [.ref 61]) (E' := E) (I' := I) (J' := J) (S' := S) am_e17 rfl rfl rfl rfl ?_
  refine bw_st (i' := 3) (ls' := [.ref 60, .ref 12]) (st' := [.ref 12, .ref 61]) (E' := E) (I' := I) (J' := J) (S' := S) am_e17 rfl rfl rfl rfl ?_
  refine bw_cV am_e17 rfl rfl (as := [.ref 61, .ref 12]) (rest := []) rfl rfl (bm_ww.mono h ?_)
  rintro _ E1 I1 J1 S1 ⟨rfl, h⟩
  refine q_mkV ?_
  refine bw_st (i' := 5) (ls' := [.ref 60, .ref 12]) (st' := [.ref 60]) (E' := E1) (I' := I1) (J' := J1) (S' := S1) am_e17 rfl rfl rfl rfl ?_
  refine bw_st (i' := 6) (ls' := [.ref 60, .ref 12]) (st' := [.int (nI 0), .ref 60]) (E' := E1) (I' := I1) (J' := J1) (S' := S1) am_e17 rfl rfl rfl rfl ?_
  refine bw_st (i' := 7) (ls' := [.ref 60, .ref 12]) (st' := []) (E' := E1) (I' := (u_I I1 60 (upd (I1 60) 1 (nI 0)))) (J' := J1) (S' := S1) am_e17 rfl rfl rfl rfl ?_
  refine bw_st (i' := 8) (ls' := [.ref 60, .ref 12]) (st' := [.ref 60]) (E' := E1) (I' := (u_I I1 60 (upd (I1 60) 1 (nI 0)))) (J' := J1) (S' := S1) am_e17 rfl rfl rfl rfl ?_
  refine bw_st (i' := 9) (ls' := [.ref 60, .ref 12]) (st' := [.int (nI 0), .ref 60]) (E' := E1) (I' := (u_I I1 60 (upd (I1 60) 1 (nI 0)))) (J' := J1) (S' := S1) am_e17 rfl rfl rfl rfl ?_
  refine bw_st (i' := 10) (ls' := [.ref 60, .ref 12]) (st' := []) (E' := E1) (I' := (u_I (u_I I1 60 (upd (I1 60) 1 (nI 0))) 60 (upd (upd (I1 60) 1 (nI 0)) 2 (nI 0)))) (J' := J1) (S' := S1) am_e17 rfl rfl rfl rfl ?_
  refine bw_eI (uI_0 ..) ?_
  show bm_ww 17 10 [.ref 60, .ref 12] [] E1 (u_I I1 60 (upd (upd (I1 60) 1 (nI 0)) 2 (nI 0))) J1 S1 _
  refine bw_st (i' := 11) (ls' := [.ref 60, .ref 12]) (st' := [.ref 60]) (E' := E1) (I' := (u_I I1 60 (upd (upd (I1 60) 1 (nI 0)) 2 (nI 0)))) (J' := J1) (S' := S1) am_e17 rfl rfl rfl rfl ?_
  refine bw_st (i' := 12) (ls' := [.ref 60, .ref 12]) (st' := [.int (nI 0), .ref 60]) (E' := E1) (I' := (u_I I1 60 (upd (upd (I1 60) 1 (nI 0)) 2 (nI 0)))) (J' := J1) (S' := S1) am_e17 rfl rfl rfl rfl ?_
  refine bw_st (i' := 13) (ls' := [.ref 60, .ref 12]) (st' := []) (E' := E1) (I' := (u_I (u_I I1 60 (upd (upd (I1 60) 1 (nI 0)) 2 (nI 0))) 60 (upd (upd (upd (I1 60) 1 (nI 0)) 2 (nI 0)) 3 (nI 0)))) (J' := J1) (S' := S1) am_e17 rfl rfl rfl rfl ?_
  refine bw_eI (uI_0 ..) ?_
  show bm_ww 17 13 [.ref 60, .ref 12] [] E1 (u_I I1 60 (upd (upd (upd (I1 60) 1 (nI 0)) 2 (nI 0)) 3 (nI 0))) J1 S1 _
  refine bw_st (i' := 14) (ls' := [.ref 60, .ref 12]) (st' := [.ref 60]) (E' := E1) (I' := (u_I I1 60 (upd (upd (upd (I1 60) 1 (nI 0)) 2 (nI 0)) 3 (nI 0)))) (J' := J1) (S' := S1) am_e17 rfl rfl rfl rfl ?_
  refine bw_st (i' := 15) (ls' := [.ref 60, .ref 12]) (st' := [.int (-1), .ref 60]) (E' := E1) (I' := (u_I I1 60 (upd (upd (upd (I1 60) 1 (nI 0)) 2 (nI 0)) 3 (nI 0)))) (J' := J1) (S' := S1) am_e17 rfl rfl rfl rfl ?_
  refine bw_st (i' := 16) (ls' := [.ref 60, .ref 12]) (st' := []) (E' := E1) (I' := (u_I (u_I I1 60 (upd (upd (upd (I1 60) 1 (nI 0)) 2 (nI 0)) 3 (nI 0))) 60 (upd (upd (upd (upd (I1 60) 1 (nI 0)) 2 (nI 0)) 3 (nI 0)) 4 (-1)))) (J' := J1) (S' := S1) am_e17 rfl rfl rfl rfl ?_
  refine bw_eI (uI_0 ..) ?_
  show bm_ww 17 16 [.ref 60, .ref 12] [] E1 (u_I I1 60 (upd (upd (upd (upd (I1 60) 1 (nI 0)) 2 (nI 0)) 3 (nI 0)) 4 (-1))) J1 S1 _
  exact bw_end am_e17 rfl rfl rfl h
theorem bc13_l13 {E : am_Ev} {I : Nat → Nat → Int32} {J : Nat → Nat → Int64} {S : Nat → Nat → Option Nat} {Q : am_Qt} {x : Int32} : ∀ m i, i + m = 64 → Q (.inl none) E (u_I I 13 (fil (I 13) 64 x)) J S → bm_ww 13 5 [.ref 13, .int x, .int (nI i), .int (nI 64)] [] E (u_I I 13 (fil (I 13) i x)) J S Q := by
  intro m
  induction m with
  | zero =>
    intro i e h
    have : i = 64 := by omega
    subst this
    apply bg13_5_13
    exact ⟨fun _ => h, fun q => absurd (Int32.le_refl _) q⟩
  | succ m ih =>
    intro i e h
    apply bg13_5_13
    simp (disch := omega) only [Nat.reduceEqDiff, reduceIte, nI_mulI, nI_add, nI_clamp, nI_ltI, nI_leI, nI_eq, nI_e0, nI_n0, vt, forall_eq, true_and, and_true, true_implies, forall_const, not_true_eq_false, not_false_eq_true, false_implies, implies_true, uI_0, u_I_eq, fil_s]
    exact ⟨fun q => absurd q (by omega), fun _ => ih (i + 1) (by omega) h⟩
theorem bc13_13 {E : am_Ev} {I : Nat → Nat → Int32} {J : Nat → Nat → Int64} {S : Nat → Nat → Option Nat} {Q : am_Qt} {x : Int32} (h : Q (.inl none) E (u_I I 13 (fil (I 13) 64 x)) J S) : bm_cl 13 [.ref 13, .int x] E I J S Q := by
  show bm_ww 13 0 [.ref 13, .int x, am_U, am_U] [] E I J S Q
  apply bg13_0_13
  have := bc13_l13 (E := E) (I := I) (J := J) (S := S) (Q := Q) (x := x) 64 0 (by omega) h
  rw [fil_0, u_I_id] at this
  exact this
theorem bc13_l14 {E : am_Ev} {I : Nat → Nat → Int32} {J : Nat → Nat → Int64} {S : Nat → Nat → Option Nat} {Q : am_Qt} {x : Int32} : ∀ m i, i + m = 192 → Q (.inl none) E (u_I I 14 (fil (I 14) 192 x)) J S → bm_ww 13 5 [.ref 14, .int x, .int (nI i), .int (nI 192)] [] E (u_I I 14 (fil (I 14) i x)) J S Q := by
  intro m
  induction m with
  | zero =>
    intro i e h
    have : i = 192 := by omega
    subst this
    apply bg13_5_14
    exact ⟨fun _ => h, fun q => absurd (Int32.le_refl _) q⟩
  | succ m ih =>
    intro i e h
    apply bg13_5_14
    simp (disch := omega) only [Nat.reduceEqDiff, reduceIte, nI_mulI, nI_add, nI_clamp, nI_ltI, nI_leI, nI_eq, nI_e0, nI_n0, vt, forall_eq, true_and, and_true, true_implies, forall_const, not_true_eq_false, not_false_eq_true, false_implies, implies_true, uI_0, u_I_eq, fil_s]
    exact ⟨fun q => absurd q (by omega), fun _ => ih (i + 1) (by omega) h⟩
theorem bc13_14 {E : am_Ev} {I : Nat → Nat → Int32} {J : Nat → Nat → Int64} {S : Nat → Nat → Option Nat} {Q : am_Qt} {x : Int32} (h : Q (.inl none) E (u_I I 14 (fil (I 14) 192 x)) J S) : bm_cl 13 [.ref 14, .int x] E I J S Q := by
  show bm_ww 13 0 [.ref 14, .int x, am_U, am_U] [] E I J S Q
  apply bg13_0_14
  have := bc13_l14 (E := E) (I := I) (J := J) (S := S) (Q := Q) (x := x) 192 0 (by omega) h
  rw [fil_0, u_I_id] at this
  exact this
theorem bc13_l15 {E : am_Ev} {I : Nat → Nat → Int32} {J : Nat → Nat → Int64} {S : Nat → Nat → Option Nat} {Q : am_Qt} {x : Int32} : ∀ m i, i + m = 4 → Q (.inl none) E (u_I I 15 (fil (I 15) 4 x)) J S → bm_ww 13 5 [.ref 15, .int x, .int (nI i), .int (nI 4)] [] E (u_I I 15 (fil (I 15) i x)) J S Q := by
  intro m
  induction m with
  | zero =>
    intro i e h
    have : i = 4 := by omega
    subst this
    apply bg13_5_15
    exact ⟨fun _ => h, fun q => absurd (Int32.le_refl _) q⟩
  | succ m ih =>
    intro i e h
    apply bg13_5_15
    simp (disch := omega) only [Nat.reduceEqDiff, reduceIte, nI_mulI, nI_add, nI_clamp, nI_ltI, nI_leI, nI_eq, nI_e0, nI_n0, vt, forall_eq, true_and, and_true, true_implies, forall_const, not_true_eq_false, not_false_eq_true, false_implies, implies_true, uI_0, u_I_eq, fil_s]
    exact ⟨fun q => absurd q (by omega), fun _ => ih (i + 1) (by omega) h⟩
theorem bc13_15 {E : am_Ev} {I : Nat → Nat → Int32} {J : Nat → Nat → Int64} {S : Nat → Nat → Option Nat} {Q : am_Qt} {x : Int32} (h : Q (.inl none) E (u_I I 15 (fil (I 15) 4 x)) J S) : bm_cl 13 [.ref 15, .int x] E I J S Q := by
  show bm_ww 13 0 [.ref 15, .int x, am_U, am_U] [] E I J S Q
  apply bg13_0_15
  have := bc13_l15 (E := E) (I := I) (J := J) (S := S) (Q := Q) (x := x) 4 0 (by omega) h
  rw [fil_0, u_I_id] at this
  exact this
theorem bc13_l16 {E : am_Ev} {I : Nat → Nat → Int32} {J : Nat → Nat → Int64} {S : Nat → Nat → Option Nat} {Q : am_Qt} {x : Int32} : ∀ m i, i + m = 16 → Q (.inl none) E (u_I I 16 (fil (I 16) 16 x)) J S → bm_ww 13 5 [.ref 16, .int x, .int (nI i), .int (nI 16)] [] E (u_I I 16 (fil (I 16) i x)) J S Q := by
  intro m
  induction m with
  | zero =>
    intro i e h
    have : i = 16 := by omega
    subst this
    apply bg13_5_16
    exact ⟨fun _ => h, fun q => absurd (Int32.le_refl _) q⟩
  | succ m ih =>
    intro i e h
    apply bg13_5_16
    simp (disch := omega) only [Nat.reduceEqDiff, reduceIte, nI_mulI, nI_add, nI_clamp, nI_ltI, nI_leI, nI_eq, nI_e0, nI_n0, vt, forall_eq, true_and, and_true, true_implies, forall_const, not_true_eq_false, not_false_eq_true, false_implies, implies_true, uI_0, u_I_eq, fil_s]
    exact ⟨fun q => absurd q (by omega), fun _ => ih (i + 1) (by omega) h⟩
theorem bc13_16 {E : am_Ev} {I : Nat → Nat → Int32} {J : Nat → Nat → Int64} {S : Nat → Nat → Option Nat} {Q : am_Qt} {x : Int32} (h : Q (.inl none) E (u_I I 16 (fil (I 16) 16 x)) J S) : bm_cl 13 [.ref 16, .int x] E I J S Q := by
  show bm_ww 13 0 [.ref 16, .int x, am_U, am_U] [] E I J S Q
  apply bg13_0_16
  have := bc13_l16 (E := E) (I := I) (J := J) (S := S) (Q := Q) (x := x) 16 0 (by omega) h
  rw [fil_0, u_I_id] at this
  exact this
theorem bc13_l22 {E : am_Ev} {I : Nat → Nat → Int32} {J : Nat → Nat → Int64} {S : Nat → Nat → Option Nat} {Q : am_Qt} {x : Int32} : ∀ m i, i + m = 16 → Q (.inl none) E (u_I I 22 (fil (I 22) 16 x)) J S → bm_ww 13 5 [.ref 22, .int x, .int (nI i), .int (nI 16)] [] E (u_I I 22 (fil (I 22) i x)) J S Q := by
  intro m
  induction m with
  | zero =>
    intro i e h
    have : i = 16 := by omega
    subst this
    apply bg13_5_22
    exact ⟨fun _ => h, fun q => absurd (Int32.le_refl _) q⟩
  | succ m ih =>
    intro i e h
    apply bg13_5_22
    simp (disch := omega) only [Nat.reduceEqDiff, reduceIte, nI_mulI, nI_add, nI_clamp, nI_ltI, nI_leI, nI_eq, nI_e0, nI_n0, vt, forall_eq, true_and, and_true, true_implies, forall_const, not_true_eq_false, not_false_eq_true, false_implies, implies_true, uI_0, u_I_eq, fil_s]
    exact ⟨fun q => absurd q (by omega), fun _ => ih (i + 1) (by omega) h⟩
theorem bc13_22 {E : am_Ev} {I : Nat → Nat → Int32} {J : Nat → Nat → Int64} {S : Nat → Nat → Option Nat} {Q : am_Qt} {x : Int32} (h : Q (.inl none) E (u_I I 22 (fil (I 22) 16 x)) J S) : bm_cl 13 [.ref 22, .int x] E I J S Q := by
  show bm_ww 13 0 [.ref 22, .int x, am_U, am_U] [] E I J S Q
  apply bg13_0_22
  have := bc13_l22 (E := E) (I := I) (J := J) (S := S) (Q := Q) (x := x) 16 0 (by omega) h
  rw [fil_0, u_I_id] at this
  exact this
theorem bc13_l23 {E : am_Ev} {I : Nat → Nat → Int32} {J : Nat → Nat → Int64} {S : Nat → Nat → Option Nat} {Q : am_Qt} {x : Int32} : ∀ m i, i + m = 4 → Q (.inl none) E (u_I I 23 (fil (I 23) 4 x)) J S → bm_ww 13 5 [.ref 23, .int x, .int (nI i), .int (nI 4)] [] E (u_I I 23 (fil (I 23) i x)) J S Q := by
  intro m
  induction m with
  | zero =>
    intro i e h
    have : i = 4 := by omega
    subst this
    apply bg13_5_23
    exact ⟨fun _ => h, fun q => absurd (Int32.le_refl _) q⟩
  | succ m ih =>
    intro i e h
    apply bg13_5_23
    simp (disch := omega) only [Nat.reduceEqDiff, reduceIte, nI_mulI, nI_add, nI_clamp, nI_ltI, nI_leI, nI_eq, nI_e0, nI_n0, vt, forall_eq, true_and, and_true, true_implies, forall_const, not_true_eq_false, not_false_eq_true, false_implies, implies_true, uI_0, u_I_eq, fil_s]
    exact ⟨fun q => absurd q (by omega), fun _ => ih (i + 1) (by omega) h⟩
theorem bc13_23 {E : am_Ev} {I : Nat → Nat → Int32} {J : Nat → Nat → Int64} {S : Nat → Nat → Option Nat} {Q : am_Qt} {x : Int32} (h : Q (.inl none) E (u_I I 23 (fil (I 23) 4 x)) J S) : bm_cl 13 [.ref 23, .int x] E I J S Q := by
  show bm_ww 13 0 [.ref 23, .int x, am_U, am_U] [] E I J S Q
  apply bg13_0_23
  have := bc13_l23 (E := E) (I := I) (J := J) (S := S) (Q := Q) (x := x) 4 0 (by omega) h
  rw [fil_0, u_I_id] at this
  exact this
theorem bc13_l24 {E : am_Ev} {I : Nat → Nat → Int32} {J : Nat → Nat → Int64} {S : Nat → Nat → Option Nat} {Q : am_Qt} {x : Int32} : ∀ m i, i + m = 4 → Q (.inl none) E (u_I I 24 (fil (I 24) 4 x)) J S → bm_ww 13 5 [.ref 24, .int x, .int (nI i), .int (nI 4)] [] E (u_I I 24 (fil (I 24) i x)) J S Q := by
  intro m
  induction m with
  | zero =>
    intro i e h
    have : i = 4 := by omega
    subst this
    apply bg13_5_24
    exact ⟨fun _ => h, fun q => absurd (Int32.le_refl _) q⟩
  | succ m ih =>
    intro i e h
    apply bg13_5_24
    simp (disch := omega) only [Nat.reduceEqDiff, reduceIte, nI_mulI, nI_add, nI_clamp, nI_ltI, nI_leI, nI_eq, nI_e0, nI_n0, vt, forall_eq, true_and, and_true, true_implies, forall_const, not_true_eq_false, not_false_eq_true, false_implies, implies_true, uI_0, u_I_eq, fil_s]
    exact ⟨fun q => absurd q (by omega), fun _ => ih (i + 1) (by omega) h⟩
theorem bc13_24 {E : am_Ev} {I : Nat → Nat → Int32} {J : Nat → Nat → Int64} {S : Nat → Nat → Option Nat} {Q : am_Qt} {x : Int32} (h : Q (.inl none) E (u_I I 24 (fil (I 24) 4 x)) J S) : bm_cl 13 [.ref 24, .int x] E I J S Q := by
  show bm_ww 13 0 [.ref 24, .int x, am_U, am_U] [] E I J S Q
  apply bg13_0_24
  have := bc13_l24 (E := E) (I := I) (J := J) (S := S) (Q := Q) (x := x) 4 0 (by omega) h
  rw [fil_0, u_I_id] at this
  exact this
theorem bc13_l25 {E : am_Ev} {I : Nat → Nat → Int32} {J : Nat → Nat → Int64} {S : Nat → Nat → Option Nat} {Q : am_Qt} {x : Int32} : ∀ m i, i + m = 4 → Q (.inl none) E (u_I I 25 (fil (I 25) 4 x)) J S → bm_ww 13 5 [.ref 25, .int x, .int (nI i), .int (nI 4)] [] E (u_I I 25 (fil (I 25) i x)) J S Q := by
  intro m
  induction m with
  | zero =>
    intro i e h
    have : i = 4 := by omega
    subst this
    apply bg13_5_25
    exact ⟨fun _ => h, fun q => absurd (Int32.le_refl _) q⟩
  | succ m ih =>
    intro i e h
    apply bg13_5_25
    simp (disch := omega) only [Nat.reduceEqDiff, reduceIte, nI_mulI, nI_add, nI_clamp, nI_ltI, nI_leI, nI_eq, nI_e0, nI_n0, vt, forall_eq, true_and, and_true, true_implies, forall_const, not_true_eq_false, not_false_eq_true, false_implies, implies_true, uI_0, u_I_eq, fil_s]
    exact ⟨fun q => absurd q (by omega), fun _ => ih (i + 1) (by omega) h⟩
theorem bc13_25 {E : am_Ev} {I : Nat → Nat → Int32} {J : Nat → Nat → Int64} {S : Nat → Nat → Option Nat} {Q : am_Qt} {x : Int32} (h : Q (.inl none) E (u_I I 25 (fil (I 25) 4 x)) J S) : bm_cl 13 [.ref 25, .int x] E I J S Q := by
  show bm_ww 13 0 [.ref 25, .int x, am_U, am_U] [] E I J S Q
  apply bg13_0_25
  have := bc13_l25 (E := E) (I := I) (J := J) (S := S) (Q := Q) (x := x) 4 0 (by omega) h
  rw [fil_0, u_I_id] at this
  exact this
theorem bc13_l26 {E : am_Ev} {I : Nat → Nat → Int32} {J : Nat → Nat → Int64} {S : Nat → Nat → Option Nat} {Q : am_Qt} {x : Int32} : ∀ m i, i + m = 3 → Q (.inl none) E (u_I I 26 (fil (I 26) 3 x)) J S → bm_ww 13 5 [.ref 26, .int x, .int (nI i), .int (nI 3)] [] E (u_I I 26 (fil (I 26) i x)) J S Q := by
  intro m
  induction m with
  | zero =>
    intro i e h
    have : i = 3 := by omega
    subst this
    apply bg13_5_26
    exact ⟨fun _ => h, fun q => absurd (Int32.le_refl _) q⟩
  | succ m ih =>
    intro i e h
    apply bg13_5_26
    simp (disch := omega) only [Nat.reduceEqDiff, reduceIte, nI_mulI, nI_add, nI_clamp, nI_ltI, nI_leI, nI_eq, nI_e0, nI_n0, vt, forall_eq, true_and, and_true, true_implies, forall_const, not_true_eq_false, not_false_eq_true, false_implies, implies_true, uI_0, u_I_eq, fil_s]
    exact ⟨fun q => absurd q (by omega), fun _ => ih (i + 1) (by omega) h⟩
theorem bc13_26 {E : am_Ev} {I : Nat → Nat → Int32} {J : Nat → Nat → Int64} {S : Nat → Nat → Option Nat} {Q : am_Qt} {x : Int32} (h : Q (.inl none) E (u_I I 26 (fil (I 26) 3 x)) J S) : bm_cl 13 [.ref 26, .int x] E I J S Q := by
  show bm_ww 13 0 [.ref 26, .int x, am_U, am_U] [] E I J S Q
  apply bg13_0_26
  have := bc13_l26 (E := E) (I := I) (J := J) (S := S) (Q := Q) (x := x) 3 0 (by omega) h
  rw [fil_0, u_I_id] at this
  exact this
theorem bc13_l28 {E : am_Ev} {I : Nat → Nat → Int32} {J : Nat → Nat → Int64} {S : Nat → Nat → Option Nat} {Q : am_Qt} {x : Int32} : ∀ m i, i + m = 3 → Q (.inl none) E (u_I I 28 (fil (I 28) 3 x)) J S → bm_ww 13 5 [.ref 28, .int x, .int (nI i), .int (nI 3)] [] E (u_I I 28 (fil (I 28) i x)) J S Q := by
  intro m
  induction m with
  | zero =>
    intro i e h
    have : i = 3 := by omega
    subst this
    apply bg13_5_28
    exact ⟨fun _ => h, fun q => absurd (Int32.le_refl _) q⟩
  | succ m ih =>
    intro i e h
    apply bg13_5_28
    simp (disch := omega) only [Nat.reduceEqDiff, reduceIte, nI_mulI, nI_add, nI_clamp, nI_ltI, nI_leI, nI_eq, nI_e0, nI_n0, vt, forall_eq, true_and, and_true, true_implies, forall_const, not_true_eq_false, not_false_eq_true, false_implies, implies_true, uI_0, u_I_eq, fil_s]
    exact ⟨fun q => absurd q (by omega), fun _ => ih (i + 1) (by omega) h⟩
theorem bc13_28 {E : am_Ev} {I : Nat → Nat → Int32} {J : Nat → Nat → Int64} {S : Nat → Nat → Option Nat} {Q : am_Qt} {x : Int32} (h : Q (.inl none) E (u_I I 28 (fil (I 28) 3 x)) J S) : bm_cl 13 [.ref 28, .int x] E I J S Q := by
  show bm_ww 13 0 [.ref 28, .int x, am_U, am_U] [] E I J S Q
  apply bg13_0_28
  have := bc13_l28 (E := E) (I := I) (J := J) (S := S) (Q := Q) (x := x) 3 0 (by omega) h
  rw [fil_0, u_I_id] at this
  exact this
theorem bc13_l63 {E : am_Ev} {I : Nat → Nat → Int32} {J : Nat → Nat → Int64} {S : Nat → Nat → Option Nat} {Q : am_Qt} {x : Int32} : ∀ m i, i + m = 16 → Q (.inl none) E (u_I I 63 (fil (I 63) 16 x)) J S → bm_ww 13 5 [.ref 63, .int x, .int (nI i), .int (nI 16)] [] E (u_I I 63 (fil (I 63) i x)) J S Q := by
  intro m
  induction m with
  | zero =>
    intro i e h
    have : i = 16 := by omega
    subst this
    apply bg13_5_63
    exact ⟨fun _ => h, fun q => absurd (Int32.le_refl _) q⟩
  | succ m ih =>
    intro i e h
    apply bg13_5_63
    simp (disch := omega) only [Nat.reduceEqDiff, reduceIte, nI_mulI, nI_add, nI_clamp, nI_ltI, nI_leI, nI_eq, nI_e0, nI_n0, vt, forall_eq, true_and, and_true, true_implies, forall_const, not_true_eq_false, not_false_eq_true, false_implies, implies_true, uI_0, u_I_eq, fil_s]
    exact ⟨fun q => absurd q (by omega), fun _ => ih (i + 1) (by omega) h⟩
theorem bc13_63 {E : am_Ev} {I : Nat → Nat → Int32} {J : Nat → Nat → Int64} {S : Nat → Nat → Option Nat} {Q : am_Qt} {x : Int32} (h : Q (.inl none) E (u_I I 63 (fil (I 63) 16 x)) J S) : bm_cl 13 [.ref 63, .int x] E I J S Q := by
  show bm_ww 13 0 [.ref 63, .int x, am_U, am_U] [] E I J S Q
  apply bg13_0_63
  have := bc13_l63 (E := E) (I := I) (J := J) (S := S) (Q := Q) (x := x) 16 0 (by omega) h
  rw [fil_0, u_I_id] at this
  exact this
theorem bc13_l64 {E : am_Ev} {I : Nat → Nat → Int32} {J : Nat → Nat → Int64} {S : Nat → Nat → Option Nat} {Q : am_Qt} {x : Int32} : ∀ m i, i + m = 4 → Q (.inl none) E (u_I I 64 (fil (I 64) 4 x)) J S → bm_ww 13 5 [.ref 64, .int x, .int (nI i), .int (nI 4)] [] E (u_I I 64 (fil (I 64) i x)) J S Q := by
  intro m
  induction m with
  | zero =>
    intro i e h
    have : i = 4 := by omega
    subst this
    apply bg13_5_64
    exact ⟨fun _ => h, fun q => absurd (Int32.le_refl _) q⟩
  | succ m ih =>
    intro i e h
    apply bg13_5_64
    simp (disch := omega) only [Nat.reduceEqDiff, reduceIte, nI_mulI, nI_add, nI_clamp, nI_ltI, nI_leI, nI_eq, nI_e0, nI_n0, vt, forall_eq, true_and, and_true, true_implies, forall_const, not_true_eq_false, not_false_eq_true, false_implies, implies_true, uI_0, u_I_eq, fil_s]
    exact ⟨fun q => absurd q (by omega), fun _ => ih (i + 1) (by omega) h⟩
theorem bc13_64 {E : am_Ev} {I : Nat → Nat → Int32} {J : Nat → Nat → Int64} {S : Nat → Nat → Option Nat} {Q : am_Qt} {x : Int32} (h : Q (.inl none) E (u_I I 64 (fil (I 64) 4 x)) J S) : bm_cl 13 [.ref 64, .int x] E I J S Q := by
  show bm_ww 13 0 [.ref 64, .int x, am_U, am_U] [] E I J S Q
  apply bg13_0_64
  have := bc13_l64 (E := E) (I := I) (J := J) (S := S) (Q := Q) (x := x) 4 0 (by omega) h
  rw [fil_0, u_I_id] at this
  exact this
theorem bc13_l65 {E : am_Ev} {I : Nat → Nat → Int32} {J : Nat → Nat → Int64} {S : Nat → Nat → Option Nat} {Q : am_Qt} {x : Int32} : ∀ m i, i + m = 4 → Q (.inl none) E (u_I I 65 (fil (I 65) 4 x)) J S → bm_ww 13 5 [.ref 65, .int x, .int (nI i), .int (nI 4)] [] E (u_I I 65 (fil (I 65) i x)) J S Q := by
  intro m
  induction m with
  | zero =>
    intro i e h
    have : i = 4 := by omega
    subst this
    apply bg13_5_65
    exact ⟨fun _ => h, fun q => absurd (Int32.le_refl _) q⟩
  | succ m ih =>
    intro i e h
    apply bg13_5_65
    simp (disch := omega) only [Nat.reduceEqDiff, reduceIte, nI_mulI, nI_add, nI_clamp, nI_ltI, nI_leI, nI_eq, nI_e0, nI_n0, vt, forall_eq, true_and, and_true, true_implies, forall_const, not_true_eq_false, not_false_eq_true, false_implies, implies_true, uI_0, u_I_eq, fil_s]
    exact ⟨fun q => absurd q (by omega), fun _ => ih (i + 1) (by omega) h⟩
theorem bc13_65 {E : am_Ev} {I : Nat → Nat → Int32} {J : Nat → Nat → Int64} {S : Nat → Nat → Option Nat} {Q : am_Qt} {x : Int32} (h : Q (.inl none) E (u_I I 65 (fil (I 65) 4 x)) J S) : bm_cl 13 [.ref 65, .int x] E I J S Q := by
  show bm_ww 13 0 [.ref 65, .int x, am_U, am_U] [] E I J S Q
  apply bg13_0_65
  have := bc13_l65 (E := E) (I := I) (J := J) (S := S) (Q := Q) (x := x) 4 0 (by omega) h
  rw [fil_0, u_I_id] at this
  exact this
theorem bc13_l66 {E : am_Ev} {I : Nat → Nat → Int32} {J : Nat → Nat → Int64} {S : Nat → Nat → Option Nat} {Q : am_Qt} {x : Int32} : ∀ m i, i + m = 4 → Q (.inl none) E (u_I I 66 (fil (I 66) 4 x)) J S → bm_ww 13 5 [.ref 66, .int x, .int (nI i), .int (nI 4)] [] E (u_I I 66 (fil (I 66) i x)) J S Q := by
  intro m
  induction m with
  | zero =>
    intro i e h
    have : i = 4 := by omega
    subst this
    apply bg13_5_66
    exact ⟨fun _ => h, fun q => absurd (Int32.le_refl _) q⟩
  | succ m ih =>
    intro i e h
    apply bg13_5_66
    simp (disch := omega) only [Nat.reduceEqDiff, reduceIte, nI_mulI, nI_add, nI_clamp, nI_ltI, nI_leI, nI_eq, nI_e0, nI_n0, vt, forall_eq, true_and, and_true, true_implies, forall_const, not_true_eq_false, not_false_eq_true, false_implies, implies_true, uI_0, u_I_eq, fil_s]
    exact ⟨fun q => absurd q (by omega), fun _ => ih (i + 1) (by omega) h⟩
theorem bc13_66 {E : am_Ev} {I : Nat → Nat → Int32} {J : Nat → Nat → Int64} {S : Nat → Nat → Option Nat} {Q : am_Qt} {x : Int32} (h : Q (.inl none) E (u_I I 66 (fil (I 66) 4 x)) J S) : bm_cl 13 [.ref 66, .int x] E I J S Q := by
  show bm_ww 13 0 [.ref 66, .int x, am_U, am_U] [] E I J S Q
  apply bg13_0_66
  have := bc13_l66 (E := E) (I := I) (J := J) (S := S) (Q := Q) (x := x) 4 0 (by omega) h
  rw [fil_0, u_I_id] at this
  exact this
theorem bc13_l67 {E : am_Ev} {I : Nat → Nat → Int32} {J : Nat → Nat → Int64} {S : Nat → Nat → Option Nat} {Q : am_Qt} {x : Int32} : ∀ m i, i + m = 3 → Q (.inl none) E (u_I I 67 (fil (I 67) 3 x)) J S → bm_ww 13 5 [.ref 67, .int x, .int (nI i), .int (nI 3)] [] E (u_I I 67 (fil (I 67) i x)) J S Q := by
  intro m
  induction m with
  | zero =>
    intro i e h
    have : i = 3 := by omega
    subst this
    apply bg13_5_67
    exact ⟨fun _ => h, fun q => absurd (Int32.le_refl _) q⟩
  | succ m ih =>
    intro i e h
    apply bg13_5_67
    simp (disch := omega) only [Nat.reduceEqDiff, reduceIte, nI_mulI, nI_add, nI_clamp, nI_ltI, nI_leI, nI_eq, nI_e0, nI_n0, vt, forall_eq, true_and, and_true, true_implies, forall_const, not_true_eq_false, not_false_eq_true, false_implies, implies_true, uI_0, u_I_eq, fil_s]
    exact ⟨fun q => absurd q (by omega), fun _ => ih (i + 1) (by omega) h⟩
theorem bc13_67 {E : am_Ev} {I : Nat → Nat → Int32} {J : Nat → Nat → Int64} {S : Nat → Nat → Option Nat} {Q : am_Qt} {x : Int32} (h : Q (.inl none) E (u_I I 67 (fil (I 67) 3 x)) J S) : bm_cl 13 [.ref 67, .int x] E I J S Q := by
  show bm_ww 13 0 [.ref 67, .int x, am_U, am_U] [] E I J S Q
  apply bg13_0_67
  have := bc13_l67 (E := E) (I := I) (J := J) (S := S) (Q := Q) (x := x) 3 0 (by omega) h
  rw [fil_0, u_I_id] at this
  exact this
theorem bc16p_20 {E : am_Ev} {I : Nat → Nat → Int32} {J : Nat → Nat → Int64} {S : Nat → Nat → Option Nat} {Q : am_Qt} {seed : Int32} {P : Nat → Nat → Int32} (hc : ∀ k, k < 16 → I 16 k = P 104 k) (h : ∀ I', rm I' 20 (m_first P seed) → fb I I' 20 26 → Q (.inl none) E I' J S) : bm_cl 16 [.ref 20, .ref 12] E I J S Q := by
  show bm_ww 16 0 [.ref 20, .ref 12] [] E I J S Q
  apply bg16_0_20
  refine bc13_22 (q_mkV (bc13_23 (q_mkV (bc13_24 (q_mkV (bc13_25 (q_mkV (bc13_26 (q_mkV (h _ ?_ ?_))))))))))
  · refine ⟨fun k hk => ?_, fun t j ht hj => ?_, fun t ht => ?_, fun t ht => ?_, fun l hl => ?_, ?_, fun s hs => ?_⟩
    · rw [u_I_ne (by decide), u_I_ne (by decide), u_I_ne (by decide), u_I_ne (by decide), u_I_ne (by decide), u_I_ne (by decide), u_I_eq, m_first_c hk]
      show va_cpy (I 16) (I 21) 0 0 16 k = _
      unfold va_cpy
      rw [if_pos (by omega)]
      show I 16 (0 + (k - 0)) = _
      rw [show 0 + (k - 0) = k by omega]
      exact hc k hk
    · rw [u_I_ne (by decide), u_I_ne (by decide), u_I_ne (by decide), u_I_ne (by decide), u_I_ne (by decide), u_I_eq, fil_in (by omega), m_first_0 (by omega) (by omega) (by omega)]
    · rw [u_I_ne (by decide), u_I_ne (by decide), u_I_ne (by decide), u_I_ne (by decide), u_I_eq, fil_in (by omega), m_first_0 (by omega) (by omega) (by omega)]
    · rw [u_I_ne (by decide), u_I_ne (by decide), u_I_ne (by decide), u_I_eq, fil_in (by omega), m_first_0 (by omega) (by omega) (by omega)]
    · rw [u_I_ne (by decide), u_I_ne (by decide), u_I_eq, fil_in (by omega), m_first_l (by omega) (by omega)]
    · rw [u_I_eq, upd_eq, m_first_l (by omega) (by omega)]
    · rw [u_I_ne (by decide), u_I_eq, fil_in (by omega), m_first_0 (by omega) (by omega) (by omega)]
  · exact fb_u (fb_u (fb_u (fb_u (fb_u (fb_u (fb_u fb_id (by omega) (by omega)) (by omega) (by omega)) (by omega) (by omega)) (by omega) (by omega)) (by omega) (by omega)) (by omega) (by omega)) (by omega) (by omega)
theorem bc16p_61 {E : am_Ev} {I : Nat → Nat → Int32} {J : Nat → Nat → Int64} {S : Nat → Nat → Option Nat} {Q : am_Qt} {seed : Int32} {P : Nat → Nat → Int32} (hc : ∀ k, k < 16 → I 16 k = P 104 k) (h : ∀ I', rm I' 61 (m_first P seed) → fb I I' 61 67 → Q (.inl none) E I' J S) : bm_cl 16 [.ref 61, .ref 12] E I J S Q := by
  show bm_ww 16 0 [.ref 61, .ref 12] [] E I J S Q
  apply bg16_0_61
  refine bc13_63 (q_mkV (bc13_64 (q_mkV (bc13_65 (q_mkV (bc13_66 (q_mkV (bc13_67 (q_mkV (h _ ?_ ?_))))))))))
  · refine ⟨fun k hk => ?_, fun t j ht hj => ?_, fun t ht => ?_, fun t ht => ?_, fun l hl => ?_, ?_, fun s hs => ?_⟩
    · rw [u_I_ne (by decide), u_I_ne (by decide), u_I_ne (by decide), u_I_ne (by decide), u_I_ne (by decide), u_I_ne (by decide), u_I_eq, m_first_c hk]
      show va_cpy (I 16) (I 62) 0 0 16 k = _
      unfold va_cpy
      rw [if_pos (by omega)]
      show I 16 (0 + (k - 0)) = _
      rw [show 0 + (k - 0) = k by omega]
      exact hc k hk
    · rw [u_I_ne (by decide), u_I_ne (by decide), u_I_ne (by decide), u_I_ne (by decide), u_I_ne (by decide), u_I_eq, fil_in (by omega), m_first_0 (by omega) (by omega) (by omega)]
    · rw [u_I_ne (by decide), u_I_ne (by decide), u_I_ne (by decide), u_I_ne (by decide), u_I_eq, fil_in (by omega), m_first_0 (by omega) (by omega) (by omega)]
    · rw [u_I_ne (by decide), u_I_ne (by decide), u_I_ne (by decide), u_I_eq, fil_in (by omega), m_first_0 (by omega) (by omega) (by omega)]
    · rw [u_I_ne (by decide), u_I_ne (by decide), u_I_eq, fil_in (by omega), m_first_l (by omega) (by omega)]
    · rw [u_I_eq, upd_eq, m_first_l (by omega) (by omega)]
    · rw [u_I_ne (by decide), u_I_eq, fil_in (by omega), m_first_0 (by omega) (by omega) (by omega)]
  · exact fb_u (fb_u (fb_u (fb_u (fb_u (fb_u (fb_u fb_id (by omega) (by omega)) (by omega) (by omega)) (by omega) (by omega)) (by omega) (by omega)) (by omega) (by omega)) (by omega) (by omega)) (by omega) (by omega)
theorem bc15p {E : am_Ev} {I : Nat → Nat → Int32} {J : Nat → Nat → Int64} {S : Nat → Nat → Option Nat} {Q : am_Qt} {seed : Int32} {P : Nat → Nat → Int32} (hc : ∀ k, k < 16 → I 16 k = P 104 k) (h : ∀ I', rm I' 20 (m_first P seed) → I' 19 = upd (upd (I 19) 1 seed) 2 (nI 0) → fb I I' 19 26 → Q (.inl none) E I' J S) : bm_cl 15 [.ref 19, .ref 12, .int seed] E I J S Q := by
  show bm_ww 15 0 [.ref 19, .ref 12, .int seed] [] E I J S Q
  apply bg15_0_19
  refine bc16p_20 (seed := seed) hc (fun I' a f => q_mkV (h _ (rm_e a (fun k h1 h2 => u_I_ne (by omega))) ?_ (fb_u (fb_le f (by omega) (by omega)) (by omega) (by omega))))
  rw [u_I_eq, f 19 (by omega)]
theorem bc17p {E : am_Ev} {I : Nat → Nat → Int32} {J : Nat → Nat → Int64} {S : Nat → Nat → Option Nat} {Q : am_Qt} {seed : Int32} {P : Nat → Nat → Int32} (hc : ∀ k, k < 16 → I 16 k = P 104 k) (h : ∀ I', rm I' 61 (m_first P seed) → I' 60 = upd (upd (upd (upd (I 60) 1 (nI 0)) 2 (nI 0)) 3 (nI 0)) 4 (-1) → fb I I' 60 67 → Q (.inl none) E I' J S) : bm_cl 17 [.ref 60, .ref 12] E I J S Q := by
  show bm_ww 17 0 [.ref 60, .ref 12] [] E I J S Q
  apply bg17_0_60
  refine bc16p_61 (seed := seed) hc (fun I' a f => q_mkV (h _ (rm_e a (fun k h1 h2 => u_I_ne (by omega))) ?_ (fb_u (fb_le f (by omega) (by omega)) (by omega) (by omega))))
  rw [u_I_eq, f 60 (by omega)]
theorem bc14p {E : am_Ev} {I : Nat → Nat → Int32} {J : Nat → Nat → Int64} {S : Nat → Nat → Option Nat} {Q : am_Qt} {P : Nat → Nat → Int32} (hc : ∀ k, k < 16 → I 16 k = P 104 k) (h : ∀ I', BGN P I I' → Q (.inl none) E I' J S) : bm_cl 14 [.ref 18, .ref 12] E I J S Q := by
  show bm_ww 14 0 [.ref 18, .ref 12] [] E I J S Q
  apply bg14_0
  refine bc15p (seed := I 17 1) hc (fun I1 a1 a2 a3 => q_mkV (bc13_28 (q_mkV (h _ ?_))))
  refine ⟨fun k hk => ?_, rm_e a1 (fun k h1 h2 => ?_), ?_, ?_, fun s hs => ?_, ?_, fun f h1 h2 h3 => ?_, ?_, ?_, ?_⟩
  · rw [u_I_ne (by omega), u_I_ne (by omega), u_I_ne (by omega), a3 k (by omega)]
  · rw [u_I_ne (by omega), u_I_ne (by omega), u_I_ne (by omega)]
  · rw [u_I_ne (by decide), u_I_ne (by decide), u_I_ne (by decide), a2, upd_ne (by decide), upd_eq]
  · rw [u_I_ne (by decide), u_I_ne (by decide), u_I_ne (by decide), a2, upd_eq]
  · rw [u_I_ne (by decide), u_I_ne (by decide), u_I_eq, fil_in hs]
  · rw [u_I_ne (by decide), u_I_eq, upd_eq]
  · rw [u_I_eq, upd_ne h3, upd_ne h2, upd_ne h1, u_I_ne (by decide), a3 18 (by omega)]
  · rw [u_I_eq, upd_ne (by decide), upd_ne (by decide), upd_eq]
  · rw [u_I_eq, upd_ne (by decide), upd_eq]
  · rw [u_I_eq, upd_eq]
