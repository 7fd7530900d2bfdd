/-! the constructors: steps -/
theorem x_st {y i i' : Nat} {ls st ls' st' : List Value} {σ σ' : am_St} {Q : (Option Value ⊕ Nat) → am_St → Prop} {cc : List Instr} {ins : Instr} (hc : am_code y = cc) (hi : cc[i]? = some ins) (ht : am_tgt ins = none) (he : am_end ins y st σ = none) (hs : am_step ins i ls st σ = some (i', ls', st', σ')) (k : am_wp y i' ls' st' σ' Q) : am_wp y i ls st σ Q := am_wp_step (by rw [hc]; exact hi) ht he hs k
theorem x_end {y i : Nat} {ls st : List Value} {σ σ' : am_St} {Q : (Option Value ⊕ Nat) → am_St → Prop} {cc : List Instr} {ins : Instr} {r : Option Value ⊕ Nat} (hc : am_code y = cc) (hi : cc[i]? = some ins) (ht : am_tgt ins = none) (he : am_end ins y st σ = some (r, σ')) (k : Q r σ') : am_wp y i ls st σ Q := am_wp_end (by rw [hc]; exact hi) ht he k
theorem x_cV {y i z : Nat} {ls st as rest : List Value} {σ : am_St} {Q : (Option Value ⊕ Nat) → am_St → Prop} {cc : List Instr} {ins : Instr} (hc : am_code y = cc) (hi : cc[i]? = some ins) (ht : am_tgt ins = some z) (hst : st = as.reverse ++ rest) (hck : am_ck y z ins as rest σ = true) (k : am_wp z 0 (am_l0 z as) [] σ (fun r τ => r = .inl none ∧ am_wp y (i + 1) ls rest τ Q)) : am_wp y i ls st σ Q := by
  refine am_wp_call (by rw [hc]; exact hi) ht hst hck (am_wp_mono k ?_)
  rintro r τ ⟨rfl, h⟩
  exact h
/-- the class's program is cleared -/
def F12 (I : Nat → Nat → Int32) : Prop := (∀ k, k < 12 ∨ 17 < k → I k = ci_140 k) ∧ I 12 5 = nI 0 ∧ (∀ k, k < 16 → I 16 k = nI 0) ∧ (I 17 0 = nI 3 ∧ I 17 1 = nI 1 ∧ I 17 2 = nI 10 ∧ I 17 3 = nI 4)
section
variable {X : Nat × (Nat → Int32)} {y i : Nat} {ls rest : List Value} {Q : (Option Value ⊕ Nat) → am_St → Prop}
theorem x_12 (h : ∀ I, F12 I → am_wp y i ls rest (99, 99, 9119, X, I, cj_99, kk9, cs_100) Q) : am_wp 12 0 [.ref 12] [] (99, 99, 9119, X, ci_140, cj_99, kk9, cs_100) (fun r τ => r = .inl none ∧ am_wp y i ls rest τ Q) := by
  have k : bm_ww 12 0 [.ref 12] [] (99, 9119, X) ci_140 cj_99 cs_100 (q_V fun E I J S => am_wp y i ls rest (bm_M E I J S) Q) := by
    apply bg12_0_12
    refine bc13_13 (q_mkV (bc13_14 (q_mkV (bc13_15 (q_mkV (bc13_16 (q_mkV (q_mkV (h _ ?_)))))))))
    refine ⟨fun k hk => ?_, ?_, fun k hk => ?_, ?_, ?_, ?_, ?_⟩
    · rw [u_I_ne (by omega), u_I_ne (by omega), u_I_ne (by omega), u_I_ne (by omega), u_I_ne (by omega), u_I_ne (by omega)]
    · rw [u_I_ne (by decide), u_I_eq, upd_eq]
    · rw [u_I_ne (by decide), u_I_ne (by decide), u_I_eq, fil_in hk]
    · rw [u_I_eq, upd_ne (by decide), upd_ne (by decide), upd_ne (by decide), upd_eq]
    · rw [u_I_eq, upd_ne (by decide), upd_ne (by decide), upd_eq]
    · rw [u_I_eq, upd_ne (by decide), upd_eq]
    · rw [u_I_eq, upd_eq]
  refine am_wp_mono k ?_
  rintro r τ ⟨E', I', J', S', rfl, rfl, h⟩
  exact ⟨rfl, h⟩
/-- a course is begun -/
def F14 (I' : Nat → Nat → Int32) : Prop := ∃ I, F12 I ∧ BGN (fun _ _ => nI 0) I I'
theorem x_14 {I : Nat → Nat → Int32} (hI : F12 I) (h : ∀ I, F14 I → am_wp y i ls rest (99, 99, 9119, X, I, cj_99, kk9, cs_100) Q) : am_wp 14 0 [.ref 18, .ref 12] [] (99, 99, 9119, X, I, cj_99, kk9, cs_100) (fun r τ => r = .inl none ∧ am_wp y i ls rest τ Q) := by
  have k : bm_cl 14 [.ref 18, .ref 12] (99, 9119, X) I cj_99 cs_100 (q_V fun E I J S => am_wp y i ls rest (bm_M E I J S) Q) := bc14p (P := fun _ _ => nI 0) (fun k hk => hI.2.2.1 k hk) (fun I' bg => q_mkV (h I' ⟨I, hI, bg⟩))
  refine am_wp_mono k ?_
  rintro r τ ⟨E', I', J', S', rfl, rfl, h⟩
  exact ⟨rfl, h⟩
/-- the view begins -/
def F17 (I' : Nat → Nat → Int32) : Prop := ∃ I, F14 I ∧ rm I' 61 (m_first (fun _ _ => nI 0) 0) ∧ I' 60 = upd (upd (upd (upd (I 60) 1 (nI 0)) 2 (nI 0)) 3 (nI 0)) 4 (-1) ∧ fb I I' 60 67
theorem x_17 {I : Nat → Nat → Int32} (hI : F14 I) (h : ∀ I, F17 I → am_wp y i ls rest (99, 99, 9119, X, I, cj_99, kk9, cs_100) Q) : am_wp 17 0 [.ref 60, .ref 12] [] (99, 99, 9119, X, I, cj_99, kk9, cs_100) (fun r τ => r = .inl none ∧ am_wp y i ls rest τ Q) := by
  have hc : ∀ k, k < 16 → I 16 k = (fun _ _ => nI 0 : Nat → Nat → Int32) 104 k := fun k hk => by
    obtain ⟨I0, a, b⟩ := hI
    rw [b.1 16 (by omega)]
    exact a.2.2.1 k hk
  have k : bm_cl 17 [.ref 60, .ref 12] (99, 9119, X) I cj_99 cs_100 (q_V fun E I J S => am_wp y i ls rest (bm_M E I J S) Q) := bc17p (seed := 0) (P := fun _ _ => nI 0) hc (fun I' a b c => q_mkV (h I' ⟨I, hI, a, b, c⟩))
  refine am_wp_mono k ?_
  rintro r τ ⟨E', I', J', S', rfl, rfl, h⟩
  exact ⟨rfl, h⟩
/-- the reference's first row is laid -/
def F184 (I' : Nat → Nat → Int32) : Prop := ∃ I f, F17 I ∧ e51 f (m_first (ci_197 I) (ci_197 I 103 1)) ∧ I' = u_I (ci_197 I) 116 f
theorem x_184 {I : Nat → Nat → Int32} (hI : F17 I) (h : ∀ I, F184 I → am_wp y i ls rest (145, 145, 63397, X, I, cj_145, am_kk, cs_165) Q) : am_wp 184 0 [.ref 99, .int (ci_197 I 103 1), am_U] [] (145, 145, 63397, X, ci_197 I, cj_145, am_kk, cs_165) (fun r τ => r = .inl none ∧ am_wp y i ls rest τ Q) := by
  have k : dm_cl 184 [.ref 99, .int (ci_197 I 103 1)] (145, 63397, X) (ci_197 I) cj_145 cs_165 (q_V fun E I J S => am_wp y i ls rest (dm_M E I J S) Q) := dm184 (fun f hf => q_mkV (h _ ⟨I, f, hI, hf, rfl⟩))
  refine am_wp_mono k ?_
  rintro r τ ⟨E', I', J', S', rfl, rfl, h⟩
  exact ⟨rfl, h⟩
def F185 (I' : Nat → Nat → Int32) : Prop := ∃ I, F184 I ∧ I' = u_I I 117 (cpk (I 117) (I 116) (51 * 0) 51)
theorem x_185 {I : Nat → Nat → Int32} (hI : F184 I) (h : ∀ I, F185 I → am_wp y i ls rest (145, 145, 63397, X, I, cj_145, am_kk, cs_165) Q) : am_wp 185 0 [.ref 99, .int (nI 0), am_U] [] (145, 145, 63397, X, I, cj_145, am_kk, cs_165) (fun r τ => r = .inl none ∧ am_wp y i ls rest τ Q) := by
  have k : dm_cl 185 [.ref 99, .int (nI 0)] (145, 63397, X) I cj_145 cs_165 (q_V fun E I J S => am_wp y i ls rest (dm_M E I J S) Q) := dm185 (t := 0) (by omega) (q_mkV (h _ ⟨I, hI, rfl⟩))
  refine am_wp_mono k ?_
  rintro r τ ⟨E', I', J', S', rfl, rfl, h⟩
  exact ⟨rfl, h⟩
end

set_option maxRecDepth 4000 in
theorem cons {X : Nat × (Nat → Int32)} {Q : (Option Value ⊕ Nat) → am_St → Prop} (hq : ∀ I, F185 I → am_wp 291 13 [.ref 1000000, .ref 0, .ref 99, .ref 145, .int (nI 0), am_U, am_U] [] (146, 146, 63398, X, ci_198 I, cj_146, am_kk, cs_166) Q) : am_wp 291 0 [.ref 1000000, am_U, am_U, am_U, am_U, am_U, am_U] [] (0, 0, 0, X, ci_0, cj_0, ck_0, cs_0) Q := by
  refine x_st (i' := 1) (ls' := [.ref 1000000, am_U, am_U, am_U, am_U, am_U, am_U]) (st' := [.ref 0]) (σ' := (1, 1, 14, X, ci_1, cj_1, ck_1, cs_1)) am_e291 rfl rfl rfl rfl ?_
  refine x_st (i' := 2) (ls' := [.ref 1000000, am_U, am_U, am_U, am_U, am_U, am_U]) (st' := [.ref 0, .ref 0]) (σ' := (1, 1, 14, X, ci_1, cj_1, ck_1, cs_1)) am_e291 rfl rfl rfl rfl ?_
  refine x_cV am_e291 rfl rfl (as := [.ref 0]) (rest := [.ref 0]) rfl rfl ?_
  show am_wp 0 0 [.ref 0] [] (1, 1, 14, X, ci_1, cj_1, ck_1, cs_1) _
  refine x_st (i' := 1) (ls' := [.ref 0]) (st' := [.ref 0]) (σ' := (1, 1, 14, X, ci_1, cj_1, ck_1, cs_1)) am_e0 rfl rfl rfl rfl ?_
  refine x_st (i' := 2) (ls' := [.ref 0]) (st' := []) (σ' := (1, 1, 14, X, ci_1, cj_1, ck_1, cs_1)) am_e0 rfl rfl rfl rfl ?_
  refine x_st (i' := 3) (ls' := [.ref 0]) (st' := [.ref 0]) (σ' := (1, 1, 14, X, ci_1, cj_1, ck_1, cs_1)) am_e0 rfl rfl rfl rfl ?_
  refine x_st (i' := 4) (ls' := [.ref 0]) (st' := [.ref 1, .ref 0]) (σ' := (2, 2, 34, X, ci_2, cj_2, ck_2, cs_2)) am_e0 rfl rfl rfl rfl ?_
  refine x_st (i' := 5) (ls' := [.ref 0]) (st' := [.ref 1, .ref 1, .ref 0]) (σ' := (2, 2, 34, X, ci_2, cj_2, ck_2, cs_2)) am_e0 rfl rfl rfl rfl ?_
  refine x_cV am_e0 rfl rfl (as := [.ref 1]) (rest := [.ref 1, .ref 0]) rfl rfl ?_
  show am_wp 1 0 [.ref 1] [] (2, 2, 34, X, ci_2, cj_2, ck_2, cs_2) _
  refine x_st (i' := 1) (ls' := [.ref 1]) (st' := [.ref 1]) (σ' := (2, 2, 34, X, ci_2, cj_2, ck_2, cs_2)) am_e1 rfl rfl rfl rfl ?_
  refine x_st (i' := 2) (ls' := [.ref 1]) (st' := []) (σ' := (2, 2, 34, X, ci_2, cj_2, ck_2, cs_2)) am_e1 rfl rfl rfl rfl ?_
  refine x_st (i' := 3) (ls' := [.ref 1]) (st' := [.ref 1]) (σ' := (2, 2, 34, X, ci_2, cj_2, ck_2, cs_2)) am_e1 rfl rfl rfl rfl ?_
  refine x_st (i' := 4) (ls' := [.ref 1]) (st' := [.int (nI 700), .ref 1]) (σ' := (2, 2, 34, X, ci_2, cj_2, ck_2, cs_2)) am_e1 rfl rfl rfl rfl ?_
  refine x_st (i' := 5) (ls' := [.ref 1]) (st' := [.ref 2, .ref 1]) (σ' := (3, 3, 734, X, ci_3, cj_3, ck_3, cs_3)) am_e1 rfl rfl rfl rfl ?_
  refine x_st (i' := 6) (ls' := [.ref 1]) (st' := []) (σ' := (3, 3, 734, X, ci_3, cj_3, ck_4, cs_3)) am_e1 rfl rfl rfl rfl ?_
  refine x_st (i' := 7) (ls' := [.ref 1]) (st' := [.ref 1]) (σ' := (3, 3, 734, X, ci_3, cj_3, ck_4, cs_3)) am_e1 rfl rfl rfl rfl ?_
  refine x_st (i' := 8) (ls' := [.ref 1]) (st' := [.int (nI 0), .ref 1]) (σ' := (3, 3, 734, X, ci_3, cj_3, ck_4, cs_3)) am_e1 rfl rfl rfl rfl ?_
  refine x_st (i' := 9) (ls' := [.ref 1]) (st' := []) (σ' := (3, 3, 734, X, ci_4, cj_3, ck_4, cs_3)) am_e1 rfl rfl rfl rfl ?_
  refine x_st (i' := 10) (ls' := [.ref 1]) (st' := [.ref 1]) (σ' := (3, 3, 734, X, ci_4, cj_3, ck_4, cs_3)) am_e1 rfl rfl rfl rfl ?_
  refine x_st (i' := 11) (ls' := [.ref 1]) (st' := [.ref 3, .ref 1]) (σ' := (4, 4, 740, X, ci_5, cj_4, ck_5, cs_4)) am_e1 rfl rfl rfl rfl ?_
  refine x_st (i' := 12) (ls' := [.ref 1]) (st' := [.ref 3, .ref 3, .ref 1]) (σ' := (4, 4, 740, X, ci_5, cj_4, ck_5, cs_4)) am_e1 rfl rfl rfl rfl ?_
  refine x_cV am_e1 rfl rfl (as := [.ref 3]) (rest := [.ref 3, .ref 1]) rfl rfl ?_
  show am_wp 2 0 [.ref 3] [] (4, 4, 740, X, ci_5, cj_4, ck_5, cs_4) _
  refine x_st (i' := 1) (ls' := [.ref 3]) (st' := [.ref 3]) (σ' := (4, 4, 740, X, ci_5, cj_4, ck_5, cs_4)) am_e2 rfl rfl rfl rfl ?_
  refine x_st (i' := 2) (ls' := [.ref 3]) (st' := []) (σ' := (4, 4, 740, X, ci_5, cj_4, ck_5, cs_4)) am_e2 rfl rfl rfl rfl ?_
  refine x_st (i' := 3) (ls' := [.ref 3]) (st' := [.ref 3]) (σ' := (4, 4, 740, X, ci_5, cj_4, ck_5, cs_4)) am_e2 rfl rfl rfl rfl ?_
  refine x_st (i' := 4) (ls' := [.ref 3]) (st' := [.int (nI 64), .ref 3]) (σ' := (4, 4, 740, X, ci_5, cj_4, ck_5, cs_4)) am_e2 rfl rfl rfl rfl ?_
  refine x_st (i' := 5) (ls' := [.ref 3]) (st' := [.ref 4, .ref 3]) (σ' := (5, 5, 804, X, ci_6, cj_5, ck_6, cs_5)) am_e2 rfl rfl rfl rfl ?_
  refine x_st (i' := 6) (ls' := [.ref 3]) (st' := []) (σ' := (5, 5, 804, X, ci_6, cj_5, ck_7, cs_5)) am_e2 rfl rfl rfl rfl ?_
  refine x_st (i' := 7) (ls' := [.ref 3]) (st' := [.ref 3]) (σ' := (5, 5, 804, X, ci_6, cj_5, ck_7, cs_5)) am_e2 rfl rfl rfl rfl ?_
  refine x_st (i' := 8) (ls' := [.ref 3]) (st' := [.int (nI 192), .ref 3]) (σ' := (5, 5, 804, X, ci_6, cj_5, ck_7, cs_5)) am_e2 rfl rfl rfl rfl ?_
  refine x_st (i' := 9) (ls' := [.ref 3]) (st' := [.ref 5, .ref 3]) (σ' := (6, 6, 996, X, ci_7, cj_6, ck_8, cs_6)) am_e2 rfl rfl rfl rfl ?_
  refine x_st (i' := 10) (ls' := [.ref 3]) (st' := []) (σ' := (6, 6, 996, X, ci_7, cj_6, ck_9, cs_6)) am_e2 rfl rfl rfl rfl ?_
  refine x_st (i' := 11) (ls' := [.ref 3]) (st' := [.ref 3]) (σ' := (6, 6, 996, X, ci_7, cj_6, ck_9, cs_6)) am_e2 rfl rfl rfl rfl ?_
  refine x_st (i' := 12) (ls' := [.ref 3]) (st' := [.int (nI 4), .ref 3]) (σ' := (6, 6, 996, X, ci_7, cj_6, ck_9, cs_6)) am_e2 rfl rfl rfl rfl ?_
  refine x_st (i' := 13) (ls' := [.ref 3]) (st' := [.ref 6, .ref 3]) (σ' := (7, 7, 1000, X, ci_8, cj_7, ck_10, cs_7)) am_e2 rfl rfl rfl rfl ?_
  refine x_st (i' := 14) (ls' := [.ref 3]) (st' := []) (σ' := (7, 7, 1000, X, ci_8, cj_7, ck_11, cs_7)) am_e2 rfl rfl rfl rfl ?_
  refine x_st (i' := 15) (ls' := [.ref 3]) (st' := [.ref 3]) (σ' := (7, 7, 1000, X, ci_8, cj_7, ck_11, cs_7)) am_e2 rfl rfl rfl rfl ?_
  refine x_st (i' := 16) (ls' := [.ref 3]) (st' := [.int (nI 16), .ref 3]) (σ' := (7, 7, 1000, X, ci_8, cj_7, ck_11, cs_7)) am_e2 rfl rfl rfl rfl ?_
  refine x_st (i' := 17) (ls' := [.ref 3]) (st' := [.ref 7, .ref 3]) (σ' := (8, 8, 1016, X, ci_9, cj_8, ck_12, cs_8)) am_e2 rfl rfl rfl rfl ?_
  refine x_st (i' := 18) (ls' := [.ref 3]) (st' := []) (σ' := (8, 8, 1016, X, ci_9, cj_8, ck_13, cs_8)) am_e2 rfl rfl rfl rfl ?_
  refine x_st (i' := 19) (ls' := [.ref 3]) (st' := [.ref 3]) (σ' := (8, 8, 1016, X, ci_9, cj_8, ck_13, cs_8)) am_e2 rfl rfl rfl rfl ?_
  refine x_st (i' := 20) (ls' := [.ref 3]) (st' := [.int (nI 4), .ref 3]) (σ' := (8, 8, 1016, X, ci_9, cj_8, ck_13, cs_8)) am_e2 rfl rfl rfl rfl ?_
  refine x_st (i' := 21) (ls' := [.ref 3]) (st' := [.ref 8, .ref 3]) (σ' := (9, 9, 1020, X, ci_10, cj_9, ck_14, cs_9)) am_e2 rfl rfl rfl rfl ?_
  refine x_st (i' := 22) (ls' := [.ref 3]) (st' := []) (σ' := (9, 9, 1020, X, ci_10, cj_9, ck_15, cs_9)) am_e2 rfl rfl rfl rfl ?_
  refine x_end am_e2 rfl rfl rfl ⟨rfl, ?_⟩
  show am_wp 1 13 [.ref 1] [.ref 3, .ref 1] (9, 9, 1020, X, ci_10, cj_9, ck_15, cs_9) _
  refine x_st (i' := 14) (ls' := [.ref 1]) (st' := []) (σ' := (9, 9, 1020, X, ci_10, cj_9, ck_16, cs_9)) am_e1 rfl rfl rfl rfl ?_
  refine x_st (i' := 15) (ls' := [.ref 1]) (st' := [.ref 1]) (σ' := (9, 9, 1020, X, ci_10, cj_9, ck_16, cs_9)) am_e1 rfl rfl rfl rfl ?_
  refine x_st (i' := 16) (ls' := [.ref 1]) (st' := [.int (-1), .ref 1]) (σ' := (9, 9, 1020, X, ci_10, cj_9, ck_16, cs_9)) am_e1 rfl rfl rfl rfl ?_
  refine x_st (i' := 17) (ls' := [.ref 1]) (st' := []) (σ' := (9, 9, 1020, X, ci_11, cj_9, ck_16, cs_9)) am_e1 rfl rfl rfl rfl ?_
  refine x_st (i' := 18) (ls' := [.ref 1]) (st' := [.ref 1]) (σ' := (9, 9, 1020, X, ci_11, cj_9, ck_16, cs_9)) am_e1 rfl rfl rfl rfl ?_
  refine x_st (i' := 19) (ls' := [.ref 1]) (st' := [.ref 2000000, .ref 1]) (σ' := (9, 9, 1020, X, ci_11, cj_9, ck_16, cs_9)) am_e1 rfl rfl rfl rfl ?_
  refine x_st (i' := 20) (ls' := [.ref 1]) (st' := []) (σ' := (9, 9, 1020, X, ci_11, cj_9, ck_16, cs_10)) am_e1 rfl rfl rfl rfl ?_
  refine x_st (i' := 21) (ls' := [.ref 1]) (st' := [.ref 1]) (σ' := (9, 9, 1020, X, ci_11, cj_9, ck_16, cs_10)) am_e1 rfl rfl rfl rfl ?_
  refine x_st (i' := 22) (ls' := [.ref 1]) (st' := [.int (nI 64), .ref 1]) (σ' := (9, 9, 1020, X, ci_11, cj_9, ck_16, cs_10)) am_e1 rfl rfl rfl rfl ?_
  refine x_st (i' := 23) (ls' := [.ref 1]) (st' := [.ref 9, .ref 1]) (σ' := (10, 10, 1084, X, ci_12, cj_10, ck_17, cs_11)) am_e1 rfl rfl rfl rfl ?_
  refine x_st (i' := 24) (ls' := [.ref 1]) (st' := []) (σ' := (10, 10, 1084, X, ci_12, cj_10, ck_18, cs_11)) am_e1 rfl rfl rfl rfl ?_
  refine x_st (i' := 25) (ls' := [.ref 1]) (st' := [.ref 1]) (σ' := (10, 10, 1084, X, ci_12, cj_10, ck_18, cs_11)) am_e1 rfl rfl rfl rfl ?_
  refine x_st (i' := 26) (ls' := [.ref 1]) (st' := [.int (nI 64), .ref 1]) (σ' := (10, 10, 1084, X, ci_12, cj_10, ck_18, cs_11)) am_e1 rfl rfl rfl rfl ?_
  refine x_st (i' := 27) (ls' := [.ref 1]) (st' := [.ref 10, .ref 1]) (σ' := (11, 11, 1148, X, ci_13, cj_11, ck_19, cs_12)) am_e1 rfl rfl rfl rfl ?_
  refine x_st (i' := 28) (ls' := [.ref 1]) (st' := []) (σ' := (11, 11, 1148, X, ci_13, cj_11, ck_20, cs_12)) am_e1 rfl rfl rfl rfl ?_
  refine x_st (i' := 29) (ls' := [.ref 1]) (st' := [.ref 1]) (σ' := (11, 11, 1148, X, ci_13, cj_11, ck_20, cs_12)) am_e1 rfl rfl rfl rfl ?_
  refine x_st (i' := 30) (ls' := [.ref 1]) (st' := [.int (nI 64), .ref 1]) (σ' := (11, 11, 1148, X, ci_13, cj_11, ck_20, cs_12)) am_e1 rfl rfl rfl rfl ?_
  refine x_st (i' := 31) (ls' := [.ref 1]) (st' := [.ref 11, .ref 1]) (σ' := (12, 12, 1212, X, ci_14, cj_12, ck_21, cs_13)) am_e1 rfl rfl rfl rfl ?_
  refine x_st (i' := 32) (ls' := [.ref 1]) (st' := []) (σ' := (12, 12, 1212, X, ci_14, cj_12, ck_22, cs_13)) am_e1 rfl rfl rfl rfl ?_
  refine x_end am_e1 rfl rfl rfl ⟨rfl, ?_⟩
  show am_wp 0 6 [.ref 0] [.ref 1, .ref 0] (12, 12, 1212, X, ci_14, cj_12, ck_22, cs_13) _
  refine x_st (i' := 7) (ls' := [.ref 0]) (st' := []) (σ' := (12, 12, 1212, X, ci_14, cj_12, ck_23, cs_13)) am_e0 rfl rfl rfl rfl ?_
  refine x_st (i' := 8) (ls' := [.ref 0]) (st' := [.ref 0]) (σ' := (12, 12, 1212, X, ci_14, cj_12, ck_23, cs_13)) am_e0 rfl rfl rfl rfl ?_
  refine x_st (i' := 9) (ls' := [.ref 0]) (st' := [.ref 12, .ref 0]) (σ' := (13, 13, 1218, X, ci_15, cj_13, ck_24, cs_14)) am_e0 rfl rfl rfl rfl ?_
  refine x_st (i' := 10) (ls' := [.ref 0]) (st' := [.ref 12, .ref 12, .ref 0]) (σ' := (13, 13, 1218, X, ci_15, cj_13, ck_24, cs_14)) am_e0 rfl rfl rfl rfl ?_
  refine x_cV am_e0 rfl rfl (as := [.ref 12]) (rest := [.ref 12, .ref 0]) rfl rfl ?_
  show am_wp 2 0 [.ref 12] [] (13, 13, 1218, X, ci_15, cj_13, ck_24, cs_14) _
  refine x_st (i' := 1) (ls' := [.ref 12]) (st' := [.ref 12]) (σ' := (13, 13, 1218, X, ci_15, cj_13, ck_24, cs_14)) am_e2 rfl rfl rfl rfl ?_
  refine x_st (i' := 2) (ls' := [.ref 12]) (st' := []) (σ' := (13, 13, 1218, X, ci_15, cj_13, ck_24, cs_14)) am_e2 rfl rfl rfl rfl ?_
  refine x_st (i' := 3) (ls' := [.ref 12]) (st' := [.ref 12]) (σ' := (13, 13, 1218, X, ci_15, cj_13, ck_24, cs_14)) am_e2 rfl rfl rfl rfl ?_
  refine x_st (i' := 4) (ls' := [.ref 12]) (st' := [.int (nI 64), .ref 12]) (σ' := (13, 13, 1218, X, ci_15, cj_13, ck_24, cs_14)) am_e2 rfl rfl rfl rfl ?_
  refine x_st (i' := 5) (ls' := [.ref 12]) (st' := [.ref 13, .ref 12]) (σ' := (14, 14, 1282, X, ci_16, cj_14, ck_25, cs_15)) am_e2 rfl rfl rfl rfl ?_
  refine x_st (i' := 6) (ls' := [.ref 12]) (st' := []) (σ' := (14, 14, 1282, X, ci_16, cj_14, ck_26, cs_15)) am_e2 rfl rfl rfl rfl ?_
  refine x_st (i' := 7) (ls' := [.ref 12]) (st' := [.ref 12]) (σ' := (14, 14, 1282, X, ci_16, cj_14, ck_26, cs_15)) am_e2 rfl rfl rfl rfl ?_
  refine x_st (i' := 8) (ls' := [.ref 12]) (st' := [.int (nI 192), .ref 12]) (σ' := (14, 14, 1282, X, ci_16, cj_14, ck_26, cs_15)) am_e2 rfl rfl rfl rfl ?_
  refine x_st (i' := 9) (ls' := [.ref 12]) (st' := [.ref 14, .ref 12]) (σ' := (15, 15, 1474, X, ci_17, cj_15, ck_27, cs_16)) am_e2 rfl rfl rfl rfl ?_
  refine x_st (i' := 10) (ls' := [.ref 12]) (st' := []) (σ' := (15, 15, 1474, X, ci_17, cj_15, ck_28, cs_16)) am_e2 rfl rfl rfl rfl ?_
  refine x_st (i' := 11) (ls' := [.ref 12]) (st' := [.ref 12]) (σ' := (15, 15, 1474, X, ci_17, cj_15, ck_28, cs_16)) am_e2 rfl rfl rfl rfl ?_
  refine x_st (i' := 12) (ls' := [.ref 12]) (st' := [.int (nI 4), .ref 12]) (σ' := (15, 15, 1474, X, ci_17, cj_15, ck_28, cs_16)) am_e2 rfl rfl rfl rfl ?_
  refine x_st (i' := 13) (ls' := [.ref 12]) (st' := [.ref 15, .ref 12]) (σ' := (16, 16, 1478, X, ci_18, cj_16, ck_29, cs_17)) am_e2 rfl rfl rfl rfl ?_
  refine x_st (i' := 14) (ls' := [.ref 12]) (st' := []) (σ' := (16, 16, 1478, X, ci_18, cj_16, ck_30, cs_17)) am_e2 rfl rfl rfl rfl ?_
  refine x_st (i' := 15) (ls' := [.ref 12]) (st' := [.ref 12]) (σ' := (16, 16, 1478, X, ci_18, cj_16, ck_30, cs_17)) am_e2 rfl rfl rfl rfl ?_
  refine x_st (i' := 16) (ls' := [.ref 12]) (st' := [.int (nI 16), .ref 12]) (σ' := (16, 16, 1478, X, ci_18, cj_16, ck_30, cs_17)) am_e2 rfl rfl rfl rfl ?_
  refine x_st (i' := 17) (ls' := [.ref 12]) (st' := [.ref 16, .ref 12]) (σ' := (17, 17, 1494, X, ci_19, cj_17, ck_31, cs_18)) am_e2 rfl rfl rfl rfl ?_
  refine x_st (i' := 18) (ls' := [.ref 12]) (st' := []) (σ' := (17, 17, 1494, X, ci_19, cj_17, ck_32, cs_18)) am_e2 rfl rfl rfl rfl ?_
  refine x_st (i' := 19) (ls' := [.ref 12]) (st' := [.ref 12]) (σ' := (17, 17, 1494, X, ci_19, cj_17, ck_32, cs_18)) am_e2 rfl rfl rfl rfl ?_
  refine x_st (i' := 20) (ls' := [.ref 12]) (st' := [.int (nI 4), .ref 12]) (σ' := (17, 17, 1494, X, ci_19, cj_17, ck_32, cs_18)) am_e2 rfl rfl rfl rfl ?_
  refine x_st (i' := 21) (ls' := [.ref 12]) (st' := [.ref 17, .ref 12]) (σ' := (18, 18, 1498, X, ci_20, cj_18, ck_33, cs_19)) am_e2 rfl rfl rfl rfl ?_
  refine x_st (i' := 22) (ls' := [.ref 12]) (st' := []) (σ' := (18, 18, 1498, X, ci_20, cj_18, ck_34, cs_19)) am_e2 rfl rfl rfl rfl ?_
  refine x_end am_e2 rfl rfl rfl ⟨rfl, ?_⟩
  show am_wp 0 11 [.ref 0] [.ref 12, .ref 0] (18, 18, 1498, X, ci_20, cj_18, ck_34, cs_19) _
  refine x_st (i' := 12) (ls' := [.ref 0]) (st' := []) (σ' := (18, 18, 1498, X, ci_20, cj_18, ck_35, cs_19)) am_e0 rfl rfl rfl rfl ?_
  refine x_st (i' := 13) (ls' := [.ref 0]) (st' := [.ref 0]) (σ' := (18, 18, 1498, X, ci_20, cj_18, ck_35, cs_19)) am_e0 rfl rfl rfl rfl ?_
  refine x_st (i' := 14) (ls' := [.ref 0]) (st' := [.ref 18, .ref 0]) (σ' := (19, 19, 1512, X, ci_21, cj_19, ck_36, cs_20)) am_e0 rfl rfl rfl rfl ?_
  refine x_st (i' := 15) (ls' := [.ref 0]) (st' := [.ref 18, .ref 18, .ref 0]) (σ' := (19, 19, 1512, X, ci_21, cj_19, ck_36, cs_20)) am_e0 rfl rfl rfl rfl ?_
  refine x_cV am_e0 rfl rfl (as := [.ref 18]) (rest := [.ref 18, .ref 0]) rfl rfl ?_
  show am_wp 3 0 [.ref 18] [] (19, 19, 1512, X, ci_21, cj_19, ck_36, cs_20) _
  refine x_st (i' := 1) (ls' := [.ref 18]) (st' := [.ref 18]) (σ' := (19, 19, 1512, X, ci_21, cj_19, ck_36, cs_20)) am_e3 rfl rfl rfl rfl ?_
  refine x_st (i' := 2) (ls' := [.ref 18]) (st' := []) (σ' := (19, 19, 1512, X, ci_21, cj_19, ck_36, cs_20)) am_e3 rfl rfl rfl rfl ?_
  refine x_st (i' := 3) (ls' := [.ref 18]) (st' := [.ref 18]) (σ' := (19, 19, 1512, X, ci_21, cj_19, ck_36, cs_20)) am_e3 rfl rfl rfl rfl ?_
  refine x_st (i' := 4) (ls' := [.ref 18]) (st' := [.ref 19, .ref 18]) (σ' := (20, 20, 1519, X, ci_22, cj_20, ck_37, cs_21)) am_e3 rfl rfl rfl rfl ?_
  refine x_st (i' := 5) (ls' := [.ref 18]) (st' := [.ref 19, .ref 19, .ref 18]) (σ' := (20, 20, 1519, X, ci_22, cj_20, ck_37, cs_21)) am_e3 rfl rfl rfl rfl ?_
  refine x_cV am_e3 rfl rfl (as := [.ref 19]) (rest := [.ref 19, .ref 18]) rfl rfl ?_
  show am_wp 4 0 [.ref 19] [] (20, 20, 1519, X, ci_22, cj_20, ck_37, cs_21) _
  refine x_st (i' := 1) (ls' := [.ref 19]) (st' := [.ref 19]) (σ' := (20, 20, 1519, X, ci_22, cj_20, ck_37, cs_21)) am_e4 rfl rfl rfl rfl ?_
  refine x_st (i' := 2) (ls' := [.ref 19]) (st' := []) (σ' := (20, 20, 1519, X, ci_22, cj_20, ck_37, cs_21)) am_e4 rfl rfl rfl rfl ?_
  refine x_st (i' := 3) (ls' := [.ref 19]) (st' := [.ref 19]) (σ' := (20, 20, 1519, X, ci_22, cj_20, ck_37, cs_21)) am_e4 rfl rfl rfl rfl ?_
  refine x_st (i' := 4) (ls' := [.ref 19]) (st' := [.ref 20, .ref 19]) (σ' := (21, 21, 1526, X, ci_23, cj_21, ck_38, cs_22)) am_e4 rfl rfl rfl rfl ?_
  refine x_st (i' := 5) (ls' := [.ref 19]) (st' := [.ref 20, .ref 20, .ref 19]) (σ' := (21, 21, 1526, X, ci_23, cj_21, ck_38, cs_22)) am_e4 rfl rfl rfl rfl ?_
  refine x_cV am_e4 rfl rfl (as := [.ref 20]) (rest := [.ref 20, .ref 19]) rfl rfl ?_
  show am_wp 5 0 [.ref 20] [] (21, 21, 1526, X, ci_23, cj_21, ck_38, cs_22) _
  refine x_st (i' := 1) (ls' := [.ref 20]) (st' := [.ref 20]) (σ' := (21, 21, 1526, X, ci_23, cj_21, ck_38, cs_22)) am_e5 rfl rfl rfl rfl ?_
  refine x_st (i' := 2) (ls' := [.ref 20]) (st' := []) (σ' := (21, 21, 1526, X, ci_23, cj_21, ck_38, cs_22)) am_e5 rfl rfl rfl rfl ?_
  refine x_st (i' := 3) (ls' := [.ref 20]) (st' := [.ref 20]) (σ' := (21, 21, 1526, X, ci_23, cj_21, ck_38, cs_22)) am_e5 rfl rfl rfl rfl ?_
  refine x_st (i' := 4) (ls' := [.ref 20]) (st' := [.int (nI 16), .ref 20]) (σ' := (21, 21, 1526, X, ci_23, cj_21, ck_38, cs_22)) am_e5 rfl rfl rfl rfl ?_
  refine x_st (i' := 5) (ls' := [.ref 20]) (st' := [.ref 21, .ref 20]) (σ' := (22, 22, 1542, X, ci_24, cj_22, ck_39, cs_23)) am_e5 rfl rfl rfl rfl ?_
  refine x_st (i' := 6) (ls' := [.ref 20]) (st' := []) (σ' := (22, 22, 1542, X, ci_24, cj_22, ck_40, cs_23)) am_e5 rfl rfl rfl rfl ?_
  refine x_st (i' := 7) (ls' := [.ref 20]) (st' := [.ref 20]) (σ' := (22, 22, 1542, X, ci_24, cj_22, ck_40, cs_23)) am_e5 rfl rfl rfl rfl ?_
  refine x_st (i' := 8) (ls' := [.ref 20]) (st' := [.int (nI 16), .ref 20]) (σ' := (22, 22, 1542, X, ci_24, cj_22, ck_40, cs_23)) am_e5 rfl rfl rfl rfl ?_
  refine x_st (i' := 9) (ls' := [.ref 20]) (st' := [.ref 22, .ref 20]) (σ' := (23, 23, 1558, X, ci_25, cj_23, ck_41, cs_24)) am_e5 rfl rfl rfl rfl ?_
  refine x_st (i' := 10) (ls' := [.ref 20]) (st' := []) (σ' := (23, 23, 1558, X, ci_25, cj_23, ck_42, cs_24)) am_e5 rfl rfl rfl rfl ?_
  refine x_st (i' := 11) (ls' := [.ref 20]) (st' := [.ref 20]) (σ' := (23, 23, 1558, X, ci_25, cj_23, ck_42, cs_24)) am_e5 rfl rfl rfl rfl ?_
  refine x_st (i' := 12) (ls' := [.ref 20]) (st' := [.int (nI 4), .ref 20]) (σ' := (23, 23, 1558, X, ci_25, cj_23, ck_42, cs_24)) am_e5 rfl rfl rfl rfl ?_
  refine x_st (i' := 13) (ls' := [.ref 20]) (st' := [.ref 23, .ref 20]) (σ' := (24, 24, 1562, X, ci_26, cj_24, ck_43, cs_25)) am_e5 rfl rfl rfl rfl ?_
  refine x_st (i' := 14) (ls' := [.ref 20]) (st' := []) (σ' := (24, 24, 1562, X, ci_26, cj_24, ck_44, cs_25)) am_e5 rfl rfl rfl rfl ?_
  refine x_st (i' := 15) (ls' := [.ref 20]) (st' := [.ref 20]) (σ' := (24, 24, 1562, X, ci_26, cj_24, ck_44, cs_25)) am_e5 rfl rfl rfl rfl ?_
  refine x_st (i' := 16) (ls' := [.ref 20]) (st' := [.int (nI 4), .ref 20]) (σ' := (24, 24, 1562, X, ci_26, cj_24, ck_44, cs_25)) am_e5 rfl rfl rfl rfl ?_
  refine x_st (i' := 17) (ls' := [.ref 20]) (st' := [.ref 24, .ref 20]) (σ' := (25, 25, 1566, X, ci_27, cj_25, ck_45, cs_26)) am_e5 rfl rfl rfl rfl ?_
  refine x_st (i' := 18) (ls' := [.ref 20]) (st' := []) (σ' := (25, 25, 1566, X, ci_27, cj_25, ck_46, cs_26)) am_e5 rfl rfl rfl rfl ?_
  refine x_st (i' := 19) (ls' := [.ref 20]) (st' := [.ref 20]) (σ' := (25, 25, 1566, X, ci_27, cj_25, ck_46, cs_26)) am_e5 rfl rfl rfl rfl ?_
  refine x_st (i' := 20) (ls' := [.ref 20]) (st' := [.int (nI 4), .ref 20]) (σ' := (25, 25, 1566, X, ci_27, cj_25, ck_46, cs_26)) am_e5 rfl rfl rfl rfl ?_
  refine x_st (i' := 21) (ls' := [.ref 20]) (st' := [.ref 25, .ref 20]) (σ' := (26, 26, 1570, X, ci_28, cj_26, ck_47, cs_27)) am_e5 rfl rfl rfl rfl ?_
  refine x_st (i' := 22) (ls' := [.ref 20]) (st' := []) (σ' := (26, 26, 1570, X, ci_28, cj_26, ck_48, cs_27)) am_e5 rfl rfl rfl rfl ?_
  refine x_st (i' := 23) (ls' := [.ref 20]) (st' := [.ref 20]) (σ' := (26, 26, 1570, X, ci_28, cj_26, ck_48, cs_27)) am_e5 rfl rfl rfl rfl ?_
  refine x_st (i' := 24) (ls' := [.ref 20]) (st' := [.int (nI 3), .ref 20]) (σ' := (26, 26, 1570, X, ci_28, cj_26, ck_48, cs_27)) am_e5 rfl rfl rfl rfl ?_
  refine x_st (i' := 25) (ls' := [.ref 20]) (st' := [.ref 26, .ref 20]) (σ' := (27, 27, 1573, X, ci_29, cj_27, ck_49, cs_28)) am_e5 rfl rfl rfl rfl ?_
  refine x_st (i' := 26) (ls' := [.ref 20]) (st' := []) (σ' := (27, 27, 1573, X, ci_29, cj_27, ck_50, cs_28)) am_e5 rfl rfl rfl rfl ?_
  refine x_st (i' := 27) (ls' := [.ref 20]) (st' := [.ref 20]) (σ' := (27, 27, 1573, X, ci_29, cj_27, ck_50, cs_28)) am_e5 rfl rfl rfl rfl ?_
  refine x_st (i' := 28) (ls' := [.ref 20]) (st' := [.int (-1), .ref 20]) (σ' := (27, 27, 1573, X, ci_29, cj_27, ck_50, cs_28)) am_e5 rfl rfl rfl rfl ?_
  refine x_st (i' := 29) (ls' := [.ref 20]) (st' := []) (σ' := (27, 27, 1573, X, ci_30, cj_27, ck_50, cs_28)) am_e5 rfl rfl rfl rfl ?_
  refine x_end am_e5 rfl rfl rfl ⟨rfl, ?_⟩
  show am_wp 4 6 [.ref 19] [.ref 20, .ref 19] (27, 27, 1573, X, ci_30, cj_27, ck_50, cs_28) _
  refine x_st (i' := 7) (ls' := [.ref 19]) (st' := []) (σ' := (27, 27, 1573, X, ci_30, cj_27, ck_51, cs_28)) am_e4 rfl rfl rfl rfl ?_
  refine x_st (i' := 8) (ls' := [.ref 19]) (st' := [.ref 19]) (σ' := (27, 27, 1573, X, ci_30, cj_27, ck_51, cs_28)) am_e4 rfl rfl rfl rfl ?_
  refine x_st (i' := 9) (ls' := [.ref 19]) (st' := [.int (-1), .ref 19]) (σ' := (27, 27, 1573, X, ci_30, cj_27, ck_51, cs_28)) am_e4 rfl rfl rfl rfl ?_
  refine x_st (i' := 10) (ls' := [.ref 19]) (st' := []) (σ' := (27, 27, 1573, X, ci_31, cj_27, ck_51, cs_28)) am_e4 rfl rfl rfl rfl ?_
  refine x_end am_e4 rfl rfl rfl ⟨rfl, ?_⟩
  show am_wp 3 6 [.ref 18] [.ref 19, .ref 18] (27, 27, 1573, X, ci_31, cj_27, ck_51, cs_28) _
  refine x_st (i' := 7) (ls' := [.ref 18]) (st' := []) (σ' := (27, 27, 1573, X, ci_31, cj_27, ck_52, cs_28)) am_e3 rfl rfl rfl rfl ?_
  refine x_st (i' := 8) (ls' := [.ref 18]) (st' := [.ref 18]) (σ' := (27, 27, 1573, X, ci_31, cj_27, ck_52, cs_28)) am_e3 rfl rfl rfl rfl ?_
  refine x_st (i' := 9) (ls' := [.ref 18]) (st' := [.int (nI 90), .ref 18]) (σ' := (27, 27, 1573, X, ci_31, cj_27, ck_52, cs_28)) am_e3 rfl rfl rfl rfl ?_
  refine x_st (i' := 10) (ls' := [.ref 18]) (st' := [.ref 27, .ref 18]) (σ' := (28, 28, 1663, X, ci_32, cj_28, ck_53, cs_29)) am_e3 rfl rfl rfl rfl ?_
  refine x_st (i' := 11) (ls' := [.ref 18]) (st' := []) (σ' := (28, 28, 1663, X, ci_32, cj_28, ck_54, cs_29)) am_e3 rfl rfl rfl rfl ?_
  refine x_st (i' := 12) (ls' := [.ref 18]) (st' := [.ref 18]) (σ' := (28, 28, 1663, X, ci_32, cj_28, ck_54, cs_29)) am_e3 rfl rfl rfl rfl ?_
  refine x_st (i' := 13) (ls' := [.ref 18]) (st' := [.int (nI 3), .ref 18]) (σ' := (28, 28, 1663, X, ci_32, cj_28, ck_54, cs_29)) am_e3 rfl rfl rfl rfl ?_
  refine x_st (i' := 14) (ls' := [.ref 18]) (st' := [.ref 28, .ref 18]) (σ' := (29, 29, 1666, X, ci_33, cj_29, ck_55, cs_30)) am_e3 rfl rfl rfl rfl ?_
  refine x_st (i' := 15) (ls' := [.ref 18]) (st' := []) (σ' := (29, 29, 1666, X, ci_33, cj_29, ck_56, cs_30)) am_e3 rfl rfl rfl rfl ?_
  refine x_st (i' := 16) (ls' := [.ref 18]) (st' := [.ref 18]) (σ' := (29, 29, 1666, X, ci_33, cj_29, ck_56, cs_30)) am_e3 rfl rfl rfl rfl ?_
  refine x_st (i' := 17) (ls' := [.ref 18]) (st' := [.int (nI 400), .ref 18]) (σ' := (29, 29, 1666, X, ci_33, cj_29, ck_56, cs_30)) am_e3 rfl rfl rfl rfl ?_
  refine x_st (i' := 18) (ls' := [.ref 18]) (st' := [.ref 29, .ref 18]) (σ' := (30, 30, 2066, X, ci_34, cj_30, ck_57, cs_31)) am_e3 rfl rfl rfl rfl ?_
  refine x_st (i' := 19) (ls' := [.ref 18]) (st' := []) (σ' := (30, 30, 2066, X, ci_34, cj_30, ck_58, cs_31)) am_e3 rfl rfl rfl rfl ?_
  refine x_st (i' := 20) (ls' := [.ref 18]) (st' := [.ref 18]) (σ' := (30, 30, 2066, X, ci_34, cj_30, ck_58, cs_31)) am_e3 rfl rfl rfl rfl ?_
  refine x_st (i' := 21) (ls' := [.ref 18]) (st' := [.int (nI 400), .ref 18]) (σ' := (30, 30, 2066, X, ci_34, cj_30, ck_58, cs_31)) am_e3 rfl rfl rfl rfl ?_
  refine x_st (i' := 22) (ls' := [.ref 18]) (st' := [.ref 30, .ref 18]) (σ' := (31, 31, 2466, X, ci_35, cj_31, ck_59, cs_32)) am_e3 rfl rfl rfl rfl ?_
  refine x_st (i' := 23) (ls' := [.ref 18]) (st' := []) (σ' := (31, 31, 2466, X, ci_35, cj_31, ck_60, cs_32)) am_e3 rfl rfl rfl rfl ?_
  refine x_st (i' := 24) (ls' := [.ref 18]) (st' := [.ref 18]) (σ' := (31, 31, 2466, X, ci_35, cj_31, ck_60, cs_32)) am_e3 rfl rfl rfl rfl ?_
  refine x_st (i' := 25) (ls' := [.ref 18]) (st' := [.int (nI 400), .ref 18]) (σ' := (31, 31, 2466, X, ci_35, cj_31, ck_60, cs_32)) am_e3 rfl rfl rfl rfl ?_
  refine x_st (i' := 26) (ls' := [.ref 18]) (st' := [.ref 31, .ref 18]) (σ' := (32, 32, 2866, X, ci_36, cj_32, ck_61, cs_33)) am_e3 rfl rfl rfl rfl ?_
  refine x_st (i' := 27) (ls' := [.ref 18]) (st' := []) (σ' := (32, 32, 2866, X, ci_36, cj_32, ck_62, cs_33)) am_e3 rfl rfl rfl rfl ?_
  refine x_st (i' := 28) (ls' := [.ref 18]) (st' := [.ref 18]) (σ' := (32, 32, 2866, X, ci_36, cj_32, ck_62, cs_33)) am_e3 rfl rfl rfl rfl ?_
  refine x_st (i' := 29) (ls' := [.ref 18]) (st' := [.int (nI 400), .ref 18]) (σ' := (32, 32, 2866, X, ci_36, cj_32, ck_62, cs_33)) am_e3 rfl rfl rfl rfl ?_
  refine x_st (i' := 30) (ls' := [.ref 18]) (st' := [.ref 32, .ref 18]) (σ' := (33, 33, 3266, X, ci_37, cj_33, ck_63, cs_34)) am_e3 rfl rfl rfl rfl ?_
  refine x_st (i' := 31) (ls' := [.ref 18]) (st' := []) (σ' := (33, 33, 3266, X, ci_37, cj_33, ck_64, cs_34)) am_e3 rfl rfl rfl rfl ?_
  refine x_st (i' := 32) (ls' := [.ref 18]) (st' := [.ref 18]) (σ' := (33, 33, 3266, X, ci_37, cj_33, ck_64, cs_34)) am_e3 rfl rfl rfl rfl ?_
  refine x_st (i' := 33) (ls' := [.ref 18]) (st' := [.int (nI 401), .ref 18]) (σ' := (33, 33, 3266, X, ci_37, cj_33, ck_64, cs_34)) am_e3 rfl rfl rfl rfl ?_
  refine x_st (i' := 34) (ls' := [.ref 18]) (st' := [.ref 33, .ref 18]) (σ' := (34, 34, 3667, X, ci_38, cj_34, ck_65, cs_35)) am_e3 rfl rfl rfl rfl ?_
  refine x_st (i' := 35) (ls' := [.ref 18]) (st' := []) (σ' := (34, 34, 3667, X, ci_38, cj_34, ck_66, cs_35)) am_e3 rfl rfl rfl rfl ?_
  refine x_st (i' := 36) (ls' := [.ref 18]) (st' := [.ref 18]) (σ' := (34, 34, 3667, X, ci_38, cj_34, ck_66, cs_35)) am_e3 rfl rfl rfl rfl ?_
  refine x_st (i' := 37) (ls' := [.ref 18]) (st' := [.ref 34, .ref 18]) (σ' := (35, 35, 3672, X, ci_39, cj_35, ck_67, cs_36)) am_e3 rfl rfl rfl rfl ?_
  refine x_st (i' := 38) (ls' := [.ref 18]) (st' := [.ref 34, .ref 34, .ref 18]) (σ' := (35, 35, 3672, X, ci_39, cj_35, ck_67, cs_36)) am_e3 rfl rfl rfl rfl ?_
  refine x_cV am_e3 rfl rfl (as := [.ref 34]) (rest := [.ref 34, .ref 18]) rfl rfl ?_
  show am_wp 6 0 [.ref 34] [] (35, 35, 3672, X, ci_39, cj_35, ck_67, cs_36) _
  refine x_st (i' := 1) (ls' := [.ref 34]) (st' := [.ref 34]) (σ' := (35, 35, 3672, X, ci_39, cj_35, ck_67, cs_36)) am_e6 rfl rfl rfl rfl ?_
  refine x_st (i' := 2) (ls' := [.ref 34]) (st' := []) (σ' := (35, 35, 3672, X, ci_39, cj_35, ck_67, cs_36)) am_e6 rfl rfl rfl rfl ?_
  refine x_st (i' := 3) (ls' := [.ref 34]) (st' := [.ref 34]) (σ' := (35, 35, 3672, X, ci_39, cj_35, ck_67, cs_36)) am_e6 rfl rfl rfl rfl ?_
  refine x_st (i' := 4) (ls' := [.ref 34]) (st' := [.int (nI 40), .ref 34]) (σ' := (35, 35, 3672, X, ci_39, cj_35, ck_67, cs_36)) am_e6 rfl rfl rfl rfl ?_
  refine x_st (i' := 5) (ls' := [.ref 34]) (st' := [.ref 35, .ref 34]) (σ' := (36, 36, 3712, X, ci_40, cj_36, ck_68, cs_37)) am_e6 rfl rfl rfl rfl ?_
  refine x_st (i' := 6) (ls' := [.ref 34]) (st' := []) (σ' := (36, 36, 3712, X, ci_40, cj_36, ck_69, cs_37)) am_e6 rfl rfl rfl rfl ?_
  refine x_st (i' := 7) (ls' := [.ref 34]) (st' := [.ref 34]) (σ' := (36, 36, 3712, X, ci_40, cj_36, ck_69, cs_37)) am_e6 rfl rfl rfl rfl ?_
  refine x_st (i' := 8) (ls' := [.ref 34]) (st' := [.int (nI 40), .ref 34]) (σ' := (36, 36, 3712, X, ci_40, cj_36, ck_69, cs_37)) am_e6 rfl rfl rfl rfl ?_
  refine x_st (i' := 9) (ls' := [.ref 34]) (st' := [.ref 36, .ref 34]) (σ' := (37, 37, 3752, X, ci_41, cj_37, ck_70, cs_38)) am_e6 rfl rfl rfl rfl ?_
  refine x_st (i' := 10) (ls' := [.ref 34]) (st' := []) (σ' := (37, 37, 3752, X, ci_41, cj_37, ck_71, cs_38)) am_e6 rfl rfl rfl rfl ?_
  refine x_st (i' := 11) (ls' := [.ref 34]) (st' := [.ref 34]) (σ' := (37, 37, 3752, X, ci_41, cj_37, ck_71, cs_38)) am_e6 rfl rfl rfl rfl ?_
  refine x_st (i' := 12) (ls' := [.ref 34]) (st' := [.int (nI 40), .ref 34]) (σ' := (37, 37, 3752, X, ci_41, cj_37, ck_71, cs_38)) am_e6 rfl rfl rfl rfl ?_
  refine x_st (i' := 13) (ls' := [.ref 34]) (st' := [.ref 37, .ref 34]) (σ' := (38, 38, 3792, X, ci_42, cj_38, ck_72, cs_39)) am_e6 rfl rfl rfl rfl ?_
  refine x_st (i' := 14) (ls' := [.ref 34]) (st' := []) (σ' := (38, 38, 3792, X, ci_42, cj_38, ck_73, cs_39)) am_e6 rfl rfl rfl rfl ?_
  refine x_st (i' := 15) (ls' := [.ref 34]) (st' := [.ref 34]) (σ' := (38, 38, 3792, X, ci_42, cj_38, ck_73, cs_39)) am_e6 rfl rfl rfl rfl ?_
  refine x_st (i' := 16) (ls' := [.ref 34]) (st' := [.int (nI 40), .ref 34]) (σ' := (38, 38, 3792, X, ci_42, cj_38, ck_73, cs_39)) am_e6 rfl rfl rfl rfl ?_
  refine x_st (i' := 17) (ls' := [.ref 34]) (st' := [.ref 38, .ref 34]) (σ' := (39, 39, 3832, X, ci_43, cj_39, ck_74, cs_40)) am_e6 rfl rfl rfl rfl ?_
  refine x_st (i' := 18) (ls' := [.ref 34]) (st' := []) (σ' := (39, 39, 3832, X, ci_43, cj_39, ck_75, cs_40)) am_e6 rfl rfl rfl rfl ?_
  refine x_st (i' := 19) (ls' := [.ref 34]) (st' := [.ref 34]) (σ' := (39, 39, 3832, X, ci_43, cj_39, ck_75, cs_40)) am_e6 rfl rfl rfl rfl ?_
  refine x_st (i' := 20) (ls' := [.ref 34]) (st' := [.int (nI 0), .ref 34]) (σ' := (39, 39, 3832, X, ci_43, cj_39, ck_75, cs_40)) am_e6 rfl rfl rfl rfl ?_
  refine x_st (i' := 21) (ls' := [.ref 34]) (st' := []) (σ' := (39, 39, 3832, X, ci_44, cj_39, ck_75, cs_40)) am_e6 rfl rfl rfl rfl ?_
  refine x_end am_e6 rfl rfl rfl ⟨rfl, ?_⟩
  show am_wp 3 39 [.ref 18] [.ref 34, .ref 18] (39, 39, 3832, X, ci_44, cj_39, ck_75, cs_40) _
  refine x_st (i' := 40) (ls' := [.ref 18]) (st' := []) (σ' := (39, 39, 3832, X, ci_44, cj_39, ck_76, cs_40)) am_e3 rfl rfl rfl rfl ?_
  refine x_st (i' := 41) (ls' := [.ref 18]) (st' := [.ref 18]) (σ' := (39, 39, 3832, X, ci_44, cj_39, ck_76, cs_40)) am_e3 rfl rfl rfl rfl ?_
  refine x_st (i' := 42) (ls' := [.ref 18]) (st' := [.int (nI 0), .ref 18]) (σ' := (39, 39, 3832, X, ci_44, cj_39, ck_76, cs_40)) am_e3 rfl rfl rfl rfl ?_
  refine x_st (i' := 43) (ls' := [.ref 18]) (st' := []) (σ' := (39, 39, 3832, X, ci_45, cj_39, ck_76, cs_40)) am_e3 rfl rfl rfl rfl ?_
  refine x_st (i' := 44) (ls' := [.ref 18]) (st' := [.ref 18]) (σ' := (39, 39, 3832, X, ci_45, cj_39, ck_76, cs_40)) am_e3 rfl rfl rfl rfl ?_
  refine x_st (i' := 45) (ls' := [.ref 18]) (st' := [.int (nI 0), .ref 18]) (σ' := (39, 39, 3832, X, ci_45, cj_39, ck_76, cs_40)) am_e3 rfl rfl rfl rfl ?_
  refine x_st (i' := 46) (ls' := [.ref 18]) (st' := []) (σ' := (39, 39, 3832, X, ci_46, cj_39, ck_76, cs_40)) am_e3 rfl rfl rfl rfl ?_
  refine x_st (i' := 47) (ls' := [.ref 18]) (st' := [.ref 18]) (σ' := (39, 39, 3832, X, ci_46, cj_39, ck_76, cs_40)) am_e3 rfl rfl rfl rfl ?_
  refine x_st (i' := 48) (ls' := [.ref 18]) (st' := [.int (nI 0), .ref 18]) (σ' := (39, 39, 3832, X, ci_46, cj_39, ck_76, cs_40)) am_e3 rfl rfl rfl rfl ?_
  refine x_st (i' := 49) (ls' := [.ref 18]) (st' := []) (σ' := (39, 39, 3832, X, ci_47, cj_39, ck_76, cs_40)) am_e3 rfl rfl rfl rfl ?_
  refine x_st (i' := 50) (ls' := [.ref 18]) (st' := [.ref 18]) (σ' := (39, 39, 3832, X, ci_47, cj_39, ck_76, cs_40)) am_e3 rfl rfl rfl rfl ?_
  refine x_st (i' := 51) (ls' := [.ref 18]) (st' := [.int (nI 0), .ref 18]) (σ' := (39, 39, 3832, X, ci_47, cj_39, ck_76, cs_40)) am_e3 rfl rfl rfl rfl ?_
  refine x_st (i' := 52) (ls' := [.ref 18]) (st' := []) (σ' := (39, 39, 3832, X, ci_48, cj_39, ck_76, cs_40)) am_e3 rfl rfl rfl rfl ?_
  refine x_st (i' := 53) (ls' := [.ref 18]) (st' := [.ref 18]) (σ' := (39, 39, 3832, X, ci_48, cj_39, ck_76, cs_40)) am_e3 rfl rfl rfl rfl ?_
  refine x_st (i' := 54) (ls' := [.ref 18]) (st' := [.int (nI 0), .ref 18]) (σ' := (39, 39, 3832, X, ci_48, cj_39, ck_76, cs_40)) am_e3 rfl rfl rfl rfl ?_
  refine x_st (i' := 55) (ls' := [.ref 18]) (st' := []) (σ' := (39, 39, 3832, X, ci_49, cj_39, ck_76, cs_40)) am_e3 rfl rfl rfl rfl ?_
  refine x_end am_e3 rfl rfl rfl ⟨rfl, ?_⟩
  show am_wp 0 16 [.ref 0] [.ref 18, .ref 0] (39, 39, 3832, X, ci_49, cj_39, ck_76, cs_40) _
  refine x_st (i' := 17) (ls' := [.ref 0]) (st' := []) (σ' := (39, 39, 3832, X, ci_49, cj_39, ck_77, cs_40)) am_e0 rfl rfl rfl rfl ?_
  refine x_st (i' := 18) (ls' := [.ref 0]) (st' := [.ref 0]) (σ' := (39, 39, 3832, X, ci_49, cj_39, ck_77, cs_40)) am_e0 rfl rfl rfl rfl ?_
  refine x_st (i' := 19) (ls' := [.ref 0]) (st' := [.ref 39, .ref 0]) (σ' := (40, 40, 3846, X, ci_50, cj_40, ck_78, cs_41)) am_e0 rfl rfl rfl rfl ?_
  refine x_st (i' := 20) (ls' := [.ref 0]) (st' := [.ref 39, .ref 39, .ref 0]) (σ' := (40, 40, 3846, X, ci_50, cj_40, ck_78, cs_41)) am_e0 rfl rfl rfl rfl ?_
  refine x_cV am_e0 rfl rfl (as := [.ref 39]) (rest := [.ref 39, .ref 0]) rfl rfl ?_
  show am_wp 3 0 [.ref 39] [] (40, 40, 3846, X, ci_50, cj_40, ck_78, cs_41) _
  refine x_st (i' := 1) (ls' := [.ref 39]) (st' := [.ref 39]) (σ' := (40, 40, 3846, X, ci_50, cj_40, ck_78, cs_41)) am_e3 rfl rfl rfl rfl ?_
  refine x_st (i' := 2) (ls' := [.ref 39]) (st' := []) (σ' := (40, 40, 3846, X, ci_50, cj_40, ck_78, cs_41)) am_e3 rfl rfl rfl rfl ?_
  refine x_st (i' := 3) (ls' := [.ref 39]) (st' := [.ref 39]) (σ' := (40, 40, 3846, X, ci_50, cj_40, ck_78, cs_41)) am_e3 rfl rfl rfl rfl ?_
  refine x_st (i' := 4) (ls' := [.ref 39]) (st' := [.ref 40, .ref 39]) (σ' := (41, 41, 3853, X, ci_51, cj_41, ck_79, cs_42)) am_e3 rfl rfl rfl rfl ?_
  refine x_st (i' := 5) (ls' := [.ref 39]) (st' := [.ref 40, .ref 40, .ref 39]) (σ' := (41, 41, 3853, X, ci_51, cj_41, ck_79, cs_42)) am_e3 rfl rfl rfl rfl ?_
  refine x_cV am_e3 rfl rfl (as := [.ref 40]) (rest := [.ref 40, .ref 39]) rfl rfl ?_
  show am_wp 4 0 [.ref 40] [] (41, 41, 3853, X, ci_51, cj_41, ck_79, cs_42) _
  refine x_st (i' := 1) (ls' := [.ref 40]) (st' := [.ref 40]) (σ' := (41, 41, 3853, X, ci_51, cj_41, ck_79, cs_42)) am_e4 rfl rfl rfl rfl ?_
  refine x_st (i' := 2) (ls' := [.ref 40]) (st' := []) (σ' := (41, 41, 3853, X, ci_51, cj_41, ck_79, cs_42)) am_e4 rfl rfl rfl rfl ?_
  refine x_st (i' := 3) (ls' := [.ref 40]) (st' := [.ref 40]) (σ' := (41, 41, 3853, X, ci_51, cj_41, ck_79, cs_42)) am_e4 rfl rfl rfl rfl ?_
  refine x_st (i' := 4) (ls' := [.ref 40]) (st' := [.ref 41, .ref 40]) (σ' := (42, 42, 3860, X, ci_52, cj_42, ck_80, cs_43)) am_e4 rfl rfl rfl rfl ?_
  refine x_st (i' := 5) (ls' := [.ref 40]) (st' := [.ref 41, .ref 41, .ref 40]) (σ' := (42, 42, 3860, X, ci_52, cj_42, ck_80, cs_43)) am_e4 rfl rfl rfl rfl ?_
  refine x_cV am_e4 rfl rfl (as := [.ref 41]) (rest := [.ref 41, .ref 40]) rfl rfl ?_
  show am_wp 5 0 [.ref 41] [] (42, 42, 3860, X, ci_52, cj_42, ck_80, cs_43) _
  refine x_st (i' := 1) (ls' := [.ref 41]) (st' := [.ref 41]) (σ' := (42, 42, 3860, X, ci_52, cj_42, ck_80, cs_43)) am_e5 rfl rfl rfl rfl ?_
  refine x_st (i' := 2) (ls' := [.ref 41]) (st' := []) (σ' := (42, 42, 3860, X, ci_52, cj_42, ck_80, cs_43)) am_e5 rfl rfl rfl rfl ?_
  refine x_st (i' := 3) (ls' := [.ref 41]) (st' := [.ref 41]) (σ' := (42, 42, 3860, X, ci_52, cj_42, ck_80, cs_43)) am_e5 rfl rfl rfl rfl ?_
  refine x_st (i' := 4) (ls' := [.ref 41]) (st' := [.int (nI 16), .ref 41]) (σ' := (42, 42, 3860, X, ci_52, cj_42, ck_80, cs_43)) am_e5 rfl rfl rfl rfl ?_
  refine x_st (i' := 5) (ls' := [.ref 41]) (st' := [.ref 42, .ref 41]) (σ' := (43, 43, 3876, X, ci_53, cj_43, ck_81, cs_44)) am_e5 rfl rfl rfl rfl ?_
  refine x_st (i' := 6) (ls' := [.ref 41]) (st' := []) (σ' := (43, 43, 3876, X, ci_53, cj_43, ck_82, cs_44)) am_e5 rfl rfl rfl rfl ?_
  refine x_st (i' := 7) (ls' := [.ref 41]) (st' := [.ref 41]) (σ' := (43, 43, 3876, X, ci_53, cj_43, ck_82, cs_44)) am_e5 rfl rfl rfl rfl ?_
  refine x_st (i' := 8) (ls' := [.ref 41]) (st' := [.int (nI 16), .ref 41]) (σ' := (43, 43, 3876, X, ci_53, cj_43, ck_82, cs_44)) am_e5 rfl rfl rfl rfl ?_
  refine x_st (i' := 9) (ls' := [.ref 41]) (st' := [.ref 43, .ref 41]) (σ' := (44, 44, 3892, X, ci_54, cj_44, ck_83, cs_45)) am_e5 rfl rfl rfl rfl ?_
  refine x_st (i' := 10) (ls' := [.ref 41]) (st' := []) (σ' := (44, 44, 3892, X, ci_54, cj_44, ck_84, cs_45)) am_e5 rfl rfl rfl rfl ?_
  refine x_st (i' := 11) (ls' := [.ref 41]) (st' := [.ref 41]) (σ' := (44, 44, 3892, X, ci_54, cj_44, ck_84, cs_45)) am_e5 rfl rfl rfl rfl ?_
  refine x_st (i' := 12) (ls' := [.ref 41]) (st' := [.int (nI 4), .ref 41]) (σ' := (44, 44, 3892, X, ci_54, cj_44, ck_84, cs_45)) am_e5 rfl rfl rfl rfl ?_
  refine x_st (i' := 13) (ls' := [.ref 41]) (st' := [.ref 44, .ref 41]) (σ' := (45, 45, 3896, X, ci_55, cj_45, ck_85, cs_46)) am_e5 rfl rfl rfl rfl ?_
  refine x_st (i' := 14) (ls' := [.ref 41]) (st' := []) (σ' := (45, 45, 3896, X, ci_55, cj_45, ck_86, cs_46)) am_e5 rfl rfl rfl rfl ?_
  refine x_st (i' := 15) (ls' := [.ref 41]) (st' := [.ref 41]) (σ' := (45, 45, 3896, X, ci_55, cj_45, ck_86, cs_46)) am_e5 rfl rfl rfl rfl ?_
  refine x_st (i' := 16) (ls' := [.ref 41]) (st' := [.int (nI 4), .ref 41]) (σ' := (45, 45, 3896, X, ci_55, cj_45, ck_86, cs_46)) am_e5 rfl rfl rfl rfl ?_
  refine x_st (i' := 17) (ls' := [.ref 41]) (st' := [.ref 45, .ref 41]) (σ' := (46, 46, 3900, X, ci_56, cj_46, ck_87, cs_47)) am_e5 rfl rfl rfl rfl ?_
  refine x_st (i' := 18) (ls' := [.ref 41]) (st' := []) (σ' := (46, 46, 3900, X, ci_56, cj_46, ck_88, cs_47)) am_e5 rfl rfl rfl rfl ?_
  refine x_st (i' := 19) (ls' := [.ref 41]) (st' := [.ref 41]) (σ' := (46, 46, 3900, X, ci_56, cj_46, ck_88, cs_47)) am_e5 rfl rfl rfl rfl ?_
  refine x_st (i' := 20) (ls' := [.ref 41]) (st' := [.int (nI 4), .ref 41]) (σ' := (46, 46, 3900, X, ci_56, cj_46, ck_88, cs_47)) am_e5 rfl rfl rfl rfl ?_
  refine x_st (i' := 21) (ls' := [.ref 41]) (st' := [.ref 46, .ref 41]) (σ' := (47, 47, 3904, X, ci_57, cj_47, ck_89, cs_48)) am_e5 rfl rfl rfl rfl ?_
  refine x_st (i' := 22) (ls' := [.ref 41]) (st' := []) (σ' := (47, 47, 3904, X, ci_57, cj_47, ck_90, cs_48)) am_e5 rfl rfl rfl rfl ?_
  refine x_st (i' := 23) (ls' := [.ref 41]) (st' := [.ref 41]) (σ' := (47, 47, 3904, X, ci_57, cj_47, ck_90, cs_48)) am_e5 rfl rfl rfl rfl ?_
  refine x_st (i' := 24) (ls' := [.ref 41]) (st' := [.int (nI 3), .ref 41]) (σ' := (47, 47, 3904, X, ci_57, cj_47, ck_90, cs_48)) am_e5 rfl rfl rfl rfl ?_
  refine x_st (i' := 25) (ls' := [.ref 41]) (st' := [.ref 47, .ref 41]) (σ' := (48, 48, 3907, X, ci_58, cj_48, ck_91, cs_49)) am_e5 rfl rfl rfl rfl ?_
  refine x_st (i' := 26) (ls' := [.ref 41]) (st' := []) (σ' := (48, 48, 3907, X, ci_58, cj_48, ck_92, cs_49)) am_e5 rfl rfl rfl rfl ?_
  refine x_st (i' := 27) (ls' := [.ref 41]) (st' := [.ref 41]) (σ' := (48, 48, 3907, X, ci_58, cj_48, ck_92, cs_49)) am_e5 rfl rfl rfl rfl ?_
  refine x_st (i' := 28) (ls' := [.ref 41]) (st' := [.int (-1), .ref 41]) (σ' := (48, 48, 3907, X, ci_58, cj_48, ck_92, cs_49)) am_e5 rfl rfl rfl rfl ?_
  refine x_st (i' := 29) (ls' := [.ref 41]) (st' := []) (σ' := (48, 48, 3907, X, ci_59, cj_48, ck_92, cs_49)) am_e5 rfl rfl rfl rfl ?_
  refine x_end am_e5 rfl rfl rfl ⟨rfl, ?_⟩
  show am_wp 4 6 [.ref 40] [.ref 41, .ref 40] (48, 48, 3907, X, ci_59, cj_48, ck_92, cs_49) _
  refine x_st (i' := 7) (ls' := [.ref 40]) (st' := []) (σ' := (48, 48, 3907, X, ci_59, cj_48, ck_93, cs_49)) am_e4 rfl rfl rfl rfl ?_
  refine x_st (i' := 8) (ls' := [.ref 40]) (st' := [.ref 40]) (σ' := (48, 48, 3907, X, ci_59, cj_48, ck_93, cs_49)) am_e4 rfl rfl rfl rfl ?_
  refine x_st (i' := 9) (ls' := [.ref 40]) (st' := [.int (-1), .ref 40]) (σ' := (48, 48, 3907, X, ci_59, cj_48, ck_93, cs_49)) am_e4 rfl rfl rfl rfl ?_
  refine x_st (i' := 10) (ls' := [.ref 40]) (st' := []) (σ' := (48, 48, 3907, X, ci_60, cj_48, ck_93, cs_49)) am_e4 rfl rfl rfl rfl ?_
  refine x_end am_e4 rfl rfl rfl ⟨rfl, ?_⟩
  show am_wp 3 6 [.ref 39] [.ref 40, .ref 39] (48, 48, 3907, X, ci_60, cj_48, ck_93, cs_49) _
  refine x_st (i' := 7) (ls' := [.ref 39]) (st' := []) (σ' := (48, 48, 3907, X, ci_60, cj_48, ck_94, cs_49)) am_e3 rfl rfl rfl rfl ?_
  refine x_st (i' := 8) (ls' := [.ref 39]) (st' := [.ref 39]) (σ' := (48, 48, 3907, X, ci_60, cj_48, ck_94, cs_49)) am_e3 rfl rfl rfl rfl ?_
  refine x_st (i' := 9) (ls' := [.ref 39]) (st' := [.int (nI 90), .ref 39]) (σ' := (48, 48, 3907, X, ci_60, cj_48, ck_94, cs_49)) am_e3 rfl rfl rfl rfl ?_
  refine x_st (i' := 10) (ls' := [.ref 39]) (st' := [.ref 48, .ref 39]) (σ' := (49, 49, 3997, X, ci_61, cj_49, ck_95, cs_50)) am_e3 rfl rfl rfl rfl ?_
  refine x_st (i' := 11) (ls' := [.ref 39]) (st' := []) (σ' := (49, 49, 3997, X, ci_61, cj_49, ck_96, cs_50)) am_e3 rfl rfl rfl rfl ?_
  refine x_st (i' := 12) (ls' := [.ref 39]) (st' := [.ref 39]) (σ' := (49, 49, 3997, X, ci_61, cj_49, ck_96, cs_50)) am_e3 rfl rfl rfl rfl ?_
  refine x_st (i' := 13) (ls' := [.ref 39]) (st' := [.int (nI 3), .ref 39]) (σ' := (49, 49, 3997, X, ci_61, cj_49, ck_96, cs_50)) am_e3 rfl rfl rfl rfl ?_
  refine x_st (i' := 14) (ls' := [.ref 39]) (st' := [.ref 49, .ref 39]) (σ' := (50, 50, 4000, X, ci_62, cj_50, ck_97, cs_51)) am_e3 rfl rfl rfl rfl ?_
  refine x_st (i' := 15) (ls' := [.ref 39]) (st' := []) (σ' := (50, 50, 4000, X, ci_62, cj_50, ck_98, cs_51)) am_e3 rfl rfl rfl rfl ?_
  refine x_st (i' := 16) (ls' := [.ref 39]) (st' := [.ref 39]) (σ' := (50, 50, 4000, X, ci_62, cj_50, ck_98, cs_51)) am_e3 rfl rfl rfl rfl ?_
  refine x_st (i' := 17) (ls' := [.ref 39]) (st' := [.int (nI 400), .ref 39]) (σ' := (50, 50, 4000, X, ci_62, cj_50, ck_98, cs_51)) am_e3 rfl rfl rfl rfl ?_
  refine x_st (i' := 18) (ls' := [.ref 39]) (st' := [.ref 50, .ref 39]) (σ' := (51, 51, 4400, X, ci_63, cj_51, ck_99, cs_52)) am_e3 rfl rfl rfl rfl ?_
  refine x_st (i' := 19) (ls' := [.ref 39]) (st' := []) (σ' := (51, 51, 4400, X, ci_63, cj_51, ck_100, cs_52)) am_e3 rfl rfl rfl rfl ?_
  refine x_st (i' := 20) (ls' := [.ref 39]) (st' := [.ref 39]) (σ' := (51, 51, 4400, X, ci_63, cj_51, ck_100, cs_52)) am_e3 rfl rfl rfl rfl ?_
  refine x_st (i' := 21) (ls' := [.ref 39]) (st' := [.int (nI 400), .ref 39]) (σ' := (51, 51, 4400, X, ci_63, cj_51, ck_100, cs_52)) am_e3 rfl rfl rfl rfl ?_
  refine x_st (i' := 22) (ls' := [.ref 39]) (st' := [.ref 51, .ref 39]) (σ' := (52, 52, 4800, X, ci_64, cj_52, ck_101, cs_53)) am_e3 rfl rfl rfl rfl ?_
  refine x_st (i' := 23) (ls' := [.ref 39]) (st' := []) (σ' := (52, 52, 4800, X, ci_64, cj_52, ck_102, cs_53)) am_e3 rfl rfl rfl rfl ?_
  refine x_st (i' := 24) (ls' := [.ref 39]) (st' := [.ref 39]) (σ' := (52, 52, 4800, X, ci_64, cj_52, ck_102, cs_53)) am_e3 rfl rfl rfl rfl ?_
  refine x_st (i' := 25) (ls' := [.ref 39]) (st' := [.int (nI 400), .ref 39]) (σ' := (52, 52, 4800, X, ci_64, cj_52, ck_102, cs_53)) am_e3 rfl rfl rfl rfl ?_
  refine x_st (i' := 26) (ls' := [.ref 39]) (st' := [.ref 52, .ref 39]) (σ' := (53, 53, 5200, X, ci_65, cj_53, ck_103, cs_54)) am_e3 rfl rfl rfl rfl ?_
  refine x_st (i' := 27) (ls' := [.ref 39]) (st' := []) (σ' := (53, 53, 5200, X, ci_65, cj_53, ck_104, cs_54)) am_e3 rfl rfl rfl rfl ?_
  refine x_st (i' := 28) (ls' := [.ref 39]) (st' := [.ref 39]) (σ' := (53, 53, 5200, X, ci_65, cj_53, ck_104, cs_54)) am_e3 rfl rfl rfl rfl ?_
  refine x_st (i' := 29) (ls' := [.ref 39]) (st' := [.int (nI 400), .ref 39]) (σ' := (53, 53, 5200, X, ci_65, cj_53, ck_104, cs_54)) am_e3 rfl rfl rfl rfl ?_
  refine x_st (i' := 30) (ls' := [.ref 39]) (st' := [.ref 53, .ref 39]) (σ' := (54, 54, 5600, X, ci_66, cj_54, ck_105, cs_55)) am_e3 rfl rfl rfl rfl ?_
  refine x_st (i' := 31) (ls' := [.ref 39]) (st' := []) (σ' := (54, 54, 5600, X, ci_66, cj_54, ck_106, cs_55)) am_e3 rfl rfl rfl rfl ?_
  refine x_st (i' := 32) (ls' := [.ref 39]) (st' := [.ref 39]) (σ' := (54, 54, 5600, X, ci_66, cj_54, ck_106, cs_55)) am_e3 rfl rfl rfl rfl ?_
  refine x_st (i' := 33) (ls' := [.ref 39]) (st' := [.int (nI 401), .ref 39]) (σ' := (54, 54, 5600, X, ci_66, cj_54, ck_106, cs_55)) am_e3 rfl rfl rfl rfl ?_
  refine x_st (i' := 34) (ls' := [.ref 39]) (st' := [.ref 54, .ref 39]) (σ' := (55, 55, 6001, X, ci_67, cj_55, ck_107, cs_56)) am_e3 rfl rfl rfl rfl ?_
  refine x_st (i' := 35) (ls' := [.ref 39]) (st' := []) (σ' := (55, 55, 6001, X, ci_67, cj_55, ck_108, cs_56)) am_e3 rfl rfl rfl rfl ?_
  refine x_st (i' := 36) (ls' := [.ref 39]) (st' := [.ref 39]) (σ' := (55, 55, 6001, X, ci_67, cj_55, ck_108, cs_56)) am_e3 rfl rfl rfl rfl ?_
  refine x_st (i' := 37) (ls' := [.ref 39]) (st' := [.ref 55, .ref 39]) (σ' := (56, 56, 6006, X, ci_68, cj_56, ck_109, cs_57)) am_e3 rfl rfl rfl rfl ?_
  refine x_st (i' := 38) (ls' := [.ref 39]) (st' := [.ref 55, .ref 55, .ref 39]) (σ' := (56, 56, 6006, X, ci_68, cj_56, ck_109, cs_57)) am_e3 rfl rfl rfl rfl ?_
  refine x_cV am_e3 rfl rfl (as := [.ref 55]) (rest := [.ref 55, .ref 39]) rfl rfl ?_
  show am_wp 6 0 [.ref 55] [] (56, 56, 6006, X, ci_68, cj_56, ck_109, cs_57) _
  refine x_st (i' := 1) (ls' := [.ref 55]) (st' := [.ref 55]) (σ' := (56, 56, 6006, X, ci_68, cj_56, ck_109, cs_57)) am_e6 rfl rfl rfl rfl ?_
  refine x_st (i' := 2) (ls' := [.ref 55]) (st' := []) (σ' := (56, 56, 6006, X, ci_68, cj_56, ck_109, cs_57)) am_e6 rfl rfl rfl rfl ?_
  refine x_st (i' := 3) (ls' := [.ref 55]) (st' := [.ref 55]) (σ' := (56, 56, 6006, X, ci_68, cj_56, ck_109, cs_57)) am_e6 rfl rfl rfl rfl ?_
  refine x_st (i' := 4) (ls' := [.ref 55]) (st' := [.int (nI 40), .ref 55]) (σ' := (56, 56, 6006, X, ci_68, cj_56, ck_109, cs_57)) am_e6 rfl rfl rfl rfl ?_
  refine x_st (i' := 5) (ls' := [.ref 55]) (st' := [.ref 56, .ref 55]) (σ' := (57, 57, 6046, X, ci_69, cj_57, ck_110, cs_58)) am_e6 rfl rfl rfl rfl ?_
  refine x_st (i' := 6) (ls' := [.ref 55]) (st' := []) (σ' := (57, 57, 6046, X, ci_69, cj_57, ck_111, cs_58)) am_e6 rfl rfl rfl rfl ?_
  refine x_st (i' := 7) (ls' := [.ref 55]) (st' := [.ref 55]) (σ' := (57, 57, 6046, X, ci_69, cj_57, ck_111, cs_58)) am_e6 rfl rfl rfl rfl ?_
  refine x_st (i' := 8) (ls' := [.ref 55]) (st' := [.int (nI 40), .ref 55]) (σ' := (57, 57, 6046, X, ci_69, cj_57, ck_111, cs_58)) am_e6 rfl rfl rfl rfl ?_
  refine x_st (i' := 9) (ls' := [.ref 55]) (st' := [.ref 57, .ref 55]) (σ' := (58, 58, 6086, X, ci_70, cj_58, ck_112, cs_59)) am_e6 rfl rfl rfl rfl ?_
  refine x_st (i' := 10) (ls' := [.ref 55]) (st' := []) (σ' := (58, 58, 6086, X, ci_70, cj_58, ck_113, cs_59)) am_e6 rfl rfl rfl rfl ?_
  refine x_st (i' := 11) (ls' := [.ref 55]) (st' := [.ref 55]) (σ' := (58, 58, 6086, X, ci_70, cj_58, ck_113, cs_59)) am_e6 rfl rfl rfl rfl ?_
  refine x_st (i' := 12) (ls' := [.ref 55]) (st' := [.int (nI 40), .ref 55]) (σ' := (58, 58, 6086, X, ci_70, cj_58, ck_113, cs_59)) am_e6 rfl rfl rfl rfl ?_
  refine x_st (i' := 13) (ls' := [.ref 55]) (st' := [.ref 58, .ref 55]) (σ' := (59, 59, 6126, X, ci_71, cj_59, ck_114, cs_60)) am_e6 rfl rfl rfl rfl ?_
  refine x_st (i' := 14) (ls' := [.ref 55]) (st' := []) (σ' := (59, 59, 6126, X, ci_71, cj_59, ck_115, cs_60)) am_e6 rfl rfl rfl rfl ?_
  refine x_st (i' := 15) (ls' := [.ref 55]) (st' := [.ref 55]) (σ' := (59, 59, 6126, X, ci_71, cj_59, ck_115, cs_60)) am_e6 rfl rfl rfl rfl ?_
  refine x_st (i' := 16) (ls' := [.ref 55]) (st' := [.int (nI 40), .ref 55]) (σ' := (59, 59, 6126, X, ci_71, cj_59, ck_115, cs_60)) am_e6 rfl rfl rfl rfl ?_
  refine x_st (i' := 17) (ls' := [.ref 55]) (st' := [.ref 59, .ref 55]) (σ' := (60, 60, 6166, X, ci_72, cj_60, ck_116, cs_61)) am_e6 rfl rfl rfl rfl ?_
  refine x_st (i' := 18) (ls' := [.ref 55]) (st' := []) (σ' := (60, 60, 6166, X, ci_72, cj_60, ck_117, cs_61)) am_e6 rfl rfl rfl rfl ?_
  refine x_st (i' := 19) (ls' := [.ref 55]) (st' := [.ref 55]) (σ' := (60, 60, 6166, X, ci_72, cj_60, ck_117, cs_61)) am_e6 rfl rfl rfl rfl ?_
  refine x_st (i' := 20) (ls' := [.ref 55]) (st' := [.int (nI 0), .ref 55]) (σ' := (60, 60, 6166, X, ci_72, cj_60, ck_117, cs_61)) am_e6 rfl rfl rfl rfl ?_
  refine x_st (i' := 21) (ls' := [.ref 55]) (st' := []) (σ' := (60, 60, 6166, X, ci_73, cj_60, ck_117, cs_61)) am_e6 rfl rfl rfl rfl ?_
  refine x_end am_e6 rfl rfl rfl ⟨rfl, ?_⟩
  show am_wp 3 39 [.ref 39] [.ref 55, .ref 39] (60, 60, 6166, X, ci_73, cj_60, ck_117, cs_61) _
  refine x_st (i' := 40) (ls' := [.ref 39]) (st' := []) (σ' := (60, 60, 6166, X, ci_73, cj_60, ck_118, cs_61)) am_e3 rfl rfl rfl rfl ?_
  refine x_st (i' := 41) (ls' := [.ref 39]) (st' := [.ref 39]) (σ' := (60, 60, 6166, X, ci_73, cj_60, ck_118, cs_61)) am_e3 rfl rfl rfl rfl ?_
  refine x_st (i' := 42) (ls' := [.ref 39]) (st' := [.int (nI 0), .ref 39]) (σ' := (60, 60, 6166, X, ci_73, cj_60, ck_118, cs_61)) am_e3 rfl rfl rfl rfl ?_
  refine x_st (i' := 43) (ls' := [.ref 39]) (st' := []) (σ' := (60, 60, 6166, X, ci_74, cj_60, ck_118, cs_61)) am_e3 rfl rfl rfl rfl ?_
  refine x_st (i' := 44) (ls' := [.ref 39]) (st' := [.ref 39]) (σ' := (60, 60, 6166, X, ci_74, cj_60, ck_118, cs_61)) am_e3 rfl rfl rfl rfl ?_
  refine x_st (i' := 45) (ls' := [.ref 39]) (st' := [.int (nI 0), .ref 39]) (σ' := (60, 60, 6166, X, ci_74, cj_60, ck_118, cs_61)) am_e3 rfl rfl rfl rfl ?_
  refine x_st (i' := 46) (ls' := [.ref 39]) (st' := []) (σ' := (60, 60, 6166, X, ci_75, cj_60, ck_118, cs_61)) am_e3 rfl rfl rfl rfl ?_
  refine x_st (i' := 47) (ls' := [.ref 39]) (st' := [.ref 39]) (σ' := (60, 60, 6166, X, ci_75, cj_60, ck_118, cs_61)) am_e3 rfl rfl rfl rfl ?_
  refine x_st (i' := 48) (ls' := [.ref 39]) (st' := [.int (nI 0), .ref 39]) (σ' := (60, 60, 6166, X, ci_75, cj_60, ck_118, cs_61)) am_e3 rfl rfl rfl rfl ?_
  refine x_st (i' := 49) (ls' := [.ref 39]) (st' := []) (σ' := (60, 60, 6166, X, ci_76, cj_60, ck_118, cs_61)) am_e3 rfl rfl rfl rfl ?_
  refine x_st (i' := 50) (ls' := [.ref 39]) (st' := [.ref 39]) (σ' := (60, 60, 6166, X, ci_76, cj_60, ck_118, cs_61)) am_e3 rfl rfl rfl rfl ?_
  refine x_st (i' := 51) (ls' := [.ref 39]) (st' := [.int (nI 0), .ref 39]) (σ' := (60, 60, 6166, X, ci_76, cj_60, ck_118, cs_61)) am_e3 rfl rfl rfl rfl ?_
  refine x_st (i' := 52) (ls' := [.ref 39]) (st' := []) (σ' := (60, 60, 6166, X, ci_77, cj_60, ck_118, cs_61)) am_e3 rfl rfl rfl rfl ?_
  refine x_st (i' := 53) (ls' := [.ref 39]) (st' := [.ref 39]) (σ' := (60, 60, 6166, X, ci_77, cj_60, ck_118, cs_61)) am_e3 rfl rfl rfl rfl ?_
  refine x_st (i' := 54) (ls' := [.ref 39]) (st' := [.int (nI 0), .ref 39]) (σ' := (60, 60, 6166, X, ci_77, cj_60, ck_118, cs_61)) am_e3 rfl rfl rfl rfl ?_
  refine x_st (i' := 55) (ls' := [.ref 39]) (st' := []) (σ' := (60, 60, 6166, X, ci_78, cj_60, ck_118, cs_61)) am_e3 rfl rfl rfl rfl ?_
  refine x_end am_e3 rfl rfl rfl ⟨rfl, ?_⟩
  show am_wp 0 21 [.ref 0] [.ref 39, .ref 0] (60, 60, 6166, X, ci_78, cj_60, ck_118, cs_61) _
  refine x_st (i' := 22) (ls' := [.ref 0]) (st' := []) (σ' := (60, 60, 6166, X, ci_78, cj_60, ck_119, cs_61)) am_e0 rfl rfl rfl rfl ?_
  refine x_st (i' := 23) (ls' := [.ref 0]) (st' := [.ref 0]) (σ' := (60, 60, 6166, X, ci_78, cj_60, ck_119, cs_61)) am_e0 rfl rfl rfl rfl ?_
  refine x_st (i' := 24) (ls' := [.ref 0]) (st' := [.ref 60, .ref 0]) (σ' := (61, 61, 6173, X, ci_79, cj_61, ck_120, cs_62)) am_e0 rfl rfl rfl rfl ?_
  refine x_st (i' := 25) (ls' := [.ref 0]) (st' := [.ref 60, .ref 60, .ref 0]) (σ' := (61, 61, 6173, X, ci_79, cj_61, ck_120, cs_62)) am_e0 rfl rfl rfl rfl ?_
  refine x_cV am_e0 rfl rfl (as := [.ref 60]) (rest := [.ref 60, .ref 0]) rfl rfl ?_
  show am_wp 7 0 [.ref 60] [] (61, 61, 6173, X, ci_79, cj_61, ck_120, cs_62) _
  refine x_st (i' := 1) (ls' := [.ref 60]) (st' := [.ref 60]) (σ' := (61, 61, 6173, X, ci_79, cj_61, ck_120, cs_62)) am_e7 rfl rfl rfl rfl ?_
  refine x_st (i' := 2) (ls' := [.ref 60]) (st' := []) (σ' := (61, 61, 6173, X, ci_79, cj_61, ck_120, cs_62)) am_e7 rfl rfl rfl rfl ?_
  refine x_st (i' := 3) (ls' := [.ref 60]) (st' := [.ref 60]) (σ' := (61, 61, 6173, X, ci_79, cj_61, ck_120, cs_62)) am_e7 rfl rfl rfl rfl ?_
  refine x_st (i' := 4) (ls' := [.ref 60]) (st' := [.ref 61, .ref 60]) (σ' := (62, 62, 6180, X, ci_80, cj_62, ck_121, cs_63)) am_e7 rfl rfl rfl rfl ?_
  refine x_st (i' := 5) (ls' := [.ref 60]) (st' := [.ref 61, .ref 61, .ref 60]) (σ' := (62, 62, 6180, X, ci_80, cj_62, ck_121, cs_63)) am_e7 rfl rfl rfl rfl ?_
  refine x_cV am_e7 rfl rfl (as := [.ref 61]) (rest := [.ref 61, .ref 60]) rfl rfl ?_
  show am_wp 5 0 [.ref 61] [] (62, 62, 6180, X, ci_80, cj_62, ck_121, cs_63) _
  refine x_st (i' := 1) (ls' := [.ref 61]) (st' := [.ref 61]) (σ' := (62, 62, 6180, X, ci_80, cj_62, ck_121, cs_63)) am_e5 rfl rfl rfl rfl ?_
  refine x_st (i' := 2) (ls' := [.ref 61]) (st' := []) (σ' := (62, 62, 6180, X, ci_80, cj_62, ck_121, cs_63)) am_e5 rfl rfl rfl rfl ?_
  refine x_st (i' := 3) (ls' := [.ref 61]) (st' := [.ref 61]) (σ' := (62, 62, 6180, X, ci_80, cj_62, ck_121, cs_63)) am_e5 rfl rfl rfl rfl ?_
  refine x_st (i' := 4) (ls' := [.ref 61]) (st' := [.int (nI 16), .ref 61]) (σ' := (62, 62, 6180, X, ci_80, cj_62, ck_121, cs_63)) am_e5 rfl rfl rfl rfl ?_
  refine x_st (i' := 5) (ls' := [.ref 61]) (st' := [.ref 62, .ref 61]) (σ' := (63, 63, 6196, X, ci_81, cj_63, ck_122, cs_64)) am_e5 rfl rfl rfl rfl ?_
  refine x_st (i' := 6) (ls' := [.ref 61]) (st' := []) (σ' := (63, 63, 6196, X, ci_81, cj_63, ck_123, cs_64)) am_e5 rfl rfl rfl rfl ?_
  refine x_st (i' := 7) (ls' := [.ref 61]) (st' := [.ref 61]) (σ' := (63, 63, 6196, X, ci_81, cj_63, ck_123, cs_64)) am_e5 rfl rfl rfl rfl ?_
  refine x_st (i' := 8) (ls' := [.ref 61]) (st' := [.int (nI 16), .ref 61]) (σ' := (63, 63, 6196, X, ci_81, cj_63, ck_123, cs_64)) am_e5 rfl rfl rfl rfl ?_
  refine x_st (i' := 9) (ls' := [.ref 61]) (st' := [.ref 63, .ref 61]) (σ' := (64, 64, 6212, X, ci_82, cj_64, ck_124, cs_65)) am_e5 rfl rfl rfl rfl ?_
  refine x_st (i' := 10) (ls' := [.ref 61]) (st' := []) (σ' := (64, 64, 6212, X, ci_82, cj_64, ck_125, cs_65)) am_e5 rfl rfl rfl rfl ?_
  refine x_st (i' := 11) (ls' := [.ref 61]) (st' := [.ref 61]) (σ' := (64, 64, 6212, X, ci_82, cj_64, ck_125, cs_65)) am_e5 rfl rfl rfl rfl ?_
  refine x_st (i' := 12) (ls' := [.ref 61]) (st' := [.int (nI 4), .ref 61]) (σ' := (64, 64, 6212, X, ci_82, cj_64, ck_125, cs_65)) am_e5 rfl rfl rfl rfl ?_
  refine x_st (i' := 13) (ls' := [.ref 61]) (st' := [.ref 64, .ref 61]) (σ' := (65, 65, 6216, X, ci_83, cj_65, ck_126, cs_66)) am_e5 rfl rfl rfl rfl ?_
  refine x_st (i' := 14) (ls' := [.ref 61]) (st' := []) (σ' := (65, 65, 6216, X, ci_83, cj_65, ck_127, cs_66)) am_e5 rfl rfl rfl rfl ?_
  refine x_st (i' := 15) (ls' := [.ref 61]) (st' := [.ref 61]) (σ' := (65, 65, 6216, X, ci_83, cj_65, ck_127, cs_66)) am_e5 rfl rfl rfl rfl ?_
  refine x_st (i' := 16) (ls' := [.ref 61]) (st' := [.int (nI 4), .ref 61]) (σ' := (65, 65, 6216, X, ci_83, cj_65, ck_127, cs_66)) am_e5 rfl rfl rfl rfl ?_
  refine x_st (i' := 17) (ls' := [.ref 61]) (st' := [.ref 65, .ref 61]) (σ' := (66, 66, 6220, X, ci_84, cj_66, ck_128, cs_67)) am_e5 rfl rfl rfl rfl ?_
  refine x_st (i' := 18) (ls' := [.ref 61]) (st' := []) (σ' := (66, 66, 6220, X, ci_84, cj_66, ck_129, cs_67)) am_e5 rfl rfl rfl rfl ?_
  refine x_st (i' := 19) (ls' := [.ref 61]) (st' := [.ref 61]) (σ' := (66, 66, 6220, X, ci_84, cj_66, ck_129, cs_67)) am_e5 rfl rfl rfl rfl ?_
  refine x_st (i' := 20) (ls' := [.ref 61]) (st' := [.int (nI 4), .ref 61]) (σ' := (66, 66, 6220, X, ci_84, cj_66, ck_129, cs_67)) am_e5 rfl rfl rfl rfl ?_
  refine x_st (i' := 21) (ls' := [.ref 61]) (st' := [.ref 66, .ref 61]) (σ' := (67, 67, 6224, X, ci_85, cj_67, ck_130, cs_68)) am_e5 rfl rfl rfl rfl ?_
  refine x_st (i' := 22) (ls' := [.ref 61]) (st' := []) (σ' := (67, 67, 6224, X, ci_85, cj_67, ck_131, cs_68)) am_e5 rfl rfl rfl rfl ?_
  refine x_st (i' := 23) (ls' := [.ref 61]) (st' := [.ref 61]) (σ' := (67, 67, 6224, X, ci_85, cj_67, ck_131, cs_68)) am_e5 rfl rfl rfl rfl ?_
  refine x_st (i' := 24) (ls' := [.ref 61]) (st' := [.int (nI 3), .ref 61]) (σ' := (67, 67, 6224, X, ci_85, cj_67, ck_131, cs_68)) am_e5 rfl rfl rfl rfl ?_
  refine x_st (i' := 25) (ls' := [.ref 61]) (st' := [.ref 67, .ref 61]) (σ' := (68, 68, 6227, X, ci_86, cj_68, ck_132, cs_69)) am_e5 rfl rfl rfl rfl ?_
  refine x_st (i' := 26) (ls' := [.ref 61]) (st' := []) (σ' := (68, 68, 6227, X, ci_86, cj_68, ck_133, cs_69)) am_e5 rfl rfl rfl rfl ?_
  refine x_st (i' := 27) (ls' := [.ref 61]) (st' := [.ref 61]) (σ' := (68, 68, 6227, X, ci_86, cj_68, ck_133, cs_69)) am_e5 rfl rfl rfl rfl ?_
  refine x_st (i' := 28) (ls' := [.ref 61]) (st' := [.int (-1), .ref 61]) (σ' := (68, 68, 6227, X, ci_86, cj_68, ck_133, cs_69)) am_e5 rfl rfl rfl rfl ?_
  refine x_st (i' := 29) (ls' := [.ref 61]) (st' := []) (σ' := (68, 68, 6227, X, ci_87, cj_68, ck_133, cs_69)) am_e5 rfl rfl rfl rfl ?_
  refine x_end am_e5 rfl rfl rfl ⟨rfl, ?_⟩
  show am_wp 7 6 [.ref 60] [.ref 61, .ref 60] (68, 68, 6227, X, ci_87, cj_68, ck_133, cs_69) _
  refine x_st (i' := 7) (ls' := [.ref 60]) (st' := []) (σ' := (68, 68, 6227, X, ci_87, cj_68, ck_134, cs_69)) am_e7 rfl rfl rfl rfl ?_
  refine x_st (i' := 8) (ls' := [.ref 60]) (st' := [.ref 60]) (σ' := (68, 68, 6227, X, ci_87, cj_68, ck_134, cs_69)) am_e7 rfl rfl rfl rfl ?_
  refine x_st (i' := 9) (ls' := [.ref 60]) (st' := [.int (nI 0), .ref 60]) (σ' := (68, 68, 6227, X, ci_87, cj_68, ck_134, cs_69)) am_e7 rfl rfl rfl rfl ?_
  refine x_st (i' := 10) (ls' := [.ref 60]) (st' := []) (σ' := (68, 68, 6227, X, ci_88, cj_68, ck_134, cs_69)) am_e7 rfl rfl rfl rfl ?_
  refine x_st (i' := 11) (ls' := [.ref 60]) (st' := [.ref 60]) (σ' := (68, 68, 6227, X, ci_88, cj_68, ck_134, cs_69)) am_e7 rfl rfl rfl rfl ?_
  refine x_st (i' := 12) (ls' := [.ref 60]) (st' := [.int (nI 0), .ref 60]) (σ' := (68, 68, 6227, X, ci_88, cj_68, ck_134, cs_69)) am_e7 rfl rfl rfl rfl ?_
  refine x_st (i' := 13) (ls' := [.ref 60]) (st' := []) (σ' := (68, 68, 6227, X, ci_89, cj_68, ck_134, cs_69)) am_e7 rfl rfl rfl rfl ?_
  refine x_st (i' := 14) (ls' := [.ref 60]) (st' := [.ref 60]) (σ' := (68, 68, 6227, X, ci_89, cj_68, ck_134, cs_69)) am_e7 rfl rfl rfl rfl ?_
  refine x_st (i' := 15) (ls' := [.ref 60]) (st' := [.int (nI 0), .ref 60]) (σ' := (68, 68, 6227, X, ci_89, cj_68, ck_134, cs_69)) am_e7 rfl rfl rfl rfl ?_
  refine x_st (i' := 16) (ls' := [.ref 60]) (st' := []) (σ' := (68, 68, 6227, X, ci_90, cj_68, ck_134, cs_69)) am_e7 rfl rfl rfl rfl ?_
  refine x_st (i' := 17) (ls' := [.ref 60]) (st' := [.ref 60]) (σ' := (68, 68, 6227, X, ci_90, cj_68, ck_134, cs_69)) am_e7 rfl rfl rfl rfl ?_
  refine x_st (i' := 18) (ls' := [.ref 60]) (st' := [.int (-1), .ref 60]) (σ' := (68, 68, 6227, X, ci_90, cj_68, ck_134, cs_69)) am_e7 rfl rfl rfl rfl ?_
  refine x_st (i' := 19) (ls' := [.ref 60]) (st' := []) (σ' := (68, 68, 6227, X, ci_91, cj_68, ck_134, cs_69)) am_e7 rfl rfl rfl rfl ?_
  refine x_st (i' := 20) (ls' := [.ref 60]) (st' := [.ref 60]) (σ' := (68, 68, 6227, X, ci_91, cj_68, ck_134, cs_69)) am_e7 rfl rfl rfl rfl ?_
  refine x_st (i' := 21) (ls' := [.ref 60]) (st' := [.int (nI 0), .ref 60]) (σ' := (68, 68, 6227, X, ci_91, cj_68, ck_134, cs_69)) am_e7 rfl rfl rfl rfl ?_
  refine x_st (i' := 22) (ls' := [.ref 60]) (st' := []) (σ' := (68, 68, 6227, X, ci_92, cj_68, ck_134, cs_69)) am_e7 rfl rfl rfl rfl ?_
  refine x_st (i' := 23) (ls' := [.ref 60]) (st' := [.ref 60]) (σ' := (68, 68, 6227, X, ci_92, cj_68, ck_134, cs_69)) am_e7 rfl rfl rfl rfl ?_
  refine x_st (i' := 24) (ls' := [.ref 60]) (st' := [.int (nI 0), .ref 60]) (σ' := (68, 68, 6227, X, ci_92, cj_68, ck_134, cs_69)) am_e7 rfl rfl rfl rfl ?_
  refine x_st (i' := 25) (ls' := [.ref 60]) (st' := []) (σ' := (68, 68, 6227, X, ci_93, cj_68, ck_134, cs_69)) am_e7 rfl rfl rfl rfl ?_
  refine x_end am_e7 rfl rfl rfl ⟨rfl, ?_⟩
  show am_wp 0 26 [.ref 0] [.ref 60, .ref 0] (68, 68, 6227, X, ci_93, cj_68, ck_134, cs_69) _
  refine x_st (i' := 27) (ls' := [.ref 0]) (st' := []) (σ' := (68, 68, 6227, X, ci_93, cj_68, ck_135, cs_69)) am_e0 rfl rfl rfl rfl ?_
  refine x_st (i' := 28) (ls' := [.ref 0]) (st' := [.ref 0]) (σ' := (68, 68, 6227, X, ci_93, cj_68, ck_135, cs_69)) am_e0 rfl rfl rfl rfl ?_
  refine x_st (i' := 29) (ls' := [.ref 0]) (st' := [.ref 68, .ref 0]) (σ' := (69, 69, 6234, X, ci_94, cj_69, ck_136, cs_70)) am_e0 rfl rfl rfl rfl ?_
  refine x_st (i' := 30) (ls' := [.ref 0]) (st' := [.ref 68, .ref 68, .ref 0]) (σ' := (69, 69, 6234, X, ci_94, cj_69, ck_136, cs_70)) am_e0 rfl rfl rfl rfl ?_
  refine x_cV am_e0 rfl rfl (as := [.ref 68]) (rest := [.ref 68, .ref 0]) rfl rfl ?_
  show am_wp 7 0 [.ref 68] [] (69, 69, 6234, X, ci_94, cj_69, ck_136, cs_70) _
  refine x_st (i' := 1) (ls' := [.ref 68]) (st' := [.ref 68]) (σ' := (69, 69, 6234, X, ci_94, cj_69, ck_136, cs_70)) am_e7 rfl rfl rfl rfl ?_
  refine x_st (i' := 2) (ls' := [.ref 68]) (st' := []) (σ' := (69, 69, 6234, X, ci_94, cj_69, ck_136, cs_70)) am_e7 rfl rfl rfl rfl ?_
  refine x_st (i' := 3) (ls' := [.ref 68]) (st' := [.ref 68]) (σ' := (69, 69, 6234, X, ci_94, cj_69, ck_136, cs_70)) am_e7 rfl rfl rfl rfl ?_
  refine x_st (i' := 4) (ls' := [.ref 68]) (st' := [.ref 69, .ref 68]) (σ' := (70, 70, 6241, X, ci_95, cj_70, ck_137, cs_71)) am_e7 rfl rfl rfl rfl ?_
  refine x_st (i' := 5) (ls' := [.ref 68]) (st' := [.ref 69, .ref 69, .ref 68]) (σ' := (70, 70, 6241, X, ci_95, cj_70, ck_137, cs_71)) am_e7 rfl rfl rfl rfl ?_
  refine x_cV am_e7 rfl rfl (as := [.ref 69]) (rest := [.ref 69, .ref 68]) rfl rfl ?_
  show am_wp 5 0 [.ref 69] [] (70, 70, 6241, X, ci_95, cj_70, ck_137, cs_71) _
  refine x_st (i' := 1) (ls' := [.ref 69]) (st' := [.ref 69]) (σ' := (70, 70, 6241, X, ci_95, cj_70, ck_137, cs_71)) am_e5 rfl rfl rfl rfl ?_
  refine x_st (i' := 2) (ls' := [.ref 69]) (st' := []) (σ' := (70, 70, 6241, X, ci_95, cj_70, ck_137, cs_71)) am_e5 rfl rfl rfl rfl ?_
  refine x_st (i' := 3) (ls' := [.ref 69]) (st' := [.ref 69]) (σ' := (70, 70, 6241, X, ci_95, cj_70, ck_137, cs_71)) am_e5 rfl rfl rfl rfl ?_
  refine x_st (i' := 4) (ls' := [.ref 69]) (st' := [.int (nI 16), .ref 69]) (σ' := (70, 70, 6241, X, ci_95, cj_70, ck_137, cs_71)) am_e5 rfl rfl rfl rfl ?_
  refine x_st (i' := 5) (ls' := [.ref 69]) (st' := [.ref 70, .ref 69]) (σ' := (71, 71, 6257, X, ci_96, cj_71, ck_138, cs_72)) am_e5 rfl rfl rfl rfl ?_
  refine x_st (i' := 6) (ls' := [.ref 69]) (st' := []) (σ' := (71, 71, 6257, X, ci_96, cj_71, ck_139, cs_72)) am_e5 rfl rfl rfl rfl ?_
  refine x_st (i' := 7) (ls' := [.ref 69]) (st' := [.ref 69]) (σ' := (71, 71, 6257, X, ci_96, cj_71, ck_139, cs_72)) am_e5 rfl rfl rfl rfl ?_
  refine x_st (i' := 8) (ls' := [.ref 69]) (st' := [.int (nI 16), .ref 69]) (σ' := (71, 71, 6257, X, ci_96, cj_71, ck_139, cs_72)) am_e5 rfl rfl rfl rfl ?_
  refine x_st (i' := 9) (ls' := [.ref 69]) (st' := [.ref 71, .ref 69]) (σ' := (72, 72, 6273, X, ci_97, cj_72, ck_140, cs_73)) am_e5 rfl rfl rfl rfl ?_
  refine x_st (i' := 10) (ls' := [.ref 69]) (st' := []) (σ' := (72, 72, 6273, X, ci_97, cj_72, ck_141, cs_73)) am_e5 rfl rfl rfl rfl ?_
  refine x_st (i' := 11) (ls' := [.ref 69]) (st' := [.ref 69]) (σ' := (72, 72, 6273, X, ci_97, cj_72, ck_141, cs_73)) am_e5 rfl rfl rfl rfl ?_
  refine x_st (i' := 12) (ls' := [.ref 69]) (st' := [.int (nI 4), .ref 69]) (σ' := (72, 72, 6273, X, ci_97, cj_72, ck_141, cs_73)) am_e5 rfl rfl rfl rfl ?_
  refine x_st (i' := 13) (ls' := [.ref 69]) (st' := [.ref 72, .ref 69]) (σ' := (73, 73, 6277, X, ci_98, cj_73, ck_142, cs_74)) am_e5 rfl rfl rfl rfl ?_
  refine x_st (i' := 14) (ls' := [.ref 69]) (st' := []) (σ' := (73, 73, 6277, X, ci_98, cj_73, ck_143, cs_74)) am_e5 rfl rfl rfl rfl ?_
  refine x_st (i' := 15) (ls' := [.ref 69]) (st' := [.ref 69]) (σ' := (73, 73, 6277, X, ci_98, cj_73, ck_143, cs_74)) am_e5 rfl rfl rfl rfl ?_
  refine x_st (i' := 16) (ls' := [.ref 69]) (st' := [.int (nI 4), .ref 69]) (σ' := (73, 73, 6277, X, ci_98, cj_73, ck_143, cs_74)) am_e5 rfl rfl rfl rfl ?_
  refine x_st (i' := 17) (ls' := [.ref 69]) (st' := [.ref 73, .ref 69]) (σ' := (74, 74, 6281, X, ci_99, cj_74, ck_144, cs_75)) am_e5 rfl rfl rfl rfl ?_
  refine x_st (i' := 18) (ls' := [.ref 69]) (st' := []) (σ' := (74, 74, 6281, X, ci_99, cj_74, ck_145, cs_75)) am_e5 rfl rfl rfl rfl ?_
  refine x_st (i' := 19) (ls' := [.ref 69]) (st' := [.ref 69]) (σ' := (74, 74, 6281, X, ci_99, cj_74, ck_145, cs_75)) am_e5 rfl rfl rfl rfl ?_
  refine x_st (i' := 20) (ls' := [.ref 69]) (st' := [.int (nI 4), .ref 69]) (σ' := (74, 74, 6281, X, ci_99, cj_74, ck_145, cs_75)) am_e5 rfl rfl rfl rfl ?_
  refine x_st (i' := 21) (ls' := [.ref 69]) (st' := [.ref 74, .ref 69]) (σ' := (75, 75, 6285, X, ci_100, cj_75, ck_146, cs_76)) am_e5 rfl rfl rfl rfl ?_
  refine x_st (i' := 22) (ls' := [.ref 69]) (st' := []) (σ' := (75, 75, 6285, X, ci_100, cj_75, ck_147, cs_76)) am_e5 rfl rfl rfl rfl ?_
  refine x_st (i' := 23) (ls' := [.ref 69]) (st' := [.ref 69]) (σ' := (75, 75, 6285, X, ci_100, cj_75, ck_147, cs_76)) am_e5 rfl rfl rfl rfl ?_
  refine x_st (i' := 24) (ls' := [.ref 69]) (st' := [.int (nI 3), .ref 69]) (σ' := (75, 75, 6285, X, ci_100, cj_75, ck_147, cs_76)) am_e5 rfl rfl rfl rfl ?_
  refine x_st (i' := 25) (ls' := [.ref 69]) (st' := [.ref 75, .ref 69]) (σ' := (76, 76, 6288, X, ci_101, cj_76, ck_148, cs_77)) am_e5 rfl rfl rfl rfl ?_
  refine x_st (i' := 26) (ls' := [.ref 69]) (st' := []) (σ' := (76, 76, 6288, X, ci_101, cj_76, ck_149, cs_77)) am_e5 rfl rfl rfl rfl ?_
  refine x_st (i' := 27) (ls' := [.ref 69]) (st' := [.ref 69]) (σ' := (76, 76, 6288, X, ci_101, cj_76, ck_149, cs_77)) am_e5 rfl rfl rfl rfl ?_
  refine x_st (i' := 28) (ls' := [.ref 69]) (st' := [.int (-1), .ref 69]) (σ' := (76, 76, 6288, X, ci_101, cj_76, ck_149, cs_77)) am_e5 rfl rfl rfl rfl ?_
  refine x_st (i' := 29) (ls' := [.ref 69]) (st' := []) (σ' := (76, 76, 6288, X, ci_102, cj_76, ck_149, cs_77)) am_e5 rfl rfl rfl rfl ?_
  refine x_end am_e5 rfl rfl rfl ⟨rfl, ?_⟩
  show am_wp 7 6 [.ref 68] [.ref 69, .ref 68] (76, 76, 6288, X, ci_102, cj_76, ck_149, cs_77) _
  refine x_st (i' := 7) (ls' := [.ref 68]) (st' := []) (σ' := (76, 76, 6288, X, ci_102, cj_76, ck_150, cs_77)) am_e7 rfl rfl rfl rfl ?_
  refine x_st (i' := 8) (ls' := [.ref 68]) (st' := [.ref 68]) (σ' := (76, 76, 6288, X, ci_102, cj_76, ck_150, cs_77)) am_e7 rfl rfl rfl rfl ?_
  refine x_st (i' := 9) (ls' := [.ref 68]) (st' := [.int (nI 0), .ref 68]) (σ' := (76, 76, 6288, X, ci_102, cj_76, ck_150, cs_77)) am_e7 rfl rfl rfl rfl ?_
  refine x_st (i' := 10) (ls' := [.ref 68]) (st' := []) (σ' := (76, 76, 6288, X, ci_103, cj_76, ck_150, cs_77)) am_e7 rfl rfl rfl rfl ?_
  refine x_st (i' := 11) (ls' := [.ref 68]) (st' := [.ref 68]) (σ' := (76, 76, 6288, X, ci_103, cj_76, ck_150, cs_77)) am_e7 rfl rfl rfl rfl ?_
  refine x_st (i' := 12) (ls' := [.ref 68]) (st' := [.int (nI 0), .ref 68]) (σ' := (76, 76, 6288, X, ci_103, cj_76, ck_150, cs_77)) am_e7 rfl rfl rfl rfl ?_
  refine x_st (i' := 13) (ls' := [.ref 68]) (st' := []) (σ' := (76, 76, 6288, X, ci_104, cj_76, ck_150, cs_77)) am_e7 rfl rfl rfl rfl ?_
  refine x_st (i' := 14) (ls' := [.ref 68]) (st' := [.ref 68]) (σ' := (76, 76, 6288, X, ci_104, cj_76, ck_150, cs_77)) am_e7 rfl rfl rfl rfl ?_
  refine x_st (i' := 15) (ls' := [.ref 68]) (st' := [.int (nI 0), .ref 68]) (σ' := (76, 76, 6288, X, ci_104, cj_76, ck_150, cs_77)) am_e7 rfl rfl rfl rfl ?_
  refine x_st (i' := 16) (ls' := [.ref 68]) (st' := []) (σ' := (76, 76, 6288, X, ci_105, cj_76, ck_150, cs_77)) am_e7 rfl rfl rfl rfl ?_
  refine x_st (i' := 17) (ls' := [.ref 68]) (st' := [.ref 68]) (σ' := (76, 76, 6288, X, ci_105, cj_76, ck_150, cs_77)) am_e7 rfl rfl rfl rfl ?_
  refine x_st (i' := 18) (ls' := [.ref 68]) (st' := [.int (-1), .ref 68]) (σ' := (76, 76, 6288, X, ci_105, cj_76, ck_150, cs_77)) am_e7 rfl rfl rfl rfl ?_
  refine x_st (i' := 19) (ls' := [.ref 68]) (st' := []) (σ' := (76, 76, 6288, X, ci_106, cj_76, ck_150, cs_77)) am_e7 rfl rfl rfl rfl ?_
  refine x_st (i' := 20) (ls' := [.ref 68]) (st' := [.ref 68]) (σ' := (76, 76, 6288, X, ci_106, cj_76, ck_150, cs_77)) am_e7 rfl rfl rfl rfl ?_
  refine x_st (i' := 21) (ls' := [.ref 68]) (st' := [.int (nI 0), .ref 68]) (σ' := (76, 76, 6288, X, ci_106, cj_76, ck_150, cs_77)) am_e7 rfl rfl rfl rfl ?_
  refine x_st (i' := 22) (ls' := [.ref 68]) (st' := []) (σ' := (76, 76, 6288, X, ci_107, cj_76, ck_150, cs_77)) am_e7 rfl rfl rfl rfl ?_
  refine x_st (i' := 23) (ls' := [.ref 68]) (st' := [.ref 68]) (σ' := (76, 76, 6288, X, ci_107, cj_76, ck_150, cs_77)) am_e7 rfl rfl rfl rfl ?_
  refine x_st (i' := 24) (ls' := [.ref 68]) (st' := [.int (nI 0), .ref 68]) (σ' := (76, 76, 6288, X, ci_107, cj_76, ck_150, cs_77)) am_e7 rfl rfl rfl rfl ?_
  refine x_st (i' := 25) (ls' := [.ref 68]) (st' := []) (σ' := (76, 76, 6288, X, ci_108, cj_76, ck_150, cs_77)) am_e7 rfl rfl rfl rfl ?_
  refine x_end am_e7 rfl rfl rfl ⟨rfl, ?_⟩
  show am_wp 0 31 [.ref 0] [.ref 68, .ref 0] (76, 76, 6288, X, ci_108, cj_76, ck_150, cs_77) _
  refine x_st (i' := 32) (ls' := [.ref 0]) (st' := []) (σ' := (76, 76, 6288, X, ci_108, cj_76, ck_151, cs_77)) am_e0 rfl rfl rfl rfl ?_
  refine x_st (i' := 33) (ls' := [.ref 0]) (st' := [.ref 0]) (σ' := (76, 76, 6288, X, ci_108, cj_76, ck_151, cs_77)) am_e0 rfl rfl rfl rfl ?_
  refine x_st (i' := 34) (ls' := [.ref 0]) (st' := [.ref 76, .ref 0]) (σ' := (77, 77, 6295, X, ci_109, cj_77, ck_152, cs_78)) am_e0 rfl rfl rfl rfl ?_
  refine x_st (i' := 35) (ls' := [.ref 0]) (st' := [.ref 76, .ref 76, .ref 0]) (σ' := (77, 77, 6295, X, ci_109, cj_77, ck_152, cs_78)) am_e0 rfl rfl rfl rfl ?_
  refine x_cV am_e0 rfl rfl (as := [.ref 76]) (rest := [.ref 76, .ref 0]) rfl rfl ?_
  show am_wp 4 0 [.ref 76] [] (77, 77, 6295, X, ci_109, cj_77, ck_152, cs_78) _
  refine x_st (i' := 1) (ls' := [.ref 76]) (st' := [.ref 76]) (σ' := (77, 77, 6295, X, ci_109, cj_77, ck_152, cs_78)) am_e4 rfl rfl rfl rfl ?_
  refine x_st (i' := 2) (ls' := [.ref 76]) (st' := []) (σ' := (77, 77, 6295, X, ci_109, cj_77, ck_152, cs_78)) am_e4 rfl rfl rfl rfl ?_
  refine x_st (i' := 3) (ls' := [.ref 76]) (st' := [.ref 76]) (σ' := (77, 77, 6295, X, ci_109, cj_77, ck_152, cs_78)) am_e4 rfl rfl rfl rfl ?_
  refine x_st (i' := 4) (ls' := [.ref 76]) (st' := [.ref 77, .ref 76]) (σ' := (78, 78, 6302, X, ci_110, cj_78, ck_153, cs_79)) am_e4 rfl rfl rfl rfl ?_
  refine x_st (i' := 5) (ls' := [.ref 76]) (st' := [.ref 77, .ref 77, .ref 76]) (σ' := (78, 78, 6302, X, ci_110, cj_78, ck_153, cs_79)) am_e4 rfl rfl rfl rfl ?_
  refine x_cV am_e4 rfl rfl (as := [.ref 77]) (rest := [.ref 77, .ref 76]) rfl rfl ?_
  show am_wp 5 0 [.ref 77] [] (78, 78, 6302, X, ci_110, cj_78, ck_153, cs_79) _
  refine x_st (i' := 1) (ls' := [.ref 77]) (st' := [.ref 77]) (σ' := (78, 78, 6302, X, ci_110, cj_78, ck_153, cs_79)) am_e5 rfl rfl rfl rfl ?_
  refine x_st (i' := 2) (ls' := [.ref 77]) (st' := []) (σ' := (78, 78, 6302, X, ci_110, cj_78, ck_153, cs_79)) am_e5 rfl rfl rfl rfl ?_
  refine x_st (i' := 3) (ls' := [.ref 77]) (st' := [.ref 77]) (σ' := (78, 78, 6302, X, ci_110, cj_78, ck_153, cs_79)) am_e5 rfl rfl rfl rfl ?_
  refine x_st (i' := 4) (ls' := [.ref 77]) (st' := [.int (nI 16), .ref 77]) (σ' := (78, 78, 6302, X, ci_110, cj_78, ck_153, cs_79)) am_e5 rfl rfl rfl rfl ?_
  refine x_st (i' := 5) (ls' := [.ref 77]) (st' := [.ref 78, .ref 77]) (σ' := (79, 79, 6318, X, ci_111, cj_79, ck_154, cs_80)) am_e5 rfl rfl rfl rfl ?_
  refine x_st (i' := 6) (ls' := [.ref 77]) (st' := []) (σ' := (79, 79, 6318, X, ci_111, cj_79, ck_155, cs_80)) am_e5 rfl rfl rfl rfl ?_
  refine x_st (i' := 7) (ls' := [.ref 77]) (st' := [.ref 77]) (σ' := (79, 79, 6318, X, ci_111, cj_79, ck_155, cs_80)) am_e5 rfl rfl rfl rfl ?_
  refine x_st (i' := 8) (ls' := [.ref 77]) (st' := [.int (nI 16), .ref 77]) (σ' := (79, 79, 6318, X, ci_111, cj_79, ck_155, cs_80)) am_e5 rfl rfl rfl rfl ?_
  refine x_st (i' := 9) (ls' := [.ref 77]) (st' := [.ref 79, .ref 77]) (σ' := (80, 80, 6334, X, ci_112, cj_80, ck_156, cs_81)) am_e5 rfl rfl rfl rfl ?_
  refine x_st (i' := 10) (ls' := [.ref 77]) (st' := []) (σ' := (80, 80, 6334, X, ci_112, cj_80, ck_157, cs_81)) am_e5 rfl rfl rfl rfl ?_
  refine x_st (i' := 11) (ls' := [.ref 77]) (st' := [.ref 77]) (σ' := (80, 80, 6334, X, ci_112, cj_80, ck_157, cs_81)) am_e5 rfl rfl rfl rfl ?_
  refine x_st (i' := 12) (ls' := [.ref 77]) (st' := [.int (nI 4), .ref 77]) (σ' := (80, 80, 6334, X, ci_112, cj_80, ck_157, cs_81)) am_e5 rfl rfl rfl rfl ?_
  refine x_st (i' := 13) (ls' := [.ref 77]) (st' := [.ref 80, .ref 77]) (σ' := (81, 81, 6338, X, ci_113, cj_81, ck_158, cs_82)) am_e5 rfl rfl rfl rfl ?_
  refine x_st (i' := 14) (ls' := [.ref 77]) (st' := []) (σ' := (81, 81, 6338, X, ci_113, cj_81, ck_159, cs_82)) am_e5 rfl rfl rfl rfl ?_
  refine x_st (i' := 15) (ls' := [.ref 77]) (st' := [.ref 77]) (σ' := (81, 81, 6338, X, ci_113, cj_81, ck_159, cs_82)) am_e5 rfl rfl rfl rfl ?_
  refine x_st (i' := 16) (ls' := [.ref 77]) (st' := [.int (nI 4), .ref 77]) (σ' := (81, 81, 6338, X, ci_113, cj_81, ck_159, cs_82)) am_e5 rfl rfl rfl rfl ?_
  refine x_st (i' := 17) (ls' := [.ref 77]) (st' := [.ref 81, .ref 77]) (σ' := (82, 82, 6342, X, ci_114, cj_82, ck_160, cs_83)) am_e5 rfl rfl rfl rfl ?_
  refine x_st (i' := 18) (ls' := [.ref 77]) (st' := []) (σ' := (82, 82, 6342, X, ci_114, cj_82, ck_161, cs_83)) am_e5 rfl rfl rfl rfl ?_
  refine x_st (i' := 19) (ls' := [.ref 77]) (st' := [.ref 77]) (σ' := (82, 82, 6342, X, ci_114, cj_82, ck_161, cs_83)) am_e5 rfl rfl rfl rfl ?_
  refine x_st (i' := 20) (ls' := [.ref 77]) (st' := [.int (nI 4), .ref 77]) (σ' := (82, 82, 6342, X, ci_114, cj_82, ck_161, cs_83)) am_e5 rfl rfl rfl rfl ?_
  refine x_st (i' := 21) (ls' := [.ref 77]) (st' := [.ref 82, .ref 77]) (σ' := (83, 83, 6346, X, ci_115, cj_83, ck_162, cs_84)) am_e5 rfl rfl rfl rfl ?_
  refine x_st (i' := 22) (ls' := [.ref 77]) (st' := []) (σ' := (83, 83, 6346, X, ci_115, cj_83, ck_163, cs_84)) am_e5 rfl rfl rfl rfl ?_
  refine x_st (i' := 23) (ls' := [.ref 77]) (st' := [.ref 77]) (σ' := (83, 83, 6346, X, ci_115, cj_83, ck_163, cs_84)) am_e5 rfl rfl rfl rfl ?_
  refine x_st (i' := 24) (ls' := [.ref 77]) (st' := [.int (nI 3), .ref 77]) (σ' := (83, 83, 6346, X, ci_115, cj_83, ck_163, cs_84)) am_e5 rfl rfl rfl rfl ?_
  refine x_st (i' := 25) (ls' := [.ref 77]) (st' := [.ref 83, .ref 77]) (σ' := (84, 84, 6349, X, ci_116, cj_84, ck_164, cs_85)) am_e5 rfl rfl rfl rfl ?_
  refine x_st (i' := 26) (ls' := [.ref 77]) (st' := []) (σ' := (84, 84, 6349, X, ci_116, cj_84, ck_165, cs_85)) am_e5 rfl rfl rfl rfl ?_
  refine x_st (i' := 27) (ls' := [.ref 77]) (st' := [.ref 77]) (σ' := (84, 84, 6349, X, ci_116, cj_84, ck_165, cs_85)) am_e5 rfl rfl rfl rfl ?_
  refine x_st (i' := 28) (ls' := [.ref 77]) (st' := [.int (-1), .ref 77]) (σ' := (84, 84, 6349, X, ci_116, cj_84, ck_165, cs_85)) am_e5 rfl rfl rfl rfl ?_
  refine x_st (i' := 29) (ls' := [.ref 77]) (st' := []) (σ' := (84, 84, 6349, X, ci_117, cj_84, ck_165, cs_85)) am_e5 rfl rfl rfl rfl ?_
  refine x_end am_e5 rfl rfl rfl ⟨rfl, ?_⟩
  show am_wp 4 6 [.ref 76] [.ref 77, .ref 76] (84, 84, 6349, X, ci_117, cj_84, ck_165, cs_85) _
  refine x_st (i' := 7) (ls' := [.ref 76]) (st' := []) (σ' := (84, 84, 6349, X, ci_117, cj_84, ck_166, cs_85)) am_e4 rfl rfl rfl rfl ?_
  refine x_st (i' := 8) (ls' := [.ref 76]) (st' := [.ref 76]) (σ' := (84, 84, 6349, X, ci_117, cj_84, ck_166, cs_85)) am_e4 rfl rfl rfl rfl ?_
  refine x_st (i' := 9) (ls' := [.ref 76]) (st' := [.int (-1), .ref 76]) (σ' := (84, 84, 6349, X, ci_117, cj_84, ck_166, cs_85)) am_e4 rfl rfl rfl rfl ?_
  refine x_st (i' := 10) (ls' := [.ref 76]) (st' := []) (σ' := (84, 84, 6349, X, ci_118, cj_84, ck_166, cs_85)) am_e4 rfl rfl rfl rfl ?_
  refine x_end am_e4 rfl rfl rfl ⟨rfl, ?_⟩
  show am_wp 0 36 [.ref 0] [.ref 76, .ref 0] (84, 84, 6349, X, ci_118, cj_84, ck_166, cs_85) _
  refine x_st (i' := 37) (ls' := [.ref 0]) (st' := []) (σ' := (84, 84, 6349, X, ci_118, cj_84, ck_167, cs_85)) am_e0 rfl rfl rfl rfl ?_
  refine x_st (i' := 38) (ls' := [.ref 0]) (st' := [.ref 0]) (σ' := (84, 84, 6349, X, ci_118, cj_84, ck_167, cs_85)) am_e0 rfl rfl rfl rfl ?_
  refine x_st (i' := 39) (ls' := [.ref 0]) (st' := [.int (nI 112), .ref 0]) (σ' := (84, 84, 6349, X, ci_118, cj_84, ck_167, cs_85)) am_e0 rfl rfl rfl rfl ?_
  refine x_st (i' := 40) (ls' := [.ref 0]) (st' := [.ref 84, .ref 0]) (σ' := (85, 85, 6461, X, ci_119, cj_85, ck_168, cs_86)) am_e0 rfl rfl rfl rfl ?_
  refine x_st (i' := 41) (ls' := [.ref 0]) (st' := []) (σ' := (85, 85, 6461, X, ci_119, cj_85, ck_169, cs_86)) am_e0 rfl rfl rfl rfl ?_
  refine x_st (i' := 42) (ls' := [.ref 0]) (st' := [.ref 0]) (σ' := (85, 85, 6461, X, ci_119, cj_85, ck_169, cs_86)) am_e0 rfl rfl rfl rfl ?_
  refine x_st (i' := 43) (ls' := [.ref 0]) (st' := [.ref 85, .ref 0]) (σ' := (86, 86, 6463, X, ci_120, cj_86, ck_170, cs_87)) am_e0 rfl rfl rfl rfl ?_
  refine x_st (i' := 44) (ls' := [.ref 0]) (st' := [.ref 85, .ref 85, .ref 0]) (σ' := (86, 86, 6463, X, ci_120, cj_86, ck_170, cs_87)) am_e0 rfl rfl rfl rfl ?_
  refine x_cV am_e0 rfl rfl (as := [.ref 85]) (rest := [.ref 85, .ref 0]) rfl rfl ?_
  show am_wp 8 0 [.ref 85] [] (86, 86, 6463, X, ci_120, cj_86, ck_170, cs_87) _
  refine x_st (i' := 1) (ls' := [.ref 85]) (st' := [.ref 85]) (σ' := (86, 86, 6463, X, ci_120, cj_86, ck_170, cs_87)) am_e8 rfl rfl rfl rfl ?_
  refine x_st (i' := 2) (ls' := [.ref 85]) (st' := []) (σ' := (86, 86, 6463, X, ci_120, cj_86, ck_170, cs_87)) am_e8 rfl rfl rfl rfl ?_
  refine x_st (i' := 3) (ls' := [.ref 85]) (st' := [.ref 85]) (σ' := (86, 86, 6463, X, ci_120, cj_86, ck_170, cs_87)) am_e8 rfl rfl rfl rfl ?_
  refine x_st (i' := 4) (ls' := [.ref 85]) (st' := [.int (nI 9), .ref 85]) (σ' := (86, 86, 6463, X, ci_120, cj_86, ck_170, cs_87)) am_e8 rfl rfl rfl rfl ?_
  refine x_st (i' := 5) (ls' := [.ref 85]) (st' := [.ref 86, .ref 85]) (σ' := (87, 87, 6472, X, ci_121, cj_87, ck_171, cs_88)) am_e8 rfl rfl rfl rfl ?_
  refine x_st (i' := 6) (ls' := [.ref 85]) (st' := []) (σ' := (87, 87, 6472, X, ci_121, cj_87, ck_172, cs_88)) am_e8 rfl rfl rfl rfl ?_
  refine x_st (i' := 7) (ls' := [.ref 85]) (st' := [.ref 85]) (σ' := (87, 87, 6472, X, ci_121, cj_87, ck_172, cs_88)) am_e8 rfl rfl rfl rfl ?_
  refine x_st (i' := 8) (ls' := [.ref 85]) (st' := [.int (nI 1), .ref 85]) (σ' := (87, 87, 6472, X, ci_121, cj_87, ck_172, cs_88)) am_e8 rfl rfl rfl rfl ?_
  refine x_st (i' := 9) (ls' := [.ref 85]) (st' := []) (σ' := (87, 87, 6472, X, ci_122, cj_87, ck_172, cs_88)) am_e8 rfl rfl rfl rfl ?_
  refine x_end am_e8 rfl rfl rfl ⟨rfl, ?_⟩
  show am_wp 0 45 [.ref 0] [.ref 85, .ref 0] (87, 87, 6472, X, ci_122, cj_87, ck_172, cs_88) _
  refine x_st (i' := 46) (ls' := [.ref 0]) (st' := []) (σ' := (87, 87, 6472, X, ci_122, cj_87, ck_173, cs_88)) am_e0 rfl rfl rfl rfl ?_
  refine x_st (i' := 47) (ls' := [.ref 0]) (st' := [.ref 0]) (σ' := (87, 87, 6472, X, ci_122, cj_87, ck_173, cs_88)) am_e0 rfl rfl rfl rfl ?_
  refine x_st (i' := 48) (ls' := [.ref 0]) (st' := [.ref 87, .ref 0]) (σ' := (88, 88, 6473, X, ci_123, cj_88, ck_174, cs_89)) am_e0 rfl rfl rfl rfl ?_
  refine x_st (i' := 49) (ls' := [.ref 0]) (st' := [.ref 87, .ref 87, .ref 0]) (σ' := (88, 88, 6473, X, ci_123, cj_88, ck_174, cs_89)) am_e0 rfl rfl rfl rfl ?_
  refine x_cV am_e0 rfl rfl (as := [.ref 87]) (rest := [.ref 87, .ref 0]) rfl rfl ?_
  show am_wp 9 0 [.ref 87] [] (88, 88, 6473, X, ci_123, cj_88, ck_174, cs_89) _
  refine x_st (i' := 1) (ls' := [.ref 87]) (st' := [.ref 87]) (σ' := (88, 88, 6473, X, ci_123, cj_88, ck_174, cs_89)) am_e9 rfl rfl rfl rfl ?_
  refine x_st (i' := 2) (ls' := [.ref 87]) (st' := []) (σ' := (88, 88, 6473, X, ci_123, cj_88, ck_174, cs_89)) am_e9 rfl rfl rfl rfl ?_
  refine x_st (i' := 3) (ls' := [.ref 87]) (st' := [.ref 87]) (σ' := (88, 88, 6473, X, ci_123, cj_88, ck_174, cs_89)) am_e9 rfl rfl rfl rfl ?_
  refine x_st (i' := 4) (ls' := [.ref 87]) (st' := [.int (nI 4), .ref 87]) (σ' := (88, 88, 6473, X, ci_123, cj_88, ck_174, cs_89)) am_e9 rfl rfl rfl rfl ?_
  refine x_st (i' := 5) (ls' := [.ref 87]) (st' := [.ref 88, .ref 87]) (σ' := (89, 89, 6477, X, ci_124, cj_89, ck_175, cs_90)) am_e9 rfl rfl rfl rfl ?_
  refine x_st (i' := 6) (ls' := [.ref 87]) (st' := []) (σ' := (89, 89, 6477, X, ci_124, cj_89, ck_176, cs_90)) am_e9 rfl rfl rfl rfl ?_
  refine x_end am_e9 rfl rfl rfl ⟨rfl, ?_⟩
  show am_wp 0 50 [.ref 0] [.ref 87, .ref 0] (89, 89, 6477, X, ci_124, cj_89, ck_176, cs_90) _
  refine x_st (i' := 51) (ls' := [.ref 0]) (st' := []) (σ' := (89, 89, 6477, X, ci_124, cj_89, ck_177, cs_90)) am_e0 rfl rfl rfl rfl ?_
  refine x_st (i' := 52) (ls' := [.ref 0]) (st' := [.ref 0]) (σ' := (89, 89, 6477, X, ci_124, cj_89, ck_177, cs_90)) am_e0 rfl rfl rfl rfl ?_
  refine x_st (i' := 53) (ls' := [.ref 0]) (st' := [.ref 89, .ref 0]) (σ' := (90, 90, 6486, X, ci_125, cj_90, ck_178, cs_91)) am_e0 rfl rfl rfl rfl ?_
  refine x_st (i' := 54) (ls' := [.ref 0]) (st' := [.ref 89, .ref 89, .ref 0]) (σ' := (90, 90, 6486, X, ci_125, cj_90, ck_178, cs_91)) am_e0 rfl rfl rfl rfl ?_
  refine x_cV am_e0 rfl rfl (as := [.ref 89]) (rest := [.ref 89, .ref 0]) rfl rfl ?_
  show am_wp 10 0 [.ref 89] [] (90, 90, 6486, X, ci_125, cj_90, ck_178, cs_91) _
  refine x_st (i' := 1) (ls' := [.ref 89]) (st' := [.ref 89]) (σ' := (90, 90, 6486, X, ci_125, cj_90, ck_178, cs_91)) am_e10 rfl rfl rfl rfl ?_
  refine x_st (i' := 2) (ls' := [.ref 89]) (st' := []) (σ' := (90, 90, 6486, X, ci_125, cj_90, ck_178, cs_91)) am_e10 rfl rfl rfl rfl ?_
  refine x_st (i' := 3) (ls' := [.ref 89]) (st' := [.ref 89]) (σ' := (90, 90, 6486, X, ci_125, cj_90, ck_178, cs_91)) am_e10 rfl rfl rfl rfl ?_
  refine x_st (i' := 4) (ls' := [.ref 89]) (st' := [.int (nI 401), .ref 89]) (σ' := (90, 90, 6486, X, ci_125, cj_90, ck_178, cs_91)) am_e10 rfl rfl rfl rfl ?_
  refine x_st (i' := 5) (ls' := [.ref 89]) (st' := [.ref 90, .ref 89]) (σ' := (91, 91, 6887, X, ci_126, cj_91, ck_179, cs_92)) am_e10 rfl rfl rfl rfl ?_
  refine x_st (i' := 6) (ls' := [.ref 89]) (st' := []) (σ' := (91, 91, 6887, X, ci_126, cj_91, ck_180, cs_92)) am_e10 rfl rfl rfl rfl ?_
  refine x_st (i' := 7) (ls' := [.ref 89]) (st' := [.ref 89]) (σ' := (91, 91, 6887, X, ci_126, cj_91, ck_180, cs_92)) am_e10 rfl rfl rfl rfl ?_
  refine x_st (i' := 8) (ls' := [.ref 89]) (st' := [.int (nI 401), .ref 89]) (σ' := (91, 91, 6887, X, ci_126, cj_91, ck_180, cs_92)) am_e10 rfl rfl rfl rfl ?_
  refine x_st (i' := 9) (ls' := [.ref 89]) (st' := [.ref 91, .ref 89]) (σ' := (92, 92, 7288, X, ci_127, cj_92, ck_181, cs_93)) am_e10 rfl rfl rfl rfl ?_
  refine x_st (i' := 10) (ls' := [.ref 89]) (st' := []) (σ' := (92, 92, 7288, X, ci_127, cj_92, ck_182, cs_93)) am_e10 rfl rfl rfl rfl ?_
  refine x_st (i' := 11) (ls' := [.ref 89]) (st' := [.ref 89]) (σ' := (92, 92, 7288, X, ci_127, cj_92, ck_182, cs_93)) am_e10 rfl rfl rfl rfl ?_
  refine x_st (i' := 12) (ls' := [.ref 89]) (st' := [.int (nI 1604), .ref 89]) (σ' := (92, 92, 7288, X, ci_127, cj_92, ck_182, cs_93)) am_e10 rfl rfl rfl rfl ?_
  refine x_st (i' := 13) (ls' := [.ref 89]) (st' := [.ref 92, .ref 89]) (σ' := (93, 93, 8892, X, ci_128, cj_93, ck_183, cs_94)) am_e10 rfl rfl rfl rfl ?_
  refine x_st (i' := 14) (ls' := [.ref 89]) (st' := []) (σ' := (93, 93, 8892, X, ci_128, cj_93, ck_184, cs_94)) am_e10 rfl rfl rfl rfl ?_
  refine x_st (i' := 15) (ls' := [.ref 89]) (st' := [.ref 89]) (σ' := (93, 93, 8892, X, ci_128, cj_93, ck_184, cs_94)) am_e10 rfl rfl rfl rfl ?_
  refine x_st (i' := 16) (ls' := [.ref 89]) (st' := [.int (nI 16), .ref 89]) (σ' := (93, 93, 8892, X, ci_128, cj_93, ck_184, cs_94)) am_e10 rfl rfl rfl rfl ?_
  refine x_st (i' := 17) (ls' := [.ref 89]) (st' := [.ref 93, .ref 89]) (σ' := (94, 94, 8908, X, ci_129, cj_94, ck_185, cs_95)) am_e10 rfl rfl rfl rfl ?_
  refine x_st (i' := 18) (ls' := [.ref 89]) (st' := []) (σ' := (94, 94, 8908, X, ci_129, cj_94, ck_186, cs_95)) am_e10 rfl rfl rfl rfl ?_
  refine x_st (i' := 19) (ls' := [.ref 89]) (st' := [.ref 89]) (σ' := (94, 94, 8908, X, ci_129, cj_94, ck_186, cs_95)) am_e10 rfl rfl rfl rfl ?_
  refine x_st (i' := 20) (ls' := [.ref 89]) (st' := [.int (nI 16), .ref 89]) (σ' := (94, 94, 8908, X, ci_129, cj_94, ck_186, cs_95)) am_e10 rfl rfl rfl rfl ?_
  refine x_st (i' := 21) (ls' := [.ref 89]) (st' := [.ref 94, .ref 89]) (σ' := (95, 95, 8924, X, ci_130, cj_95, ck_187, cs_96)) am_e10 rfl rfl rfl rfl ?_
  refine x_st (i' := 22) (ls' := [.ref 89]) (st' := []) (σ' := (95, 95, 8924, X, ci_130, cj_95, ck_188, cs_96)) am_e10 rfl rfl rfl rfl ?_
  refine x_st (i' := 23) (ls' := [.ref 89]) (st' := [.ref 89]) (σ' := (95, 95, 8924, X, ci_130, cj_95, ck_188, cs_96)) am_e10 rfl rfl rfl rfl ?_
  refine x_st (i' := 24) (ls' := [.ref 89]) (st' := [.int (nI 64), .ref 89]) (σ' := (95, 95, 8924, X, ci_130, cj_95, ck_188, cs_96)) am_e10 rfl rfl rfl rfl ?_
  refine x_st (i' := 25) (ls' := [.ref 89]) (st' := [.ref 95, .ref 89]) (σ' := (96, 96, 8988, X, ci_131, cj_96, ck_189, cs_97)) am_e10 rfl rfl rfl rfl ?_
  refine x_st (i' := 26) (ls' := [.ref 89]) (st' := []) (σ' := (96, 96, 8988, X, ci_131, cj_96, ck_190, cs_97)) am_e10 rfl rfl rfl rfl ?_
  refine x_st (i' := 27) (ls' := [.ref 89]) (st' := [.ref 89]) (σ' := (96, 96, 8988, X, ci_131, cj_96, ck_190, cs_97)) am_e10 rfl rfl rfl rfl ?_
  refine x_st (i' := 28) (ls' := [.ref 89]) (st' := [.int (nI 0), .ref 89]) (σ' := (96, 96, 8988, X, ci_131, cj_96, ck_190, cs_97)) am_e10 rfl rfl rfl rfl ?_
  refine x_st (i' := 29) (ls' := [.ref 89]) (st' := []) (σ' := (96, 96, 8988, X, ci_132, cj_96, ck_190, cs_97)) am_e10 rfl rfl rfl rfl ?_
  refine x_st (i' := 30) (ls' := [.ref 89]) (st' := [.ref 89]) (σ' := (96, 96, 8988, X, ci_132, cj_96, ck_190, cs_97)) am_e10 rfl rfl rfl rfl ?_
  refine x_st (i' := 31) (ls' := [.ref 89]) (st' := [.int (nI 0), .ref 89]) (σ' := (96, 96, 8988, X, ci_132, cj_96, ck_190, cs_97)) am_e10 rfl rfl rfl rfl ?_
  refine x_st (i' := 32) (ls' := [.ref 89]) (st' := []) (σ' := (96, 96, 8988, X, ci_133, cj_96, ck_190, cs_97)) am_e10 rfl rfl rfl rfl ?_
  refine x_st (i' := 33) (ls' := [.ref 89]) (st' := [.ref 89]) (σ' := (96, 96, 8988, X, ci_133, cj_96, ck_190, cs_97)) am_e10 rfl rfl rfl rfl ?_
  refine x_st (i' := 34) (ls' := [.ref 89]) (st' := [.int (nI 0), .ref 89]) (σ' := (96, 96, 8988, X, ci_133, cj_96, ck_190, cs_97)) am_e10 rfl rfl rfl rfl ?_
  refine x_st (i' := 35) (ls' := [.ref 89]) (st' := []) (σ' := (96, 96, 8988, X, ci_134, cj_96, ck_190, cs_97)) am_e10 rfl rfl rfl rfl ?_
  refine x_end am_e10 rfl rfl rfl ⟨rfl, ?_⟩
  show am_wp 0 55 [.ref 0] [.ref 89, .ref 0] (96, 96, 8988, X, ci_134, cj_96, ck_190, cs_97) _
  refine x_st (i' := 56) (ls' := [.ref 0]) (st' := []) (σ' := (96, 96, 8988, X, ci_134, cj_96, ck_191, cs_97)) am_e0 rfl rfl rfl rfl ?_
  refine x_st (i' := 57) (ls' := [.ref 0]) (st' := [.ref 0]) (σ' := (96, 96, 8988, X, ci_134, cj_96, ck_191, cs_97)) am_e0 rfl rfl rfl rfl ?_
  refine x_st (i' := 58) (ls' := [.ref 0]) (st' := [.ref 96, .ref 0]) (σ' := (97, 97, 8991, X, ci_135, cj_97, ck_192, cs_98)) am_e0 rfl rfl rfl rfl ?_
  refine x_st (i' := 59) (ls' := [.ref 0]) (st' := [.ref 96, .ref 96, .ref 0]) (σ' := (97, 97, 8991, X, ci_135, cj_97, ck_192, cs_98)) am_e0 rfl rfl rfl rfl ?_
  refine x_cV am_e0 rfl rfl (as := [.ref 96]) (rest := [.ref 96, .ref 0]) rfl rfl ?_
  show am_wp 11 0 [.ref 96] [] (97, 97, 8991, X, ci_135, cj_97, ck_192, cs_98) _
  refine x_st (i' := 1) (ls' := [.ref 96]) (st' := [.ref 96]) (σ' := (97, 97, 8991, X, ci_135, cj_97, ck_192, cs_98)) am_e11 rfl rfl rfl rfl ?_
  refine x_st (i' := 2) (ls' := [.ref 96]) (st' := []) (σ' := (97, 97, 8991, X, ci_135, cj_97, ck_192, cs_98)) am_e11 rfl rfl rfl rfl ?_
  refine x_st (i' := 3) (ls' := [.ref 96]) (st' := [.ref 96]) (σ' := (97, 97, 8991, X, ci_135, cj_97, ck_192, cs_98)) am_e11 rfl rfl rfl rfl ?_
  refine x_st (i' := 4) (ls' := [.ref 96]) (st' := [.int (nI 64), .ref 96]) (σ' := (97, 97, 8991, X, ci_135, cj_97, ck_192, cs_98)) am_e11 rfl rfl rfl rfl ?_
  refine x_st (i' := 5) (ls' := [.ref 96]) (st' := [.ref 97, .ref 96]) (σ' := (98, 98, 9055, X, ci_136, cj_98, ck_193, cs_99)) am_e11 rfl rfl rfl rfl ?_
  refine x_st (i' := 6) (ls' := [.ref 96]) (st' := []) (σ' := (98, 98, 9055, X, ci_136, cj_98, ck_194, cs_99)) am_e11 rfl rfl rfl rfl ?_
  refine x_st (i' := 7) (ls' := [.ref 96]) (st' := [.ref 96]) (σ' := (98, 98, 9055, X, ci_136, cj_98, ck_194, cs_99)) am_e11 rfl rfl rfl rfl ?_
  refine x_st (i' := 8) (ls' := [.ref 96]) (st' := [.int (nI 64), .ref 96]) (σ' := (98, 98, 9055, X, ci_136, cj_98, ck_194, cs_99)) am_e11 rfl rfl rfl rfl ?_
  refine x_st (i' := 9) (ls' := [.ref 96]) (st' := [.ref 98, .ref 96]) (σ' := (99, 99, 9119, X, ci_137, cj_99, ck_195, cs_100)) am_e11 rfl rfl rfl rfl ?_
  refine x_st (i' := 10) (ls' := [.ref 96]) (st' := []) (σ' := (99, 99, 9119, X, ci_137, cj_99, ck_196, cs_100)) am_e11 rfl rfl rfl rfl ?_
  refine x_st (i' := 11) (ls' := [.ref 96]) (st' := [.ref 96]) (σ' := (99, 99, 9119, X, ci_137, cj_99, ck_196, cs_100)) am_e11 rfl rfl rfl rfl ?_
  refine x_st (i' := 12) (ls' := [.ref 96]) (st' := [.int (nI 0), .ref 96]) (σ' := (99, 99, 9119, X, ci_137, cj_99, ck_196, cs_100)) am_e11 rfl rfl rfl rfl ?_
  refine x_st (i' := 13) (ls' := [.ref 96]) (st' := []) (σ' := (99, 99, 9119, X, ci_138, cj_99, ck_196, cs_100)) am_e11 rfl rfl rfl rfl ?_
  refine x_end am_e11 rfl rfl rfl ⟨rfl, ?_⟩
  show am_wp 0 60 [.ref 0] [.ref 96, .ref 0] (99, 99, 9119, X, ci_138, cj_99, ck_196, cs_100) _
  refine x_st (i' := 61) (ls' := [.ref 0]) (st' := []) (σ' := (99, 99, 9119, X, ci_138, cj_99, ck_197, cs_100)) am_e0 rfl rfl rfl rfl ?_
  refine x_st (i' := 62) (ls' := [.ref 0]) (st' := [.ref 0]) (σ' := (99, 99, 9119, X, ci_138, cj_99, ck_197, cs_100)) am_e0 rfl rfl rfl rfl ?_
  refine x_st (i' := 63) (ls' := [.ref 0]) (st' := [.int (-1), .ref 0]) (σ' := (99, 99, 9119, X, ci_138, cj_99, ck_197, cs_100)) am_e0 rfl rfl rfl rfl ?_
  refine x_st (i' := 64) (ls' := [.ref 0]) (st' := []) (σ' := (99, 99, 9119, X, ci_139, cj_99, ck_197, cs_100)) am_e0 rfl rfl rfl rfl ?_
  refine x_st (i' := 65) (ls' := [.ref 0]) (st' := [.ref 0]) (σ' := (99, 99, 9119, X, ci_139, cj_99, ck_197, cs_100)) am_e0 rfl rfl rfl rfl ?_
  refine x_st (i' := 66) (ls' := [.ref 0]) (st' := [.int (nI 0), .ref 0]) (σ' := (99, 99, 9119, X, ci_139, cj_99, ck_197, cs_100)) am_e0 rfl rfl rfl rfl ?_
  refine x_st (i' := 67) (ls' := [.ref 0]) (st' := []) (σ' := (99, 99, 9119, X, ci_140, cj_99, ck_197, cs_100)) am_e0 rfl rfl rfl rfl ?_
  refine x_st (i' := 68) (ls' := [.ref 0]) (st' := [.ref 0]) (σ' := (99, 99, 9119, X, ci_140, cj_99, ck_197, cs_100)) am_e0 rfl rfl rfl rfl ?_
  refine x_st (i' := 69) (ls' := [.ref 0]) (st' := [.ref 12]) (σ' := (99, 99, 9119, X, ci_140, cj_99, ck_197, cs_100)) am_e0 rfl rfl rfl rfl ?_
  refine x_cV am_e0 rfl rfl (as := [.ref 12]) (rest := []) rfl rfl ?_
  show am_wp 12 0 [.ref 12] [] (99, 99, 9119, X, ci_140, cj_99, ck_197, cs_100) _
  rw [show ck_197 = kk9 from ck_eq9]
  refine x_12 (fun I hI => ?_)
  show am_wp 0 70 [.ref 0] [] (99, 99, 9119, X, I, cj_99, kk9, cs_100) _
  refine x_st (i' := 71) (ls' := [.ref 0]) (st' := [.ref 0]) (σ' := (99, 99, 9119, X, I, cj_99, kk9, cs_100)) am_e0 rfl rfl rfl rfl ?_
  refine x_st (i' := 72) (ls' := [.ref 0]) (st' := [.ref 18]) (σ' := (99, 99, 9119, X, I, cj_99, kk9, cs_100)) am_e0 rfl rfl rfl rfl ?_
  refine x_st (i' := 73) (ls' := [.ref 0]) (st' := [.ref 0, .ref 18]) (σ' := (99, 99, 9119, X, I, cj_99, kk9, cs_100)) am_e0 rfl rfl rfl rfl ?_
  refine x_st (i' := 74) (ls' := [.ref 0]) (st' := [.ref 12, .ref 18]) (σ' := (99, 99, 9119, X, I, cj_99, kk9, cs_100)) am_e0 rfl rfl rfl rfl ?_
  refine x_cV am_e0 rfl rfl (as := [.ref 18, .ref 12]) (rest := []) rfl rfl ?_
  show am_wp 14 0 [.ref 18, .ref 12] [] (99, 99, 9119, X, I, cj_99, kk9, cs_100) _
  refine x_14 hI (fun I hI => ?_)
  show am_wp 0 75 [.ref 0] [] (99, 99, 9119, X, I, cj_99, kk9, cs_100) _
  refine x_st (i' := 76) (ls' := [.ref 0]) (st' := [.ref 0]) (σ' := (99, 99, 9119, X, I, cj_99, kk9, cs_100)) am_e0 rfl rfl rfl rfl ?_
  refine x_st (i' := 77) (ls' := [.ref 0]) (st' := [.ref 60]) (σ' := (99, 99, 9119, X, I, cj_99, kk9, cs_100)) am_e0 rfl rfl rfl rfl ?_
  refine x_st (i' := 78) (ls' := [.ref 0]) (st' := [.ref 0, .ref 60]) (σ' := (99, 99, 9119, X, I, cj_99, kk9, cs_100)) am_e0 rfl rfl rfl rfl ?_
  refine x_st (i' := 79) (ls' := [.ref 0]) (st' := [.ref 12, .ref 60]) (σ' := (99, 99, 9119, X, I, cj_99, kk9, cs_100)) am_e0 rfl rfl rfl rfl ?_
  refine x_cV am_e0 rfl rfl (as := [.ref 60, .ref 12]) (rest := []) rfl rfl ?_
  show am_wp 17 0 [.ref 60, .ref 12] [] (99, 99, 9119, X, I, cj_99, kk9, cs_100) _
  refine x_17 hI (fun I hI => ?_)
  show am_wp 0 80 [.ref 0] [] (99, 99, 9119, X, I, cj_99, kk9, cs_100) _
  refine x_end am_e0 rfl rfl rfl ⟨rfl, ?_⟩
  show am_wp 291 3 [.ref 1000000, am_U, am_U, am_U, am_U, am_U, am_U] [.ref 0] (99, 99, 9119, X, I, cj_99, kk9, cs_100) _
  refine x_st (i' := 4) (ls' := [.ref 1000000, .ref 0, am_U, am_U, am_U, am_U, am_U]) (st' := []) (σ' := (99, 99, 9119, X, I, cj_99, kk9, cs_100)) am_e291 rfl rfl rfl rfl ?_
  refine x_st (i' := 5) (ls' := [.ref 1000000, .ref 0, am_U, am_U, am_U, am_U, am_U]) (st' := [.ref 99]) (σ' := (100, 100, 9192, X, (ci_141 I), cj_100, ck_198, cs_101)) am_e291 rfl rfl rfl rfl ?_
  refine x_st (i' := 6) (ls' := [.ref 1000000, .ref 0, am_U, am_U, am_U, am_U, am_U]) (st' := [.ref 99, .ref 99]) (σ' := (100, 100, 9192, X, (ci_141 I), cj_100, ck_198, cs_101)) am_e291 rfl rfl rfl rfl ?_
  refine x_cV am_e291 rfl rfl (as := [.ref 99]) (rest := [.ref 99]) rfl rfl ?_
  show am_wp 183 0 [.ref 99] [] (100, 100, 9192, X, (ci_141 I), cj_100, ck_198, cs_101) _
  refine x_st (i' := 1) (ls' := [.ref 99]) (st' := [.ref 99]) (σ' := (100, 100, 9192, X, (ci_141 I), cj_100, ck_198, cs_101)) am_e183 rfl rfl rfl rfl ?_
  refine x_st (i' := 2) (ls' := [.ref 99]) (st' := []) (σ' := (100, 100, 9192, X, (ci_141 I), cj_100, ck_198, cs_101)) am_e183 rfl rfl rfl rfl ?_
  refine x_st (i' := 3) (ls' := [.ref 99]) (st' := [.ref 99]) (σ' := (100, 100, 9192, X, (ci_141 I), cj_100, ck_198, cs_101)) am_e183 rfl rfl rfl rfl ?_
  refine x_st (i' := 4) (ls' := [.ref 99]) (st' := [.int (nI 4), .ref 99]) (σ' := (100, 100, 9192, X, (ci_141 I), cj_100, ck_198, cs_101)) am_e183 rfl rfl rfl rfl ?_
  refine x_st (i' := 5) (ls' := [.ref 99]) (st' := [.ref 100, .ref 99]) (σ' := (101, 101, 9196, X, (ci_142 I), cj_101, ck_199, cs_102)) am_e183 rfl rfl rfl rfl ?_
  refine x_st (i' := 6) (ls' := [.ref 99]) (st' := [.ref 100, .ref 100, .ref 99]) (σ' := (101, 101, 9196, X, (ci_142 I), cj_101, ck_199, cs_102)) am_e183 rfl rfl rfl rfl ?_
  refine x_st (i' := 7) (ls' := [.ref 99]) (st' := [.int (nI 0), .ref 100, .ref 100, .ref 99]) (σ' := (101, 101, 9196, X, (ci_142 I), cj_101, ck_199, cs_102)) am_e183 rfl rfl rfl rfl ?_
  refine x_st (i' := 8) (ls' := [.ref 99]) (st' := [.ref 2000036, .int (nI 0), .ref 100, .ref 100, .ref 99]) (σ' := (101, 101, 9196, X, (ci_142 I), cj_101, ck_199, cs_102)) am_e183 rfl rfl rfl rfl ?_
  refine x_st (i' := 9) (ls' := [.ref 99]) (st' := [.ref 100, .ref 99]) (σ' := (101, 101, 9196, X, (ci_142 I), cj_101, ck_199, cs_103)) am_e183 rfl rfl rfl rfl ?_
  refine x_st (i' := 10) (ls' := [.ref 99]) (st' := [.ref 100, .ref 100, .ref 99]) (σ' := (101, 101, 9196, X, (ci_142 I), cj_101, ck_199, cs_103)) am_e183 rfl rfl rfl rfl ?_
  refine x_st (i' := 11) (ls' := [.ref 99]) (st' := [.int (nI 1), .ref 100, .ref 100, .ref 99]) (σ' := (101, 101, 9196, X, (ci_142 I), cj_101, ck_199, cs_103)) am_e183 rfl rfl rfl rfl ?_
  refine x_st (i' := 12) (ls' := [.ref 99]) (st' := [.ref 2000037, .int (nI 1), .ref 100, .ref 100, .ref 99]) (σ' := (101, 101, 9196, X, (ci_142 I), cj_101, ck_199, cs_103)) am_e183 rfl rfl rfl rfl ?_
  refine x_st (i' := 13) (ls' := [.ref 99]) (st' := [.ref 100, .ref 99]) (σ' := (101, 101, 9196, X, (ci_142 I), cj_101, ck_199, cs_104)) am_e183 rfl rfl rfl rfl ?_
  refine x_st (i' := 14) (ls' := [.ref 99]) (st' := [.ref 100, .ref 100, .ref 99]) (σ' := (101, 101, 9196, X, (ci_142 I), cj_101, ck_199, cs_104)) am_e183 rfl rfl rfl rfl ?_
  refine x_st (i' := 15) (ls' := [.ref 99]) (st' := [.int (nI 2), .ref 100, .ref 100, .ref 99]) (σ' := (101, 101, 9196, X, (ci_142 I), cj_101, ck_199, cs_104)) am_e183 rfl rfl rfl rfl ?_
  refine x_st (i' := 16) (ls' := [.ref 99]) (st' := [.ref 2000038, .int (nI 2), .ref 100, .ref 100, .ref 99]) (σ' := (101, 101, 9196, X, (ci_142 I), cj_101, ck_199, cs_104)) am_e183 rfl rfl rfl rfl ?_
  refine x_st (i' := 17) (ls' := [.ref 99]) (st' := [.ref 100, .ref 99]) (σ' := (101, 101, 9196, X, (ci_142 I), cj_101, ck_199, cs_105)) am_e183 rfl rfl rfl rfl ?_
  refine x_st (i' := 18) (ls' := [.ref 99]) (st' := [.ref 100, .ref 100, .ref 99]) (σ' := (101, 101, 9196, X, (ci_142 I), cj_101, ck_199, cs_105)) am_e183 rfl rfl rfl rfl ?_
  refine x_st (i' := 19) (ls' := [.ref 99]) (st' := [.int (nI 3), .ref 100, .ref 100, .ref 99]) (σ' := (101, 101, 9196, X, (ci_142 I), cj_101, ck_199, cs_105)) am_e183 rfl rfl rfl rfl ?_
  refine x_st (i' := 20) (ls' := [.ref 99]) (st' := [.ref 2000039, .int (nI 3), .ref 100, .ref 100, .ref 99]) (σ' := (101, 101, 9196, X, (ci_142 I), cj_101, ck_199, cs_105)) am_e183 rfl rfl rfl rfl ?_
  refine x_st (i' := 21) (ls' := [.ref 99]) (st' := [.ref 100, .ref 99]) (σ' := (101, 101, 9196, X, (ci_142 I), cj_101, ck_199, cs_106)) am_e183 rfl rfl rfl rfl ?_
  refine x_st (i' := 22) (ls' := [.ref 99]) (st' := []) (σ' := (101, 101, 9196, X, (ci_142 I), cj_101, ck_200, cs_106)) am_e183 rfl rfl rfl rfl ?_
  refine x_st (i' := 23) (ls' := [.ref 99]) (st' := [.ref 99]) (σ' := (101, 101, 9196, X, (ci_142 I), cj_101, ck_200, cs_106)) am_e183 rfl rfl rfl rfl ?_
  refine x_st (i' := 24) (ls' := [.ref 99]) (st' := [.int (nI 2), .ref 99]) (σ' := (101, 101, 9196, X, (ci_142 I), cj_101, ck_200, cs_106)) am_e183 rfl rfl rfl rfl ?_
  refine x_st (i' := 25) (ls' := [.ref 99]) (st' := [.ref 101, .ref 99]) (σ' := (102, 102, 9198, X, (ci_143 I), cj_102, ck_201, cs_107)) am_e183 rfl rfl rfl rfl ?_
  refine x_st (i' := 26) (ls' := [.ref 99]) (st' := [.ref 101, .ref 101, .ref 99]) (σ' := (102, 102, 9198, X, (ci_143 I), cj_102, ck_201, cs_107)) am_e183 rfl rfl rfl rfl ?_
  refine x_st (i' := 27) (ls' := [.ref 99]) (st' := [.int (nI 0), .ref 101, .ref 101, .ref 99]) (σ' := (102, 102, 9198, X, (ci_143 I), cj_102, ck_201, cs_107)) am_e183 rfl rfl rfl rfl ?_
  refine x_st (i' := 28) (ls' := [.ref 99]) (st' := [.ref 2000040, .int (nI 0), .ref 101, .ref 101, .ref 99]) (σ' := (102, 102, 9198, X, (ci_143 I), cj_102, ck_201, cs_107)) am_e183 rfl rfl rfl rfl ?_
  refine x_st (i' := 29) (ls' := [.ref 99]) (st' := [.ref 101, .ref 99]) (σ' := (102, 102, 9198, X, (ci_143 I), cj_102, ck_201, cs_108)) am_e183 rfl rfl rfl rfl ?_
  refine x_st (i' := 30) (ls' := [.ref 99]) (st' := [.ref 101, .ref 101, .ref 99]) (σ' := (102, 102, 9198, X, (ci_143 I), cj_102, ck_201, cs_108)) am_e183 rfl rfl rfl rfl ?_
  refine x_st (i' := 31) (ls' := [.ref 99]) (st' := [.int (nI 1), .ref 101, .ref 101, .ref 99]) (σ' := (102, 102, 9198, X, (ci_143 I), cj_102, ck_201, cs_108)) am_e183 rfl rfl rfl rfl ?_
  refine x_st (i' := 32) (ls' := [.ref 99]) (st' := [.ref 2000041, .int (nI 1), .ref 101, .ref 101, .ref 99]) (σ' := (102, 102, 9198, X, (ci_143 I), cj_102, ck_201, cs_108)) am_e183 rfl rfl rfl rfl ?_
  refine x_st (i' := 33) (ls' := [.ref 99]) (st' := [.ref 101, .ref 99]) (σ' := (102, 102, 9198, X, (ci_143 I), cj_102, ck_201, cs_109)) am_e183 rfl rfl rfl rfl ?_
  refine x_st (i' := 34) (ls' := [.ref 99]) (st' := []) (σ' := (102, 102, 9198, X, (ci_143 I), cj_102, ck_202, cs_109)) am_e183 rfl rfl rfl rfl ?_
  refine x_st (i' := 35) (ls' := [.ref 99]) (st' := [.ref 99]) (σ' := (102, 102, 9198, X, (ci_143 I), cj_102, ck_202, cs_109)) am_e183 rfl rfl rfl rfl ?_
  refine x_st (i' := 36) (ls' := [.ref 99]) (st' := [.int (nI 13), .ref 99]) (σ' := (102, 102, 9198, X, (ci_143 I), cj_102, ck_202, cs_109)) am_e183 rfl rfl rfl rfl ?_
  refine x_st (i' := 37) (ls' := [.ref 99]) (st' := [.ref 102, .ref 99]) (σ' := (103, 103, 9211, X, (ci_144 I), cj_103, ck_203, cs_110)) am_e183 rfl rfl rfl rfl ?_
  refine x_st (i' := 38) (ls' := [.ref 99]) (st' := [.ref 102, .ref 102, .ref 99]) (σ' := (103, 103, 9211, X, (ci_144 I), cj_103, ck_203, cs_110)) am_e183 rfl rfl rfl rfl ?_
  refine x_st (i' := 39) (ls' := [.ref 99]) (st' := [.int (nI 0), .ref 102, .ref 102, .ref 99]) (σ' := (103, 103, 9211, X, (ci_144 I), cj_103, ck_203, cs_110)) am_e183 rfl rfl rfl rfl ?_
  refine x_st (i' := 40) (ls' := [.ref 99]) (st' := [.ref 2000042, .int (nI 0), .ref 102, .ref 102, .ref 99]) (σ' := (103, 103, 9211, X, (ci_144 I), cj_103, ck_203, cs_110)) am_e183 rfl rfl rfl rfl ?_
  refine x_st (i' := 41) (ls' := [.ref 99]) (st' := [.ref 102, .ref 99]) (σ' := (103, 103, 9211, X, (ci_144 I), cj_103, ck_203, cs_111)) am_e183 rfl rfl rfl rfl ?_
  refine x_st (i' := 42) (ls' := [.ref 99]) (st' := [.ref 102, .ref 102, .ref 99]) (σ' := (103, 103, 9211, X, (ci_144 I), cj_103, ck_203, cs_111)) am_e183 rfl rfl rfl rfl ?_
  refine x_st (i' := 43) (ls' := [.ref 99]) (st' := [.int (nI 1), .ref 102, .ref 102, .ref 99]) (σ' := (103, 103, 9211, X, (ci_144 I), cj_103, ck_203, cs_111)) am_e183 rfl rfl rfl rfl ?_
  refine x_st (i' := 44) (ls' := [.ref 99]) (st' := [.ref 2000043, .int (nI 1), .ref 102, .ref 102, .ref 99]) (σ' := (103, 103, 9211, X, (ci_144 I), cj_103, ck_203, cs_111)) am_e183 rfl rfl rfl rfl ?_
  refine x_st (i' := 45) (ls' := [.ref 99]) (st' := [.ref 102, .ref 99]) (σ' := (103, 103, 9211, X, (ci_144 I), cj_103, ck_203, cs_112)) am_e183 rfl rfl rfl rfl ?_
  refine x_st (i' := 46) (ls' := [.ref 99]) (st' := [.ref 102, .ref 102, .ref 99]) (σ' := (103, 103, 9211, X, (ci_144 I), cj_103, ck_203, cs_112)) am_e183 rfl rfl rfl rfl ?_
  refine x_st (i' := 47) (ls' := [.ref 99]) (st' := [.int (nI 2), .ref 102, .ref 102, .ref 99]) (σ' := (103, 103, 9211, X, (ci_144 I), cj_103, ck_203, cs_112)) am_e183 rfl rfl rfl rfl ?_
  refine x_st (i' := 48) (ls' := [.ref 99]) (st' := [.ref 2000044, .int (nI 2), .ref 102, .ref 102, .ref 99]) (σ' := (103, 103, 9211, X, (ci_144 I), cj_103, ck_203, cs_112)) am_e183 rfl rfl rfl rfl ?_
  refine x_st (i' := 49) (ls' := [.ref 99]) (st' := [.ref 102, .ref 99]) (σ' := (103, 103, 9211, X, (ci_144 I), cj_103, ck_203, cs_113)) am_e183 rfl rfl rfl rfl ?_
  refine x_st (i' := 50) (ls' := [.ref 99]) (st' := [.ref 102, .ref 102, .ref 99]) (σ' := (103, 103, 9211, X, (ci_144 I), cj_103, ck_203, cs_113)) am_e183 rfl rfl rfl rfl ?_
  refine x_st (i' := 51) (ls' := [.ref 99]) (st' := [.int (nI 3), .ref 102, .ref 102, .ref 99]) (σ' := (103, 103, 9211, X, (ci_144 I), cj_103, ck_203, cs_113)) am_e183 rfl rfl rfl rfl ?_
  refine x_st (i' := 52) (ls' := [.ref 99]) (st' := [.ref 2000045, .int (nI 3), .ref 102, .ref 102, .ref 99]) (σ' := (103, 103, 9211, X, (ci_144 I), cj_103, ck_203, cs_113)) am_e183 rfl rfl rfl rfl ?_
  refine x_st (i' := 53) (ls' := [.ref 99]) (st' := [.ref 102, .ref 99]) (σ' := (103, 103, 9211, X, (ci_144 I), cj_103, ck_203, cs_114)) am_e183 rfl rfl rfl rfl ?_
  refine x_st (i' := 54) (ls' := [.ref 99]) (st' := [.ref 102, .ref 102, .ref 99]) (σ' := (103, 103, 9211, X, (ci_144 I), cj_103, ck_203, cs_114)) am_e183 rfl rfl rfl rfl ?_
  refine x_st (i' := 55) (ls' := [.ref 99]) (st' := [.int (nI 4), .ref 102, .ref 102, .ref 99]) (σ' := (103, 103, 9211, X, (ci_144 I), cj_103, ck_203, cs_114)) am_e183 rfl rfl rfl rfl ?_
  refine x_st (i' := 56) (ls' := [.ref 99]) (st' := [.ref 2000046, .int (nI 4), .ref 102, .ref 102, .ref 99]) (σ' := (103, 103, 9211, X, (ci_144 I), cj_103, ck_203, cs_114)) am_e183 rfl rfl rfl rfl ?_
  refine x_st (i' := 57) (ls' := [.ref 99]) (st' := [.ref 102, .ref 99]) (σ' := (103, 103, 9211, X, (ci_144 I), cj_103, ck_203, cs_115)) am_e183 rfl rfl rfl rfl ?_
  refine x_st (i' := 58) (ls' := [.ref 99]) (st' := [.ref 102, .ref 102, .ref 99]) (σ' := (103, 103, 9211, X, (ci_144 I), cj_103, ck_203, cs_115)) am_e183 rfl rfl rfl rfl ?_
  refine x_st (i' := 59) (ls' := [.ref 99]) (st' := [.int (nI 5), .ref 102, .ref 102, .ref 99]) (σ' := (103, 103, 9211, X, (ci_144 I), cj_103, ck_203, cs_115)) am_e183 rfl rfl rfl rfl ?_
  refine x_st (i' := 60) (ls' := [.ref 99]) (st' := [.ref 2000047, .int (nI 5), .ref 102, .ref 102, .ref 99]) (σ' := (103, 103, 9211, X, (ci_144 I), cj_103, ck_203, cs_115)) am_e183 rfl rfl rfl rfl ?_
  refine x_st (i' := 61) (ls' := [.ref 99]) (st' := [.ref 102, .ref 99]) (σ' := (103, 103, 9211, X, (ci_144 I), cj_103, ck_203, cs_116)) am_e183 rfl rfl rfl rfl ?_
  refine x_st (i' := 62) (ls' := [.ref 99]) (st' := [.ref 102, .ref 102, .ref 99]) (σ' := (103, 103, 9211, X, (ci_144 I), cj_103, ck_203, cs_116)) am_e183 rfl rfl rfl rfl ?_
  refine x_st (i' := 63) (ls' := [.ref 99]) (st' := [.int (nI 6), .ref 102, .ref 102, .ref 99]) (σ' := (103, 103, 9211, X, (ci_144 I), cj_103, ck_203, cs_116)) am_e183 rfl rfl rfl rfl ?_
  refine x_st (i' := 64) (ls' := [.ref 99]) (st' := [.ref 2000048, .int (nI 6), .ref 102, .ref 102, .ref 99]) (σ' := (103, 103, 9211, X, (ci_144 I), cj_103, ck_203, cs_116)) am_e183 rfl rfl rfl rfl ?_
  refine x_st (i' := 65) (ls' := [.ref 99]) (st' := [.ref 102, .ref 99]) (σ' := (103, 103, 9211, X, (ci_144 I), cj_103, ck_203, cs_117)) am_e183 rfl rfl rfl rfl ?_
  refine x_st (i' := 66) (ls' := [.ref 99]) (st' := [.ref 102, .ref 102, .ref 99]) (σ' := (103, 103, 9211, X, (ci_144 I), cj_103, ck_203, cs_117)) am_e183 rfl rfl rfl rfl ?_
  refine x_st (i' := 67) (ls' := [.ref 99]) (st' := [.int (nI 7), .ref 102, .ref 102, .ref 99]) (σ' := (103, 103, 9211, X, (ci_144 I), cj_103, ck_203, cs_117)) am_e183 rfl rfl rfl rfl ?_
  refine x_st (i' := 68) (ls' := [.ref 99]) (st' := [.ref 2000049, .int (nI 7), .ref 102, .ref 102, .ref 99]) (σ' := (103, 103, 9211, X, (ci_144 I), cj_103, ck_203, cs_117)) am_e183 rfl rfl rfl rfl ?_
  refine x_st (i' := 69) (ls' := [.ref 99]) (st' := [.ref 102, .ref 99]) (σ' := (103, 103, 9211, X, (ci_144 I), cj_103, ck_203, cs_118)) am_e183 rfl rfl rfl rfl ?_
  refine x_st (i' := 70) (ls' := [.ref 99]) (st' := [.ref 102, .ref 102, .ref 99]) (σ' := (103, 103, 9211, X, (ci_144 I), cj_103, ck_203, cs_118)) am_e183 rfl rfl rfl rfl ?_
  refine x_st (i' := 71) (ls' := [.ref 99]) (st' := [.int (nI 8), .ref 102, .ref 102, .ref 99]) (σ' := (103, 103, 9211, X, (ci_144 I), cj_103, ck_203, cs_118)) am_e183 rfl rfl rfl rfl ?_
  refine x_st (i' := 72) (ls' := [.ref 99]) (st' := [.ref 2000050, .int (nI 8), .ref 102, .ref 102, .ref 99]) (σ' := (103, 103, 9211, X, (ci_144 I), cj_103, ck_203, cs_118)) am_e183 rfl rfl rfl rfl ?_
  refine x_st (i' := 73) (ls' := [.ref 99]) (st' := [.ref 102, .ref 99]) (σ' := (103, 103, 9211, X, (ci_144 I), cj_103, ck_203, cs_119)) am_e183 rfl rfl rfl rfl ?_
  refine x_st (i' := 74) (ls' := [.ref 99]) (st' := [.ref 102, .ref 102, .ref 99]) (σ' := (103, 103, 9211, X, (ci_144 I), cj_103, ck_203, cs_119)) am_e183 rfl rfl rfl rfl ?_
  refine x_st (i' := 75) (ls' := [.ref 99]) (st' := [.int (nI 9), .ref 102, .ref 102, .ref 99]) (σ' := (103, 103, 9211, X, (ci_144 I), cj_103, ck_203, cs_119)) am_e183 rfl rfl rfl rfl ?_
  refine x_st (i' := 76) (ls' := [.ref 99]) (st' := [.ref 2000051, .int (nI 9), .ref 102, .ref 102, .ref 99]) (σ' := (103, 103, 9211, X, (ci_144 I), cj_103, ck_203, cs_119)) am_e183 rfl rfl rfl rfl ?_
  refine x_st (i' := 77) (ls' := [.ref 99]) (st' := [.ref 102, .ref 99]) (σ' := (103, 103, 9211, X, (ci_144 I), cj_103, ck_203, cs_120)) am_e183 rfl rfl rfl rfl ?_
  refine x_st (i' := 78) (ls' := [.ref 99]) (st' := [.ref 102, .ref 102, .ref 99]) (σ' := (103, 103, 9211, X, (ci_144 I), cj_103, ck_203, cs_120)) am_e183 rfl rfl rfl rfl ?_
  refine x_st (i' := 79) (ls' := [.ref 99]) (st' := [.int (nI 10), .ref 102, .ref 102, .ref 99]) (σ' := (103, 103, 9211, X, (ci_144 I), cj_103, ck_203, cs_120)) am_e183 rfl rfl rfl rfl ?_
  refine x_st (i' := 80) (ls' := [.ref 99]) (st' := [.ref 2000052, .int (nI 10), .ref 102, .ref 102, .ref 99]) (σ' := (103, 103, 9211, X, (ci_144 I), cj_103, ck_203, cs_120)) am_e183 rfl rfl rfl rfl ?_
  refine x_st (i' := 81) (ls' := [.ref 99]) (st' := [.ref 102, .ref 99]) (σ' := (103, 103, 9211, X, (ci_144 I), cj_103, ck_203, cs_121)) am_e183 rfl rfl rfl rfl ?_
  refine x_st (i' := 82) (ls' := [.ref 99]) (st' := [.ref 102, .ref 102, .ref 99]) (σ' := (103, 103, 9211, X, (ci_144 I), cj_103, ck_203, cs_121)) am_e183 rfl rfl rfl rfl ?_
  refine x_st (i' := 83) (ls' := [.ref 99]) (st' := [.int (nI 11), .ref 102, .ref 102, .ref 99]) (σ' := (103, 103, 9211, X, (ci_144 I), cj_103, ck_203, cs_121)) am_e183 rfl rfl rfl rfl ?_
  refine x_st (i' := 84) (ls' := [.ref 99]) (st' := [.ref 2000053, .int (nI 11), .ref 102, .ref 102, .ref 99]) (σ' := (103, 103, 9211, X, (ci_144 I), cj_103, ck_203, cs_121)) am_e183 rfl rfl rfl rfl ?_
  refine x_st (i' := 85) (ls' := [.ref 99]) (st' := [.ref 102, .ref 99]) (σ' := (103, 103, 9211, X, (ci_144 I), cj_103, ck_203, cs_122)) am_e183 rfl rfl rfl rfl ?_
  refine x_st (i' := 86) (ls' := [.ref 99]) (st' := [.ref 102, .ref 102, .ref 99]) (σ' := (103, 103, 9211, X, (ci_144 I), cj_103, ck_203, cs_122)) am_e183 rfl rfl rfl rfl ?_
  refine x_st (i' := 87) (ls' := [.ref 99]) (st' := [.int (nI 12), .ref 102, .ref 102, .ref 99]) (σ' := (103, 103, 9211, X, (ci_144 I), cj_103, ck_203, cs_122)) am_e183 rfl rfl rfl rfl ?_
  refine x_st (i' := 88) (ls' := [.ref 99]) (st' := [.ref 2000054, .int (nI 12), .ref 102, .ref 102, .ref 99]) (σ' := (103, 103, 9211, X, (ci_144 I), cj_103, ck_203, cs_122)) am_e183 rfl rfl rfl rfl ?_
  refine x_st (i' := 89) (ls' := [.ref 99]) (st' := [.ref 102, .ref 99]) (σ' := (103, 103, 9211, X, (ci_144 I), cj_103, ck_203, cs_123)) am_e183 rfl rfl rfl rfl ?_
  refine x_st (i' := 90) (ls' := [.ref 99]) (st' := []) (σ' := (103, 103, 9211, X, (ci_144 I), cj_103, ck_204, cs_123)) am_e183 rfl rfl rfl rfl ?_
  refine x_st (i' := 91) (ls' := [.ref 99]) (st' := [.ref 99]) (σ' := (103, 103, 9211, X, (ci_144 I), cj_103, ck_204, cs_123)) am_e183 rfl rfl rfl rfl ?_
  refine x_st (i' := 92) (ls' := [.ref 99]) (st' := [.int (nI 10), .ref 99]) (σ' := (103, 103, 9211, X, (ci_144 I), cj_103, ck_204, cs_123)) am_e183 rfl rfl rfl rfl ?_
  refine x_st (i' := 93) (ls' := [.ref 99]) (st' := [.ref 103, .ref 99]) (σ' := (104, 104, 9221, X, (ci_145 I), cj_104, ck_205, cs_124)) am_e183 rfl rfl rfl rfl ?_
  refine x_st (i' := 94) (ls' := [.ref 99]) (st' := [.ref 103, .ref 103, .ref 99]) (σ' := (104, 104, 9221, X, (ci_145 I), cj_104, ck_205, cs_124)) am_e183 rfl rfl rfl rfl ?_
  refine x_st (i' := 95) (ls' := [.ref 99]) (st' := [.int (nI 0), .ref 103, .ref 103, .ref 99]) (σ' := (104, 104, 9221, X, (ci_145 I), cj_104, ck_205, cs_124)) am_e183 rfl rfl rfl rfl ?_
  refine x_st (i' := 96) (ls' := [.ref 99]) (st' := [.int (nI 3), .int (nI 0), .ref 103, .ref 103, .ref 99]) (σ' := (104, 104, 9221, X, (ci_145 I), cj_104, ck_205, cs_124)) am_e183 rfl rfl rfl rfl ?_
  refine x_st (i' := 97) (ls' := [.ref 99]) (st' := [.ref 103, .ref 99]) (σ' := (104, 104, 9221, X, (ci_146 I), cj_104, ck_205, cs_124)) am_e183 rfl rfl rfl rfl ?_
  refine x_st (i' := 98) (ls' := [.ref 99]) (st' := [.ref 103, .ref 103, .ref 99]) (σ' := (104, 104, 9221, X, (ci_146 I), cj_104, ck_205, cs_124)) am_e183 rfl rfl rfl rfl ?_
  refine x_st (i' := 99) (ls' := [.ref 99]) (st' := [.int (nI 1), .ref 103, .ref 103, .ref 99]) (σ' := (104, 104, 9221, X, (ci_146 I), cj_104, ck_205, cs_124)) am_e183 rfl rfl rfl rfl ?_
  refine x_st (i' := 100) (ls' := [.ref 99]) (st' := [.int (nI 1), .int (nI 1), .ref 103, .ref 103, .ref 99]) (σ' := (104, 104, 9221, X, (ci_146 I), cj_104, ck_205, cs_124)) am_e183 rfl rfl rfl rfl ?_
  refine x_st (i' := 101) (ls' := [.ref 99]) (st' := [.ref 103, .ref 99]) (σ' := (104, 104, 9221, X, (ci_147 I), cj_104, ck_205, cs_124)) am_e183 rfl rfl rfl rfl ?_
  refine x_st (i' := 102) (ls' := [.ref 99]) (st' := [.ref 103, .ref 103, .ref 99]) (σ' := (104, 104, 9221, X, (ci_147 I), cj_104, ck_205, cs_124)) am_e183 rfl rfl rfl rfl ?_
  refine x_st (i' := 103) (ls' := [.ref 99]) (st' := [.int (nI 2), .ref 103, .ref 103, .ref 99]) (σ' := (104, 104, 9221, X, (ci_147 I), cj_104, ck_205, cs_124)) am_e183 rfl rfl rfl rfl ?_
  refine x_st (i' := 104) (ls' := [.ref 99]) (st' := [.int (nI 10), .int (nI 2), .ref 103, .ref 103, .ref 99]) (σ' := (104, 104, 9221, X, (ci_147 I), cj_104, ck_205, cs_124)) am_e183 rfl rfl rfl rfl ?_
  refine x_st (i' := 105) (ls' := [.ref 99]) (st' := [.ref 103, .ref 99]) (σ' := (104, 104, 9221, X, (ci_148 I), cj_104, ck_205, cs_124)) am_e183 rfl rfl rfl rfl ?_
  refine x_st (i' := 106) (ls' := [.ref 99]) (st' := [.ref 103, .ref 103, .ref 99]) (σ' := (104, 104, 9221, X, (ci_148 I), cj_104, ck_205, cs_124)) am_e183 rfl rfl rfl rfl ?_
  refine x_st (i' := 107) (ls' := [.ref 99]) (st' := [.int (nI 3), .ref 103, .ref 103, .ref 99]) (σ' := (104, 104, 9221, X, (ci_148 I), cj_104, ck_205, cs_124)) am_e183 rfl rfl rfl rfl ?_
  refine x_st (i' := 108) (ls' := [.ref 99]) (st' := [.int (nI 4), .int (nI 3), .ref 103, .ref 103, .ref 99]) (σ' := (104, 104, 9221, X, (ci_148 I), cj_104, ck_205, cs_124)) am_e183 rfl rfl rfl rfl ?_
  refine x_st (i' := 109) (ls' := [.ref 99]) (st' := [.ref 103, .ref 99]) (σ' := (104, 104, 9221, X, (ci_149 I), cj_104, ck_205, cs_124)) am_e183 rfl rfl rfl rfl ?_
  refine x_st (i' := 110) (ls' := [.ref 99]) (st' := [.ref 103, .ref 103, .ref 99]) (σ' := (104, 104, 9221, X, (ci_149 I), cj_104, ck_205, cs_124)) am_e183 rfl rfl rfl rfl ?_
  refine x_st (i' := 111) (ls' := [.ref 99]) (st' := [.int (nI 4), .ref 103, .ref 103, .ref 99]) (σ' := (104, 104, 9221, X, (ci_149 I), cj_104, ck_205, cs_124)) am_e183 rfl rfl rfl rfl ?_
  refine x_st (i' := 112) (ls' := [.ref 99]) (st' := [.int (nI 0), .int (nI 4), .ref 103, .ref 103, .ref 99]) (σ' := (104, 104, 9221, X, (ci_149 I), cj_104, ck_205, cs_124)) am_e183 rfl rfl rfl rfl ?_
  refine x_st (i' := 113) (ls' := [.ref 99]) (st' := [.ref 103, .ref 99]) (σ' := (104, 104, 9221, X, (ci_150 I), cj_104, ck_205, cs_124)) am_e183 rfl rfl rfl rfl ?_
  refine x_st (i' := 114) (ls' := [.ref 99]) (st' := [.ref 103, .ref 103, .ref 99]) (σ' := (104, 104, 9221, X, (ci_150 I), cj_104, ck_205, cs_124)) am_e183 rfl rfl rfl rfl ?_
  refine x_st (i' := 115) (ls' := [.ref 99]) (st' := [.int (nI 5), .ref 103, .ref 103, .ref 99]) (σ' := (104, 104, 9221, X, (ci_150 I), cj_104, ck_205, cs_124)) am_e183 rfl rfl rfl rfl ?_
  refine x_st (i' := 116) (ls' := [.ref 99]) (st' := [.int (nI 3), .int (nI 5), .ref 103, .ref 103, .ref 99]) (σ' := (104, 104, 9221, X, (ci_150 I), cj_104, ck_205, cs_124)) am_e183 rfl rfl rfl rfl ?_
  refine x_st (i' := 117) (ls' := [.ref 99]) (st' := [.ref 103, .ref 99]) (σ' := (104, 104, 9221, X, (ci_151 I), cj_104, ck_205, cs_124)) am_e183 rfl rfl rfl rfl ?_
  refine x_st (i' := 118) (ls' := [.ref 99]) (st' := [.ref 103, .ref 103, .ref 99]) (σ' := (104, 104, 9221, X, (ci_151 I), cj_104, ck_205, cs_124)) am_e183 rfl rfl rfl rfl ?_
  refine x_st (i' := 119) (ls' := [.ref 99]) (st' := [.int (nI 6), .ref 103, .ref 103, .ref 99]) (σ' := (104, 104, 9221, X, (ci_151 I), cj_104, ck_205, cs_124)) am_e183 rfl rfl rfl rfl ?_
  refine x_st (i' := 120) (ls' := [.ref 99]) (st' := [.int (nI 1), .int (nI 6), .ref 103, .ref 103, .ref 99]) (σ' := (104, 104, 9221, X, (ci_151 I), cj_104, ck_205, cs_124)) am_e183 rfl rfl rfl rfl ?_
  refine x_st (i' := 121) (ls' := [.ref 99]) (st' := [.ref 103, .ref 99]) (σ' := (104, 104, 9221, X, (ci_152 I), cj_104, ck_205, cs_124)) am_e183 rfl rfl rfl rfl ?_
  refine x_st (i' := 122) (ls' := [.ref 99]) (st' := [.ref 103, .ref 103, .ref 99]) (σ' := (104, 104, 9221, X, (ci_152 I), cj_104, ck_205, cs_124)) am_e183 rfl rfl rfl rfl ?_
  refine x_st (i' := 123) (ls' := [.ref 99]) (st' := [.int (nI 7), .ref 103, .ref 103, .ref 99]) (σ' := (104, 104, 9221, X, (ci_152 I), cj_104, ck_205, cs_124)) am_e183 rfl rfl rfl rfl ?_
  refine x_st (i' := 124) (ls' := [.ref 99]) (st' := [.int (nI 10), .int (nI 7), .ref 103, .ref 103, .ref 99]) (σ' := (104, 104, 9221, X, (ci_152 I), cj_104, ck_205, cs_124)) am_e183 rfl rfl rfl rfl ?_
  refine x_st (i' := 125) (ls' := [.ref 99]) (st' := [.ref 103, .ref 99]) (σ' := (104, 104, 9221, X, (ci_153 I), cj_104, ck_205, cs_124)) am_e183 rfl rfl rfl rfl ?_
  refine x_st (i' := 126) (ls' := [.ref 99]) (st' := [.ref 103, .ref 103, .ref 99]) (σ' := (104, 104, 9221, X, (ci_153 I), cj_104, ck_205, cs_124)) am_e183 rfl rfl rfl rfl ?_
  refine x_st (i' := 127) (ls' := [.ref 99]) (st' := [.int (nI 8), .ref 103, .ref 103, .ref 99]) (σ' := (104, 104, 9221, X, (ci_153 I), cj_104, ck_205, cs_124)) am_e183 rfl rfl rfl rfl ?_
  refine x_st (i' := 128) (ls' := [.ref 99]) (st' := [.int (nI 4), .int (nI 8), .ref 103, .ref 103, .ref 99]) (σ' := (104, 104, 9221, X, (ci_153 I), cj_104, ck_205, cs_124)) am_e183 rfl rfl rfl rfl ?_
  refine x_st (i' := 129) (ls' := [.ref 99]) (st' := [.ref 103, .ref 99]) (σ' := (104, 104, 9221, X, (ci_154 I), cj_104, ck_205, cs_124)) am_e183 rfl rfl rfl rfl ?_
  refine x_st (i' := 130) (ls' := [.ref 99]) (st' := [.ref 103, .ref 103, .ref 99]) (σ' := (104, 104, 9221, X, (ci_154 I), cj_104, ck_205, cs_124)) am_e183 rfl rfl rfl rfl ?_
  refine x_st (i' := 131) (ls' := [.ref 99]) (st' := [.int (nI 9), .ref 103, .ref 103, .ref 99]) (σ' := (104, 104, 9221, X, (ci_154 I), cj_104, ck_205, cs_124)) am_e183 rfl rfl rfl rfl ?_
  refine x_st (i' := 132) (ls' := [.ref 99]) (st' := [.int (nI 0), .int (nI 9), .ref 103, .ref 103, .ref 99]) (σ' := (104, 104, 9221, X, (ci_154 I), cj_104, ck_205, cs_124)) am_e183 rfl rfl rfl rfl ?_
  refine x_st (i' := 133) (ls' := [.ref 99]) (st' := [.ref 103, .ref 99]) (σ' := (104, 104, 9221, X, (ci_155 I), cj_104, ck_205, cs_124)) am_e183 rfl rfl rfl rfl ?_
  refine x_st (i' := 134) (ls' := [.ref 99]) (st' := []) (σ' := (104, 104, 9221, X, (ci_155 I), cj_104, ck_206, cs_124)) am_e183 rfl rfl rfl rfl ?_
  refine x_st (i' := 135) (ls' := [.ref 99]) (st' := [.ref 99]) (σ' := (104, 104, 9221, X, (ci_155 I), cj_104, ck_206, cs_124)) am_e183 rfl rfl rfl rfl ?_
  refine x_st (i' := 136) (ls' := [.ref 99]) (st' := [.int (nI 32), .ref 99]) (σ' := (104, 104, 9221, X, (ci_155 I), cj_104, ck_206, cs_124)) am_e183 rfl rfl rfl rfl ?_
  refine x_st (i' := 137) (ls' := [.ref 99]) (st' := [.ref 104, .ref 99]) (σ' := (105, 105, 9253, X, (ci_156 I), cj_105, ck_207, cs_125)) am_e183 rfl rfl rfl rfl ?_
  refine x_st (i' := 138) (ls' := [.ref 99]) (st' := []) (σ' := (105, 105, 9253, X, (ci_156 I), cj_105, ck_208, cs_125)) am_e183 rfl rfl rfl rfl ?_
  refine x_st (i' := 139) (ls' := [.ref 99]) (st' := [.ref 99]) (σ' := (105, 105, 9253, X, (ci_156 I), cj_105, ck_208, cs_125)) am_e183 rfl rfl rfl rfl ?_
  refine x_st (i' := 140) (ls' := [.ref 99]) (st' := [.int (nI 8), .ref 99]) (σ' := (105, 105, 9253, X, (ci_156 I), cj_105, ck_208, cs_125)) am_e183 rfl rfl rfl rfl ?_
  refine x_st (i' := 141) (ls' := [.ref 99]) (st' := [.ref 105, .ref 99]) (σ' := (106, 106, 9261, X, (ci_157 I), cj_106, ck_209, cs_126)) am_e183 rfl rfl rfl rfl ?_
  refine x_st (i' := 142) (ls' := [.ref 99]) (st' := []) (σ' := (106, 106, 9261, X, (ci_157 I), cj_106, ck_210, cs_126)) am_e183 rfl rfl rfl rfl ?_
  refine x_st (i' := 143) (ls' := [.ref 99]) (st' := [.ref 99]) (σ' := (106, 106, 9261, X, (ci_157 I), cj_106, ck_210, cs_126)) am_e183 rfl rfl rfl rfl ?_
  refine x_st (i' := 144) (ls' := [.ref 99]) (st' := [.int (nI 128), .ref 99]) (σ' := (106, 106, 9261, X, (ci_157 I), cj_106, ck_210, cs_126)) am_e183 rfl rfl rfl rfl ?_
  refine x_st (i' := 145) (ls' := [.ref 99]) (st' := [.ref 106, .ref 99]) (σ' := (107, 107, 9389, X, (ci_158 I), cj_107, ck_211, cs_127)) am_e183 rfl rfl rfl rfl ?_
  refine x_st (i' := 146) (ls' := [.ref 99]) (st' := []) (σ' := (107, 107, 9389, X, (ci_158 I), cj_107, ck_212, cs_127)) am_e183 rfl rfl rfl rfl ?_
  refine x_st (i' := 147) (ls' := [.ref 99]) (st' := [.ref 99]) (σ' := (107, 107, 9389, X, (ci_158 I), cj_107, ck_212, cs_127)) am_e183 rfl rfl rfl rfl ?_
  refine x_st (i' := 148) (ls' := [.ref 99]) (st' := [.int (nI 128), .ref 99]) (σ' := (107, 107, 9389, X, (ci_158 I), cj_107, ck_212, cs_127)) am_e183 rfl rfl rfl rfl ?_
  refine x_st (i' := 149) (ls' := [.ref 99]) (st' := [.ref 107, .ref 99]) (σ' := (108, 108, 9517, X, (ci_159 I), cj_108, ck_213, cs_128)) am_e183 rfl rfl rfl rfl ?_
  refine x_st (i' := 150) (ls' := [.ref 99]) (st' := []) (σ' := (108, 108, 9517, X, (ci_159 I), cj_108, ck_214, cs_128)) am_e183 rfl rfl rfl rfl ?_
  refine x_st (i' := 151) (ls' := [.ref 99]) (st' := [.ref 99]) (σ' := (108, 108, 9517, X, (ci_159 I), cj_108, ck_214, cs_128)) am_e183 rfl rfl rfl rfl ?_
  refine x_st (i' := 152) (ls' := [.ref 99]) (st' := [.int (nI 128), .ref 99]) (σ' := (108, 108, 9517, X, (ci_159 I), cj_108, ck_214, cs_128)) am_e183 rfl rfl rfl rfl ?_
  refine x_st (i' := 153) (ls' := [.ref 99]) (st' := [.ref 108, .ref 99]) (σ' := (109, 109, 9645, X, (ci_160 I), cj_109, ck_215, cs_129)) am_e183 rfl rfl rfl rfl ?_
  refine x_st (i' := 154) (ls' := [.ref 99]) (st' := []) (σ' := (109, 109, 9645, X, (ci_160 I), cj_109, ck_216, cs_129)) am_e183 rfl rfl rfl rfl ?_
  refine x_st (i' := 155) (ls' := [.ref 99]) (st' := [.ref 99]) (σ' := (109, 109, 9645, X, (ci_160 I), cj_109, ck_216, cs_129)) am_e183 rfl rfl rfl rfl ?_
  refine x_st (i' := 156) (ls' := [.ref 99]) (st' := [.int (nI 128), .ref 99]) (σ' := (109, 109, 9645, X, (ci_160 I), cj_109, ck_216, cs_129)) am_e183 rfl rfl rfl rfl ?_
  refine x_st (i' := 157) (ls' := [.ref 99]) (st' := [.ref 109, .ref 99]) (σ' := (110, 110, 9773, X, (ci_161 I), cj_110, ck_217, cs_130)) am_e183 rfl rfl rfl rfl ?_
  refine x_st (i' := 158) (ls' := [.ref 99]) (st' := []) (σ' := (110, 110, 9773, X, (ci_161 I), cj_110, ck_218, cs_130)) am_e183 rfl rfl rfl rfl ?_
  refine x_st (i' := 159) (ls' := [.ref 99]) (st' := [.ref 99]) (σ' := (110, 110, 9773, X, (ci_161 I), cj_110, ck_218, cs_130)) am_e183 rfl rfl rfl rfl ?_
  refine x_st (i' := 160) (ls' := [.ref 99]) (st' := [.int (nI 2), .ref 99]) (σ' := (110, 110, 9773, X, (ci_161 I), cj_110, ck_218, cs_130)) am_e183 rfl rfl rfl rfl ?_
  refine x_st (i' := 161) (ls' := [.ref 99]) (st' := [.ref 110, .ref 99]) (σ' := (111, 111, 9775, X, (ci_162 I), cj_111, ck_219, cs_131)) am_e183 rfl rfl rfl rfl ?_
  refine x_st (i' := 162) (ls' := [.ref 99]) (st' := []) (σ' := (111, 111, 9775, X, (ci_162 I), cj_111, ck_220, cs_131)) am_e183 rfl rfl rfl rfl ?_
  refine x_st (i' := 163) (ls' := [.ref 99]) (st' := [.ref 99]) (σ' := (111, 111, 9775, X, (ci_162 I), cj_111, ck_220, cs_131)) am_e183 rfl rfl rfl rfl ?_
  refine x_st (i' := 164) (ls' := [.ref 99]) (st' := [.int (nI 700), .ref 99]) (σ' := (111, 111, 9775, X, (ci_162 I), cj_111, ck_220, cs_131)) am_e183 rfl rfl rfl rfl ?_
  refine x_st (i' := 165) (ls' := [.ref 99]) (st' := [.ref 111, .ref 99]) (σ' := (112, 112, 10475, X, (ci_163 I), cj_112, ck_221, cs_132)) am_e183 rfl rfl rfl rfl ?_
  refine x_st (i' := 166) (ls' := [.ref 99]) (st' := []) (σ' := (112, 112, 10475, X, (ci_163 I), cj_112, ck_222, cs_132)) am_e183 rfl rfl rfl rfl ?_
  refine x_st (i' := 167) (ls' := [.ref 99]) (st' := [.ref 99]) (σ' := (112, 112, 10475, X, (ci_163 I), cj_112, ck_222, cs_132)) am_e183 rfl rfl rfl rfl ?_
  refine x_st (i' := 168) (ls' := [.ref 99]) (st' := [.int (-1), .ref 99]) (σ' := (112, 112, 10475, X, (ci_163 I), cj_112, ck_222, cs_132)) am_e183 rfl rfl rfl rfl ?_
  refine x_st (i' := 169) (ls' := [.ref 99]) (st' := []) (σ' := (112, 112, 10475, X, (ci_164 I), cj_112, ck_222, cs_132)) am_e183 rfl rfl rfl rfl ?_
  refine x_st (i' := 170) (ls' := [.ref 99]) (st' := [.ref 99]) (σ' := (112, 112, 10475, X, (ci_164 I), cj_112, ck_222, cs_132)) am_e183 rfl rfl rfl rfl ?_
  refine x_st (i' := 171) (ls' := [.ref 99]) (st' := [.int (nI 16), .ref 99]) (σ' := (112, 112, 10475, X, (ci_164 I), cj_112, ck_222, cs_132)) am_e183 rfl rfl rfl rfl ?_
  refine x_st (i' := 172) (ls' := [.ref 99]) (st' := [.ref 112, .ref 99]) (σ' := (113, 113, 10491, X, (ci_165 I), cj_113, ck_223, cs_133)) am_e183 rfl rfl rfl rfl ?_
  refine x_st (i' := 173) (ls' := [.ref 99]) (st' := []) (σ' := (113, 113, 10491, X, (ci_165 I), cj_113, ck_224, cs_133)) am_e183 rfl rfl rfl rfl ?_
  refine x_st (i' := 174) (ls' := [.ref 99]) (st' := [.ref 99]) (σ' := (113, 113, 10491, X, (ci_165 I), cj_113, ck_224, cs_133)) am_e183 rfl rfl rfl rfl ?_
  refine x_st (i' := 175) (ls' := [.ref 99]) (st' := [.int (nI 16), .ref 99]) (σ' := (113, 113, 10491, X, (ci_165 I), cj_113, ck_224, cs_133)) am_e183 rfl rfl rfl rfl ?_
  refine x_st (i' := 176) (ls' := [.ref 99]) (st' := [.ref 113, .ref 99]) (σ' := (114, 114, 10507, X, (ci_166 I), cj_114, ck_225, cs_134)) am_e183 rfl rfl rfl rfl ?_
  refine x_st (i' := 177) (ls' := [.ref 99]) (st' := []) (σ' := (114, 114, 10507, X, (ci_166 I), cj_114, ck_226, cs_134)) am_e183 rfl rfl rfl rfl ?_
  refine x_st (i' := 178) (ls' := [.ref 99]) (st' := [.ref 99]) (σ' := (114, 114, 10507, X, (ci_166 I), cj_114, ck_226, cs_134)) am_e183 rfl rfl rfl rfl ?_
  refine x_st (i' := 179) (ls' := [.ref 99]) (st' := [.int (nI 16), .ref 99]) (σ' := (114, 114, 10507, X, (ci_166 I), cj_114, ck_226, cs_134)) am_e183 rfl rfl rfl rfl ?_
  refine x_st (i' := 180) (ls' := [.ref 99]) (st' := [.ref 114, .ref 99]) (σ' := (115, 115, 10523, X, (ci_167 I), cj_115, ck_227, cs_135)) am_e183 rfl rfl rfl rfl ?_
  refine x_st (i' := 181) (ls' := [.ref 99]) (st' := []) (σ' := (115, 115, 10523, X, (ci_167 I), cj_115, ck_228, cs_135)) am_e183 rfl rfl rfl rfl ?_
  refine x_st (i' := 182) (ls' := [.ref 99]) (st' := [.ref 99]) (σ' := (115, 115, 10523, X, (ci_167 I), cj_115, ck_228, cs_135)) am_e183 rfl rfl rfl rfl ?_
  refine x_st (i' := 183) (ls' := [.ref 99]) (st' := [.int (nI 16), .ref 99]) (σ' := (115, 115, 10523, X, (ci_167 I), cj_115, ck_228, cs_135)) am_e183 rfl rfl rfl rfl ?_
  refine x_st (i' := 184) (ls' := [.ref 99]) (st' := [.ref 115, .ref 99]) (σ' := (116, 116, 10539, X, (ci_168 I), cj_116, ck_229, cs_136)) am_e183 rfl rfl rfl rfl ?_
  refine x_st (i' := 185) (ls' := [.ref 99]) (st' := []) (σ' := (116, 116, 10539, X, (ci_168 I), cj_116, ck_230, cs_136)) am_e183 rfl rfl rfl rfl ?_
  refine x_st (i' := 186) (ls' := [.ref 99]) (st' := [.ref 99]) (σ' := (116, 116, 10539, X, (ci_168 I), cj_116, ck_230, cs_136)) am_e183 rfl rfl rfl rfl ?_
  refine x_st (i' := 187) (ls' := [.ref 99]) (st' := [.int (nI 51), .ref 99]) (σ' := (116, 116, 10539, X, (ci_168 I), cj_116, ck_230, cs_136)) am_e183 rfl rfl rfl rfl ?_
  refine x_st (i' := 188) (ls' := [.ref 99]) (st' := [.ref 116, .ref 99]) (σ' := (117, 117, 10590, X, (ci_169 I), cj_117, ck_231, cs_137)) am_e183 rfl rfl rfl rfl ?_
  refine x_st (i' := 189) (ls' := [.ref 99]) (st' := []) (σ' := (117, 117, 10590, X, (ci_169 I), cj_117, ck_232, cs_137)) am_e183 rfl rfl rfl rfl ?_
  refine x_st (i' := 190) (ls' := [.ref 99]) (st' := [.ref 99]) (σ' := (117, 117, 10590, X, (ci_169 I), cj_117, ck_232, cs_137)) am_e183 rfl rfl rfl rfl ?_
  refine x_st (i' := 191) (ls' := [.ref 99]) (st' := [.int (nI 20451), .ref 99]) (σ' := (117, 117, 10590, X, (ci_169 I), cj_117, ck_232, cs_137)) am_e183 rfl rfl rfl rfl ?_
  refine x_st (i' := 192) (ls' := [.ref 99]) (st' := [.ref 117, .ref 99]) (σ' := (118, 118, 31041, X, (ci_170 I), cj_118, ck_233, cs_138)) am_e183 rfl rfl rfl rfl ?_
  refine x_st (i' := 193) (ls' := [.ref 99]) (st' := []) (σ' := (118, 118, 31041, X, (ci_170 I), cj_118, ck_234, cs_138)) am_e183 rfl rfl rfl rfl ?_
  refine x_st (i' := 194) (ls' := [.ref 99]) (st' := [.ref 99]) (σ' := (118, 118, 31041, X, (ci_170 I), cj_118, ck_234, cs_138)) am_e183 rfl rfl rfl rfl ?_
  refine x_st (i' := 195) (ls' := [.ref 99]) (st' := [.int (nI 401), .ref 99]) (σ' := (118, 118, 31041, X, (ci_170 I), cj_118, ck_234, cs_138)) am_e183 rfl rfl rfl rfl ?_
  refine x_st (i' := 196) (ls' := [.ref 99]) (st' := [.ref 118, .ref 99]) (σ' := (119, 119, 31442, X, (ci_171 I), cj_119, ck_235, cs_139)) am_e183 rfl rfl rfl rfl ?_
  refine x_st (i' := 197) (ls' := [.ref 99]) (st' := []) (σ' := (119, 119, 31442, X, (ci_171 I), cj_119, ck_236, cs_139)) am_e183 rfl rfl rfl rfl ?_
  refine x_st (i' := 198) (ls' := [.ref 99]) (st' := [.ref 99]) (σ' := (119, 119, 31442, X, (ci_171 I), cj_119, ck_236, cs_139)) am_e183 rfl rfl rfl rfl ?_
  refine x_st (i' := 199) (ls' := [.ref 99]) (st' := [.int (nI 401), .ref 99]) (σ' := (119, 119, 31442, X, (ci_171 I), cj_119, ck_236, cs_139)) am_e183 rfl rfl rfl rfl ?_
  refine x_st (i' := 200) (ls' := [.ref 99]) (st' := [.ref 119, .ref 99]) (σ' := (120, 120, 31843, X, (ci_172 I), cj_120, ck_237, cs_140)) am_e183 rfl rfl rfl rfl ?_
  refine x_st (i' := 201) (ls' := [.ref 99]) (st' := []) (σ' := (120, 120, 31843, X, (ci_172 I), cj_120, ck_238, cs_140)) am_e183 rfl rfl rfl rfl ?_
  refine x_st (i' := 202) (ls' := [.ref 99]) (st' := [.ref 99]) (σ' := (120, 120, 31843, X, (ci_172 I), cj_120, ck_238, cs_140)) am_e183 rfl rfl rfl rfl ?_
  refine x_st (i' := 203) (ls' := [.ref 99]) (st' := [.int (nI 400), .ref 99]) (σ' := (120, 120, 31843, X, (ci_172 I), cj_120, ck_238, cs_140)) am_e183 rfl rfl rfl rfl ?_
  refine x_st (i' := 204) (ls' := [.ref 99]) (st' := [.ref 120, .ref 99]) (σ' := (121, 121, 32243, X, (ci_173 I), cj_121, ck_239, cs_141)) am_e183 rfl rfl rfl rfl ?_
  refine x_st (i' := 205) (ls' := [.ref 99]) (st' := []) (σ' := (121, 121, 32243, X, (ci_173 I), cj_121, ck_240, cs_141)) am_e183 rfl rfl rfl rfl ?_
  refine x_st (i' := 206) (ls' := [.ref 99]) (st' := [.ref 99]) (σ' := (121, 121, 32243, X, (ci_173 I), cj_121, ck_240, cs_141)) am_e183 rfl rfl rfl rfl ?_
  refine x_st (i' := 207) (ls' := [.ref 99]) (st' := [.int (nI 400), .ref 99]) (σ' := (121, 121, 32243, X, (ci_173 I), cj_121, ck_240, cs_141)) am_e183 rfl rfl rfl rfl ?_
  refine x_st (i' := 208) (ls' := [.ref 99]) (st' := [.ref 121, .ref 99]) (σ' := (122, 122, 32643, X, (ci_174 I), cj_122, ck_241, cs_142)) am_e183 rfl rfl rfl rfl ?_
  refine x_st (i' := 209) (ls' := [.ref 99]) (st' := []) (σ' := (122, 122, 32643, X, (ci_174 I), cj_122, ck_242, cs_142)) am_e183 rfl rfl rfl rfl ?_
  refine x_st (i' := 210) (ls' := [.ref 99]) (st' := [.ref 99]) (σ' := (122, 122, 32643, X, (ci_174 I), cj_122, ck_242, cs_142)) am_e183 rfl rfl rfl rfl ?_
  refine x_st (i' := 211) (ls' := [.ref 99]) (st' := [.int (nI 400), .ref 99]) (σ' := (122, 122, 32643, X, (ci_174 I), cj_122, ck_242, cs_142)) am_e183 rfl rfl rfl rfl ?_
  refine x_st (i' := 212) (ls' := [.ref 99]) (st' := [.ref 122, .ref 99]) (σ' := (123, 123, 33043, X, (ci_175 I), cj_123, ck_243, cs_143)) am_e183 rfl rfl rfl rfl ?_
  refine x_st (i' := 213) (ls' := [.ref 99]) (st' := []) (σ' := (123, 123, 33043, X, (ci_175 I), cj_123, ck_244, cs_143)) am_e183 rfl rfl rfl rfl ?_
  refine x_st (i' := 214) (ls' := [.ref 99]) (st' := [.ref 99]) (σ' := (123, 123, 33043, X, (ci_175 I), cj_123, ck_244, cs_143)) am_e183 rfl rfl rfl rfl ?_
  refine x_st (i' := 215) (ls' := [.ref 99]) (st' := [.int (nI 90), .ref 99]) (σ' := (123, 123, 33043, X, (ci_175 I), cj_123, ck_244, cs_143)) am_e183 rfl rfl rfl rfl ?_
  refine x_st (i' := 216) (ls' := [.ref 99]) (st' := [.ref 123, .ref 99]) (σ' := (124, 124, 33133, X, (ci_176 I), cj_124, ck_245, cs_144)) am_e183 rfl rfl rfl rfl ?_
  refine x_st (i' := 217) (ls' := [.ref 99]) (st' := []) (σ' := (124, 124, 33133, X, (ci_176 I), cj_124, ck_246, cs_144)) am_e183 rfl rfl rfl rfl ?_
  refine x_st (i' := 218) (ls' := [.ref 99]) (st' := [.ref 99]) (σ' := (124, 124, 33133, X, (ci_176 I), cj_124, ck_246, cs_144)) am_e183 rfl rfl rfl rfl ?_
  refine x_st (i' := 219) (ls' := [.ref 99]) (st' := [.int (nI 3), .ref 99]) (σ' := (124, 124, 33133, X, (ci_176 I), cj_124, ck_246, cs_144)) am_e183 rfl rfl rfl rfl ?_
  refine x_st (i' := 220) (ls' := [.ref 99]) (st' := [.ref 124, .ref 99]) (σ' := (125, 125, 33136, X, (ci_177 I), cj_125, ck_247, cs_145)) am_e183 rfl rfl rfl rfl ?_
  refine x_st (i' := 221) (ls' := [.ref 99]) (st' := []) (σ' := (125, 125, 33136, X, (ci_177 I), cj_125, ck_248, cs_145)) am_e183 rfl rfl rfl rfl ?_
  refine x_st (i' := 222) (ls' := [.ref 99]) (st' := [.ref 99]) (σ' := (125, 125, 33136, X, (ci_177 I), cj_125, ck_248, cs_145)) am_e183 rfl rfl rfl rfl ?_
  refine x_st (i' := 223) (ls' := [.ref 99]) (st' := [.int (nI 9), .ref 99]) (σ' := (125, 125, 33136, X, (ci_177 I), cj_125, ck_248, cs_145)) am_e183 rfl rfl rfl rfl ?_
  refine x_st (i' := 224) (ls' := [.ref 99]) (st' := [.ref 125, .ref 99]) (σ' := (126, 126, 33145, X, (ci_178 I), cj_126, ck_249, cs_146)) am_e183 rfl rfl rfl rfl ?_
  refine x_st (i' := 225) (ls' := [.ref 99]) (st' := []) (σ' := (126, 126, 33145, X, (ci_178 I), cj_126, ck_250, cs_146)) am_e183 rfl rfl rfl rfl ?_
  refine x_st (i' := 226) (ls' := [.ref 99]) (st' := [.ref 99]) (σ' := (126, 126, 33145, X, (ci_178 I), cj_126, ck_250, cs_146)) am_e183 rfl rfl rfl rfl ?_
  refine x_st (i' := 227) (ls' := [.ref 99]) (st' := [.int (nI 40), .ref 99]) (σ' := (126, 126, 33145, X, (ci_178 I), cj_126, ck_250, cs_146)) am_e183 rfl rfl rfl rfl ?_
  refine x_st (i' := 228) (ls' := [.ref 99]) (st' := [.ref 126, .ref 99]) (σ' := (127, 127, 33185, X, (ci_179 I), cj_127, ck_251, cs_147)) am_e183 rfl rfl rfl rfl ?_
  refine x_st (i' := 229) (ls' := [.ref 99]) (st' := []) (σ' := (127, 127, 33185, X, (ci_179 I), cj_127, ck_252, cs_147)) am_e183 rfl rfl rfl rfl ?_
  refine x_st (i' := 230) (ls' := [.ref 99]) (st' := [.ref 99]) (σ' := (127, 127, 33185, X, (ci_179 I), cj_127, ck_252, cs_147)) am_e183 rfl rfl rfl rfl ?_
  refine x_st (i' := 231) (ls' := [.ref 99]) (st' := [.int (nI 40), .ref 99]) (σ' := (127, 127, 33185, X, (ci_179 I), cj_127, ck_252, cs_147)) am_e183 rfl rfl rfl rfl ?_
  refine x_st (i' := 232) (ls' := [.ref 99]) (st' := [.ref 127, .ref 99]) (σ' := (128, 128, 33225, X, (ci_180 I), cj_128, ck_253, cs_148)) am_e183 rfl rfl rfl rfl ?_
  refine x_st (i' := 233) (ls' := [.ref 99]) (st' := []) (σ' := (128, 128, 33225, X, (ci_180 I), cj_128, ck_254, cs_148)) am_e183 rfl rfl rfl rfl ?_
  refine x_st (i' := 234) (ls' := [.ref 99]) (st' := [.ref 99]) (σ' := (128, 128, 33225, X, (ci_180 I), cj_128, ck_254, cs_148)) am_e183 rfl rfl rfl rfl ?_
  refine x_st (i' := 235) (ls' := [.ref 99]) (st' := [.int (nI 2807), .ref 99]) (σ' := (128, 128, 33225, X, (ci_180 I), cj_128, ck_254, cs_148)) am_e183 rfl rfl rfl rfl ?_
  refine x_st (i' := 236) (ls' := [.ref 99]) (st' := [.ref 128, .ref 99]) (σ' := (129, 129, 36032, X, (ci_181 I), cj_129, ck_255, cs_149)) am_e183 rfl rfl rfl rfl ?_
  refine x_st (i' := 237) (ls' := [.ref 99]) (st' := []) (σ' := (129, 129, 36032, X, (ci_181 I), cj_129, ck_256, cs_149)) am_e183 rfl rfl rfl rfl ?_
  refine x_st (i' := 238) (ls' := [.ref 99]) (st' := [.ref 99]) (σ' := (129, 129, 36032, X, (ci_181 I), cj_129, ck_256, cs_149)) am_e183 rfl rfl rfl rfl ?_
  refine x_st (i' := 239) (ls' := [.ref 99]) (st' := [.int (nI 401), .ref 99]) (σ' := (129, 129, 36032, X, (ci_181 I), cj_129, ck_256, cs_149)) am_e183 rfl rfl rfl rfl ?_
  refine x_st (i' := 240) (ls' := [.ref 99]) (st' := [.ref 129, .ref 99]) (σ' := (130, 130, 36433, X, (ci_182 I), cj_130, ck_257, cs_150)) am_e183 rfl rfl rfl rfl ?_
  refine x_st (i' := 241) (ls' := [.ref 99]) (st' := []) (σ' := (130, 130, 36433, X, (ci_182 I), cj_130, ck_258, cs_150)) am_e183 rfl rfl rfl rfl ?_
  refine x_st (i' := 242) (ls' := [.ref 99]) (st' := [.ref 99]) (σ' := (130, 130, 36433, X, (ci_182 I), cj_130, ck_258, cs_150)) am_e183 rfl rfl rfl rfl ?_
  refine x_st (i' := 243) (ls' := [.ref 99]) (st' := [.int (nI 4096), .ref 99]) (σ' := (130, 130, 36433, X, (ci_182 I), cj_130, ck_258, cs_150)) am_e183 rfl rfl rfl rfl ?_
  refine x_st (i' := 244) (ls' := [.ref 99]) (st' := [.ref 130, .ref 99]) (σ' := (131, 131, 40529, X, (ci_183 I), cj_131, ck_259, cs_151)) am_e183 rfl rfl rfl rfl ?_
  refine x_st (i' := 245) (ls' := [.ref 99]) (st' := []) (σ' := (131, 131, 40529, X, (ci_183 I), cj_131, ck_260, cs_151)) am_e183 rfl rfl rfl rfl ?_
  refine x_st (i' := 246) (ls' := [.ref 99]) (st' := [.ref 99]) (σ' := (131, 131, 40529, X, (ci_183 I), cj_131, ck_260, cs_151)) am_e183 rfl rfl rfl rfl ?_
  refine x_st (i' := 247) (ls' := [.ref 99]) (st' := [.int (nI 64), .ref 99]) (σ' := (131, 131, 40529, X, (ci_183 I), cj_131, ck_260, cs_151)) am_e183 rfl rfl rfl rfl ?_
  refine x_st (i' := 248) (ls' := [.ref 99]) (st' := [.ref 131, .ref 99]) (σ' := (132, 132, 40593, X, (ci_184 I), cj_132, ck_261, cs_152)) am_e183 rfl rfl rfl rfl ?_
  refine x_st (i' := 249) (ls' := [.ref 99]) (st' := []) (σ' := (132, 132, 40593, X, (ci_184 I), cj_132, ck_262, cs_152)) am_e183 rfl rfl rfl rfl ?_
  refine x_st (i' := 250) (ls' := [.ref 99]) (st' := [.ref 99]) (σ' := (132, 132, 40593, X, (ci_184 I), cj_132, ck_262, cs_152)) am_e183 rfl rfl rfl rfl ?_
  refine x_st (i' := 251) (ls' := [.ref 99]) (st' := [.int (nI 64), .ref 99]) (σ' := (132, 132, 40593, X, (ci_184 I), cj_132, ck_262, cs_152)) am_e183 rfl rfl rfl rfl ?_
  refine x_st (i' := 252) (ls' := [.ref 99]) (st' := [.ref 132, .ref 99]) (σ' := (133, 133, 40657, X, (ci_185 I), cj_133, ck_263, cs_153)) am_e183 rfl rfl rfl rfl ?_
  refine x_st (i' := 253) (ls' := [.ref 99]) (st' := []) (σ' := (133, 133, 40657, X, (ci_185 I), cj_133, ck_264, cs_153)) am_e183 rfl rfl rfl rfl ?_
  refine x_st (i' := 254) (ls' := [.ref 99]) (st' := [.ref 99]) (σ' := (133, 133, 40657, X, (ci_185 I), cj_133, ck_264, cs_153)) am_e183 rfl rfl rfl rfl ?_
  refine x_st (i' := 255) (ls' := [.ref 99]) (st' := [.int (nI 112), .ref 99]) (σ' := (133, 133, 40657, X, (ci_185 I), cj_133, ck_264, cs_153)) am_e183 rfl rfl rfl rfl ?_
  refine x_st (i' := 256) (ls' := [.ref 99]) (st' := [.ref 133, .ref 99]) (σ' := (134, 134, 40769, X, (ci_186 I), cj_134, ck_265, cs_154)) am_e183 rfl rfl rfl rfl ?_
  refine x_st (i' := 257) (ls' := [.ref 99]) (st' := []) (σ' := (134, 134, 40769, X, (ci_186 I), cj_134, ck_266, cs_154)) am_e183 rfl rfl rfl rfl ?_
  refine x_st (i' := 258) (ls' := [.ref 99]) (st' := [.ref 99]) (σ' := (134, 134, 40769, X, (ci_186 I), cj_134, ck_266, cs_154)) am_e183 rfl rfl rfl rfl ?_
  refine x_st (i' := 259) (ls' := [.ref 99]) (st' := [.int (nI 20451), .ref 99]) (σ' := (134, 134, 40769, X, (ci_186 I), cj_134, ck_266, cs_154)) am_e183 rfl rfl rfl rfl ?_
  refine x_st (i' := 260) (ls' := [.ref 99]) (st' := [.ref 134, .ref 99]) (σ' := (135, 135, 61220, X, (ci_187 I), cj_135, ck_267, cs_155)) am_e183 rfl rfl rfl rfl ?_
  refine x_st (i' := 261) (ls' := [.ref 99]) (st' := []) (σ' := (135, 135, 61220, X, (ci_187 I), cj_135, ck_268, cs_155)) am_e183 rfl rfl rfl rfl ?_
  refine x_st (i' := 262) (ls' := [.ref 99]) (st' := [.ref 99]) (σ' := (135, 135, 61220, X, (ci_187 I), cj_135, ck_268, cs_155)) am_e183 rfl rfl rfl rfl ?_
  refine x_st (i' := 263) (ls' := [.ref 99]) (st' := [.int (nI 401), .ref 99]) (σ' := (135, 135, 61220, X, (ci_187 I), cj_135, ck_268, cs_155)) am_e183 rfl rfl rfl rfl ?_
  refine x_st (i' := 264) (ls' := [.ref 99]) (st' := [.ref 135, .ref 99]) (σ' := (136, 136, 61621, X, (ci_188 I), cj_136, ck_269, cs_156)) am_e183 rfl rfl rfl rfl ?_
  refine x_st (i' := 265) (ls' := [.ref 99]) (st' := []) (σ' := (136, 136, 61621, X, (ci_188 I), cj_136, ck_270, cs_156)) am_e183 rfl rfl rfl rfl ?_
  refine x_st (i' := 266) (ls' := [.ref 99]) (st' := [.ref 99]) (σ' := (136, 136, 61621, X, (ci_188 I), cj_136, ck_270, cs_156)) am_e183 rfl rfl rfl rfl ?_
  refine x_st (i' := 267) (ls' := [.ref 99]) (st' := [.int (nI 401), .ref 99]) (σ' := (136, 136, 61621, X, (ci_188 I), cj_136, ck_270, cs_156)) am_e183 rfl rfl rfl rfl ?_
  refine x_st (i' := 268) (ls' := [.ref 99]) (st' := [.ref 136, .ref 99]) (σ' := (137, 137, 62022, X, (ci_189 I), cj_137, ck_271, cs_157)) am_e183 rfl rfl rfl rfl ?_
  refine x_st (i' := 269) (ls' := [.ref 99]) (st' := []) (σ' := (137, 137, 62022, X, (ci_189 I), cj_137, ck_272, cs_157)) am_e183 rfl rfl rfl rfl ?_
  refine x_st (i' := 270) (ls' := [.ref 99]) (st' := [.ref 99]) (σ' := (137, 137, 62022, X, (ci_189 I), cj_137, ck_272, cs_157)) am_e183 rfl rfl rfl rfl ?_
  refine x_st (i' := 271) (ls' := [.ref 99]) (st' := [.int (nI 400), .ref 99]) (σ' := (137, 137, 62022, X, (ci_189 I), cj_137, ck_272, cs_157)) am_e183 rfl rfl rfl rfl ?_
  refine x_st (i' := 272) (ls' := [.ref 99]) (st' := [.ref 137, .ref 99]) (σ' := (138, 138, 62422, X, (ci_190 I), cj_138, ck_273, cs_158)) am_e183 rfl rfl rfl rfl ?_
  refine x_st (i' := 273) (ls' := [.ref 99]) (st' := []) (σ' := (138, 138, 62422, X, (ci_190 I), cj_138, ck_274, cs_158)) am_e183 rfl rfl rfl rfl ?_
  refine x_st (i' := 274) (ls' := [.ref 99]) (st' := [.ref 99]) (σ' := (138, 138, 62422, X, (ci_190 I), cj_138, ck_274, cs_158)) am_e183 rfl rfl rfl rfl ?_
  refine x_st (i' := 275) (ls' := [.ref 99]) (st' := [.int (nI 400), .ref 99]) (σ' := (138, 138, 62422, X, (ci_190 I), cj_138, ck_274, cs_158)) am_e183 rfl rfl rfl rfl ?_
  refine x_st (i' := 276) (ls' := [.ref 99]) (st' := [.ref 138, .ref 99]) (σ' := (139, 139, 62822, X, (ci_191 I), cj_139, ck_275, cs_159)) am_e183 rfl rfl rfl rfl ?_
  refine x_st (i' := 277) (ls' := [.ref 99]) (st' := []) (σ' := (139, 139, 62822, X, (ci_191 I), cj_139, ck_276, cs_159)) am_e183 rfl rfl rfl rfl ?_
  refine x_st (i' := 278) (ls' := [.ref 99]) (st' := [.ref 99]) (σ' := (139, 139, 62822, X, (ci_191 I), cj_139, ck_276, cs_159)) am_e183 rfl rfl rfl rfl ?_
  refine x_st (i' := 279) (ls' := [.ref 99]) (st' := [.int (nI 400), .ref 99]) (σ' := (139, 139, 62822, X, (ci_191 I), cj_139, ck_276, cs_159)) am_e183 rfl rfl rfl rfl ?_
  refine x_st (i' := 280) (ls' := [.ref 99]) (st' := [.ref 139, .ref 99]) (σ' := (140, 140, 63222, X, (ci_192 I), cj_140, ck_277, cs_160)) am_e183 rfl rfl rfl rfl ?_
  refine x_st (i' := 281) (ls' := [.ref 99]) (st' := []) (σ' := (140, 140, 63222, X, (ci_192 I), cj_140, ck_278, cs_160)) am_e183 rfl rfl rfl rfl ?_
  refine x_st (i' := 282) (ls' := [.ref 99]) (st' := [.ref 99]) (σ' := (140, 140, 63222, X, (ci_192 I), cj_140, ck_278, cs_160)) am_e183 rfl rfl rfl rfl ?_
  refine x_st (i' := 283) (ls' := [.ref 99]) (st' := [.int (nI 90), .ref 99]) (σ' := (140, 140, 63222, X, (ci_192 I), cj_140, ck_278, cs_160)) am_e183 rfl rfl rfl rfl ?_
  refine x_st (i' := 284) (ls' := [.ref 99]) (st' := [.ref 140, .ref 99]) (σ' := (141, 141, 63312, X, (ci_193 I), cj_141, ck_279, cs_161)) am_e183 rfl rfl rfl rfl ?_
  refine x_st (i' := 285) (ls' := [.ref 99]) (st' := []) (σ' := (141, 141, 63312, X, (ci_193 I), cj_141, ck_280, cs_161)) am_e183 rfl rfl rfl rfl ?_
  refine x_st (i' := 286) (ls' := [.ref 99]) (st' := [.ref 99]) (σ' := (141, 141, 63312, X, (ci_193 I), cj_141, ck_280, cs_161)) am_e183 rfl rfl rfl rfl ?_
  refine x_st (i' := 287) (ls' := [.ref 99]) (st' := [.int (nI 3), .ref 99]) (σ' := (141, 141, 63312, X, (ci_193 I), cj_141, ck_280, cs_161)) am_e183 rfl rfl rfl rfl ?_
  refine x_st (i' := 288) (ls' := [.ref 99]) (st' := [.ref 141, .ref 99]) (σ' := (142, 142, 63315, X, (ci_194 I), cj_142, ck_281, cs_162)) am_e183 rfl rfl rfl rfl ?_
  refine x_st (i' := 289) (ls' := [.ref 99]) (st' := []) (σ' := (142, 142, 63315, X, (ci_194 I), cj_142, ck_282, cs_162)) am_e183 rfl rfl rfl rfl ?_
  refine x_st (i' := 290) (ls' := [.ref 99]) (st' := [.ref 99]) (σ' := (142, 142, 63315, X, (ci_194 I), cj_142, ck_282, cs_162)) am_e183 rfl rfl rfl rfl ?_
  refine x_st (i' := 291) (ls' := [.ref 99]) (st' := [.int (nI 40), .ref 99]) (σ' := (142, 142, 63315, X, (ci_194 I), cj_142, ck_282, cs_162)) am_e183 rfl rfl rfl rfl ?_
  refine x_st (i' := 292) (ls' := [.ref 99]) (st' := [.ref 142, .ref 99]) (σ' := (143, 143, 63355, X, (ci_195 I), cj_143, ck_283, cs_163)) am_e183 rfl rfl rfl rfl ?_
  refine x_st (i' := 293) (ls' := [.ref 99]) (st' := []) (σ' := (143, 143, 63355, X, (ci_195 I), cj_143, ck_284, cs_163)) am_e183 rfl rfl rfl rfl ?_
  refine x_st (i' := 294) (ls' := [.ref 99]) (st' := [.ref 99]) (σ' := (143, 143, 63355, X, (ci_195 I), cj_143, ck_284, cs_163)) am_e183 rfl rfl rfl rfl ?_
  refine x_st (i' := 295) (ls' := [.ref 99]) (st' := [.int (nI 40), .ref 99]) (σ' := (143, 143, 63355, X, (ci_195 I), cj_143, ck_284, cs_163)) am_e183 rfl rfl rfl rfl ?_
  refine x_st (i' := 296) (ls' := [.ref 99]) (st' := [.ref 143, .ref 99]) (σ' := (144, 144, 63395, X, (ci_196 I), cj_144, ck_285, cs_164)) am_e183 rfl rfl rfl rfl ?_
  refine x_st (i' := 297) (ls' := [.ref 99]) (st' := []) (σ' := (144, 144, 63395, X, (ci_196 I), cj_144, ck_286, cs_164)) am_e183 rfl rfl rfl rfl ?_
  refine x_st (i' := 298) (ls' := [.ref 99]) (st' := [.ref 99]) (σ' := (144, 144, 63395, X, (ci_196 I), cj_144, ck_286, cs_164)) am_e183 rfl rfl rfl rfl ?_
  refine x_st (i' := 299) (ls' := [.ref 99]) (st' := [.int (nI 2), .ref 99]) (σ' := (144, 144, 63395, X, (ci_196 I), cj_144, ck_286, cs_164)) am_e183 rfl rfl rfl rfl ?_
  refine x_st (i' := 300) (ls' := [.ref 99]) (st' := [.ref 144, .ref 99]) (σ' := (145, 145, 63397, X, (ci_197 I), cj_145, ck_287, cs_165)) am_e183 rfl rfl rfl rfl ?_
  refine x_st (i' := 301) (ls' := [.ref 99]) (st' := []) (σ' := (145, 145, 63397, X, (ci_197 I), cj_145, ck_288, cs_165)) am_e183 rfl rfl rfl rfl ?_
  refine x_st (i' := 302) (ls' := [.ref 99]) (st' := [.ref 99]) (σ' := (145, 145, 63397, X, (ci_197 I), cj_145, ck_288, cs_165)) am_e183 rfl rfl rfl rfl ?_
  refine x_st (i' := 303) (ls' := [.ref 99]) (st' := [.ref 99, .ref 99]) (σ' := (145, 145, 63397, X, (ci_197 I), cj_145, ck_288, cs_165)) am_e183 rfl rfl rfl rfl ?_
  refine x_st (i' := 304) (ls' := [.ref 99]) (st' := [.ref 103, .ref 99]) (σ' := (145, 145, 63397, X, (ci_197 I), cj_145, ck_288, cs_165)) am_e183 rfl rfl rfl rfl ?_
  refine x_st (i' := 305) (ls' := [.ref 99]) (st' := [.int (nI 1), .ref 103, .ref 99]) (σ' := (145, 145, 63397, X, (ci_197 I), cj_145, ck_288, cs_165)) am_e183 rfl rfl rfl rfl ?_
  refine x_st (i' := 306) (ls' := [.ref 99]) (st' := [.int ((ci_197 I) 103 1), .ref 99]) (σ' := (145, 145, 63397, X, (ci_197 I), cj_145, ck_288, cs_165)) am_e183 rfl rfl rfl rfl ?_
  refine x_cV am_e183 rfl rfl (as := [.ref 99, .int ((ci_197 I) 103 1)]) (rest := []) rfl rfl ?_
  show am_wp 184 0 [.ref 99, .int ((ci_197 I) 103 1), am_U] [] (145, 145, 63397, X, (ci_197 I), cj_145, ck_288, cs_165) _
  rw [show ck_288 = am_kk from ck_eq5]
  refine x_184 hI (fun I hI => ?_)
  show am_wp 183 307 [.ref 99] [] (145, 145, 63397, X, I, cj_145, am_kk, cs_165) _
  refine x_st (i' := 308) (ls' := [.ref 99]) (st' := [.ref 99]) (σ' := (145, 145, 63397, X, I, cj_145, am_kk, cs_165)) am_e183 rfl rfl rfl rfl ?_
  refine x_st (i' := 309) (ls' := [.ref 99]) (st' := [.int (nI 0), .ref 99]) (σ' := (145, 145, 63397, X, I, cj_145, am_kk, cs_165)) am_e183 rfl rfl rfl rfl ?_
  refine x_cV am_e183 rfl rfl (as := [.ref 99, .int (nI 0)]) (rest := []) rfl rfl ?_
  show am_wp 185 0 [.ref 99, .int (nI 0), am_U] [] (145, 145, 63397, X, I, cj_145, am_kk, cs_165) _
  refine x_185 hI (fun I hI => ?_)
  show am_wp 183 310 [.ref 99] [] (145, 145, 63397, X, I, cj_145, am_kk, cs_165) _
  refine x_end am_e183 rfl rfl rfl ⟨rfl, ?_⟩
  show am_wp 291 7 [.ref 1000000, .ref 0, am_U, am_U, am_U, am_U, am_U] [.ref 99] (145, 145, 63397, X, I, cj_145, am_kk, cs_165) _
  refine x_st (i' := 8) (ls' := [.ref 1000000, .ref 0, .ref 99, am_U, am_U, am_U, am_U]) (st' := []) (σ' := (145, 145, 63397, X, I, cj_145, am_kk, cs_165)) am_e291 rfl rfl rfl rfl ?_
  refine x_st (i' := 9) (ls' := [.ref 1000000, .ref 0, .ref 99, am_U, am_U, am_U, am_U]) (st' := [.int (nI 1)]) (σ' := (145, 145, 63397, X, I, cj_145, am_kk, cs_165)) am_e291 rfl rfl rfl rfl ?_
  refine x_st (i' := 10) (ls' := [.ref 1000000, .ref 0, .ref 99, am_U, am_U, am_U, am_U]) (st' := [.ref 145]) (σ' := (146, 146, 63398, X, (ci_198 I), cj_146, ck_289, cs_166)) am_e291 rfl rfl rfl rfl ?_
  refine x_st (i' := 11) (ls' := [.ref 1000000, .ref 0, .ref 99, .ref 145, am_U, am_U, am_U]) (st' := []) (σ' := (146, 146, 63398, X, (ci_198 I), cj_146, ck_289, cs_166)) am_e291 rfl rfl rfl rfl ?_
  refine x_st (i' := 12) (ls' := [.ref 1000000, .ref 0, .ref 99, .ref 145, am_U, am_U, am_U]) (st' := [.int (nI 0)]) (σ' := (146, 146, 63398, X, (ci_198 I), cj_146, ck_289, cs_166)) am_e291 rfl rfl rfl rfl ?_
  refine x_st (i' := 13) (ls' := [.ref 1000000, .ref 0, .ref 99, .ref 145, .int (nI 0), am_U, am_U]) (st' := []) (σ' := (146, 146, 63398, X, (ci_198 I), cj_146, ck_289, cs_166)) am_e291 rfl rfl rfl rfl ?_
  rw [show ck_289 = am_kk from ck_eq6]
  exact hq I hI
