/-! rows of methods, by program -/
-- 58 program
theorem g58_0 {p2 : Int32} {E : am_Ev} {I : Nat → Nat → Int32} {J : Nat → Nat → Int64} {S : Nat → Nat → Option Nat} {Q : am_Qt}  (h : am_cl 59 [.ref 0, .int p2] E I J S (fun r E1 I1 J1 S1 => match r with | .inl w => ∃ v1, w = some (.int v1) ∧ (Q (.inl (some (.int (nI 0)))) E1 I1 (u_J J1 145 (vp_updL (J1 145) 0 v1.toInt64)) S1) | .inr e => ∃ n, am_hd 58 e = some n ∧ Q (.inl (some (.int (nI n)))) E1 I1 J1 S1)) : am_ww 58 0 [.ref 0, .int p2, .ref 145, am_U] [] E I J S Q := by
  refine w_st (i' := 1) (ls' := [.ref 0, .int p2, .ref 145, am_U]) (st' := [.ref 145]) (E' := E) (I' := I) (J' := J) (S' := S) am_e58 rfl rfl rfl rfl ?_
  refine w_st (i' := 2) (ls' := [.ref 0, .int p2, .ref 145, am_U]) (st' := [.int (nI 0), .ref 145]) (E' := E) (I' := I) (J' := J) (S' := S) am_e58 rfl rfl rfl rfl ?_
  refine w_st (i' := 3) (ls' := [.ref 0, .int p2, .ref 145, am_U]) (st' := [.ref 0, .int (nI 0), .ref 145]) (E' := E) (I' := I) (J' := J) (S' := S) am_e58 rfl rfl rfl rfl ?_
  refine w_st (i' := 4) (ls' := [.ref 0, .int p2, .ref 145, am_U]) (st' := [.int p2, .ref 0, .int (nI 0), .ref 145]) (E' := E) (I' := I) (J' := J) (S' := S) am_e58 rfl rfl rfl rfl ?_
  refine w_cH am_e58 rfl rfl (as := [.ref 0, .int p2]) (rest := [.int (nI 0), .ref 145]) rfl rfl (am_ww.mono h ?_)
  intro r E1 I1 J1 S1 h
  cases r with
  | inr e => exact h
  | inl w =>
    obtain ⟨v1, rfl, h⟩ := h
    refine w_st (i' := 6) (ls' := [.ref 0, .int p2, .ref 145, am_U]) (st' := [.long v1.toInt64, .int (nI 0), .ref 145]) (E' := E1) (I' := I1) (J' := J1) (S' := S1) am_e58 rfl rfl rfl rfl ?_
    refine w_ls (k := 145) (n := 1) (jn := 0) am_e58 rfl rfl (by decide) (vp_in_nI (by decide) (by decide)) rfl ?_
    show am_ww 58 7 [.ref 0, .int p2, .ref 145, am_U] [] E1 I1 (u_J J1 145 (vp_updL (J1 145) 0 v1.toInt64)) S1 _
    refine w_st (i' := 11) (ls' := [.ref 0, .int p2, .ref 145, am_U]) (st' := []) (E' := E1) (I' := I1) (J' := (u_J J1 145 (vp_updL (J1 145) 0 v1.toInt64))) (S' := S1) am_e58 rfl rfl rfl rfl ?_
    refine w_st (i' := 12) (ls' := [.ref 0, .int p2, .ref 145, am_U]) (st' := [.int (nI 0)]) (E' := E1) (I' := I1) (J' := (u_J J1 145 (vp_updL (J1 145) 0 v1.toInt64))) (S' := S1) am_e58 rfl rfl rfl rfl ?_
    exact w_end am_e58 rfl rfl rfl h
-- 97 count
theorem g97_0 {p2 : Int32} {E : am_Ev} {I : Nat → Nat → Int32} {J : Nat → Nat → Int64} {S : Nat → Nat → Option Nat} {Q : am_Qt}  (h : am_cl 98 [.ref 0, .int p2] E I J S (fun r E1 I1 J1 S1 => match r with | .inl w => ∃ v1, w = some (.int v1) ∧ (Q (.inl (some (.int (nI 0)))) E1 I1 (u_J J1 145 (vp_updL (J1 145) 0 v1.toInt64)) S1) | .inr e => ∃ n, am_hd 97 e = some n ∧ Q (.inl (some (.int (nI n)))) E1 I1 J1 S1)) : am_ww 97 0 [.ref 0, .int p2, .ref 145, am_U] [] E I J S Q := by
  refine w_st (i' := 1) (ls' := [.ref 0, .int p2, .ref 145, am_U]) (st' := [.ref 145]) (E' := E) (I' := I) (J' := J) (S' := S) am_e97 rfl rfl rfl rfl ?_
  refine w_st (i' := 2) (ls' := [.ref 0, .int p2, .ref 145, am_U]) (st' := [.int (nI 0), .ref 145]) (E' := E) (I' := I) (J' := J) (S' := S) am_e97 rfl rfl rfl rfl ?_
  refine w_st (i' := 3) (ls' := [.ref 0, .int p2, .ref 145, am_U]) (st' := [.ref 0, .int (nI 0), .ref 145]) (E' := E) (I' := I) (J' := J) (S' := S) am_e97 rfl rfl rfl rfl ?_
  refine w_st (i' := 4) (ls' := [.ref 0, .int p2, .ref 145, am_U]) (st' := [.int p2, .ref 0, .int (nI 0), .ref 145]) (E' := E) (I' := I) (J' := J) (S' := S) am_e97 rfl rfl rfl rfl ?_
  refine w_cH am_e97 rfl rfl (as := [.ref 0, .int p2]) (rest := [.int (nI 0), .ref 145]) rfl rfl (am_ww.mono h ?_)
  intro r E1 I1 J1 S1 h
  cases r with
  | inr e => exact h
  | inl w =>
    obtain ⟨v1, rfl, h⟩ := h
    refine w_st (i' := 6) (ls' := [.ref 0, .int p2, .ref 145, am_U]) (st' := [.long v1.toInt64, .int (nI 0), .ref 145]) (E' := E1) (I' := I1) (J' := J1) (S' := S1) am_e97 rfl rfl rfl rfl ?_
    refine w_ls (k := 145) (n := 1) (jn := 0) am_e97 rfl rfl (by decide) (vp_in_nI (by decide) (by decide)) rfl ?_
    show am_ww 97 7 [.ref 0, .int p2, .ref 145, am_U] [] E1 I1 (u_J J1 145 (vp_updL (J1 145) 0 v1.toInt64)) S1 _
    refine w_st (i' := 11) (ls' := [.ref 0, .int p2, .ref 145, am_U]) (st' := []) (E' := E1) (I' := I1) (J' := (u_J J1 145 (vp_updL (J1 145) 0 v1.toInt64))) (S' := S1) am_e97 rfl rfl rfl rfl ?_
    refine w_st (i' := 12) (ls' := [.ref 0, .int p2, .ref 145, am_U]) (st' := [.int (nI 0)]) (E' := E1) (I' := I1) (J' := (u_J J1 145 (vp_updL (J1 145) 0 v1.toInt64))) (S' := S1) am_e97 rfl rfl rfl rfl ?_
    exact w_end am_e97 rfl rfl rfl h
-- 109 set
theorem g109_0 {p2 : Int32} {E : am_Ev} {I : Nat → Nat → Int32} {J : Nat → Nat → Int64} {S : Nat → Nat → Option Nat} {Q : am_Qt}  (h : am_cl 110 [.ref 0, .int p2] E I J S (fun r E1 I1 J1 S1 => match r with | .inl w => ∃ v1, w = some (.int v1) ∧ (Q (.inl (some (.int (nI 0)))) E1 I1 (u_J J1 145 (vp_updL (J1 145) 0 v1.toInt64)) S1) | .inr e => ∃ n, am_hd 109 e = some n ∧ Q (.inl (some (.int (nI n)))) E1 I1 J1 S1)) : am_ww 109 0 [.ref 0, .int p2, .ref 145, am_U] [] E I J S Q := by
  refine w_st (i' := 1) (ls' := [.ref 0, .int p2, .ref 145, am_U]) (st' := [.ref 145]) (E' := E) (I' := I) (J' := J) (S' := S) am_e109 rfl rfl rfl rfl ?_
  refine w_st (i' := 2) (ls' := [.ref 0, .int p2, .ref 145, am_U]) (st' := [.int (nI 0), .ref 145]) (E' := E) (I' := I) (J' := J) (S' := S) am_e109 rfl rfl rfl rfl ?_
  refine w_st (i' := 3) (ls' := [.ref 0, .int p2, .ref 145, am_U]) (st' := [.ref 0, .int (nI 0), .ref 145]) (E' := E) (I' := I) (J' := J) (S' := S) am_e109 rfl rfl rfl rfl ?_
  refine w_st (i' := 4) (ls' := [.ref 0, .int p2, .ref 145, am_U]) (st' := [.int p2, .ref 0, .int (nI 0), .ref 145]) (E' := E) (I' := I) (J' := J) (S' := S) am_e109 rfl rfl rfl rfl ?_
  refine w_cH am_e109 rfl rfl (as := [.ref 0, .int p2]) (rest := [.int (nI 0), .ref 145]) rfl rfl (am_ww.mono h ?_)
  intro r E1 I1 J1 S1 h
  cases r with
  | inr e => exact h
  | inl w =>
    obtain ⟨v1, rfl, h⟩ := h
    refine w_st (i' := 6) (ls' := [.ref 0, .int p2, .ref 145, am_U]) (st' := [.long v1.toInt64, .int (nI 0), .ref 145]) (E' := E1) (I' := I1) (J' := J1) (S' := S1) am_e109 rfl rfl rfl rfl ?_
    refine w_ls (k := 145) (n := 1) (jn := 0) am_e109 rfl rfl (by decide) (vp_in_nI (by decide) (by decide)) rfl ?_
    show am_ww 109 7 [.ref 0, .int p2, .ref 145, am_U] [] E1 I1 (u_J J1 145 (vp_updL (J1 145) 0 v1.toInt64)) S1 _
    refine w_st (i' := 11) (ls' := [.ref 0, .int p2, .ref 145, am_U]) (st' := []) (E' := E1) (I' := I1) (J' := (u_J J1 145 (vp_updL (J1 145) 0 v1.toInt64))) (S' := S1) am_e109 rfl rfl rfl rfl ?_
    refine w_st (i' := 12) (ls' := [.ref 0, .int p2, .ref 145, am_U]) (st' := [.int (nI 0)]) (E' := E1) (I' := I1) (J' := (u_J J1 145 (vp_updL (J1 145) 0 v1.toInt64))) (S' := S1) am_e109 rfl rfl rfl rfl ?_
    exact w_end am_e109 rfl rfl rfl h
-- 111 switched
theorem g111_0 {p2 : Int32} {p3 : Int32} {E : am_Ev} {I : Nat → Nat → Int32} {J : Nat → Nat → Int64} {S : Nat → Nat → Option Nat} {Q : am_Qt}  (h : am_cl 112 [.ref 0, .int p2, .int p3] E I J S (fun r E1 I1 J1 S1 => match r with | .inl w => ∃ v1, w = some (.int v1) ∧ (Q (.inl (some (.int (nI 0)))) E1 I1 (u_J J1 145 (vp_updL (J1 145) 0 v1.toInt64)) S1) | .inr e => ∃ n, am_hd 111 e = some n ∧ Q (.inl (some (.int (nI n)))) E1 I1 J1 S1)) : am_ww 111 0 [.ref 0, .int p2, .int p3, .ref 145, am_U] [] E I J S Q := by
  refine w_st (i' := 1) (ls' := [.ref 0, .int p2, .int p3, .ref 145, am_U]) (st' := [.ref 145]) (E' := E) (I' := I) (J' := J) (S' := S) am_e111 rfl rfl rfl rfl ?_
  refine w_st (i' := 2) (ls' := [.ref 0, .int p2, .int p3, .ref 145, am_U]) (st' := [.int (nI 0), .ref 145]) (E' := E) (I' := I) (J' := J) (S' := S) am_e111 rfl rfl rfl rfl ?_
  refine w_st (i' := 3) (ls' := [.ref 0, .int p2, .int p3, .ref 145, am_U]) (st' := [.ref 0, .int (nI 0), .ref 145]) (E' := E) (I' := I) (J' := J) (S' := S) am_e111 rfl rfl rfl rfl ?_
  refine w_st (i' := 4) (ls' := [.ref 0, .int p2, .int p3, .ref 145, am_U]) (st' := [.int p2, .ref 0, .int (nI 0), .ref 145]) (E' := E) (I' := I) (J' := J) (S' := S) am_e111 rfl rfl rfl rfl ?_
  refine w_st (i' := 5) (ls' := [.ref 0, .int p2, .int p3, .ref 145, am_U]) (st' := [.int p3, .int p2, .ref 0, .int (nI 0), .ref 145]) (E' := E) (I' := I) (J' := J) (S' := S) am_e111 rfl rfl rfl rfl ?_
  refine w_cH am_e111 rfl rfl (as := [.ref 0, .int p2, .int p3]) (rest := [.int (nI 0), .ref 145]) rfl rfl (am_ww.mono h ?_)
  intro r E1 I1 J1 S1 h
  cases r with
  | inr e => exact h
  | inl w =>
    obtain ⟨v1, rfl, h⟩ := h
    refine w_st (i' := 7) (ls' := [.ref 0, .int p2, .int p3, .ref 145, am_U]) (st' := [.long v1.toInt64, .int (nI 0), .ref 145]) (E' := E1) (I' := I1) (J' := J1) (S' := S1) am_e111 rfl rfl rfl rfl ?_
    refine w_ls (k := 145) (n := 1) (jn := 0) am_e111 rfl rfl (by decide) (vp_in_nI (by decide) (by decide)) rfl ?_
    show am_ww 111 8 [.ref 0, .int p2, .int p3, .ref 145, am_U] [] E1 I1 (u_J J1 145 (vp_updL (J1 145) 0 v1.toInt64)) S1 _
    refine w_st (i' := 12) (ls' := [.ref 0, .int p2, .int p3, .ref 145, am_U]) (st' := []) (E' := E1) (I' := I1) (J' := (u_J J1 145 (vp_updL (J1 145) 0 v1.toInt64))) (S' := S1) am_e111 rfl rfl rfl rfl ?_
    refine w_st (i' := 13) (ls' := [.ref 0, .int p2, .int p3, .ref 145, am_U]) (st' := [.int (nI 0)]) (E' := E1) (I' := I1) (J' := (u_J J1 145 (vp_updL (J1 145) 0 v1.toInt64))) (S' := S1) am_e111 rfl rfl rfl rfl ?_
    exact w_end am_e111 rfl rfl rfl h
-- 113 input
theorem g113_0 {p2 : Int32} {p3 : Int32} {E : am_Ev} {I : Nat → Nat → Int32} {J : Nat → Nat → Int64} {S : Nat → Nat → Option Nat} {Q : am_Qt}  (h : am_cl 114 [.ref 0, .int p2, .int p3] E I J S (fun r E1 I1 J1 S1 => match r with | .inl w => ∃ v1, w = some (.int v1) ∧ (Q (.inl (some (.int (nI 0)))) E1 I1 (u_J J1 145 (vp_updL (J1 145) 0 v1.toInt64)) S1) | .inr e => ∃ n, am_hd 113 e = some n ∧ Q (.inl (some (.int (nI n)))) E1 I1 J1 S1)) : am_ww 113 0 [.ref 0, .int p2, .int p3, .ref 145, am_U] [] E I J S Q := by
  refine w_st (i' := 1) (ls' := [.ref 0, .int p2, .int p3, .ref 145, am_U]) (st' := [.ref 145]) (E' := E) (I' := I) (J' := J) (S' := S) am_e113 rfl rfl rfl rfl ?_
  refine w_st (i' := 2) (ls' := [.ref 0, .int p2, .int p3, .ref 145, am_U]) (st' := [.int (nI 0), .ref 145]) (E' := E) (I' := I) (J' := J) (S' := S) am_e113 rfl rfl rfl rfl ?_
  refine w_st (i' := 3) (ls' := [.ref 0, .int p2, .int p3, .ref 145, am_U]) (st' := [.ref 0, .int (nI 0), .ref 145]) (E' := E) (I' := I) (J' := J) (S' := S) am_e113 rfl rfl rfl rfl ?_
  refine w_st (i' := 4) (ls' := [.ref 0, .int p2, .int p3, .ref 145, am_U]) (st' := [.int p2, .ref 0, .int (nI 0), .ref 145]) (E' := E) (I' := I) (J' := J) (S' := S) am_e113 rfl rfl rfl rfl ?_
  refine w_st (i' := 5) (ls' := [.ref 0, .int p2, .int p3, .ref 145, am_U]) (st' := [.int p3, .int p2, .ref 0, .int (nI 0), .ref 145]) (E' := E) (I' := I) (J' := J) (S' := S) am_e113 rfl rfl rfl rfl ?_
  refine w_cH am_e113 rfl rfl (as := [.ref 0, .int p2, .int p3]) (rest := [.int (nI 0), .ref 145]) rfl rfl (am_ww.mono h ?_)
  intro r E1 I1 J1 S1 h
  cases r with
  | inr e => exact h
  | inl w =>
    obtain ⟨v1, rfl, h⟩ := h
    refine w_st (i' := 7) (ls' := [.ref 0, .int p2, .int p3, .ref 145, am_U]) (st' := [.long v1.toInt64, .int (nI 0), .ref 145]) (E' := E1) (I' := I1) (J' := J1) (S' := S1) am_e113 rfl rfl rfl rfl ?_
    refine w_ls (k := 145) (n := 1) (jn := 0) am_e113 rfl rfl (by decide) (vp_in_nI (by decide) (by decide)) rfl ?_
    show am_ww 113 8 [.ref 0, .int p2, .int p3, .ref 145, am_U] [] E1 I1 (u_J J1 145 (vp_updL (J1 145) 0 v1.toInt64)) S1 _
    refine w_st (i' := 12) (ls' := [.ref 0, .int p2, .int p3, .ref 145, am_U]) (st' := []) (E' := E1) (I' := I1) (J' := (u_J J1 145 (vp_updL (J1 145) 0 v1.toInt64))) (S' := S1) am_e113 rfl rfl rfl rfl ?_
    refine w_st (i' := 13) (ls' := [.ref 0, .int p2, .int p3, .ref 145, am_U]) (st' := [.int (nI 0)]) (E' := E1) (I' := I1) (J' := (u_J J1 145 (vp_updL (J1 145) 0 v1.toInt64))) (S' := S1) am_e113 rfl rfl rfl rfl ?_
    exact w_end am_e113 rfl rfl rfl h
-- 116 digest
theorem g116_0 {p2 : Int32} {E : am_Ev} {I : Nat → Nat → Int32} {J : Nat → Nat → Int64} {S : Nat → Nat → Option Nat} {Q : am_Qt}  (h : am_cl 117 [.ref 0, .int p2] E I J S (fun r E1 I1 J1 S1 => match r with | .inl w => ∃ v1, w = some (.int v1) ∧ (Q (.inl (some (.int (nI 0)))) E1 I1 (u_J J1 145 (vp_updL (J1 145) 0 v1.toInt64)) S1) | .inr e => ∃ n, am_hd 116 e = some n ∧ Q (.inl (some (.int (nI n)))) E1 I1 J1 S1)) : am_ww 116 0 [.ref 0, .int p2, .ref 145, am_U] [] E I J S Q := by
  refine w_st (i' := 1) (ls' := [.ref 0, .int p2, .ref 145, am_U]) (st' := [.ref 145]) (E' := E) (I' := I) (J' := J) (S' := S) am_e116 rfl rfl rfl rfl ?_
  refine w_st (i' := 2) (ls' := [.ref 0, .int p2, .ref 145, am_U]) (st' := [.int (nI 0), .ref 145]) (E' := E) (I' := I) (J' := J) (S' := S) am_e116 rfl rfl rfl rfl ?_
  refine w_st (i' := 3) (ls' := [.ref 0, .int p2, .ref 145, am_U]) (st' := [.ref 0, .int (nI 0), .ref 145]) (E' := E) (I' := I) (J' := J) (S' := S) am_e116 rfl rfl rfl rfl ?_
  refine w_st (i' := 4) (ls' := [.ref 0, .int p2, .ref 145, am_U]) (st' := [.int p2, .ref 0, .int (nI 0), .ref 145]) (E' := E) (I' := I) (J' := J) (S' := S) am_e116 rfl rfl rfl rfl ?_
  refine w_cH am_e116 rfl rfl (as := [.ref 0, .int p2]) (rest := [.int (nI 0), .ref 145]) rfl rfl (am_ww.mono h ?_)
  intro r E1 I1 J1 S1 h
  cases r with
  | inr e => exact h
  | inl w =>
    obtain ⟨v1, rfl, h⟩ := h
    refine w_st (i' := 6) (ls' := [.ref 0, .int p2, .ref 145, am_U]) (st' := [.long v1.toInt64, .int (nI 0), .ref 145]) (E' := E1) (I' := I1) (J' := J1) (S' := S1) am_e116 rfl rfl rfl rfl ?_
    refine w_ls (k := 145) (n := 1) (jn := 0) am_e116 rfl rfl (by decide) (vp_in_nI (by decide) (by decide)) rfl ?_
    show am_ww 116 7 [.ref 0, .int p2, .ref 145, am_U] [] E1 I1 (u_J J1 145 (vp_updL (J1 145) 0 v1.toInt64)) S1 _
    refine w_st (i' := 11) (ls' := [.ref 0, .int p2, .ref 145, am_U]) (st' := []) (E' := E1) (I' := I1) (J' := (u_J J1 145 (vp_updL (J1 145) 0 v1.toInt64))) (S' := S1) am_e116 rfl rfl rfl rfl ?_
    refine w_st (i' := 12) (ls' := [.ref 0, .int p2, .ref 145, am_U]) (st' := [.int (nI 0)]) (E' := E1) (I' := I1) (J' := (u_J J1 145 (vp_updL (J1 145) 0 v1.toInt64))) (S' := S1) am_e116 rfl rfl rfl rfl ?_
    exact w_end am_e116 rfl rfl rfl h
-- 118 snapshot
theorem g118_0 {p2 : Int32} {E : am_Ev} {I : Nat → Nat → Int32} {J : Nat → Nat → Int64} {S : Nat → Nat → Option Nat} {Q : am_Qt}  (h : am_cl 119 [.ref 0, .int p2] E I J S (fun r E1 I1 J1 S1 => match r with | .inl w => ∃ v1, w = some (.int v1) ∧ (Q (.inl (some (.int (nI 0)))) E1 I1 (u_J J1 145 (vp_updL (J1 145) 0 v1.toInt64)) S1) | .inr e => ∃ n, am_hd 118 e = some n ∧ Q (.inl (some (.int (nI n)))) E1 I1 J1 S1)) : am_ww 118 0 [.ref 0, .int p2, .ref 145, am_U] [] E I J S Q := by
  refine w_st (i' := 1) (ls' := [.ref 0, .int p2, .ref 145, am_U]) (st' := [.ref 145]) (E' := E) (I' := I) (J' := J) (S' := S) am_e118 rfl rfl rfl rfl ?_
  refine w_st (i' := 2) (ls' := [.ref 0, .int p2, .ref 145, am_U]) (st' := [.int (nI 0), .ref 145]) (E' := E) (I' := I) (J' := J) (S' := S) am_e118 rfl rfl rfl rfl ?_
  refine w_st (i' := 3) (ls' := [.ref 0, .int p2, .ref 145, am_U]) (st' := [.ref 0, .int (nI 0), .ref 145]) (E' := E) (I' := I) (J' := J) (S' := S) am_e118 rfl rfl rfl rfl ?_
  refine w_st (i' := 4) (ls' := [.ref 0, .int p2, .ref 145, am_U]) (st' := [.int p2, .ref 0, .int (nI 0), .ref 145]) (E' := E) (I' := I) (J' := J) (S' := S) am_e118 rfl rfl rfl rfl ?_
  refine w_cH am_e118 rfl rfl (as := [.ref 0, .int p2]) (rest := [.int (nI 0), .ref 145]) rfl rfl (am_ww.mono h ?_)
  intro r E1 I1 J1 S1 h
  cases r with
  | inr e => exact h
  | inl w =>
    obtain ⟨v1, rfl, h⟩ := h
    refine w_st (i' := 6) (ls' := [.ref 0, .int p2, .ref 145, am_U]) (st' := [.long v1.toInt64, .int (nI 0), .ref 145]) (E' := E1) (I' := I1) (J' := J1) (S' := S1) am_e118 rfl rfl rfl rfl ?_
    refine w_ls (k := 145) (n := 1) (jn := 0) am_e118 rfl rfl (by decide) (vp_in_nI (by decide) (by decide)) rfl ?_
    show am_ww 118 7 [.ref 0, .int p2, .ref 145, am_U] [] E1 I1 (u_J J1 145 (vp_updL (J1 145) 0 v1.toInt64)) S1 _
    refine w_st (i' := 11) (ls' := [.ref 0, .int p2, .ref 145, am_U]) (st' := []) (E' := E1) (I' := I1) (J' := (u_J J1 145 (vp_updL (J1 145) 0 v1.toInt64))) (S' := S1) am_e118 rfl rfl rfl rfl ?_
    refine w_st (i' := 12) (ls' := [.ref 0, .int p2, .ref 145, am_U]) (st' := [.int (nI 0)]) (E' := E1) (I' := I1) (J' := (u_J J1 145 (vp_updL (J1 145) 0 v1.toInt64))) (S' := S1) am_e118 rfl rfl rfl rfl ?_
    exact w_end am_e118 rfl rfl rfl h
-- 120 seek
theorem g120_0 {p2 : Int32} {E : am_Ev} {I : Nat → Nat → Int32} {J : Nat → Nat → Int64} {S : Nat → Nat → Option Nat} {Q : am_Qt}  (h : am_cl 121 [.ref 0, .int p2] E I J S (fun r E1 I1 J1 S1 => match r with | .inl w => ∃ v1, w = some (.int v1) ∧ (Q (.inl (some (.int (nI 0)))) E1 I1 (u_J J1 145 (vp_updL (J1 145) 0 v1.toInt64)) S1) | .inr e => ∃ n, am_hd 120 e = some n ∧ Q (.inl (some (.int (nI n)))) E1 I1 J1 S1)) : am_ww 120 0 [.ref 0, .int p2, .ref 145, am_U] [] E I J S Q := by
  refine w_st (i' := 1) (ls' := [.ref 0, .int p2, .ref 145, am_U]) (st' := [.ref 145]) (E' := E) (I' := I) (J' := J) (S' := S) am_e120 rfl rfl rfl rfl ?_
  refine w_st (i' := 2) (ls' := [.ref 0, .int p2, .ref 145, am_U]) (st' := [.int (nI 0), .ref 145]) (E' := E) (I' := I) (J' := J) (S' := S) am_e120 rfl rfl rfl rfl ?_
  refine w_st (i' := 3) (ls' := [.ref 0, .int p2, .ref 145, am_U]) (st' := [.ref 0, .int (nI 0), .ref 145]) (E' := E) (I' := I) (J' := J) (S' := S) am_e120 rfl rfl rfl rfl ?_
  refine w_st (i' := 4) (ls' := [.ref 0, .int p2, .ref 145, am_U]) (st' := [.int p2, .ref 0, .int (nI 0), .ref 145]) (E' := E) (I' := I) (J' := J) (S' := S) am_e120 rfl rfl rfl rfl ?_
  refine w_cH am_e120 rfl rfl (as := [.ref 0, .int p2]) (rest := [.int (nI 0), .ref 145]) rfl rfl (am_ww.mono h ?_)
  intro r E1 I1 J1 S1 h
  cases r with
  | inr e => exact h
  | inl w =>
    obtain ⟨v1, rfl, h⟩ := h
    refine w_st (i' := 6) (ls' := [.ref 0, .int p2, .ref 145, am_U]) (st' := [.long v1.toInt64, .int (nI 0), .ref 145]) (E' := E1) (I' := I1) (J' := J1) (S' := S1) am_e120 rfl rfl rfl rfl ?_
    refine w_ls (k := 145) (n := 1) (jn := 0) am_e120 rfl rfl (by decide) (vp_in_nI (by decide) (by decide)) rfl ?_
    show am_ww 120 7 [.ref 0, .int p2, .ref 145, am_U] [] E1 I1 (u_J J1 145 (vp_updL (J1 145) 0 v1.toInt64)) S1 _
    refine w_st (i' := 11) (ls' := [.ref 0, .int p2, .ref 145, am_U]) (st' := []) (E' := E1) (I' := I1) (J' := (u_J J1 145 (vp_updL (J1 145) 0 v1.toInt64))) (S' := S1) am_e120 rfl rfl rfl rfl ?_
    refine w_st (i' := 12) (ls' := [.ref 0, .int p2, .ref 145, am_U]) (st' := [.int (nI 0)]) (E' := E1) (I' := I1) (J' := (u_J J1 145 (vp_updL (J1 145) 0 v1.toInt64))) (S' := S1) am_e120 rfl rfl rfl rfl ?_
    exact w_end am_e120 rfl rfl rfl h
-- 122 cell
theorem g122_0 {p2 : Int32} {E : am_Ev} {I : Nat → Nat → Int32} {J : Nat → Nat → Int64} {S : Nat → Nat → Option Nat} {Q : am_Qt}  (h : am_cl 123 [.ref 0, .int p2] E I J S (fun r E1 I1 J1 S1 => match r with | .inl w => ∃ v1, w = some (.int v1) ∧ (Q (.inl (some (.int (nI 0)))) E1 I1 (u_J J1 145 (vp_updL (J1 145) 0 v1.toInt64)) S1) | .inr e => ∃ n, am_hd 122 e = some n ∧ Q (.inl (some (.int (nI n)))) E1 I1 J1 S1)) : am_ww 122 0 [.ref 0, .int p2, .ref 145, am_U] [] E I J S Q := by
  refine w_st (i' := 1) (ls' := [.ref 0, .int p2, .ref 145, am_U]) (st' := [.ref 145]) (E' := E) (I' := I) (J' := J) (S' := S) am_e122 rfl rfl rfl rfl ?_
  refine w_st (i' := 2) (ls' := [.ref 0, .int p2, .ref 145, am_U]) (st' := [.int (nI 0), .ref 145]) (E' := E) (I' := I) (J' := J) (S' := S) am_e122 rfl rfl rfl rfl ?_
  refine w_st (i' := 3) (ls' := [.ref 0, .int p2, .ref 145, am_U]) (st' := [.ref 0, .int (nI 0), .ref 145]) (E' := E) (I' := I) (J' := J) (S' := S) am_e122 rfl rfl rfl rfl ?_
  refine w_st (i' := 4) (ls' := [.ref 0, .int p2, .ref 145, am_U]) (st' := [.int p2, .ref 0, .int (nI 0), .ref 145]) (E' := E) (I' := I) (J' := J) (S' := S) am_e122 rfl rfl rfl rfl ?_
  refine w_cH am_e122 rfl rfl (as := [.ref 0, .int p2]) (rest := [.int (nI 0), .ref 145]) rfl rfl (am_ww.mono h ?_)
  intro r E1 I1 J1 S1 h
  cases r with
  | inr e => exact h
  | inl w =>
    obtain ⟨v1, rfl, h⟩ := h
    refine w_st (i' := 6) (ls' := [.ref 0, .int p2, .ref 145, am_U]) (st' := [.long v1.toInt64, .int (nI 0), .ref 145]) (E' := E1) (I' := I1) (J' := J1) (S' := S1) am_e122 rfl rfl rfl rfl ?_
    refine w_ls (k := 145) (n := 1) (jn := 0) am_e122 rfl rfl (by decide) (vp_in_nI (by decide) (by decide)) rfl ?_
    show am_ww 122 7 [.ref 0, .int p2, .ref 145, am_U] [] E1 I1 (u_J J1 145 (vp_updL (J1 145) 0 v1.toInt64)) S1 _
    refine w_st (i' := 11) (ls' := [.ref 0, .int p2, .ref 145, am_U]) (st' := []) (E' := E1) (I' := I1) (J' := (u_J J1 145 (vp_updL (J1 145) 0 v1.toInt64))) (S' := S1) am_e122 rfl rfl rfl rfl ?_
    refine w_st (i' := 12) (ls' := [.ref 0, .int p2, .ref 145, am_U]) (st' := [.int (nI 0)]) (E' := E1) (I' := I1) (J' := (u_J J1 145 (vp_updL (J1 145) 0 v1.toInt64))) (S' := S1) am_e122 rfl rfl rfl rfl ?_
    exact w_end am_e122 rfl rfl rfl h
-- 125 thread
theorem g125_0 {p2 : Int32} {p3 : Int32} {E : am_Ev} {I : Nat → Nat → Int32} {J : Nat → Nat → Int64} {S : Nat → Nat → Option Nat} {Q : am_Qt}  (h : am_cl 126 [.ref 0, .int p2, .int p3] E I J S (fun r E1 I1 J1 S1 => match r with | .inl w => ∃ v1, w = some (.int v1) ∧ (Q (.inl (some (.int (nI 0)))) E1 I1 (u_J J1 145 (vp_updL (J1 145) 0 v1.toInt64)) S1) | .inr e => ∃ n, am_hd 125 e = some n ∧ Q (.inl (some (.int (nI n)))) E1 I1 J1 S1)) : am_ww 125 0 [.ref 0, .int p2, .int p3, .ref 145, am_U] [] E I J S Q := by
  refine w_st (i' := 1) (ls' := [.ref 0, .int p2, .int p3, .ref 145, am_U]) (st' := [.ref 145]) (E' := E) (I' := I) (J' := J) (S' := S) am_e125 rfl rfl rfl rfl ?_
  refine w_st (i' := 2) (ls' := [.ref 0, .int p2, .int p3, .ref 145, am_U]) (st' := [.int (nI 0), .ref 145]) (E' := E) (I' := I) (J' := J) (S' := S) am_e125 rfl rfl rfl rfl ?_
  refine w_st (i' := 3) (ls' := [.ref 0, .int p2, .int p3, .ref 145, am_U]) (st' := [.ref 0, .int (nI 0), .ref 145]) (E' := E) (I' := I) (J' := J) (S' := S) am_e125 rfl rfl rfl rfl ?_
  refine w_st (i' := 4) (ls' := [.ref 0, .int p2, .int p3, .ref 145, am_U]) (st' := [.int p2, .ref 0, .int (nI 0), .ref 145]) (E' := E) (I' := I) (J' := J) (S' := S) am_e125 rfl rfl rfl rfl ?_
  refine w_st (i' := 5) (ls' := [.ref 0, .int p2, .int p3, .ref 145, am_U]) (st' := [.int p3, .int p2, .ref 0, .int (nI 0), .ref 145]) (E' := E) (I' := I) (J' := J) (S' := S) am_e125 rfl rfl rfl rfl ?_
  refine w_cH am_e125 rfl rfl (as := [.ref 0, .int p2, .int p3]) (rest := [.int (nI 0), .ref 145]) rfl rfl (am_ww.mono h ?_)
  intro r E1 I1 J1 S1 h
  cases r with
  | inr e => exact h
  | inl w =>
    obtain ⟨v1, rfl, h⟩ := h
    refine w_st (i' := 7) (ls' := [.ref 0, .int p2, .int p3, .ref 145, am_U]) (st' := [.long v1.toInt64, .int (nI 0), .ref 145]) (E' := E1) (I' := I1) (J' := J1) (S' := S1) am_e125 rfl rfl rfl rfl ?_
    refine w_ls (k := 145) (n := 1) (jn := 0) am_e125 rfl rfl (by decide) (vp_in_nI (by decide) (by decide)) rfl ?_
    show am_ww 125 8 [.ref 0, .int p2, .int p3, .ref 145, am_U] [] E1 I1 (u_J J1 145 (vp_updL (J1 145) 0 v1.toInt64)) S1 _
    refine w_st (i' := 12) (ls' := [.ref 0, .int p2, .int p3, .ref 145, am_U]) (st' := []) (E' := E1) (I' := I1) (J' := (u_J J1 145 (vp_updL (J1 145) 0 v1.toInt64))) (S' := S1) am_e125 rfl rfl rfl rfl ?_
    refine w_st (i' := 13) (ls' := [.ref 0, .int p2, .int p3, .ref 145, am_U]) (st' := [.int (nI 0)]) (E' := E1) (I' := I1) (J' := (u_J J1 145 (vp_updL (J1 145) 0 v1.toInt64))) (S' := S1) am_e125 rfl rfl rfl rfl ?_
    exact w_end am_e125 rfl rfl rfl h
-- 128 lock
theorem g128_0 {p2 : Int32} {E : am_Ev} {I : Nat → Nat → Int32} {J : Nat → Nat → Int64} {S : Nat → Nat → Option Nat} {Q : am_Qt}  (h : am_cl 129 [.ref 0, .int p2] E I J S (fun r E1 I1 J1 S1 => match r with | .inl w => ∃ v1, w = some (.int v1) ∧ (Q (.inl (some (.int (nI 0)))) E1 I1 (u_J J1 145 (vp_updL (J1 145) 0 v1.toInt64)) S1) | .inr e => ∃ n, am_hd 128 e = some n ∧ Q (.inl (some (.int (nI n)))) E1 I1 J1 S1)) : am_ww 128 0 [.ref 0, .int p2, .ref 145, am_U] [] E I J S Q := by
  refine w_st (i' := 1) (ls' := [.ref 0, .int p2, .ref 145, am_U]) (st' := [.ref 145]) (E' := E) (I' := I) (J' := J) (S' := S) am_e128 rfl rfl rfl rfl ?_
  refine w_st (i' := 2) (ls' := [.ref 0, .int p2, .ref 145, am_U]) (st' := [.int (nI 0), .ref 145]) (E' := E) (I' := I) (J' := J) (S' := S) am_e128 rfl rfl rfl rfl ?_
  refine w_st (i' := 3) (ls' := [.ref 0, .int p2, .ref 145, am_U]) (st' := [.ref 0, .int (nI 0), .ref 145]) (E' := E) (I' := I) (J' := J) (S' := S) am_e128 rfl rfl rfl rfl ?_
  refine w_st (i' := 4) (ls' := [.ref 0, .int p2, .ref 145, am_U]) (st' := [.int p2, .ref 0, .int (nI 0), .ref 145]) (E' := E) (I' := I) (J' := J) (S' := S) am_e128 rfl rfl rfl rfl ?_
  refine w_cH am_e128 rfl rfl (as := [.ref 0, .int p2]) (rest := [.int (nI 0), .ref 145]) rfl rfl (am_ww.mono h ?_)
  intro r E1 I1 J1 S1 h
  cases r with
  | inr e => exact h
  | inl w =>
    obtain ⟨v1, rfl, h⟩ := h
    refine w_st (i' := 6) (ls' := [.ref 0, .int p2, .ref 145, am_U]) (st' := [.long v1.toInt64, .int (nI 0), .ref 145]) (E' := E1) (I' := I1) (J' := J1) (S' := S1) am_e128 rfl rfl rfl rfl ?_
    refine w_ls (k := 145) (n := 1) (jn := 0) am_e128 rfl rfl (by decide) (vp_in_nI (by decide) (by decide)) rfl ?_
    show am_ww 128 7 [.ref 0, .int p2, .ref 145, am_U] [] E1 I1 (u_J J1 145 (vp_updL (J1 145) 0 v1.toInt64)) S1 _
    refine w_st (i' := 11) (ls' := [.ref 0, .int p2, .ref 145, am_U]) (st' := []) (E' := E1) (I' := I1) (J' := (u_J J1 145 (vp_updL (J1 145) 0 v1.toInt64))) (S' := S1) am_e128 rfl rfl rfl rfl ?_
    refine w_st (i' := 12) (ls' := [.ref 0, .int p2, .ref 145, am_U]) (st' := [.int (nI 0)]) (E' := E1) (I' := I1) (J' := (u_J J1 145 (vp_updL (J1 145) 0 v1.toInt64))) (S' := S1) am_e128 rfl rfl rfl rfl ?_
    exact w_end am_e128 rfl rfl rfl h
-- 130 back
theorem g130_0 {p2 : Int32} {p3 : Int32} {E : am_Ev} {I : Nat → Nat → Int32} {J : Nat → Nat → Int64} {S : Nat → Nat → Option Nat} {Q : am_Qt}  (h : am_cl 131 [.ref 0, .int p2, .int p3] E I J S (fun r E1 I1 J1 S1 => match r with | .inl w => ∃ v1, w = some (.int v1) ∧ (Q (.inl (some (.int (nI 0)))) E1 I1 (u_J J1 145 (vp_updL (J1 145) 0 v1.toInt64)) S1) | .inr e => ∃ n, am_hd 130 e = some n ∧ Q (.inl (some (.int (nI n)))) E1 I1 J1 S1)) : am_ww 130 0 [.ref 0, .int p2, .int p3, .ref 145, am_U] [] E I J S Q := by
  refine w_st (i' := 1) (ls' := [.ref 0, .int p2, .int p3, .ref 145, am_U]) (st' := [.ref 145]) (E' := E) (I' := I) (J' := J) (S' := S) am_e130 rfl rfl rfl rfl ?_
  refine w_st (i' := 2) (ls' := [.ref 0, .int p2, .int p3, .ref 145, am_U]) (st' := [.int (nI 0), .ref 145]) (E' := E) (I' := I) (J' := J) (S' := S) am_e130 rfl rfl rfl rfl ?_
  refine w_st (i' := 3) (ls' := [.ref 0, .int p2, .int p3, .ref 145, am_U]) (st' := [.ref 0, .int (nI 0), .ref 145]) (E' := E) (I' := I) (J' := J) (S' := S) am_e130 rfl rfl rfl rfl ?_
  refine w_st (i' := 4) (ls' := [.ref 0, .int p2, .int p3, .ref 145, am_U]) (st' := [.int p2, .ref 0, .int (nI 0), .ref 145]) (E' := E) (I' := I) (J' := J) (S' := S) am_e130 rfl rfl rfl rfl ?_
  refine w_st (i' := 5) (ls' := [.ref 0, .int p2, .int p3, .ref 145, am_U]) (st' := [.int p3, .int p2, .ref 0, .int (nI 0), .ref 145]) (E' := E) (I' := I) (J' := J) (S' := S) am_e130 rfl rfl rfl rfl ?_
  refine w_cH am_e130 rfl rfl (as := [.ref 0, .int p2, .int p3]) (rest := [.int (nI 0), .ref 145]) rfl rfl (am_ww.mono h ?_)
  intro r E1 I1 J1 S1 h
  cases r with
  | inr e => exact h
  | inl w =>
    obtain ⟨v1, rfl, h⟩ := h
    refine w_st (i' := 7) (ls' := [.ref 0, .int p2, .int p3, .ref 145, am_U]) (st' := [.long v1.toInt64, .int (nI 0), .ref 145]) (E' := E1) (I' := I1) (J' := J1) (S' := S1) am_e130 rfl rfl rfl rfl ?_
    refine w_ls (k := 145) (n := 1) (jn := 0) am_e130 rfl rfl (by decide) (vp_in_nI (by decide) (by decide)) rfl ?_
    show am_ww 130 8 [.ref 0, .int p2, .int p3, .ref 145, am_U] [] E1 I1 (u_J J1 145 (vp_updL (J1 145) 0 v1.toInt64)) S1 _
    refine w_st (i' := 12) (ls' := [.ref 0, .int p2, .int p3, .ref 145, am_U]) (st' := []) (E' := E1) (I' := I1) (J' := (u_J J1 145 (vp_updL (J1 145) 0 v1.toInt64))) (S' := S1) am_e130 rfl rfl rfl rfl ?_
    refine w_st (i' := 13) (ls' := [.ref 0, .int p2, .int p3, .ref 145, am_U]) (st' := [.int (nI 0)]) (E' := E1) (I' := I1) (J' := (u_J J1 145 (vp_updL (J1 145) 0 v1.toInt64))) (S' := S1) am_e130 rfl rfl rfl rfl ?_
    exact w_end am_e130 rfl rfl rfl h
-- 133 on
theorem g133_0 {p2 : Int32} {p3 : Int32} {E : am_Ev} {I : Nat → Nat → Int32} {J : Nat → Nat → Int64} {S : Nat → Nat → Option Nat} {Q : am_Qt}  (h : am_cl 134 [.ref 0, .int p2, .int p3] E I J S (fun r E1 I1 J1 S1 => match r with | .inl w => ∃ v1, w = some (.int v1) ∧ (Q (.inl (some (.int (nI 0)))) E1 I1 (u_J J1 145 (vp_updL (J1 145) 0 v1.toInt64)) S1) | .inr e => ∃ n, am_hd 133 e = some n ∧ Q (.inl (some (.int (nI n)))) E1 I1 J1 S1)) : am_ww 133 0 [.ref 0, .int p2, .int p3, .ref 145, am_U] [] E I J S Q := by
  refine w_st (i' := 1) (ls' := [.ref 0, .int p2, .int p3, .ref 145, am_U]) (st' := [.ref 145]) (E' := E) (I' := I) (J' := J) (S' := S) am_e133 rfl rfl rfl rfl ?_
  refine w_st (i' := 2) (ls' := [.ref 0, .int p2, .int p3, .ref 145, am_U]) (st' := [.int (nI 0), .ref 145]) (E' := E) (I' := I) (J' := J) (S' := S) am_e133 rfl rfl rfl rfl ?_
  refine w_st (i' := 3) (ls' := [.ref 0, .int p2, .int p3, .ref 145, am_U]) (st' := [.ref 0, .int (nI 0), .ref 145]) (E' := E) (I' := I) (J' := J) (S' := S) am_e133 rfl rfl rfl rfl ?_
  refine w_st (i' := 4) (ls' := [.ref 0, .int p2, .int p3, .ref 145, am_U]) (st' := [.int p2, .ref 0, .int (nI 0), .ref 145]) (E' := E) (I' := I) (J' := J) (S' := S) am_e133 rfl rfl rfl rfl ?_
  refine w_st (i' := 5) (ls' := [.ref 0, .int p2, .int p3, .ref 145, am_U]) (st' := [.int p3, .int p2, .ref 0, .int (nI 0), .ref 145]) (E' := E) (I' := I) (J' := J) (S' := S) am_e133 rfl rfl rfl rfl ?_
  refine w_cH am_e133 rfl rfl (as := [.ref 0, .int p2, .int p3]) (rest := [.int (nI 0), .ref 145]) rfl rfl (am_ww.mono h ?_)
  intro r E1 I1 J1 S1 h
  cases r with
  | inr e => exact h
  | inl w =>
    obtain ⟨v1, rfl, h⟩ := h
    refine w_st (i' := 7) (ls' := [.ref 0, .int p2, .int p3, .ref 145, am_U]) (st' := [.long v1.toInt64, .int (nI 0), .ref 145]) (E' := E1) (I' := I1) (J' := J1) (S' := S1) am_e133 rfl rfl rfl rfl ?_
    refine w_ls (k := 145) (n := 1) (jn := 0) am_e133 rfl rfl (by decide) (vp_in_nI (by decide) (by decide)) rfl ?_
    show am_ww 133 8 [.ref 0, .int p2, .int p3, .ref 145, am_U] [] E1 I1 (u_J J1 145 (vp_updL (J1 145) 0 v1.toInt64)) S1 _
    refine w_st (i' := 12) (ls' := [.ref 0, .int p2, .int p3, .ref 145, am_U]) (st' := []) (E' := E1) (I' := I1) (J' := (u_J J1 145 (vp_updL (J1 145) 0 v1.toInt64))) (S' := S1) am_e133 rfl rfl rfl rfl ?_
    refine w_st (i' := 13) (ls' := [.ref 0, .int p2, .int p3, .ref 145, am_U]) (st' := [.int (nI 0)]) (E' := E1) (I' := I1) (J' := (u_J J1 145 (vp_updL (J1 145) 0 v1.toInt64))) (S' := S1) am_e133 rfl rfl rfl rfl ?_
    exact w_end am_e133 rfl rfl rfl h
-- 135 last
theorem g135_0 {p2 : Int32} {p3 : Int32} {E : am_Ev} {I : Nat → Nat → Int32} {J : Nat → Nat → Int64} {S : Nat → Nat → Option Nat} {Q : am_Qt}  (h : am_cl 136 [.ref 0, .int p2, .int p3] E I J S (fun r E1 I1 J1 S1 => match r with | .inl w => ∃ v1, w = some (.int v1) ∧ (Q (.inl (some (.int (nI 0)))) E1 I1 (u_J J1 145 (vp_updL (J1 145) 0 v1.toInt64)) S1) | .inr e => ∃ n, am_hd 135 e = some n ∧ Q (.inl (some (.int (nI n)))) E1 I1 J1 S1)) : am_ww 135 0 [.ref 0, .int p2, .int p3, .ref 145, am_U] [] E I J S Q := by
  refine w_st (i' := 1) (ls' := [.ref 0, .int p2, .int p3, .ref 145, am_U]) (st' := [.ref 145]) (E' := E) (I' := I) (J' := J) (S' := S) am_e135 rfl rfl rfl rfl ?_
  refine w_st (i' := 2) (ls' := [.ref 0, .int p2, .int p3, .ref 145, am_U]) (st' := [.int (nI 0), .ref 145]) (E' := E) (I' := I) (J' := J) (S' := S) am_e135 rfl rfl rfl rfl ?_
  refine w_st (i' := 3) (ls' := [.ref 0, .int p2, .int p3, .ref 145, am_U]) (st' := [.ref 0, .int (nI 0), .ref 145]) (E' := E) (I' := I) (J' := J) (S' := S) am_e135 rfl rfl rfl rfl ?_
  refine w_st (i' := 4) (ls' := [.ref 0, .int p2, .int p3, .ref 145, am_U]) (st' := [.int p2, .ref 0, .int (nI 0), .ref 145]) (E' := E) (I' := I) (J' := J) (S' := S) am_e135 rfl rfl rfl rfl ?_
  refine w_st (i' := 5) (ls' := [.ref 0, .int p2, .int p3, .ref 145, am_U]) (st' := [.int p3, .int p2, .ref 0, .int (nI 0), .ref 145]) (E' := E) (I' := I) (J' := J) (S' := S) am_e135 rfl rfl rfl rfl ?_
  refine w_cH am_e135 rfl rfl (as := [.ref 0, .int p2, .int p3]) (rest := [.int (nI 0), .ref 145]) rfl rfl (am_ww.mono h ?_)
  intro r E1 I1 J1 S1 h
  cases r with
  | inr e => exact h
  | inl w =>
    obtain ⟨v1, rfl, h⟩ := h
    refine w_st (i' := 7) (ls' := [.ref 0, .int p2, .int p3, .ref 145, am_U]) (st' := [.long v1.toInt64, .int (nI 0), .ref 145]) (E' := E1) (I' := I1) (J' := J1) (S' := S1) am_e135 rfl rfl rfl rfl ?_
    refine w_ls (k := 145) (n := 1) (jn := 0) am_e135 rfl rfl (by decide) (vp_in_nI (by decide) (by decide)) rfl ?_
    show am_ww 135 8 [.ref 0, .int p2, .int p3, .ref 145, am_U] [] E1 I1 (u_J J1 145 (vp_updL (J1 145) 0 v1.toInt64)) S1 _
    refine w_st (i' := 12) (ls' := [.ref 0, .int p2, .int p3, .ref 145, am_U]) (st' := []) (E' := E1) (I' := I1) (J' := (u_J J1 145 (vp_updL (J1 145) 0 v1.toInt64))) (S' := S1) am_e135 rfl rfl rfl rfl ?_
    refine w_st (i' := 13) (ls' := [.ref 0, .int p2, .int p3, .ref 145, am_U]) (st' := [.int (nI 0)]) (E' := E1) (I' := I1) (J' := (u_J J1 145 (vp_updL (J1 145) 0 v1.toInt64))) (S' := S1) am_e135 rfl rfl rfl rfl ?_
    exact w_end am_e135 rfl rfl rfl h
-- 139 held
theorem g139_0 {p2 : Int32} {E : am_Ev} {I : Nat → Nat → Int32} {J : Nat → Nat → Int64} {S : Nat → Nat → Option Nat} {Q : am_Qt}  (h : am_cl 140 [.ref 0, .int p2] E I J S (fun r E1 I1 J1 S1 => match r with | .inl w => ∃ v1, w = some (.int v1) ∧ (Q (.inl (some (.int (nI 0)))) E1 I1 (u_J J1 145 (vp_updL (J1 145) 0 v1.toInt64)) S1) | .inr e => ∃ n, am_hd 139 e = some n ∧ Q (.inl (some (.int (nI n)))) E1 I1 J1 S1)) : am_ww 139 0 [.ref 0, .int p2, .ref 145, am_U] [] E I J S Q := by
  refine w_st (i' := 1) (ls' := [.ref 0, .int p2, .ref 145, am_U]) (st' := [.ref 145]) (E' := E) (I' := I) (J' := J) (S' := S) am_e139 rfl rfl rfl rfl ?_
  refine w_st (i' := 2) (ls' := [.ref 0, .int p2, .ref 145, am_U]) (st' := [.int (nI 0), .ref 145]) (E' := E) (I' := I) (J' := J) (S' := S) am_e139 rfl rfl rfl rfl ?_
  refine w_st (i' := 3) (ls' := [.ref 0, .int p2, .ref 145, am_U]) (st' := [.ref 0, .int (nI 0), .ref 145]) (E' := E) (I' := I) (J' := J) (S' := S) am_e139 rfl rfl rfl rfl ?_
  refine w_st (i' := 4) (ls' := [.ref 0, .int p2, .ref 145, am_U]) (st' := [.int p2, .ref 0, .int (nI 0), .ref 145]) (E' := E) (I' := I) (J' := J) (S' := S) am_e139 rfl rfl rfl rfl ?_
  refine w_cH am_e139 rfl rfl (as := [.ref 0, .int p2]) (rest := [.int (nI 0), .ref 145]) rfl rfl (am_ww.mono h ?_)
  intro r E1 I1 J1 S1 h
  cases r with
  | inr e => exact h
  | inl w =>
    obtain ⟨v1, rfl, h⟩ := h
    refine w_st (i' := 6) (ls' := [.ref 0, .int p2, .ref 145, am_U]) (st' := [.long v1.toInt64, .int (nI 0), .ref 145]) (E' := E1) (I' := I1) (J' := J1) (S' := S1) am_e139 rfl rfl rfl rfl ?_
    refine w_ls (k := 145) (n := 1) (jn := 0) am_e139 rfl rfl (by decide) (vp_in_nI (by decide) (by decide)) rfl ?_
    show am_ww 139 7 [.ref 0, .int p2, .ref 145, am_U] [] E1 I1 (u_J J1 145 (vp_updL (J1 145) 0 v1.toInt64)) S1 _
    refine w_st (i' := 11) (ls' := [.ref 0, .int p2, .ref 145, am_U]) (st' := []) (E' := E1) (I' := I1) (J' := (u_J J1 145 (vp_updL (J1 145) 0 v1.toInt64))) (S' := S1) am_e139 rfl rfl rfl rfl ?_
    refine w_st (i' := 12) (ls' := [.ref 0, .int p2, .ref 145, am_U]) (st' := [.int (nI 0)]) (E' := E1) (I' := I1) (J' := (u_J J1 145 (vp_updL (J1 145) 0 v1.toInt64))) (S' := S1) am_e139 rfl rfl rfl rfl ?_
    exact w_end am_e139 rfl rfl rfl h
-- 141 firstRead
theorem g141_0 {p2 : Int32} {E : am_Ev} {I : Nat → Nat → Int32} {J : Nat → Nat → Int64} {S : Nat → Nat → Option Nat} {Q : am_Qt}  (h : am_cl 142 [.ref 0, .int p2] E I J S (fun r E1 I1 J1 S1 => match r with | .inl w => ∃ v1, w = some (.int v1) ∧ (Q (.inl (some (.int (nI 0)))) E1 I1 (u_J J1 145 (vp_updL (J1 145) 0 v1.toInt64)) S1) | .inr e => ∃ n, am_hd 141 e = some n ∧ Q (.inl (some (.int (nI n)))) E1 I1 J1 S1)) : am_ww 141 0 [.ref 0, .int p2, .ref 145, am_U] [] E I J S Q := by
  refine w_st (i' := 1) (ls' := [.ref 0, .int p2, .ref 145, am_U]) (st' := [.ref 145]) (E' := E) (I' := I) (J' := J) (S' := S) am_e141 rfl rfl rfl rfl ?_
  refine w_st (i' := 2) (ls' := [.ref 0, .int p2, .ref 145, am_U]) (st' := [.int (nI 0), .ref 145]) (E' := E) (I' := I) (J' := J) (S' := S) am_e141 rfl rfl rfl rfl ?_
  refine w_st (i' := 3) (ls' := [.ref 0, .int p2, .ref 145, am_U]) (st' := [.ref 0, .int (nI 0), .ref 145]) (E' := E) (I' := I) (J' := J) (S' := S) am_e141 rfl rfl rfl rfl ?_
  refine w_st (i' := 4) (ls' := [.ref 0, .int p2, .ref 145, am_U]) (st' := [.int p2, .ref 0, .int (nI 0), .ref 145]) (E' := E) (I' := I) (J' := J) (S' := S) am_e141 rfl rfl rfl rfl ?_
  refine w_cH am_e141 rfl rfl (as := [.ref 0, .int p2]) (rest := [.int (nI 0), .ref 145]) rfl rfl (am_ww.mono h ?_)
  intro r E1 I1 J1 S1 h
  cases r with
  | inr e => exact h
  | inl w =>
    obtain ⟨v1, rfl, h⟩ := h
    refine w_st (i' := 6) (ls' := [.ref 0, .int p2, .ref 145, am_U]) (st' := [.long v1.toInt64, .int (nI 0), .ref 145]) (E' := E1) (I' := I1) (J' := J1) (S' := S1) am_e141 rfl rfl rfl rfl ?_
    refine w_ls (k := 145) (n := 1) (jn := 0) am_e141 rfl rfl (by decide) (vp_in_nI (by decide) (by decide)) rfl ?_
    show am_ww 141 7 [.ref 0, .int p2, .ref 145, am_U] [] E1 I1 (u_J J1 145 (vp_updL (J1 145) 0 v1.toInt64)) S1 _
    refine w_st (i' := 11) (ls' := [.ref 0, .int p2, .ref 145, am_U]) (st' := []) (E' := E1) (I' := I1) (J' := (u_J J1 145 (vp_updL (J1 145) 0 v1.toInt64))) (S' := S1) am_e141 rfl rfl rfl rfl ?_
    refine w_st (i' := 12) (ls' := [.ref 0, .int p2, .ref 145, am_U]) (st' := [.int (nI 0)]) (E' := E1) (I' := I1) (J' := (u_J J1 145 (vp_updL (J1 145) 0 v1.toInt64))) (S' := S1) am_e141 rfl rfl rfl rfl ?_
    exact w_end am_e141 rfl rfl rfl h
-- 143 races
theorem g143_0 {p2 : Int32} {E : am_Ev} {I : Nat → Nat → Int32} {J : Nat → Nat → Int64} {S : Nat → Nat → Option Nat} {Q : am_Qt}  (h : am_cl 144 [.ref 0, .int p2] E I J S (fun r E1 I1 J1 S1 => match r with | .inl w => ∃ v1, w = some (.int v1) ∧ (Q (.inl (some (.int (nI 0)))) E1 I1 (u_J J1 145 (vp_updL (J1 145) 0 v1.toInt64)) S1) | .inr e => ∃ n, am_hd 143 e = some n ∧ Q (.inl (some (.int (nI n)))) E1 I1 J1 S1)) : am_ww 143 0 [.ref 0, .int p2, .ref 145, am_U] [] E I J S Q := by
  refine w_st (i' := 1) (ls' := [.ref 0, .int p2, .ref 145, am_U]) (st' := [.ref 145]) (E' := E) (I' := I) (J' := J) (S' := S) am_e143 rfl rfl rfl rfl ?_
  refine w_st (i' := 2) (ls' := [.ref 0, .int p2, .ref 145, am_U]) (st' := [.int (nI 0), .ref 145]) (E' := E) (I' := I) (J' := J) (S' := S) am_e143 rfl rfl rfl rfl ?_
  refine w_st (i' := 3) (ls' := [.ref 0, .int p2, .ref 145, am_U]) (st' := [.ref 0, .int (nI 0), .ref 145]) (E' := E) (I' := I) (J' := J) (S' := S) am_e143 rfl rfl rfl rfl ?_
  refine w_st (i' := 4) (ls' := [.ref 0, .int p2, .ref 145, am_U]) (st' := [.int p2, .ref 0, .int (nI 0), .ref 145]) (E' := E) (I' := I) (J' := J) (S' := S) am_e143 rfl rfl rfl rfl ?_
  refine w_cH am_e143 rfl rfl (as := [.ref 0, .int p2]) (rest := [.int (nI 0), .ref 145]) rfl rfl (am_ww.mono h ?_)
  intro r E1 I1 J1 S1 h
  cases r with
  | inr e => exact h
  | inl w =>
    obtain ⟨v1, rfl, h⟩ := h
    refine w_st (i' := 6) (ls' := [.ref 0, .int p2, .ref 145, am_U]) (st' := [.long v1.toInt64, .int (nI 0), .ref 145]) (E' := E1) (I' := I1) (J' := J1) (S' := S1) am_e143 rfl rfl rfl rfl ?_
    refine w_ls (k := 145) (n := 1) (jn := 0) am_e143 rfl rfl (by decide) (vp_in_nI (by decide) (by decide)) rfl ?_
    show am_ww 143 7 [.ref 0, .int p2, .ref 145, am_U] [] E1 I1 (u_J J1 145 (vp_updL (J1 145) 0 v1.toInt64)) S1 _
    refine w_st (i' := 11) (ls' := [.ref 0, .int p2, .ref 145, am_U]) (st' := []) (E' := E1) (I' := I1) (J' := (u_J J1 145 (vp_updL (J1 145) 0 v1.toInt64))) (S' := S1) am_e143 rfl rfl rfl rfl ?_
    refine w_st (i' := 12) (ls' := [.ref 0, .int p2, .ref 145, am_U]) (st' := [.int (nI 0)]) (E' := E1) (I' := I1) (J' := (u_J J1 145 (vp_updL (J1 145) 0 v1.toInt64))) (S' := S1) am_e143 rfl rfl rfl rfl ?_
    exact w_end am_e143 rfl rfl rfl h
-- 156 race
theorem g156_0 {p2 : Int32} {p3 : Int32} {E : am_Ev} {I : Nat → Nat → Int32} {J : Nat → Nat → Int64} {S : Nat → Nat → Option Nat} {Q : am_Qt}  (h : am_cl 157 [.ref 0, .int p2, .int p3] E I J S (fun r E1 I1 J1 S1 => match r with | .inl w => ∃ v1, w = some (.int v1) ∧ (Q (.inl (some (.int (nI 0)))) E1 I1 (u_J J1 145 (vp_updL (J1 145) 0 v1.toInt64)) S1) | .inr e => ∃ n, am_hd 156 e = some n ∧ Q (.inl (some (.int (nI n)))) E1 I1 J1 S1)) : am_ww 156 0 [.ref 0, .int p2, .int p3, .ref 145, am_U] [] E I J S Q := by
  refine w_st (i' := 1) (ls' := [.ref 0, .int p2, .int p3, .ref 145, am_U]) (st' := [.ref 145]) (E' := E) (I' := I) (J' := J) (S' := S) am_e156 rfl rfl rfl rfl ?_
  refine w_st (i' := 2) (ls' := [.ref 0, .int p2, .int p3, .ref 145, am_U]) (st' := [.int (nI 0), .ref 145]) (E' := E) (I' := I) (J' := J) (S' := S) am_e156 rfl rfl rfl rfl ?_
  refine w_st (i' := 3) (ls' := [.ref 0, .int p2, .int p3, .ref 145, am_U]) (st' := [.ref 0, .int (nI 0), .ref 145]) (E' := E) (I' := I) (J' := J) (S' := S) am_e156 rfl rfl rfl rfl ?_
  refine w_st (i' := 4) (ls' := [.ref 0, .int p2, .int p3, .ref 145, am_U]) (st' := [.int p2, .ref 0, .int (nI 0), .ref 145]) (E' := E) (I' := I) (J' := J) (S' := S) am_e156 rfl rfl rfl rfl ?_
  refine w_st (i' := 5) (ls' := [.ref 0, .int p2, .int p3, .ref 145, am_U]) (st' := [.int p3, .int p2, .ref 0, .int (nI 0), .ref 145]) (E' := E) (I' := I) (J' := J) (S' := S) am_e156 rfl rfl rfl rfl ?_
  refine w_cH am_e156 rfl rfl (as := [.ref 0, .int p2, .int p3]) (rest := [.int (nI 0), .ref 145]) rfl rfl (am_ww.mono h ?_)
  intro r E1 I1 J1 S1 h
  cases r with
  | inr e => exact h
  | inl w =>
    obtain ⟨v1, rfl, h⟩ := h
    refine w_st (i' := 7) (ls' := [.ref 0, .int p2, .int p3, .ref 145, am_U]) (st' := [.long v1.toInt64, .int (nI 0), .ref 145]) (E' := E1) (I' := I1) (J' := J1) (S' := S1) am_e156 rfl rfl rfl rfl ?_
    refine w_ls (k := 145) (n := 1) (jn := 0) am_e156 rfl rfl (by decide) (vp_in_nI (by decide) (by decide)) rfl ?_
    show am_ww 156 8 [.ref 0, .int p2, .int p3, .ref 145, am_U] [] E1 I1 (u_J J1 145 (vp_updL (J1 145) 0 v1.toInt64)) S1 _
    refine w_st (i' := 12) (ls' := [.ref 0, .int p2, .int p3, .ref 145, am_U]) (st' := []) (E' := E1) (I' := I1) (J' := (u_J J1 145 (vp_updL (J1 145) 0 v1.toInt64))) (S' := S1) am_e156 rfl rfl rfl rfl ?_
    refine w_st (i' := 13) (ls' := [.ref 0, .int p2, .int p3, .ref 145, am_U]) (st' := [.int (nI 0)]) (E' := E1) (I' := I1) (J' := (u_J J1 145 (vp_updL (J1 145) 0 v1.toInt64))) (S' := S1) am_e156 rfl rfl rfl rfl ?_
    exact w_end am_e156 rfl rfl rfl h
-- 160 guards
theorem g160_0 {p2 : Int32} {E : am_Ev} {I : Nat → Nat → Int32} {J : Nat → Nat → Int64} {S : Nat → Nat → Option Nat} {Q : am_Qt}  (h : am_cl 161 [.ref 0, .int p2] E I J S (fun r E1 I1 J1 S1 => match r with | .inl w => ∃ v1, w = some (.int v1) ∧ (Q (.inl (some (.int (nI 0)))) E1 I1 (u_J J1 145 (vp_updL (J1 145) 0 v1.toInt64)) S1) | .inr e => ∃ n, am_hd 160 e = some n ∧ Q (.inl (some (.int (nI n)))) E1 I1 J1 S1)) : am_ww 160 0 [.ref 0, .int p2, .ref 145, am_U] [] E I J S Q := by
  refine w_st (i' := 1) (ls' := [.ref 0, .int p2, .ref 145, am_U]) (st' := [.ref 145]) (E' := E) (I' := I) (J' := J) (S' := S) am_e160 rfl rfl rfl rfl ?_
  refine w_st (i' := 2) (ls' := [.ref 0, .int p2, .ref 145, am_U]) (st' := [.int (nI 0), .ref 145]) (E' := E) (I' := I) (J' := J) (S' := S) am_e160 rfl rfl rfl rfl ?_
  refine w_st (i' := 3) (ls' := [.ref 0, .int p2, .ref 145, am_U]) (st' := [.ref 0, .int (nI 0), .ref 145]) (E' := E) (I' := I) (J' := J) (S' := S) am_e160 rfl rfl rfl rfl ?_
  refine w_st (i' := 4) (ls' := [.ref 0, .int p2, .ref 145, am_U]) (st' := [.int p2, .ref 0, .int (nI 0), .ref 145]) (E' := E) (I' := I) (J' := J) (S' := S) am_e160 rfl rfl rfl rfl ?_
  refine w_cH am_e160 rfl rfl (as := [.ref 0, .int p2]) (rest := [.int (nI 0), .ref 145]) rfl rfl (am_ww.mono h ?_)
  intro r E1 I1 J1 S1 h
  cases r with
  | inr e => exact h
  | inl w =>
    obtain ⟨v1, rfl, h⟩ := h
    refine w_st (i' := 6) (ls' := [.ref 0, .int p2, .ref 145, am_U]) (st' := [.long v1.toInt64, .int (nI 0), .ref 145]) (E' := E1) (I' := I1) (J' := J1) (S' := S1) am_e160 rfl rfl rfl rfl ?_
    refine w_ls (k := 145) (n := 1) (jn := 0) am_e160 rfl rfl (by decide) (vp_in_nI (by decide) (by decide)) rfl ?_
    show am_ww 160 7 [.ref 0, .int p2, .ref 145, am_U] [] E1 I1 (u_J J1 145 (vp_updL (J1 145) 0 v1.toInt64)) S1 _
    refine w_st (i' := 11) (ls' := [.ref 0, .int p2, .ref 145, am_U]) (st' := []) (E' := E1) (I' := I1) (J' := (u_J J1 145 (vp_updL (J1 145) 0 v1.toInt64))) (S' := S1) am_e160 rfl rfl rfl rfl ?_
    refine w_st (i' := 12) (ls' := [.ref 0, .int p2, .ref 145, am_U]) (st' := [.int (nI 0)]) (E' := E1) (I' := I1) (J' := (u_J J1 145 (vp_updL (J1 145) 0 v1.toInt64))) (S' := S1) am_e160 rfl rfl rfl rfl ?_
    exact w_end am_e160 rfl rfl rfl h
-- 163 hot
theorem g163_0 {p2 : Int32} {p3 : Int32} {E : am_Ev} {I : Nat → Nat → Int32} {J : Nat → Nat → Int64} {S : Nat → Nat → Option Nat} {Q : am_Qt}  (h : am_cl 164 [.ref 0, .int p2, .int p3] E I J S (fun r E1 I1 J1 S1 => match r with | .inl w => ∃ v1, w = some (.int v1) ∧ (Q (.inl (some (.int (nI 0)))) E1 I1 (u_J J1 145 (vp_updL (J1 145) 0 v1.toInt64)) S1) | .inr e => ∃ n, am_hd 163 e = some n ∧ Q (.inl (some (.int (nI n)))) E1 I1 J1 S1)) : am_ww 163 0 [.ref 0, .int p2, .int p3, .ref 145, am_U] [] E I J S Q := by
  refine w_st (i' := 1) (ls' := [.ref 0, .int p2, .int p3, .ref 145, am_U]) (st' := [.ref 145]) (E' := E) (I' := I) (J' := J) (S' := S) am_e163 rfl rfl rfl rfl ?_
  refine w_st (i' := 2) (ls' := [.ref 0, .int p2, .int p3, .ref 145, am_U]) (st' := [.int (nI 0), .ref 145]) (E' := E) (I' := I) (J' := J) (S' := S) am_e163 rfl rfl rfl rfl ?_
  refine w_st (i' := 3) (ls' := [.ref 0, .int p2, .int p3, .ref 145, am_U]) (st' := [.ref 0, .int (nI 0), .ref 145]) (E' := E) (I' := I) (J' := J) (S' := S) am_e163 rfl rfl rfl rfl ?_
  refine w_st (i' := 4) (ls' := [.ref 0, .int p2, .int p3, .ref 145, am_U]) (st' := [.int p2, .ref 0, .int (nI 0), .ref 145]) (E' := E) (I' := I) (J' := J) (S' := S) am_e163 rfl rfl rfl rfl ?_
  refine w_st (i' := 5) (ls' := [.ref 0, .int p2, .int p3, .ref 145, am_U]) (st' := [.int p3, .int p2, .ref 0, .int (nI 0), .ref 145]) (E' := E) (I' := I) (J' := J) (S' := S) am_e163 rfl rfl rfl rfl ?_
  refine w_cH am_e163 rfl rfl (as := [.ref 0, .int p2, .int p3]) (rest := [.int (nI 0), .ref 145]) rfl rfl (am_ww.mono h ?_)
  intro r E1 I1 J1 S1 h
  cases r with
  | inr e => exact h
  | inl w =>
    obtain ⟨v1, rfl, h⟩ := h
    refine w_st (i' := 7) (ls' := [.ref 0, .int p2, .int p3, .ref 145, am_U]) (st' := [.long v1.toInt64, .int (nI 0), .ref 145]) (E' := E1) (I' := I1) (J' := J1) (S' := S1) am_e163 rfl rfl rfl rfl ?_
    refine w_ls (k := 145) (n := 1) (jn := 0) am_e163 rfl rfl (by decide) (vp_in_nI (by decide) (by decide)) rfl ?_
    show am_ww 163 8 [.ref 0, .int p2, .int p3, .ref 145, am_U] [] E1 I1 (u_J J1 145 (vp_updL (J1 145) 0 v1.toInt64)) S1 _
    refine w_st (i' := 12) (ls' := [.ref 0, .int p2, .int p3, .ref 145, am_U]) (st' := []) (E' := E1) (I' := I1) (J' := (u_J J1 145 (vp_updL (J1 145) 0 v1.toInt64))) (S' := S1) am_e163 rfl rfl rfl rfl ?_
    refine w_st (i' := 13) (ls' := [.ref 0, .int p2, .int p3, .ref 145, am_U]) (st' := [.int (nI 0)]) (E' := E1) (I' := I1) (J' := (u_J J1 145 (vp_updL (J1 145) 0 v1.toInt64))) (S' := S1) am_e163 rfl rfl rfl rfl ?_
    exact w_end am_e163 rfl rfl rfl h
-- 166 diverged
theorem g166_0 {p2 : Int32} {p3 : Int32} {p4 : Int32} {p5 : Int32} {E : am_Ev} {I : Nat → Nat → Int32} {J : Nat → Nat → Int64} {S : Nat → Nat → Option Nat} {Q : am_Qt}  (h : am_cl 167 [.ref 0, .int p2, .int p3, .int p4, .int p5] E I J S (fun r E1 I1 J1 S1 => match r with | .inl w => ∃ v1, w = some (.int v1) ∧ (Q (.inl (some (.int (nI 0)))) E1 I1 (u_J J1 145 (vp_updL (J1 145) 0 v1.toInt64)) S1) | .inr e => ∃ n, am_hd 166 e = some n ∧ Q (.inl (some (.int (nI n)))) E1 I1 J1 S1)) : am_ww 166 0 [.ref 0, .int p2, .int p3, .int p4, .int p5, .ref 145, am_U] [] E I J S Q := by
  refine w_st (i' := 1) (ls' := [.ref 0, .int p2, .int p3, .int p4, .int p5, .ref 145, am_U]) (st' := [.ref 145]) (E' := E) (I' := I) (J' := J) (S' := S) am_e166 rfl rfl rfl rfl ?_
  refine w_st (i' := 2) (ls' := [.ref 0, .int p2, .int p3, .int p4, .int p5, .ref 145, am_U]) (st' := [.int (nI 0), .ref 145]) (E' := E) (I' := I) (J' := J) (S' := S) am_e166 rfl rfl rfl rfl ?_
  refine w_st (i' := 3) (ls' := [.ref 0, .int p2, .int p3, .int p4, .int p5, .ref 145, am_U]) (st' := [.ref 0, .int (nI 0), .ref 145]) (E' := E) (I' := I) (J' := J) (S' := S) am_e166 rfl rfl rfl rfl ?_
  refine w_st (i' := 4) (ls' := [.ref 0, .int p2, .int p3, .int p4, .int p5, .ref 145, am_U]) (st' := [.int p2, .ref 0, .int (nI 0), .ref 145]) (E' := E) (I' := I) (J' := J) (S' := S) am_e166 rfl rfl rfl rfl ?_
  refine w_st (i' := 5) (ls' := [.ref 0, .int p2, .int p3, .int p4, .int p5, .ref 145, am_U]) (st' := [.int p3, .int p2, .ref 0, .int (nI 0), .ref 145]) (E' := E) (I' := I) (J' := J) (S' := S) am_e166 rfl rfl rfl rfl ?_
  refine w_st (i' := 6) (ls' := [.ref 0, .int p2, .int p3, .int p4, .int p5, .ref 145, am_U]) (st' := [.int p4, .int p3, .int p2, .ref 0, .int (nI 0), .ref 145]) (E' := E) (I' := I) (J' := J) (S' := S) am_e166 rfl rfl rfl rfl ?_
  refine w_st (i' := 7) (ls' := [.ref 0, .int p2, .int p3, .int p4, .int p5, .ref 145, am_U]) (st' := [.int p5, .int p4, .int p3, .int p2, .ref 0, .int (nI 0), .ref 145]) (E' := E) (I' := I) (J' := J) (S' := S) am_e166 rfl rfl rfl rfl ?_
  refine w_cH am_e166 rfl rfl (as := [.ref 0, .int p2, .int p3, .int p4, .int p5]) (rest := [.int (nI 0), .ref 145]) rfl rfl (am_ww.mono h ?_)
  intro r E1 I1 J1 S1 h
  cases r with
  | inr e => exact h
  | inl w =>
    obtain ⟨v1, rfl, h⟩ := h
    refine w_st (i' := 9) (ls' := [.ref 0, .int p2, .int p3, .int p4, .int p5, .ref 145, am_U]) (st' := [.long v1.toInt64, .int (nI 0), .ref 145]) (E' := E1) (I' := I1) (J' := J1) (S' := S1) am_e166 rfl rfl rfl rfl ?_
    refine w_ls (k := 145) (n := 1) (jn := 0) am_e166 rfl rfl (by decide) (vp_in_nI (by decide) (by decide)) rfl ?_
    show am_ww 166 10 [.ref 0, .int p2, .int p3, .int p4, .int p5, .ref 145, am_U] [] E1 I1 (u_J J1 145 (vp_updL (J1 145) 0 v1.toInt64)) S1 _
    refine w_st (i' := 14) (ls' := [.ref 0, .int p2, .int p3, .int p4, .int p5, .ref 145, am_U]) (st' := []) (E' := E1) (I' := I1) (J' := (u_J J1 145 (vp_updL (J1 145) 0 v1.toInt64))) (S' := S1) am_e166 rfl rfl rfl rfl ?_
    refine w_st (i' := 15) (ls' := [.ref 0, .int p2, .int p3, .int p4, .int p5, .ref 145, am_U]) (st' := [.int (nI 0)]) (E' := E1) (I' := I1) (J' := (u_J J1 145 (vp_updL (J1 145) 0 v1.toInt64))) (S' := S1) am_e166 rfl rfl rfl rfl ?_
    exact w_end am_e166 rfl rfl rfl h
-- 174 matters
theorem g174_0 {p2 : Int32} {E : am_Ev} {I : Nat → Nat → Int32} {J : Nat → Nat → Int64} {S : Nat → Nat → Option Nat} {Q : am_Qt}  (h : am_cl 175 [.ref 0, .int p2] E I J S (fun r E1 I1 J1 S1 => match r with | .inl w => ∃ v1, w = some (.int v1) ∧ (Q (.inl (some (.int (nI 0)))) E1 I1 (u_J J1 145 (vp_updL (J1 145) 0 v1.toInt64)) S1) | .inr e => ∃ n, am_hd 174 e = some n ∧ Q (.inl (some (.int (nI n)))) E1 I1 J1 S1)) : am_ww 174 0 [.ref 0, .int p2, .ref 145, am_U] [] E I J S Q := by
  refine w_st (i' := 1) (ls' := [.ref 0, .int p2, .ref 145, am_U]) (st' := [.ref 145]) (E' := E) (I' := I) (J' := J) (S' := S) am_e174 rfl rfl rfl rfl ?_
  refine w_st (i' := 2) (ls' := [.ref 0, .int p2, .ref 145, am_U]) (st' := [.int (nI 0), .ref 145]) (E' := E) (I' := I) (J' := J) (S' := S) am_e174 rfl rfl rfl rfl ?_
  refine w_st (i' := 3) (ls' := [.ref 0, .int p2, .ref 145, am_U]) (st' := [.ref 0, .int (nI 0), .ref 145]) (E' := E) (I' := I) (J' := J) (S' := S) am_e174 rfl rfl rfl rfl ?_
  refine w_st (i' := 4) (ls' := [.ref 0, .int p2, .ref 145, am_U]) (st' := [.int p2, .ref 0, .int (nI 0), .ref 145]) (E' := E) (I' := I) (J' := J) (S' := S) am_e174 rfl rfl rfl rfl ?_
  refine w_cH am_e174 rfl rfl (as := [.ref 0, .int p2]) (rest := [.int (nI 0), .ref 145]) rfl rfl (am_ww.mono h ?_)
  intro r E1 I1 J1 S1 h
  cases r with
  | inr e => exact h
  | inl w =>
    obtain ⟨v1, rfl, h⟩ := h
    refine w_st (i' := 6) (ls' := [.ref 0, .int p2, .ref 145, am_U]) (st' := [.long v1.toInt64, .int (nI 0), .ref 145]) (E' := E1) (I' := I1) (J' := J1) (S' := S1) am_e174 rfl rfl rfl rfl ?_
    refine w_ls (k := 145) (n := 1) (jn := 0) am_e174 rfl rfl (by decide) (vp_in_nI (by decide) (by decide)) rfl ?_
    show am_ww 174 7 [.ref 0, .int p2, .ref 145, am_U] [] E1 I1 (u_J J1 145 (vp_updL (J1 145) 0 v1.toInt64)) S1 _
    refine w_st (i' := 11) (ls' := [.ref 0, .int p2, .ref 145, am_U]) (st' := []) (E' := E1) (I' := I1) (J' := (u_J J1 145 (vp_updL (J1 145) 0 v1.toInt64))) (S' := S1) am_e174 rfl rfl rfl rfl ?_
    refine w_st (i' := 12) (ls' := [.ref 0, .int p2, .ref 145, am_U]) (st' := [.int (nI 0)]) (E' := E1) (I' := I1) (J' := (u_J J1 145 (vp_updL (J1 145) 0 v1.toInt64))) (S' := S1) am_e174 rfl rfl rfl rfl ?_
    exact w_end am_e174 rfl rfl rfl h
-- 176 outcomes
theorem g176_0 {p2 : Int32} {p3 : Int32} {E : am_Ev} {I : Nat → Nat → Int32} {J : Nat → Nat → Int64} {S : Nat → Nat → Option Nat} {Q : am_Qt}  (h : am_cl 177 [.ref 0, .int p2, .int p3] E I J S (fun r E1 I1 J1 S1 => match r with | .inl w => ∃ v1, w = some (.int v1) ∧ (Q (.inl (some (.int (nI 0)))) E1 I1 (u_J J1 145 (vp_updL (J1 145) 0 v1.toInt64)) S1) | .inr e => ∃ n, am_hd 176 e = some n ∧ Q (.inl (some (.int (nI n)))) E1 I1 J1 S1)) : am_ww 176 0 [.ref 0, .int p2, .int p3, .ref 145, am_U] [] E I J S Q := by
  refine w_st (i' := 1) (ls' := [.ref 0, .int p2, .int p3, .ref 145, am_U]) (st' := [.ref 145]) (E' := E) (I' := I) (J' := J) (S' := S) am_e176 rfl rfl rfl rfl ?_
  refine w_st (i' := 2) (ls' := [.ref 0, .int p2, .int p3, .ref 145, am_U]) (st' := [.int (nI 0), .ref 145]) (E' := E) (I' := I) (J' := J) (S' := S) am_e176 rfl rfl rfl rfl ?_
  refine w_st (i' := 3) (ls' := [.ref 0, .int p2, .int p3, .ref 145, am_U]) (st' := [.ref 0, .int (nI 0), .ref 145]) (E' := E) (I' := I) (J' := J) (S' := S) am_e176 rfl rfl rfl rfl ?_
  refine w_st (i' := 4) (ls' := [.ref 0, .int p2, .int p3, .ref 145, am_U]) (st' := [.int p2, .ref 0, .int (nI 0), .ref 145]) (E' := E) (I' := I) (J' := J) (S' := S) am_e176 rfl rfl rfl rfl ?_
  refine w_st (i' := 5) (ls' := [.ref 0, .int p2, .int p3, .ref 145, am_U]) (st' := [.int p3, .int p2, .ref 0, .int (nI 0), .ref 145]) (E' := E) (I' := I) (J' := J) (S' := S) am_e176 rfl rfl rfl rfl ?_
  refine w_cH am_e176 rfl rfl (as := [.ref 0, .int p2, .int p3]) (rest := [.int (nI 0), .ref 145]) rfl rfl (am_ww.mono h ?_)
  intro r E1 I1 J1 S1 h
  cases r with
  | inr e => exact h
  | inl w =>
    obtain ⟨v1, rfl, h⟩ := h
    refine w_st (i' := 7) (ls' := [.ref 0, .int p2, .int p3, .ref 145, am_U]) (st' := [.long v1.toInt64, .int (nI 0), .ref 145]) (E' := E1) (I' := I1) (J' := J1) (S' := S1) am_e176 rfl rfl rfl rfl ?_
    refine w_ls (k := 145) (n := 1) (jn := 0) am_e176 rfl rfl (by decide) (vp_in_nI (by decide) (by decide)) rfl ?_
    show am_ww 176 8 [.ref 0, .int p2, .int p3, .ref 145, am_U] [] E1 I1 (u_J J1 145 (vp_updL (J1 145) 0 v1.toInt64)) S1 _
    refine w_st (i' := 15) (ls' := [.ref 0, .int p2, .int p3, .ref 145, am_U]) (st' := []) (E' := E1) (I' := I1) (J' := (u_J J1 145 (vp_updL (J1 145) 0 v1.toInt64))) (S' := S1) am_e176 rfl rfl rfl rfl ?_
    refine w_st (i' := 16) (ls' := [.ref 0, .int p2, .int p3, .ref 145, am_U]) (st' := [.int (nI 0)]) (E' := E1) (I' := I1) (J' := (u_J J1 145 (vp_updL (J1 145) 0 v1.toInt64))) (S' := S1) am_e176 rfl rfl rfl rfl ?_
    exact w_end am_e176 rfl rfl rfl h
-- 181 toSpare
theorem g181_0 {p2 : Int32} {p3 : Int32} {E : am_Ev} {I : Nat → Nat → Int32} {J : Nat → Nat → Int64} {S : Nat → Nat → Option Nat} {Q : am_Qt}  (h : am_cl 182 [.ref 0, .int p2, .int p3] E I J S (fun r E1 I1 J1 S1 => match r with | .inl w => ∃ v1, w = some (.int v1) ∧ (Q (.inl (some (.int (nI 0)))) E1 I1 (u_J J1 145 (vp_updL (J1 145) 0 v1.toInt64)) S1) | .inr e => ∃ n, am_hd 181 e = some n ∧ Q (.inl (some (.int (nI n)))) E1 I1 J1 S1)) : am_ww 181 0 [.ref 0, .int p2, .int p3, .ref 145, am_U] [] E I J S Q := by
  refine w_st (i' := 1) (ls' := [.ref 0, .int p2, .int p3, .ref 145, am_U]) (st' := [.ref 145]) (E' := E) (I' := I) (J' := J) (S' := S) am_e181 rfl rfl rfl rfl ?_
  refine w_st (i' := 2) (ls' := [.ref 0, .int p2, .int p3, .ref 145, am_U]) (st' := [.int (nI 0), .ref 145]) (E' := E) (I' := I) (J' := J) (S' := S) am_e181 rfl rfl rfl rfl ?_
  refine w_st (i' := 3) (ls' := [.ref 0, .int p2, .int p3, .ref 145, am_U]) (st' := [.ref 0, .int (nI 0), .ref 145]) (E' := E) (I' := I) (J' := J) (S' := S) am_e181 rfl rfl rfl rfl ?_
  refine w_st (i' := 4) (ls' := [.ref 0, .int p2, .int p3, .ref 145, am_U]) (st' := [.int p2, .ref 0, .int (nI 0), .ref 145]) (E' := E) (I' := I) (J' := J) (S' := S) am_e181 rfl rfl rfl rfl ?_
  refine w_st (i' := 5) (ls' := [.ref 0, .int p2, .int p3, .ref 145, am_U]) (st' := [.int p3, .int p2, .ref 0, .int (nI 0), .ref 145]) (E' := E) (I' := I) (J' := J) (S' := S) am_e181 rfl rfl rfl rfl ?_
  refine w_cH am_e181 rfl rfl (as := [.ref 0, .int p2, .int p3]) (rest := [.int (nI 0), .ref 145]) rfl rfl (am_ww.mono h ?_)
  intro r E1 I1 J1 S1 h
  cases r with
  | inr e => exact h
  | inl w =>
    obtain ⟨v1, rfl, h⟩ := h
    refine w_st (i' := 7) (ls' := [.ref 0, .int p2, .int p3, .ref 145, am_U]) (st' := [.long v1.toInt64, .int (nI 0), .ref 145]) (E' := E1) (I' := I1) (J' := J1) (S' := S1) am_e181 rfl rfl rfl rfl ?_
    refine w_ls (k := 145) (n := 1) (jn := 0) am_e181 rfl rfl (by decide) (vp_in_nI (by decide) (by decide)) rfl ?_
    show am_ww 181 8 [.ref 0, .int p2, .int p3, .ref 145, am_U] [] E1 I1 (u_J J1 145 (vp_updL (J1 145) 0 v1.toInt64)) S1 _
    refine w_st (i' := 15) (ls' := [.ref 0, .int p2, .int p3, .ref 145, am_U]) (st' := []) (E' := E1) (I' := I1) (J' := (u_J J1 145 (vp_updL (J1 145) 0 v1.toInt64))) (S' := S1) am_e181 rfl rfl rfl rfl ?_
    refine w_st (i' := 16) (ls' := [.ref 0, .int p2, .int p3, .ref 145, am_U]) (st' := [.int (nI 0)]) (E' := E1) (I' := I1) (J' := (u_J J1 145 (vp_updL (J1 145) 0 v1.toInt64))) (S' := S1) am_e181 rfl rfl rfl rfl ?_
    exact w_end am_e181 rfl rfl rfl h
