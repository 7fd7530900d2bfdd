/-! the class's takes: what is short -/
/-- what must stand behind the words -/
def shp (w : Nat) : Nat := if w = 6 then 5 else if w = 7 then 6 else if w = 8 then 7 else if w = 9 ∨ w = 10 ∨ w = 11 then 8 else if w = 12 then 9 else if w = 13 ∨ w = 14 then 10 else if w = 15 then 11 else if w = 16 then 12 else if w = 17 then 13 else 0
theorem shp_lt : ∀ w, w < 19 → shp w < 55 ∧ am_slen.getD (shp w) 0 ≤ 3 := by decide +kernel
theorem c91 {E : am_Ev} {I : Nat → Nat → Int32} {J : Nat → Nat → Int64} {S : Nat → Nat → Option Nat} {Q : am_Qt} {w : Nat} (hw : w < 19) (h : Q (.inl (some (.ref (2000000 + shp w)))) E I J S) : am_cl 91 [.int (nI w)] E I J S Q := by
  show am_ww 91 0 [.int (nI w)] [] E I J S Q
  apply g91_0
  simp (disch := omega) only [nI_eq]
  refine ⟨?_, ?_, ?_, ?_, ?_, ?_, ?_, ?_, ?_, ?_, ?_, ?_, ?_⟩
  all_goals try (intro e; subst e; exact h)
  intro e6 e7 e8 e9 e10 e11 e12 e13 e14 e15 e16 e17
  have e : shp w = 0 := by
    unfold shp
    rw [if_neg e6, if_neg e7, if_neg e8, if_neg (by omega), if_neg e12, if_neg (by omega), if_neg e15, if_neg e16, if_neg e17]
  rw [e] at h
  exact h
/-- expect -/
def xpI (I : Nat → Nat → Int32) (q : Nat) : Nat → Nat → Int32 := u_I I 1 (upd (upd (upd (I 1) 12 (nI 0)) 13 (nI 0)) 10 (if am_slen.getD q 0 = 0 then nI 5 else nI 1))
def xpS (S : Nat → Nat → Option Nat) (q : Nat) : Nat → Nat → Option Nat := u_S S 1 (am_upO (S 1) 11 (some q))
theorem c80 {E : am_Ev} {I : Nat → Nat → Int32} {J : Nat → Nat → Int64} {S : Nat → Nat → Option Nat} {Q : am_Qt} {q : Nat} (hq : q < 55) (h : Q (.inl none) E (xpI I q) J (xpS S q)) : am_cl 80 [.ref 1, .ref (2000000 + q)] E I J S Q := by
  show am_ww 80 0 [.ref 1, .ref (2000000 + q)] [] E I J S Q
  apply g80_0 hq
  show am_ww 81 0 [.ref (2000000 + q)] [] E _ J _ _
  have hl := (slen_s q hq).2
  apply g81_0 hq
  unfold xpI at h
  refine ⟨fun z => q_mkI ?_, fun z => q_mkI ?_⟩
  · intro w ew
    rw [if_neg (by decide)] at ew
    rw [nI_e0 (by omega)] at z
    rw [if_pos z] at h
    subst ew
    rw [uI_0, u_I_eq]
    exact h
  · intro w ew
    rw [if_pos (by decide)] at ew
    rw [nI_e0 (by omega)] at z
    rw [if_neg z] at h
    subst ew
    rw [uI_0, u_I_eq]
    exact h
theorem c90 {E : am_Ev} {I : Nat → Nat → Int32} {J : Nat → Nat → Int64} {S : Nat → Nat → Option Nat} {Q : am_Qt} {w r : Nat} (h6 : I 1 6 = nI 2) (h8 : I 1 8 = nI w) (hw : w < 19) (hw6 : 6 ≤ w) (hr : I 1 14 = nI r) (hr2 : r < 64) (h : Q (.inl (some (.int (nI 0)))) E (xpI (u_I I 4 (upd (I 4) r (nI w))) (shp w)) J (xpS S (shp w))) : am_cl 90 [.ref 1] E I J S Q := by
  show am_ww 90 0 [.ref 1] [] E I J S Q
  apply g90_0
  rw [h8, hr, nI_clamp (by omega), nI_leI (by omega) (by omega)]
  refine ⟨fun _ => ⟨fun _ => ⟨vp_in_nI hr2 (by omega), ?_⟩, fun z => absurd hw6 z⟩, fun z => absurd h6 z⟩
  refine c91 hw (q_mkR ⟨_, rfl, (shp_lt w hw).1, ?_⟩)
  exact c80 (shp_lt w hw).1 (q_mkV h)
theorem c90_n {E : am_Ev} {I : Nat → Nat → Int32} {J : Nat → Nat → Int64} {S : Nat → Nat → Option Nat} {Q : am_Qt} (h6 : ¬ (I 1 6 = nI 2 ∧ nI 6 ≤ I 1 8)) (h : Q (.inl (some (.int (nI 1)))) E I J S) : am_cl 90 [.ref 1] E I J S Q := by
  show am_ww 90 0 [.ref 1] [] E I J S Q
  apply g90_0
  exact ⟨fun a => ⟨fun b => absurd ⟨a, b⟩ h6, fun _ => h⟩, fun _ => h⟩
/-- the takes by the state -/
theorem c77_0 {E : am_Ev} {I : Nat → Nat → Int32} {J : Nat → Nat → Int64} {S : Nat → Nat → Option Nat} {Q : am_Qt} (hs : I 1 10 = nI 0) (h : am_cl 78 [.ref 1] E I J S Q) (hv : ∀ r E' I' J' S', Q r E' I' J' S' → ∃ v, r = .inl (some (.int v))) : am_cl 77 [.ref 1] E I J S Q := by
  show am_ww 77 0 [.ref 1] [] E I J S Q
  have k : am_cl 78 [.ref 1] E I J S (q_I fun v1 E1 I1 J1 S1 => Q (.inl (some (.int v1))) E1 I1 J1 S1) := by
    refine am_ww.mono h ?_
    intro r E' I' J' S' q
    obtain ⟨v, ev⟩ := hv r E' I' J' S' q
    subst ev
    exact ⟨v, rfl, q⟩
  apply g77_0
  rw [hs]
  refine ⟨?_, ?_, ?_, ?_, ?_, ?_⟩
  all_goals first | (intro _; exact k) | (intro z; exact absurd z (by decide)) | (intro z0 z1 z2 z3 z4; first | exact absurd rfl z0 | exact absurd rfl z1 | exact absurd rfl z2 | exact absurd rfl z3 | exact absurd rfl z4)
theorem c77_1 {E : am_Ev} {I : Nat → Nat → Int32} {J : Nat → Nat → Int64} {S : Nat → Nat → Option Nat} {Q : am_Qt} (hs : I 1 10 = nI 1) (h : am_cl 82 [.ref 1] E I J S Q) (hv : ∀ r E' I' J' S', Q r E' I' J' S' → ∃ v, r = .inl (some (.int v))) : am_cl 77 [.ref 1] E I J S Q := by
  show am_ww 77 0 [.ref 1] [] E I J S Q
  have k : am_cl 82 [.ref 1] E I J S (q_I fun v1 E1 I1 J1 S1 => Q (.inl (some (.int v1))) E1 I1 J1 S1) := by
    refine am_ww.mono h ?_
    intro r E' I' J' S' q
    obtain ⟨v, ev⟩ := hv r E' I' J' S' q
    subst ev
    exact ⟨v, rfl, q⟩
  apply g77_0
  rw [hs]
  refine ⟨?_, ?_, ?_, ?_, ?_, ?_⟩
  all_goals first | (intro _; exact k) | (intro z; exact absurd z (by decide)) | (intro z0 z1 z2 z3 z4; first | exact absurd rfl z0 | exact absurd rfl z1 | exact absurd rfl z2 | exact absurd rfl z3 | exact absurd rfl z4)
theorem c77_2 {E : am_Ev} {I : Nat → Nat → Int32} {J : Nat → Nat → Int64} {S : Nat → Nat → Option Nat} {Q : am_Qt} (hs : I 1 10 = nI 2) (h : am_cl 89 [.ref 1] E I J S Q) (hv : ∀ r E' I' J' S', Q r E' I' J' S' → ∃ v, r = .inl (some (.int v))) : am_cl 77 [.ref 1] E I J S Q := by
  show am_ww 77 0 [.ref 1] [] E I J S Q
  have k : am_cl 89 [.ref 1] E I J S (q_I fun v1 E1 I1 J1 S1 => Q (.inl (some (.int v1))) E1 I1 J1 S1) := by
    refine am_ww.mono h ?_
    intro r E' I' J' S' q
    obtain ⟨v, ev⟩ := hv r E' I' J' S' q
    subst ev
    exact ⟨v, rfl, q⟩
  apply g77_0
  rw [hs]
  refine ⟨?_, ?_, ?_, ?_, ?_, ?_⟩
  all_goals first | (intro _; exact k) | (intro z; exact absurd z (by decide)) | (intro z0 z1 z2 z3 z4; first | exact absurd rfl z0 | exact absurd rfl z1 | exact absurd rfl z2 | exact absurd rfl z3 | exact absurd rfl z4)
theorem c77_3 {E : am_Ev} {I : Nat → Nat → Int32} {J : Nat → Nat → Int64} {S : Nat → Nat → Option Nat} {Q : am_Qt} (hs : I 1 10 = nI 3) (h : am_cl 93 [.ref 1] E I J S Q) (hv : ∀ r E' I' J' S', Q r E' I' J' S' → ∃ v, r = .inl (some (.int v))) : am_cl 77 [.ref 1] E I J S Q := by
  show am_ww 77 0 [.ref 1] [] E I J S Q
  have k : am_cl 93 [.ref 1] E I J S (q_I fun v1 E1 I1 J1 S1 => Q (.inl (some (.int v1))) E1 I1 J1 S1) := by
    refine am_ww.mono h ?_
    intro r E' I' J' S' q
    obtain ⟨v, ev⟩ := hv r E' I' J' S' q
    subst ev
    exact ⟨v, rfl, q⟩
  apply g77_0
  rw [hs]
  refine ⟨?_, ?_, ?_, ?_, ?_, ?_⟩
  all_goals first | (intro _; exact k) | (intro z; exact absurd z (by decide)) | (intro z0 z1 z2 z3 z4; first | exact absurd rfl z0 | exact absurd rfl z1 | exact absurd rfl z2 | exact absurd rfl z3 | exact absurd rfl z4)
theorem c77_4 {E : am_Ev} {I : Nat → Nat → Int32} {J : Nat → Nat → Int64} {S : Nat → Nat → Option Nat} {Q : am_Qt} (hs : I 1 10 = nI 4) (h : am_cl 90 [.ref 1] E I J S Q) (hv : ∀ r E' I' J' S', Q r E' I' J' S' → ∃ v, r = .inl (some (.int v))) : am_cl 77 [.ref 1] E I J S Q := by
  show am_ww 77 0 [.ref 1] [] E I J S Q
  have k : am_cl 90 [.ref 1] E I J S (q_I fun v1 E1 I1 J1 S1 => Q (.inl (some (.int v1))) E1 I1 J1 S1) := by
    refine am_ww.mono h ?_
    intro r E' I' J' S' q
    obtain ⟨v, ev⟩ := hv r E' I' J' S' q
    subst ev
    exact ⟨v, rfl, q⟩
  apply g77_0
  rw [hs]
  refine ⟨?_, ?_, ?_, ?_, ?_, ?_⟩
  all_goals first | (intro _; exact k) | (intro z; exact absurd z (by decide)) | (intro z0 z1 z2 z3 z4; first | exact absurd rfl z0 | exact absurd rfl z1 | exact absurd rfl z2 | exact absurd rfl z3 | exact absurd rfl z4)
theorem c77_5 {E : am_Ev} {I : Nat → Nat → Int32} {J : Nat → Nat → Int64} {S : Nat → Nat → Option Nat} {Q : am_Qt} (hs : I 1 10 = nI 5) (h : am_cl 94 [.ref 1] E I J S Q) (hv : ∀ r E' I' J' S', Q r E' I' J' S' → ∃ v, r = .inl (some (.int v))) : am_cl 77 [.ref 1] E I J S Q := by
  show am_ww 77 0 [.ref 1] [] E I J S Q
  have k : am_cl 94 [.ref 1] E I J S (q_I fun v1 E1 I1 J1 S1 => Q (.inl (some (.int v1))) E1 I1 J1 S1) := by
    refine am_ww.mono h ?_
    intro r E' I' J' S' q
    obtain ⟨v, ev⟩ := hv r E' I' J' S' q
    subst ev
    exact ⟨v, rfl, q⟩
  apply g77_0
  rw [hs]
  refine ⟨fun z => absurd z (by decide), fun z => absurd z (by decide), fun z => absurd z (by decide), fun z => absurd z (by decide), fun z => absurd z (by decide), fun _ _ _ _ _ => k⟩
theorem QT_v {n p : Nat} {Q : am_Qt} : ∀ r E' I' J' S', QT n p Q r E' I' J' S' → ∃ v, r = .inl (some (.int v)) := by
  rintro r E' I' J' S' ⟨v, ev, _⟩
  exact ⟨v, ev⟩
