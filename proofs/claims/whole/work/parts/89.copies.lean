/-! a machine is copied; steps are taken back -/
theorem cpy_in {f g : Nat → Int32} {n j : Nat} (h : j < n) : va_cpy f g 0 0 n j = f j := by
  unfold va_cpy
  rw [if_pos (by omega), show 0 + (j - 0) = j by omega]
theorem c50_20_61 {E : am_Ev} {I : Nat → Nat → Int32} {J : Nat → Nat → Int64} {S : Nat → Nat → Option Nat} {Q : am_Qt} {r : Nat → Int32} (hm : rm I 61 r) (h : ∀ I', rm I' 20 r → fb I I' 20 26 → Q (.inl none) E I' J S) : am_cl 50 [.ref 20, .ref 61] E I J S Q := by
  show am_ww 50 0 [.ref 20, .ref 61] [] E I J S Q
  obtain ⟨h1, h2, h3, h4, h5, h6, h7⟩ := hm
  apply g50_0_20_61
  refine h _ ⟨fun k hk => ?_, fun t j ht hj => ?_, fun t ht => ?_, fun t ht => ?_, fun l hl => ?_, ?_, fun s hs => ?_⟩ ?_
  · rw [u_I_ne (by decide), u_I_ne (by decide), u_I_ne (by decide), u_I_ne (by decide), u_I_ne (by decide), u_I_ne (by decide), u_I_eq, cpy_in (by omega)]; exact h1 k hk
  · rw [u_I_ne (by decide), u_I_ne (by decide), u_I_ne (by decide), u_I_ne (by decide), u_I_ne (by decide), u_I_eq, cpy_in (by omega)]; exact h2 t j ht hj
  · rw [u_I_ne (by decide), u_I_ne (by decide), u_I_ne (by decide), u_I_ne (by decide), u_I_eq, cpy_in (by omega)]; exact h3 t ht
  · rw [u_I_ne (by decide), u_I_ne (by decide), u_I_ne (by decide), u_I_eq, cpy_in (by omega)]; exact h4 t ht
  · rw [u_I_ne (by decide), u_I_ne (by decide), u_I_eq, cpy_in (by omega)]; exact h5 l hl
  · rw [u_I_eq, upd_eq]; exact h6
  · rw [u_I_ne (by decide), u_I_eq, cpy_in (by omega)]; exact h7 s hs
  · exact fb_u (fb_u (fb_u (fb_u (fb_u (fb_u (fb_u fb_id (by omega) (by omega)) (by omega) (by omega)) (by omega) (by omega)) (by omega) (by omega)) (by omega) (by omega)) (by omega) (by omega)) (by omega) (by omega)
theorem c50_20_41 {E : am_Ev} {I : Nat → Nat → Int32} {J : Nat → Nat → Int64} {S : Nat → Nat → Option Nat} {Q : am_Qt} {r : Nat → Int32} (hm : rm I 41 r) (h : ∀ I', rm I' 20 r → fb I I' 20 26 → Q (.inl none) E I' J S) : am_cl 50 [.ref 20, .ref 41] E I J S Q := by
  show am_ww 50 0 [.ref 20, .ref 41] [] E I J S Q
  obtain ⟨h1, h2, h3, h4, h5, h6, h7⟩ := hm
  apply g50_0_20_41
  refine h _ ⟨fun k hk => ?_, fun t j ht hj => ?_, fun t ht => ?_, fun t ht => ?_, fun l hl => ?_, ?_, fun s hs => ?_⟩ ?_
  · rw [u_I_ne (by decide), u_I_ne (by decide), u_I_ne (by decide), u_I_ne (by decide), u_I_ne (by decide), u_I_ne (by decide), u_I_eq, cpy_in (by omega)]; exact h1 k hk
  · rw [u_I_ne (by decide), u_I_ne (by decide), u_I_ne (by decide), u_I_ne (by decide), u_I_ne (by decide), u_I_eq, cpy_in (by omega)]; exact h2 t j ht hj
  · rw [u_I_ne (by decide), u_I_ne (by decide), u_I_ne (by decide), u_I_ne (by decide), u_I_eq, cpy_in (by omega)]; exact h3 t ht
  · rw [u_I_ne (by decide), u_I_ne (by decide), u_I_ne (by decide), u_I_eq, cpy_in (by omega)]; exact h4 t ht
  · rw [u_I_ne (by decide), u_I_ne (by decide), u_I_eq, cpy_in (by omega)]; exact h5 l hl
  · rw [u_I_eq, upd_eq]; exact h6
  · rw [u_I_ne (by decide), u_I_eq, cpy_in (by omega)]; exact h7 s hs
  · exact fb_u (fb_u (fb_u (fb_u (fb_u (fb_u (fb_u fb_id (by omega) (by omega)) (by omega) (by omega)) (by omega) (by omega)) (by omega) (by omega)) (by omega) (by omega)) (by omega) (by omega)) (by omega) (by omega)
theorem c50_41_20 {E : am_Ev} {I : Nat → Nat → Int32} {J : Nat → Nat → Int64} {S : Nat → Nat → Option Nat} {Q : am_Qt} {r : Nat → Int32} (hm : rm I 20 r) (h : ∀ I', rm I' 41 r → fb I I' 41 47 → Q (.inl none) E I' J S) : am_cl 50 [.ref 41, .ref 20] E I J S Q := by
  show am_ww 50 0 [.ref 41, .ref 20] [] E I J S Q
  obtain ⟨h1, h2, h3, h4, h5, h6, h7⟩ := hm
  apply g50_0_41_20
  refine h _ ⟨fun k hk => ?_, fun t j ht hj => ?_, fun t ht => ?_, fun t ht => ?_, fun l hl => ?_, ?_, fun s hs => ?_⟩ ?_
  · rw [u_I_ne (by decide), u_I_ne (by decide), u_I_ne (by decide), u_I_ne (by decide), u_I_ne (by decide), u_I_ne (by decide), u_I_eq, cpy_in (by omega)]; exact h1 k hk
  · rw [u_I_ne (by decide), u_I_ne (by decide), u_I_ne (by decide), u_I_ne (by decide), u_I_ne (by decide), u_I_eq, cpy_in (by omega)]; exact h2 t j ht hj
  · rw [u_I_ne (by decide), u_I_ne (by decide), u_I_ne (by decide), u_I_ne (by decide), u_I_eq, cpy_in (by omega)]; exact h3 t ht
  · rw [u_I_ne (by decide), u_I_ne (by decide), u_I_ne (by decide), u_I_eq, cpy_in (by omega)]; exact h4 t ht
  · rw [u_I_ne (by decide), u_I_ne (by decide), u_I_eq, cpy_in (by omega)]; exact h5 l hl
  · rw [u_I_eq, upd_eq]; exact h6
  · rw [u_I_ne (by decide), u_I_eq, cpy_in (by omega)]; exact h7 s hs
  · exact fb_u (fb_u (fb_u (fb_u (fb_u (fb_u (fb_u fb_id (by omega) (by omega)) (by omega) (by omega)) (by omega) (by omega)) (by omega) (by omega)) (by omega) (by omega)) (by omega) (by omega)) (by omega) (by omega)
