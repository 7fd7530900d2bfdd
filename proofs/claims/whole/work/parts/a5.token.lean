/-! the class's token -/
/-- a name, as the class makes it -/
def nmv (c : Nat → Nat) (b : Nat) : Nat → Int64
  | 0 => lN 0
  | k + 1 => (nmv c b k <<< ((nI 5).toInt64 &&& 63)) ||| (((nI (c (b + k)) - nI 97) + nI 1).toInt64)
theorem c65 {E : am_Ev} {I : Nat → Nat → Int32} {J : Nat → Nat → Int64} {S : Nat → Nat → Option Nat} {Q : am_Qt} {c : Nat → Nat} {n b : Nat} (ht : txc I c n) (hb : I 1 4 = nI b) (hbn : b < n) (h : ∀ v, Wd c b (scn (isL c) n b) v → Q (.inl none) E (u_I I 1 (upd (upd (upd (I 1) 6 (nI 2)) 5 (nI (scn (isL c) n b))) 8 v)) (u_J J 1 (vp_updL (J 1) 9 (nmv c b (scn (isL c) n b - b)))) S) : am_cl 65 [.ref 1, .int (nI n)] E I J S Q := by
  have hn := ht.1
  show am_ww 65 0 [.ref 1, .int (nI n)] [] E I J S Q
  apply g65_0
  rw [hb]
  obtain ⟨s1, s2, s3, s4⟩ := scn_ge (P := isL c) (n := n) (n - b) b rfl
  have s2 := s2 (by omega)
  -- the end of it
  have fin : ∀ Q' : am_Qt, (∀ v, Wd c b (scn (isL c) n b) v → Q' (.inl (some (.int v))) E (u_I I 1 (upd (upd (I 1) 6 (nI 2)) 5 (nI (scn (isL c) n b)))) (u_J J 1 (vp_updL (J 1) 9 (nmv c b (scn (isL c) n b - b)))) S) → am_cl 66 [.ref 1] E (u_I I 1 (upd (upd (I 1) 6 (nI 2)) 5 (nI (scn (isL c) n b)))) (u_J J 1 (vp_updL (J 1) 9 (nmv c b (scn (isL c) n b - b)))) S Q' := by
    intro Q' hQ
    refine c66 (c := c) (n := n) (b := b) (e := scn (isL c) n b) ⟨hn, fun k hk => ?_⟩ ?_ ?_ s1 s2 s3 hQ
    · rw [u_I_ne (by decide)]; exact ht.2 k hk
    · rw [u_I_eq, upd_ne (by decide), upd_ne (by decide)]; exact hb
    · rw [u_I_eq, upd_eq]
  have key : ∀ m q, n - q = m → b ≤ q → q ≤ n → scn (isL c) n q = scn (isL c) n b → am_ww 65 10 [.ref 1, .int (nI n)] [] E (u_I I 1 (upd (upd (I 1) 6 (nI 2)) 5 (nI q))) (u_J J 1 (vp_updL (J 1) 9 (nmv c b (q - b)))) S Q := by
    intro m
    induction m with
    | zero =>
      intro q e hq hqn es
      rw [scn_e (by omega)] at es
      subst es
      apply g65_10
      rw [u_I_eq, upd_eq, nI_leI (by omega) (by omega)]
      refine ⟨fun _ => ?_, fun z => absurd (by omega) z⟩
      refine fin _ (fun v hv => q_mkI ?_)
      rw [uI_0]
      exact h v hv
    | succ m ih =>
      intro q e hq hqn es
      obtain ⟨t1, t2⟩ := ht.2 q (by omega)
      have out : isL c q = false → ∀ Q' : am_Qt, (∀ v, Wd c b (scn (isL c) n b) v → Q' (.inl (some (.int v))) E (u_I I 1 (upd (upd (I 1) 6 (nI 2)) 5 (nI q))) (u_J J 1 (vp_updL (J 1) 9 (nmv c b (q - b)))) S) → am_cl 66 [.ref 1] E (u_I I 1 (upd (upd (I 1) 6 (nI 2)) 5 (nI q))) (u_J J 1 (vp_updL (J 1) 9 (nmv c b (q - b)))) S Q' := by
        intro z
        rw [scn_n z] at es
        rw [es]
        exact fin
      have out2 : isL c q = false → am_cl 66 [.ref 1] E (u_I I 1 (upd (upd (I 1) 6 (nI 2)) 5 (nI q))) (u_J J 1 (vp_updL (J 1) 9 (nmv c b (q - b)))) S (q_I fun v4 E4 I4 J4 S4 => Q (.inl none) E4 (u_I I4 1 (upd (I4 1) 8 v4)) J4 S4) := by
        intro z
        refine out z _ (fun v hv => q_mkI ?_)
        rw [scn_n z] at es
        rw [uI_0, u_I_eq]
        rw [← es] at h hv
        exact h v hv
      apply g65_10
      rw [u_I_eq, upd_eq, nI_leI (by omega) (by omega), nI_clamp (by omega), u_I_ne (show 2 ≠ 1 by decide), t2]
      refine ⟨fun z => absurd z (by omega), fun _ => ⟨vp_in_nI (by omega) (by omega), ?_⟩⟩
      intro w ew
      subst ew
      rw [sb_lt t1 (by omega), sb_gt t1 (by omega)]
      refine ⟨fun z => out2 (decide_eq_false (by omega)), fun z => ⟨fun z2 => out2 (decide_eq_false (by omega)), fun z2 => ?_⟩⟩
      have hq1 : 97 ≤ c q ∧ c q ≤ 122 := by omega
      have hL' : isL c q = true := decide_eq_true hq1
      rw [uI_0, upd_upd, nI_add, uJ_0, u_J_eq, vp_updL_updL, vp_updL_eq, sb_lo _ (by omega)]
      have r := ih (q + 1) (by omega) (by omega) (by omega) (by rw [← es, scn_y (by omega) hL'])
      rw [show q + 1 - b = (q - b) + 1 by omega] at r
      rw [show nmv c b (q - b + 1) = (nmv c b (q - b) <<< ((nI 5).toInt64 &&& 63)) ||| (((nI (c (b + (q - b))) - nI 97) + nI 1).toInt64) from rfl, show b + (q - b) = q by omega] at r
      exact r
  have k0 := key (n - b) b rfl (Nat.le_refl _) (by omega) rfl
  rw [Nat.sub_self] at k0
  exact k0
