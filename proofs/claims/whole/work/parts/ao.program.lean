/-! the state between two calls; program -/
def IMG (I : Nat → Nat → Int32) : Prop := (I 99 58 = nI 0 ∧ I 0 13 = nI 0) ∨ (I 99 58 = nI 1 ∧ I 0 13 = nI 1 ∧ ∃ T cu ac n, CR (sw I) T cu ac n)
def INV (I : Nat → Nat → Int32) (J : Nat → Nat → Int64) (S : Nat → Nat → Option Nat) : Prop := SW S ∧ (∃ m, tp I m) ∧ (∃ T cu ac n d, CR I T cu ac n ∧ vw I T d ∧ FRS I J T) ∧ I 99 24 = I 0 12 ∧ IMG I
section
variable {I I' : Nat → Nat → Int32} {J J' : Nat → Nat → Int64} {S : Nat → Nat → Option Nat}
theorem tp_e {m : Nat} (h : tp I m) (h1 : I' 1 1 = I 1 1) (h2 : I' 2 = I 2) (h3 : I' 111 = I 111) (h4 : I' 99 15 = I 99 15) : tp I' m := by
  unfold tp at *
  rw [h1, h2, h3, h4]
  exact h
theorem IMG_e (h : IMG I) (hk : ∀ k, 12 ≤ k ∧ k < 18 ∨ 39 ≤ k ∧ k < 60 ∨ 103 ≤ k ∧ k < 110 ∨ 134 ≤ k ∧ k < 146 → I' k = I k) (h13 : I' 0 13 = I 0 13) (hf : ∀ f, 58 ≤ f ∧ f < 62 → I' 99 f = I 99 f) : IMG I' := by
  rcases h with ⟨a, b⟩ | ⟨a, b, T, cu, ac, n, c⟩
  · exact Or.inl ⟨by rw [hf 58 (by omega)]; exact a, by rw [h13]; exact b⟩
  · refine Or.inr ⟨by rw [hf 58 (by omega)]; exact a, by rw [h13]; exact b, T, cu, ac, n, CR_e ⟨fun k hk' => ?_, ?_, ?_, ?_⟩ c⟩
    · unfold sw
      by_cases c1 : 18 ≤ k ∧ k < 39
      · rw [if_pos c1, if_pos c1, hk (k + 21) (by omega)]
      · rw [if_neg c1, if_neg c1]
        rw [if_neg (show ¬ k = 99 by omega), if_neg (show ¬ k = 99 by omega)]
        by_cases c3 : 117 ≤ k ∧ k < 125
        · rw [if_pos c3, if_pos c3, hk (k + 17) (by omega)]
        · rw [if_neg c3, if_neg c3]
          by_cases c4 : k = 126
          · rw [if_pos c4, if_pos c4, hk 142 (by omega)]
          · rw [if_neg c4, if_neg c4]
            by_cases c5 : k = 127
            · rw [if_pos c5, if_pos c5, hk 143 (by omega)]
            · rw [if_neg c5, if_neg c5]
              by_cases c6 : k = 110
              · rw [if_pos c6, if_pos c6, hk 144 (by omega)]
              · rw [if_neg c6, if_neg c6, hk k (by omega)]
    · unfold sw
      rw [if_neg (by omega), if_pos rfl, if_neg (by omega), if_pos rfl, upd_ne (by decide), upd_ne (by decide), upd_eq, upd_ne (by decide), upd_ne (by decide), upd_eq, hf 59 (by omega)]
    · unfold sw
      rw [if_neg (by omega), if_pos rfl, if_neg (by omega), if_pos rfl, upd_ne (by decide), upd_eq, upd_ne (by decide), upd_eq, hf 60 (by omega)]
    · unfold sw
      rw [if_neg (by omega), if_pos rfl, if_neg (by omega), if_pos rfl, upd_eq, upd_eq, hf 61 (by omega)]
theorem INV_kp (hv : INV I J S) (hk : KP I I') (hc : ∃ T cu ac n d, CR I' T cu ac n ∧ vw I' T d ∧ FRS I' J' T) : INV I' J' S := by
  obtain ⟨v1, ⟨m, v2⟩, v3, v4, v5⟩ := hv
  obtain ⟨k1, k2⟩ := hk
  refine ⟨v1, ⟨m, tp_e v2 (by rw [k1 1 (by omega)]) (k1 2 (by omega)) (k1 111 (by omega)) (k2 15 (by omega))⟩, hc, ?_, IMG_e v5 (fun k h => k1 k (by omega)) (by rw [k1 0 (by omega)]) (fun f hf => k2 f (by omega))⟩
  rw [k2 24 (by omega), k1 0 (by omega)]
  exact v4
/-- the image, with the upper halves changed -/
theorem IMG_lo (h : IMG I) (hl : plo I I') (hk : ∀ k, 12 ≤ k ∧ k < 18 ∨ 39 ≤ k ∧ k < 60 ∨ 134 ≤ k ∧ k < 146 → I' k = I k) (h13 : I' 0 13 = I 0 13) (hf : ∀ f, 58 ≤ f ∧ f < 62 → I' 99 f = I 99 f) : IMG I' := by
  rcases h with ⟨a, b⟩ | ⟨a, b, T, cu, ac, n, c⟩
  · exact Or.inl ⟨by rw [hf 58 (by omega)]; exact a, by rw [h13]; exact b⟩
  · have s1 : ∀ k, 18 ≤ k → k < 39 → sw I' k = sw I k := fun k x y => by
      unfold sw
      rw [if_pos ⟨x, y⟩, if_pos ⟨x, y⟩, hk (k + 21) (by omega)]
    have s2 : ∀ (K : Nat → Nat → Int32) k, k < 18 ∨ 100 ≤ k ∧ k < 110 → sw K k = K k := fun K k x => by
      unfold sw
      rw [if_neg (by omega), if_neg (by omega), if_neg (by omega), if_neg (by omega), if_neg (by omega), if_neg (by omega)]
    have s3 : ∀ k, 117 ≤ k ∧ k < 125 ∨ k = 126 ∨ k = 127 ∨ k = 110 → sw I' k = sw I k := fun k x => by
      unfold sw
      rw [if_neg (by omega), if_neg (by omega), if_neg (show ¬ (18 ≤ k ∧ k < 39) by omega), if_neg (show ¬ k = 99 by omega)]
      by_cases c3 : 117 ≤ k ∧ k < 125
      · rw [if_pos c3, if_pos c3, hk (k + 17) (by omega)]
      · rw [if_neg c3, if_neg c3]
        by_cases c4 : k = 126
        · rw [if_pos c4, if_pos c4, hk 142 (by omega)]
        · rw [if_neg c4, if_neg c4]
          by_cases c5 : k = 127
          · rw [if_pos c5, if_pos c5, hk 143 (by omega)]
          · rw [if_neg c5, if_neg c5, if_pos (by omega), if_pos (by omega), hk 144 (by omega)]
    have st := c.2.2.2.2.2.2.2.2.2.2.2.2.2
    refine Or.inr ⟨by rw [hf 58 (by omega)]; exact a, by rw [h13]; exact b, T, cu, ac, n, CR_lo ⟨?_, ?_, ?_, ?_⟩ (fun k hk' => ?_) (fun f _ => by rw [s1 18 (by omega) (by omega)]) ?_ ?_ ?_ ?_ c⟩
    · rw [s2 I' 103 (by omega), s2 I 103 (by omega)]; exact hl.1
    · rw [s2 I' 104 (by omega), s2 I 104 (by omega)]; exact hl.2.1
    · rw [s2 I' 105 (by omega), s2 I 105 (by omega)]; exact hl.2.2.1
    · intro j j1 j2 k hk''
      rw [s2 I' j (by omega), s2 I j (by omega)]; exact hl.2.2.2 j j1 j2 k hk''
    · by_cases c1 : k < 18
      · rw [s2 I' k (by omega), s2 I k (by omega), hk k (by omega)]
      · by_cases c2 : k < 39
        · exact s1 k (by omega) c2
        · exact s3 k (by omega)
    · unfold sw
      rw [if_neg (by omega), if_pos rfl, if_neg (by omega), if_pos rfl, upd_ne (by decide), upd_ne (by decide), upd_eq, upd_ne (by decide), upd_ne (by decide), upd_eq, hf 59 (by omega)]
    · unfold sw
      rw [if_neg (by omega), if_pos rfl, if_neg (by omega), if_pos rfl, upd_ne (by decide), upd_eq, upd_ne (by decide), upd_eq, hf 60 (by omega)]
    · unfold sw
      rw [if_neg (by omega), if_pos rfl, if_neg (by omega), if_pos rfl, upd_eq, upd_eq, hf 61 (by omega)]
    · rw [s3 110 (by omega), s1 18 (by omega) (by omega)]; exact st
end
/-- two ends of one run of the class -/
theorem end_u {x : Int32} {E E1 E2 : am_Ev} {I A1 A2 : Nat → Nat → Int32} {J B1 B2 : Nat → Nat → Int64} {S C1 C2 : Nat → Nat → Option Nat} {v1 v2 : Int32} (h1 : ∀ Q : am_Qt, Q (.inl (some (.int v1))) E1 A1 B1 C1 → am_cl 60 [.ref 1, .int x] E I J S Q) (h2 : ∀ Q : am_Qt, Q (.inl (some (.int v2))) E2 A2 B2 C2 → am_cl 60 [.ref 1, .int x] E I J S Q) : v1 = v2 ∧ A1 = A2 := by
  have a := h1 (fun r _ I' _ _ => r = .inl (some (.int v1)) ∧ I' = A1) ⟨rfl, rfl⟩
  have b := h2 (fun r _ I' _ _ => r = .inl (some (.int v2)) ∧ I' = A2) ⟨rfl, rfl⟩
  obtain ⟨r, _, I', _, _, ⟨x1, x2⟩, y1, y2⟩ := ww_ex (ww_and a b)
  have e := x1.symm.trans y1
  injection e with e
  injection e with e
  injection e with e
  exact ⟨e, x2.symm.trans y2⟩
theorem k_program {E : am_Ev} {I : Nat → Nat → Int32} {J : Nat → Nat → Int64} {S : Nat → Nat → Option Nat} {Q : am_Qt} {i : Nat} {x4 : Int32} {d5 d6 : Value} (hd5 : am_isL d5 = false) (hd6 : am_isL d6 = false) (hv : INV I J S) (hx : x4 = nI i) (hi : i + 6 ≤ E.2.2.1) (hL : E.2.2.1 ≤ 3072) (h : ∀ E' I' J' S', E' = E ∨ E' = Ex E → INV I' J' S' → lk x4 E' I' J' S' Q) : am_ww 291 82 [.ref 1000000, .ref 0, .ref 99, .ref 145, .int x4, d5, d6] [] E I J S Q := by
  have hv0 := hv
  obtain ⟨hS, ⟨m, t1, t2, t3, t4⟩, ⟨T, cu, ac, nn, d, hcr, hvw, hfr⟩, h24, him⟩ := hv
  apply g291_82 hd5 hd6
  refine L1 hx hi hL ?_
  generalize E.2.2.2 (i + 1) = x
  show am_ww 58 0 [.ref 0, .int x, .ref 145, am_U] [] E I J S _
  apply g58_0
  show am_ww 59 0 [.ref 0, .int x, am_U] [] E I J S _
  apply g59_0
  rw [t1]
  rcases rng x (m + 1) (by omega) with ⟨n, hn, rfl⟩ | hb
  · refine ⟨fun q => absurd q (nI_nneg (by omega)), fun _ => ⟨fun _ => ?_, fun q => absurd (by rw [nI_leI (by omega) (by omega)]; omega) q⟩⟩
    have hc : ∀ k, k < n → (I 111 k).toNatClampNeg < 256 ∧ I 111 k = nI (I 111 k).toNatClampNeg ∧ I 2 k = sb (I 111 k).toNatClampNeg := by
      intro k hk
      obtain ⟨c, c1, c2, c3⟩ := t4 k (by omega)
      rw [c2, nI_clamp (by omega)]
      exact ⟨c1, rfl, c3⟩
    have dn : ∃ k A B C, k ≤ 5 ∧ CF I J S A B C ∧ ∀ Q' : am_Qt, Q' (.inl (some (.int (nI k)))) E A B C → am_cl 60 [.ref 1, .int (nI n)] E I J S Q' := by
      have r1 := m188r (E := E) (I := I) (J := J) (S := S) (A0 := I) (B0 := J) (C0 := S) (c := fun k => (I 111 k).toNatClampNeg) (n := n) (m := m) (Q := fun _ _ _ _ _ => ∃ k A B C, k ≤ 5 ∧ CF I J S A B C ∧ ∀ Q' : am_Qt, Q' (.inl (some (.int (nI k)))) E A B C → am_cl 60 [.ref 1, .int (nI n)] E I J S Q') hS (by omega) t3 t2 hc (fun v I' f0 _ e22 => by
          obtain ⟨T', A, B, C, cf, _, hZ⟩ := f0
          apply g188_107 rfl rfl
          exact ⟨fun _ => m213 (fun I2 _ => q_mkV ⟨0, A, B, C, by omega, cf, hZ⟩), fun z => absurd e22 z⟩) (fun v I' fx _ => by
          obtain ⟨k, A, B, C, k1, k5, e22, _, cf, hZ⟩ := fx
          apply g188_107 rfl rfl
          exact ⟨fun z => by rw [e22, nI_e0 (by omega)] at z; omega, fun _ => ⟨k, A, B, C, k5, cf, hZ⟩⟩)
      obtain ⟨_, _, _, _, _, r⟩ := ww_ex r1
      exact r
    obtain ⟨k, A, B, C, k5, ⟨cf1, cf2, cf3⟩, hZ⟩ := dn
    have hS' : SW C := by
      unfold SW at *
      rw [cf3 100 (by decide), cf3 101 (by decide), cf3 102 (by decide)]
      exact hS
    refine hZ _ (q_mkI ⟨fun ek => ?_, fun ek => ?_⟩)
    · rw [nI_e0 (by omega)] at ek
      subst ek
      show am_ww 96 0 [.ref 12, .ref 3] [] E (u_I (u_I A 1 (upd (A 1) 1 (nI 0))) 0 (upd (A 0) 12 (-1))) B C _
      have zo : ∀ k, k ≠ 0 → k ≠ 1 → u_I (u_I A 1 (upd (A 1) 1 (nI 0))) 0 (upd (A 0) 12 (-1)) k = A k := fun k a b => by rw [u_I_ne a, u_I_ne b]
      have z1 : u_I (u_I A 1 (upd (A 1) 1 (nI 0))) 0 (upd (A 0) 12 (-1)) 1 1 = nI 0 := by rw [u_I_ne (by decide), u_I_eq, upd_eq]
      have z0 : u_I (u_I A 1 (upd (A 1) 1 (nI 0))) 0 (upd (A 0) 12 (-1)) 0 = upd (A 0) 12 (-1) := u_I_eq
      generalize u_I (u_I A 1 (upd (A 1) 1 (nI 0))) 0 (upd (A 0) 12 (-1)) = H at zo z1 z0 ⊢
      apply g96_0
      refine q_mkV ?_
      have p13 : ∀ k, k < 64 → u_I (u_I (u_I (u_I (u_I (u_I H 13 (va_cpy (H 4) (H 13) 0 0 64)) 14 (va_cpy (H 5) (H 14) 0 0 192)) 15 (va_cpy (H 6) (H 15) 0 0 4)) 16 (va_cpy (H 7) (H 16) 0 0 16)) 17 (va_cpy (H 8) (H 17) 0 0 4)) 12 (upd (H 12) 5 (H 3 5)) 13 k = A 4 k := fun k hk => by rw [u_I_ne (by decide), u_I_ne (by decide), u_I_ne (by decide), u_I_ne (by decide), u_I_ne (by decide), u_I_eq, cpy_n hk, zo 4 (by decide) (by decide)]
      have p14 : ∀ k, k < 192 → u_I (u_I (u_I (u_I (u_I (u_I H 13 (va_cpy (H 4) (H 13) 0 0 64)) 14 (va_cpy (H 5) (H 14) 0 0 192)) 15 (va_cpy (H 6) (H 15) 0 0 4)) 16 (va_cpy (H 7) (H 16) 0 0 16)) 17 (va_cpy (H 8) (H 17) 0 0 4)) 12 (upd (H 12) 5 (H 3 5)) 14 k = A 5 k := fun k hk => by rw [u_I_ne (by decide), u_I_ne (by decide), u_I_ne (by decide), u_I_ne (by decide), u_I_eq, cpy_n hk, zo 5 (by decide) (by decide)]
      have p15 : ∀ k, k < 4 → u_I (u_I (u_I (u_I (u_I (u_I H 13 (va_cpy (H 4) (H 13) 0 0 64)) 14 (va_cpy (H 5) (H 14) 0 0 192)) 15 (va_cpy (H 6) (H 15) 0 0 4)) 16 (va_cpy (H 7) (H 16) 0 0 16)) 17 (va_cpy (H 8) (H 17) 0 0 4)) 12 (upd (H 12) 5 (H 3 5)) 15 k = A 6 k := fun k hk => by rw [u_I_ne (by decide), u_I_ne (by decide), u_I_ne (by decide), u_I_eq, cpy_n hk, zo 6 (by decide) (by decide)]
      have p16 : ∀ k, k < 16 → u_I (u_I (u_I (u_I (u_I (u_I H 13 (va_cpy (H 4) (H 13) 0 0 64)) 14 (va_cpy (H 5) (H 14) 0 0 192)) 15 (va_cpy (H 6) (H 15) 0 0 4)) 16 (va_cpy (H 7) (H 16) 0 0 16)) 17 (va_cpy (H 8) (H 17) 0 0 4)) 12 (upd (H 12) 5 (H 3 5)) 16 k = A 7 k := fun k hk => by rw [u_I_ne (by decide), u_I_ne (by decide), u_I_eq, cpy_n hk, zo 7 (by decide) (by decide)]
      have p17 : ∀ k, k < 4 → u_I (u_I (u_I (u_I (u_I (u_I H 13 (va_cpy (H 4) (H 13) 0 0 64)) 14 (va_cpy (H 5) (H 14) 0 0 192)) 15 (va_cpy (H 6) (H 15) 0 0 4)) 16 (va_cpy (H 7) (H 16) 0 0 16)) 17 (va_cpy (H 8) (H 17) 0 0 4)) 12 (upd (H 12) 5 (H 3 5)) 17 k = A 8 k := fun k hk => by rw [u_I_ne (by decide), u_I_eq, cpy_n hk, zo 8 (by decide) (by decide)]
      have p12 : u_I (u_I (u_I (u_I (u_I (u_I H 13 (va_cpy (H 4) (H 13) 0 0 64)) 14 (va_cpy (H 5) (H 14) 0 0 192)) 15 (va_cpy (H 6) (H 15) 0 0 4)) 16 (va_cpy (H 7) (H 16) 0 0 16)) 17 (va_cpy (H 8) (H 17) 0 0 4)) 12 (upd (H 12) 5 (H 3 5)) 12 5 = A 3 5 := by rw [u_I_eq, upd_eq, zo 3 (by decide) (by decide)]
      have po : ∀ k, k < 12 ∨ 18 ≤ k → u_I (u_I (u_I (u_I (u_I (u_I H 13 (va_cpy (H 4) (H 13) 0 0 64)) 14 (va_cpy (H 5) (H 14) 0 0 192)) 15 (va_cpy (H 6) (H 15) 0 0 4)) 16 (va_cpy (H 7) (H 16) 0 0 16)) 17 (va_cpy (H 8) (H 17) 0 0 4)) 12 (upd (H 12) 5 (H 3 5)) k = H k := fun k hk => by rw [u_I_ne (by omega), u_I_ne (by omega), u_I_ne (by omega), u_I_ne (by omega), u_I_ne (by omega), u_I_ne (by omega)]
      generalize u_I (u_I (u_I (u_I (u_I (u_I H 13 (va_cpy (H 4) (H 13) 0 0 64)) 14 (va_cpy (H 5) (H 14) 0 0 192)) 15 (va_cpy (H 6) (H 15) 0 0 4)) 16 (va_cpy (H 7) (H 16) 0 0 16)) 17 (va_cpy (H 8) (H 17) 0 0 4)) 12 (upd (H 12) 5 (H 3 5)) = H1 at p12 p13 p14 p15 p16 p17 po ⊢
      refine c14p (P := u_I H1 104 (H1 16)) (fun k _ => by rw [u_I_eq]) (fun H2 bg => q_mkV ?_)
      obtain ⟨b1, b2, b3, b4, b5, b6, b7, b8, b9, b10⟩ := bg
      refine c41p (P := u_I H1 104 (H1 16)) (fun k _ => by rw [u_I_ne (by decide), b1 16 (by omega), u_I_eq]) (fun H3 w1 w2 w3 w4 => q_mkV ?_)
      refine W_ok (y := 58) (q_mkI ⟨rfl, ?_⟩)
      -- the class's heap
      have ho : ∀ k, k = 2 ∨ k = 27 ∨ 29 ≤ k ∧ k < 34 ∨ 35 ≤ k ∧ k < 60 ∨ 68 ≤ k ∧ k < 89 ∨ 90 ≤ k → H3 k = I k := fun k hk => by
        rw [w1 k (by omega) (by omega), u_I_ne (by omega), b1 k (by omega), po k (by omega), zo k (by omega) (by omega), cf1 k (by omega)]
      have hp' : ∀ k, 12 ≤ k → k < 18 → H3 k = H1 k := fun k a b => by rw [w1 k (by omega) (by omega), u_I_ne (by omega), b1 k (by omega)]
      refine m188r (A0 := I) (B0 := J) (C0 := S) (c := fun k => (I 111 k).toNatClampNeg) (n := n) (m := m) hS' (by omega) t3 (by rw [ho 99 (by omega)]; exact t2) (fun k hk => ?_) (fun v I' f0 rf e22 => ?_) (fun v I' fx rf => ?_)
      · rw [ho 111 (by omega)]; exact hc k hk
      · obtain ⟨T', A2, B2, C2, cf', fin, hZ2⟩ := f0
        obtain ⟨_, eA⟩ := end_u hZ hZ2
        subst eA
        apply g188_107 rfl rfl
        refine ⟨fun _ => m213 (fun F tk' => q_mkV (q_mkI ?_)), fun z => absurd e22 z⟩
        obtain ⟨f1, f2, f3, f4, f5, f6, f7, f8, f9, f10, f11, f12⟩ := tk'
        obtain ⟨r1, r2, r3, r4, r5', r6, r7, r8, r9⟩ := rf
        have go : ∀ k, k < 99 → F k = H3 k := fun k hk => by rw [f1 k (by omega), r1 k (by omega)]
        have hi : ∀ k, 134 ≤ k → F k = I k := fun k hk => by rw [f1 k (by omega), r1 k (by omega), ho k (by omega)]
        obtain ⟨q1, q2, q3⟩ := FIN_p (F := F) fin f2 f3 f4 f5 (by rw [go 12 (by omega), hp' 12 (by omega) (by omega)]; exact p12) (fun k hk => by rw [go 13 (by omega), hp' 13 (by omega) (by omega)]; exact p13 k hk) (fun k hk => by rw [go 14 (by omega), hp' 14 (by omega) (by omega)]; exact p14 k hk) (fun k hk => by rw [go 15 (by omega), hp' 15 (by omega) (by omega)]; exact p15 k hk) (fun k hk => by rw [go 16 (by omega), hp' 16 (by omega) (by omega)]; exact p16 k hk) (fun k hk => by rw [go 17 (by omega), hp' 17 (by omega) (by omega)]; exact p17 k hk)
        have e104 : ∀ k, k < 16 → u_I H1 104 (H1 16) 104 k = F 104 k := fun k hk => by
          rw [u_I_eq, ← q2.2.2.1 k hk, go 16 (by omega), hp' 16 (by omega) (by omega)]
        have efirst : ∀ seed, rm F 20 (m_first (u_I H1 104 (H1 16)) seed) → rm F 20 (m_first F seed) := fun seed hr => by
          refine rm_c hr (fun k hk => ?_)
          unfold m_first
          by_cases c1 : k < 16
          · rw [if_pos c1, if_pos c1, e104 k c1]
          · rw [if_neg c1, if_neg c1]
        have efirst6 : ∀ seed, rm F 61 (m_first (u_I H1 104 (H1 16)) seed) → rm F 61 (m_first F seed) := fun seed hr => by
          refine rm_c hr (fun k hk => ?_)
          unfold m_first
          by_cases c1 : k < 16
          · rw [if_pos c1, if_pos c1, e104 k c1]
          · rw [if_neg c1, if_neg c1]
        have g2 : ∀ k, 18 ≤ k → k < 60 → F k = H2 k := fun k a b => by rw [go k (by omega), w1 k (by omega) (by omega), u_I_ne (by omega)]
        have e18 : F 18 = H2 18 := g2 18 (by omega) (by omega)
        have e18i : ∀ f, f ≠ 9 → f ≠ 10 → f ≠ 11 → F 18 f = I 18 f := fun f x y z => by rw [e18, b7 f x y z, po 18 (by omega), zo 18 (by omega) (by omega), cf1 18 (by omega)]
        have e110 : F 110 = I 110 := by rw [f1 110 (by omega), r1 110 (by omega), ho 110 (by omega)]
        have es : H1 17 1 = F 103 1 := by rw [← q2.2.2.2 1 (by omega), go 17 (by omega), hp' 17 (by omega) (by omega)]
        have hst := hcr.2.2.2.2.2.2.2.2.2.2.2.2.2
        have hcr' : CR F 0 0 0 0 := by
          refine CR_new q1 q2 q3 f12 f8 f9 f10 ⟨by rw [e18]; exact b8, by rw [e18]; exact b9, by rw [e18]; exact b10⟩ (fun s hs => ⟨f6 s hs, ?_⟩) ?_ ?_ ⟨?_, ?_⟩ ⟨?_, ?_⟩
          · rw [g2 28 (by omega) (by omega)]; exact b5 s hs
          · rw [g2 34 (by omega) (by omega)]; exact b6
          · rw [← es]
            exact efirst _ (rm_e b2 (fun k h1 h2 => g2 k (by omega) (by omega)))
          · rw [g2 19 (by omega) (by omega)]; exact b4
          · rw [g2 19 (by omega) (by omega), b3]; exact es
          · rw [e110, e18i 12 (by decide) (by decide) (by decide)]; exact hst.1
          · rw [e110, e18i 13 (by decide) (by decide) (by decide)]; exact hst.2
        refine tl_ok ?_ ?_ (h E F _ C (Or.inl rfl) ⟨hS', ⟨0, ?_, ?_, by omega, fun k hk => by omega⟩, ⟨0, 0, 0, 0, 0, hcr', vw_new f12 ?_ ?_, Or.inl ?_⟩, ?_, Or.inl ⟨f11, ?_⟩⟩)
        · rw [f7 3 (by decide) (by decide) (by decide) (by decide)]; exact r7
        · rw [u_J_eq, uL_eq]
        · rw [go 1 (by omega), w1 1 (by omega) (by omega), u_I_ne (by decide), b1 1 (by omega), po 1 (by omega)]; exact z1
        · rw [f7 15 (by decide) (by decide) (by decide) (by decide)]; exact r8
        · rw [← es]
          exact efirst6 _ (rm_first (rm_e w2 (fun k h1 h2 => go k (by omega))))
        · rw [go 60 (by omega)]; exact w3
        · rw [go 89 (by omega)]; exact w4
        · rw [f7 24 (by decide) (by decide) (by decide) (by decide), r9, go 0 (by omega), w1 0 (by omega) (by omega), u_I_eq, upd_ne (by decide), b1 0 (by omega), po 0 (by omega), z0, upd_eq]
        · rw [go 0 (by omega), w1 0 (by omega) (by omega), u_I_eq, upd_eq]
      · obtain ⟨k2, A2, B2, C2, g1, g5, e22, e23, cf', hZ2⟩ := fx
        obtain ⟨ev, _⟩ := end_u hZ hZ2
        rw [nI_eq (by omega) (by omega)] at ev
        omega
    · rw [nI_e0 (by omega)] at ek
      refine W_ok (y := 58) (q_mkI ⟨rfl, ?_⟩)
      have ho : ∀ k, k = 2 ∨ 12 ≤ k ∧ k < 18 ∨ 19 ≤ k → u_I (u_I (u_I A 1 (upd (A 1) 1 (nI 0))) 0 (upd (A 0) 12 (A 1 3))) 18 (upd (A 18) 12 (A 18 12 + nI 1)) k = I k := fun k hk => by rw [u_I_ne (by omega), u_I_ne (by omega), u_I_ne (by omega), cf1 k (by omega)]
      have h18 : u_I (u_I (u_I A 1 (upd (A 1) 1 (nI 0))) 0 (upd (A 0) 12 (A 1 3))) 18 (upd (A 18) 12 (A 18 12 + nI 1)) 18 = upd (I 18) 12 (I 18 12 + nI 1) := by rw [u_I_eq, cf1 18 (by omega)]
      have h0 : u_I (u_I (u_I A 1 (upd (A 1) 1 (nI 0))) 0 (upd (A 0) 12 (A 1 3))) 18 (upd (A 18) 12 (A 18 12 + nI 1)) 0 = upd (I 0) 12 (A 1 3) := by rw [u_I_ne (by decide), u_I_eq, cf1 0 (by omega)]
      have h1 : u_I (u_I (u_I A 1 (upd (A 1) 1 (nI 0))) 0 (upd (A 0) 12 (A 1 3))) 18 (upd (A 18) 12 (A 18 12 + nI 1)) 1 1 = nI 0 := by rw [u_I_ne (by decide), u_I_ne (by decide), u_I_eq, upd_eq]
      generalize u_I (u_I (u_I A 1 (upd (A 1) 1 (nI 0))) 0 (upd (A 0) 12 (A 1 3))) 18 (upd (A 18) 12 (A 18 12 + nI 1)) = H at ho h18 h0 h1 ⊢
      refine m188r (A0 := I) (B0 := J) (C0 := S) (c := fun k => (I 111 k).toNatClampNeg) (n := n) (m := m) hS' (by omega) t3 (by rw [ho 99 (by omega)]; exact t2) (fun k hk => ?_) (fun v I' f0 rf e22 => ?_) (fun v I' fx rf => ?_)
      · rw [ho 111 (by omega)]; exact hc k hk
      · obtain ⟨T', A2, B2, C2, cf', fin, hZ2⟩ := f0
        obtain ⟨ev, _⟩ := end_u hZ hZ2
        rw [nI_eq (by omega) (by omega)] at ev
        exact absurd ev ek
      · obtain ⟨k2, A2, B2, C2, g1, g5, e22, e23, cf', hZ2⟩ := fx
        obtain ⟨ev, eA⟩ := end_u hZ hZ2
        subst eA
        rw [← ev] at e22
        apply g188_107 rfl rfl
        refine ⟨fun z => ?_, fun _ => q_mkI ?_⟩
        · rw [e22, nI_e0 (by omega)] at z
          exact absurd z ek
        obtain ⟨r1, r2, r3, r4, r5', r6, r7, r8, r9⟩ := rf
        have fo : ∀ k, k ≠ 99 → k ≠ 110 → u_I (u_I I' 99 (upd (I' 99) 24 (I' 99 23))) 110 (upd (I' 110) 0 (I' 110 0 + nI 1)) k = I' k := fun k a b => by rw [u_I_ne b, u_I_ne a]
        have f99 : u_I (u_I I' 99 (upd (I' 99) 24 (I' 99 23))) 110 (upd (I' 110) 0 (I' 110 0 + nI 1)) 99 = upd (I' 99) 24 (I' 99 23) := by rw [u_I_ne (by decide), u_I_eq]
        have f110 : u_I (u_I I' 99 (upd (I' 99) 24 (I' 99 23))) 110 (upd (I' 110) 0 (I' 110 0 + nI 1)) 110 = upd (I 110) 0 (I 110 0 + nI 1) := by rw [u_I_eq, r1 110 (by omega), ho 110 (by omega)]
        have e22' := e22
        generalize u_I (u_I I' 99 (upd (I' 99) 24 (I' 99 23))) 110 (upd (I' 110) 0 (I' 110 0 + nI 1)) = F at fo f99 f110 ⊢
        have fi : ∀ k, k = 2 ∨ 12 ≤ k ∧ k < 18 ∨ 19 ≤ k ∧ k < 99 ∨ 111 ≤ k ∧ k < 112 ∨ 116 ≤ k → F k = I k := fun k hk => by rw [fo k (by omega) (by omega), r1 k (by omega), ho k (by omega)]
        have fH : ∀ k, k < 99 → F k = H k := fun k hk => by rw [fo k (by omega) (by omega), r1 k (by omega)]
        have e99 : ∀ f, f ≠ 3 → (f < 15 ∨ 24 < f) → f ≠ 29 → F 99 f = I 99 f := fun f x y z => by rw [f99, upd_ne (by omega), r6 f x y z, ho 99 (by omega)]
        have pl : plo I F := by
          refine ⟨fun k hk => ?_, fun k hk => ?_, fun k hk => ?_, fun j j1 j2 k hk => ?_⟩
          · rw [fo 103 (by decide) (by decide), r2 k hk, ho 103 (by omega)]
          · rw [fo 104 (by decide) (by decide), r3 k hk, ho 104 (by omega)]
          · rw [fo 105 (by decide) (by decide), r4 k hk, ho 105 (by omega)]
          · rw [fo j (by omega) (by omega), r5' j j1 j2 k hk, ho j (by omega)]
        have hst := hcr.2.2.2.2.2.2.2.2.2.2.2.2.2
        have e18 : F 18 = upd (I 18) 12 (I 18 12 + nI 1) := by rw [fH 18 (by omega), h18]
        have hcr' : CR F T cu ac nn := CR_lo pl (fun k hk => fi k (by omega)) (fun f hf => by rw [e18, upd_ne hf]) (e99 12 (by decide) (by decide) (by decide)) (e99 13 (by decide) (by decide) (by decide)) (e99 43 (by decide) (by decide) (by decide)) ⟨by rw [f110, e18, upd_eq, upd_eq, hst.1], by rw [f110, e18, upd_ne (by decide), upd_ne (by decide), hst.2]⟩ hcr
        refine tl_ok ?_ ?_ (h E F _ C (Or.inl rfl) ⟨hS', ⟨0, ?_, ?_, by omega, fun k hk => by omega⟩, ⟨T, cu, ac, nn, d, hcr', vw_e (fun k hk => fi k (by omega)) hvw, FRS_lo pl hcr (fun k hk => fi k (by omega)) ?_ hfr⟩, ?_, IMG_lo him pl (fun k hk => fi k (by omega)) ?_ (fun f hf => e99 f (by omega) (by omega) (by omega))⟩)
        · rw [f99, upd_ne (by decide)]; exact r7
        · rw [u_J_eq, uL_eq, e22']
        · rw [fH 1 (by omega)]; exact h1
        · rw [f99, upd_ne (by decide)]; exact r8
        · rw [u_J_ne (by decide)]; exact cf2 95 (by omega)
        · rw [f99, upd_eq, fH 0 (by omega), h0, upd_eq]; exact e23.symm
        · rw [fH 0 (by omega), h0, upd_ne (by decide)]
  · have fin : q_I (fun v1 E1 I1 J1 S1 => E1.2.2 = E.2.2 ∧ am_cl 188 [.ref 99, .int x] E1 I1 J1 S1 (q_I fun v2 E2 I2 J2 S2 => tl v1 v2 x4 E2 I2 J2 S2 Q)) (.inl (some (.int (nI 1)))) (Ex E) I J S := by
      refine q_mkI ⟨rfl, ?_⟩
      show am_ww 188 0 [.ref 99, .int x, am_U] [] (Ex E) I J S _
      apply g188_0
      rw [t2]
      have t : q_I (fun v2 E2 I2 J2 S2 => tl (nI 1) v2 x4 E2 I2 J2 S2 Q) (.inl (some (.int (nI 0)))) (Ex E) (u_I I 99 (upd (upd (I 99) 3 (nI 0)) 3 (nI 1))) J S := by
        refine q_mkI (tl_bad (by omega) (by omega) (by rw [u_I_eq, upd_eq]) (h _ _ _ _ (Or.inr rfl) (INV_kp hv0 ⟨fun k hk => u_I_ne (by omega), fun f hf => by rw [u_I_eq, upd_ne (by omega), upd_ne (by omega)]⟩ ⟨T, cu, ac, nn, d, CR_e ⟨fun k hk => u_I_ne (by omega), by rw [u_I_eq, upd_ne (by decide), upd_ne (by decide)], by rw [u_I_eq, upd_ne (by decide), upd_ne (by decide)], by rw [u_I_eq, upd_ne (by decide), upd_ne (by decide)]⟩ hcr, vw_e (fun k hk => u_I_ne (by omega)) hvw, FRS_q hfr (fun k hk => u_I_ne (by omega)) rfl⟩)))
      exact ⟨fun _ => t, fun c0 => ⟨fun c1 => (ctr_le hb c0 c1 rfl (by omega)).elim, fun _ => t⟩⟩
    exact ⟨fun _ => ⟨1, rfl, fin⟩, fun c0 => ⟨fun c1 => (ctr_le hb c0 c1 rfl (by omega)).elim, fun _ => ⟨1, rfl, fin⟩⟩⟩
