/-! the beginning of a text, and what is taken over -/
/-- the class's reader is cleared -/
def CLR (I A : Nat → Nat → Int32) (J B : Nat → Nat → Int64) : Prop := (∀ k, k = 0 ∨ k = 2 ∨ 11 ≤ k → A k = I k) ∧ A 1 5 = nI 0 ∧ A 1 10 = nI 0 ∧ A 1 16 = nI 0 ∧ A 3 5 = nI 0 ∧ (∀ k, k < 4 → A 6 k = nI 0) ∧ (∀ k, k < 16 → A 7 k = nI 0) ∧ (A 8 0 = nI 3 ∧ A 8 1 = nI 1 ∧ A 8 2 = nI 10 ∧ A 8 3 = nI 4) ∧ (∀ r, r < 64 → B 9 r = lN 0 ∧ B 10 r = lN 0) ∧ (∀ k, k ≠ 9 → k ≠ 10 → B k = J k)
theorem c61 {E : am_Ev} {I : Nat → Nat → Int32} {J : Nat → Nat → Int64} {S : Nat → Nat → Option Nat} {Q : am_Qt} (h : ∀ A B, CLR I A J B → Q (.inl none) E A B S) : am_cl 61 [.ref 1] E I J S Q := by
  show am_ww 61 0 [.ref 1] [] E I J S Q
  apply g61_0
  show am_ww 12 0 [.ref 3] [] E I J S _
  apply g12_0_3
  refine c13_4 (q_mkV (c13_5 (q_mkV (c13_6 (q_mkV (c13_7 (q_mkV (q_mkV ?_))))))))
  refine c62_9 (q_mkV (c62_10 (q_mkV (h _ _ ?_))))
  refine ⟨fun k hk => ?_, ?_, ?_, ?_, ?_, fun k hk => ?_, fun k hk => ?_, ⟨?_, ?_, ?_, ?_⟩, fun r hr => ⟨?_, ?_⟩, fun k h9 h10 => ?_⟩
  · rw [u_I_ne (by omega), u_I_ne (by omega), u_I_ne (by omega), u_I_ne (by omega), u_I_ne (by omega), u_I_ne (by omega), u_I_ne (by omega)]
  · rw [u_I_eq, upd_ne (by decide), upd_ne (by decide), upd_eq]
  · rw [u_I_eq, upd_eq]
  · rw [u_I_eq, upd_ne (by decide), upd_eq]
  · rw [u_I_ne (by decide), u_I_ne (by decide), u_I_eq, upd_eq]
  · rw [u_I_ne (by decide), u_I_ne (by decide), u_I_ne (by decide), u_I_ne (by decide), u_I_eq, fil_in hk]
  · rw [u_I_ne (by decide), u_I_ne (by decide), u_I_ne (by decide), u_I_eq, fil_in hk]
  · rw [u_I_ne (by decide), u_I_eq, upd_ne (by decide), upd_ne (by decide), upd_ne (by decide), upd_eq]
  · rw [u_I_ne (by decide), u_I_eq, upd_ne (by decide), upd_ne (by decide), upd_eq]
  · rw [u_I_ne (by decide), u_I_eq, upd_ne (by decide), upd_eq]
  · rw [u_I_ne (by decide), u_I_eq, upd_eq]
  · rw [u_J_ne (by decide), u_J_eq]
    exact if_pos hr
  · rw [u_J_eq]
    exact if_pos hr
  · rw [u_J_ne h10, u_J_ne h9]
def dfl (k : Nat) : Nat := if k = 0 then 3 else if k = 1 then 1 else if k = 2 then 10 else if k = 3 then 4 else 0
theorem m188_33 {E : am_Ev} {J : Nat → Nat → Int64} {S : Nat → Nat → Option Nat} {Q : am_Qt} {I0 : Nat → Nat → Int32} {d1 : Value} (hd1 : am_isL d1 = false) (h : ∀ I', (∀ k, k ≠ 103 → I' k = I0 k) → (∀ k, k < 5 → I' 103 k = I0 103 k) → (∀ k, k < 5 → I' 103 (5 + k) = nI (dfl k)) → am_ww 188 66 [.ref 99, d1, .int (nI 0)] [] E I' J S Q) :
    ∀ m i I', m + i = 5 → (∀ k, k ≠ 103 → I' k = I0 k) → (∀ k, k < 5 → I' 103 k = I0 103 k) → (∀ k, k < i → I' 103 (5 + k) = nI (dfl k)) → am_ww 188 33 [.ref 99, d1, .int (nI i)] [] E I' J S Q := by
  intro m
  induction m with
  | zero =>
    intro i I' hi h1 h2 h3
    have ei : i = 5 := by omega
    subst ei
    apply g188_33 hd1
    exact ⟨fun _ => h I' h1 h2 h3, fun z => absurd (by decide) z⟩
  | succ m ih =>
    intro i I' hi h1 h2 h3
    apply g188_33 hd1
    rw [nI_leI (by omega) (by omega), nI_add, nI_clamp (by omega), nI_add]
    refine ⟨fun z => by omega, fun _ w ew => ⟨vp_in_nI (by omega) (by omega), ?_⟩⟩
    have ew' : w = nI (dfl i) := by
      rw [ew]
      have hc : i = 0 ∨ i = 1 ∨ i = 2 ∨ i = 3 ∨ i = 4 := by omega
      rcases hc with e | e | e | e | e <;> subst e <;> rfl
    rw [ew']
    refine ih (i + 1) _ (by omega) (fun k hk => by rw [u_I_ne hk]; exact h1 k hk) (fun k hk => by rw [u_I_eq, upd_ne (by omega)]; exact h2 k hk) (fun k hk => ?_)
    rw [u_I_eq]
    by_cases e : k = i
    · rw [e, upd_eq]
    · rw [upd_ne (by omega)]; exact h3 k (by omega)
theorem m188_66 {E : am_Ev} {J : Nat → Nat → Int64} {S : Nat → Nat → Option Nat} {Q : am_Qt} {I0 : Nat → Nat → Int32} {d1 : Value} (hd1 : am_isL d1 = false) (h : ∀ I', (∀ k, k ≠ 104 → I' k = I0 k) → (∀ k, k < 16 → I' 104 k = I0 104 k) → (∀ k, k < 16 → I' 104 (16 + k) = nI 0) → am_cl 190 [.ref 99] E I' J S (q_V fun E1 I1 J1 S1 => am_ww 188 82 [.ref 99, d1, .int (nI 0)] [] E1 I1 J1 S1 Q)) :
    ∀ m i I', m + i = 16 → (∀ k, k ≠ 104 → I' k = I0 k) → (∀ k, k < 16 → I' 104 k = I0 104 k) → (∀ k, k < i → I' 104 (16 + k) = nI 0) → am_ww 188 66 [.ref 99, d1, .int (nI i)] [] E I' J S Q := by
  intro m
  induction m with
  | zero =>
    intro i I' hi h1 h2 h3
    have ei : i = 16 := by omega
    subst ei
    apply g188_66 hd1
    exact ⟨fun _ => h I' h1 h2 h3, fun z => absurd (by decide) z⟩
  | succ m ih =>
    intro i I' hi h1 h2 h3
    apply g188_66 hd1
    rw [nI_leI (by omega) (by omega), nI_add, nI_clamp (by omega), nI_add]
    refine ⟨fun z => by omega, fun _ => ⟨vp_in_nI (by omega) (by omega), ?_⟩⟩
    refine ih (i + 1) _ (by omega) (fun k hk => by rw [u_I_ne hk]; exact h1 k hk) (fun k hk => by rw [u_I_eq, upd_ne (by omega)]; exact h2 k hk) (fun k hk => ?_)
    rw [u_I_eq]
    by_cases e : k = i
    · rw [e, upd_eq]
    · rw [upd_ne (by omega)]; exact h3 k (by omega)
/-- what a text that is read leaves in the reference -/
def RFP (I I' : Nat → Nat → Int32) : Prop := (∀ k, k < 99 ∨ 100 ≤ k ∧ k < 103 ∨ 110 ≤ k ∧ k < 112 ∨ 116 ≤ k → I' k = I k) ∧ (∀ k, k < 5 → I' 103 k = I 103 k) ∧ (∀ k, k < 16 → I' 104 k = I 104 k) ∧ (∀ k, k < 4 → I' 105 k = I 105 k) ∧ (∀ j, 106 ≤ j → j < 110 → ∀ k, k < 64 → I' j k = I j k) ∧ (∀ k, k ≠ 3 → (k < 15 ∨ 24 < k) → k ≠ 29 → I' 99 k = I 99 k) ∧ I' 99 3 = nI 0 ∧ I' 99 15 = nI 0 ∧ I' 99 24 = -1
/-- both sides read a text -/
theorem m188r {E : am_Ev} {I : Nat → Nat → Int32} {J : Nat → Nat → Int64} {S : Nat → Nat → Option Nat} {Q : am_Qt} {A0 : Nat → Nat → Int32} {B0 : Nat → Nat → Int64} {C0 : Nat → Nat → Option Nat} {c : Nat → Nat} {n m : Nat} (hS : SW S) (hnm : n ≤ m) (hm : m ≤ 700) (h15 : I 99 15 = nI m) (hc : ∀ k, k < n → c k < 256 ∧ I 111 k = nI (c k) ∧ A0 2 k = sb (c k))
    (hy : ∀ v I', FG0 (fun Q => am_cl 60 [.ref 1, .int (nI n)] E A0 B0 C0 Q) A0 B0 C0 E I' → RFP I I' → I' 99 22 = 0 → am_ww 188 107 [.ref 99, .int (nI n), .int v] [] E I' J S Q)
    (hb : ∀ v I', FX (fun Q => am_cl 60 [.ref 1, .int (nI n)] E A0 B0 C0 Q) A0 B0 C0 E I' → RFP I I' → am_ww 188 107 [.ref 99, .int (nI n), .int v] [] E I' J S Q) : am_cl 188 [.ref 99, .int (nI n)] E I J S Q := by
  show am_ww 188 0 [.ref 99, .int (nI n), am_U] [] E I J S Q
  -- the class
  have d := c61 (E := E) (I := A0) (J := B0) (S := C0) (Q := fun r E' I' J' S' => r = .inl none ∧ E' = E ∧ S' = C0 ∧ CLR A0 I' B0 J') (fun A B h => ⟨rfl, rfl, rfl, h⟩)
  obtain ⟨r, E', A, B, C', ⟨er, eE, eC, k1, k2, k3, k4, k5, k6, k7, k8, k9, k10⟩, hQ⟩ := ww_det d
  subst er eE eC
  have hgo : GO (fun Q => am_cl 60 [.ref 1, .int (nI n)] E' A0 B0 C' Q) A0 B0 C' c n E' 0 A B C' := by
    refine ⟨fun Q' hq => ?_, ⟨fun k hk => k1 k (by omega), fun k hk => k10 k (by omega) (by omega), fun _ _ => rfl⟩, ⟨by omega, fun k hk => ⟨(hc k hk).1, ?_⟩⟩, k2, by omega⟩
    · show am_ww 60 0 [.ref 1, .int (nI n), am_U, am_U] [] E' A0 B0 C' Q'
      apply g60_0
      exact hQ _ (q_mkV (hq 0 am_U (Nat.le_refl _) rfl))
    · rw [k1 2 (by omega)]; exact (hc k hk).2.2
  apply g188_0
  rw [h15, nI_leI (by omega) (by omega)]
  refine ⟨fun z => absurd z (nI_nneg (by omega)), fun _ => ⟨fun _ => ?_, fun z => absurd hnm z⟩⟩
  have z99 : ∀ f, u_I I 99 (upd (upd (upd (upd (upd (upd (upd (I 99) 3 (nI 0)) 15 (nI 0)) 17 (nI n)) 16 (nI 0)) 22 (nI 0)) 24 (-1)) 29 (-1)) 99 f = upd (upd (upd (upd (upd (upd (upd (I 99) 3 (nI 0)) 15 (nI 0)) 17 (nI n)) 16 (nI 0)) 22 (nI 0)) 24 (-1)) 29 (-1) f := fun f => by rw [u_I_eq]
  have zo : ∀ k, k ≠ 99 → u_I I 99 (upd (upd (upd (upd (upd (upd (upd (I 99) 3 (nI 0)) 15 (nI 0)) 17 (nI n)) 16 (nI 0)) 22 (nI 0)) 24 (-1)) 29 (-1)) k = I k := fun k hk => u_I_ne hk
  generalize u_I I 99 (upd (upd (upd (upd (upd (upd (upd (I 99) 3 (nI 0)) 15 (nI 0)) 17 (nI n)) 16 (nI 0)) 22 (nI 0)) 24 (-1)) 29 (-1)) = I1 at z99 zo ⊢
  refine m188_33 (I0 := I1) rfl (fun I2 a1 a2 a3 => ?_) 5 0 I1 rfl (fun _ _ => rfl) (fun _ _ => rfl) (fun k hk => by omega)
  refine m188_66 (I0 := I2) rfl (fun I3 b1 b2 b3 => ?_) 16 0 I2 rfl (fun _ _ => rfl) (fun _ _ => rfl) (fun k hk => by omega)
  have e99 : ∀ f, I3 99 f = I1 99 f := fun f => by rw [b1 99 (by decide), a1 99 (by decide)]
  have eo : ∀ k, k ≠ 99 → k ≠ 103 → k ≠ 104 → I3 k = I k := fun k h1 h2 h3 => by rw [b1 k h3, a1 k h2, zo k h1]
  have txr3 : txr I3 c n := ⟨by omega, by rw [e99, z99, upd_ne (by decide), upd_ne (by decide), upd_ne (by decide), upd_ne (by decide), upd_eq], fun k hk => ⟨(hc k hk).1, by rw [eo 111 (by decide) (by decide) (by decide)]; exact (hc k hk).2.1⟩⟩
  have e16 : I3 99 16 = nI 0 := by rw [e99, z99, upd_ne (by decide), upd_ne (by decide), upd_ne (by decide), upd_eq]
  refine m190 txr3 e16 (by omega) (fun I4 ht => q_mkV ?_)
  obtain ⟨t1, t2⟩ := TR_tk ht
  have e22 : I4 99 22 = 0 := by rw [t2.2 22 (by decide) (by decide) (by decide) (by decide) (by decide), e99, z99, upd_ne (by decide), upd_ne (by decide), upd_eq]; rfl
  have hrg : RG c n 0 I4 := by
    refine ⟨⟨txr3.1, ?_, fun k hk => ?_⟩, t1, e22⟩
    · rw [t2.2 17 (by decide) (by decide) (by decide) (by decide) (by decide)]; exact txr3.2.1
    · rw [RFT_o t2 (by decide)]; exact txr3.2.2 k hk
  have e103 : ∀ k, k < 5 → I4 103 (5 + k) = nI (dfl k) := fun k hk => by rw [RFT_o t2 (by decide), b1 103 (by decide)]; exact a3 k hk
  have e104 : ∀ k, k < 16 → I4 104 (16 + k) = nI 0 := fun k hk => by rw [RFT_o t2 (by decide)]; exact b3 k hk
  have hdt : DT 0 I4 A B := by
    refine ⟨⟨by omega, e103 4 (by decide), fun t ht => by omega, ?_⟩, ⟨fun k hk => ?_, fun k hk => ?_, ⟨3, by decide, by decide, e103 0 (by decide)⟩, ⟨10, by decide, by decide, e103 2 (by decide)⟩, ⟨4, by decide, by decide, e103 3 (by decide)⟩⟩, k5, fun t _ h4 => k6 t h4, fun r _ h => k9 r h⟩
    · rw [t2.2 29 (by decide) (by decide) (by decide) (by decide) (by decide), e99, z99, upd_eq]; rfl
    · rw [e103 k (by omega)]
      have hcs : k = 0 ∨ k = 1 ∨ k = 2 ∨ k = 3 := by omega
      rcases hcs with e | e | e | e <;> subst e
      · exact k8.1
      · exact k8.2.1
      · exact k8.2.2.1
      · exact k8.2.2.2
    · rw [e104 k hk]; exact k7 k hk
  have f0 : ∀ I', RFR I4 I' → RFP I I' := by
    intro I' hf
    obtain ⟨q1, q2, q3, q4, q5, q6⟩ := hf
    have g99 : ∀ k, k ≠ 16 → k ≠ 18 → k ≠ 19 → k ≠ 20 → k ≠ 21 → k ≠ 22 → k ≠ 23 → k ≠ 29 → I' 99 k = I1 99 k := fun k x1 x2 x3 x4 x5 x6 x7 x8 => by rw [q6 k x1 x2 x3 x4 x5 x6 x7 x8, t2.2 k x1 x2 x3 x4 x5, e99]
    refine ⟨fun k hk => ?_, fun k hk => ?_, fun k hk => ?_, fun k hk => ?_, fun j h1 h2 k hk => ?_, fun k h1 h2 h3 => ?_, ?_, ?_, ?_⟩
    · rw [q1 k hk, RFT_o t2 (by omega), eo k (by omega) (by omega) (by omega)]
    · rw [q2 k hk, RFT_o t2 (by decide), b1 103 (by decide), a2 k hk, zo 103 (by decide)]
    · rw [q3 k hk, RFT_o t2 (by decide), b2 k hk, a1 104 (by decide), zo 104 (by decide)]
    · rw [q4 k hk, RFT_o t2 (by decide), eo 105 (by decide) (by decide) (by decide)]
    · rw [q5 j h1 h2 k hk, RFT_o t2 (by omega), eo j (by omega) (by omega) (by omega)]
    · rw [g99 k (by omega) (by omega) (by omega) (by omega) (by omega) (by omega) (by omega) h3, z99, upd_ne h3, upd_ne (by omega), upd_ne (by omega), upd_ne (by omega), upd_ne (by omega), upd_ne (by omega), upd_ne h1]
    · rw [g99 3 (by decide) (by decide) (by decide) (by decide) (by decide) (by decide) (by decide) (by decide), z99, upd_ne (by decide), upd_ne (by decide), upd_ne (by decide), upd_ne (by decide), upd_ne (by decide), upd_ne (by decide), upd_eq]
    · rw [g99 15 (by decide) (by decide) (by decide) (by decide) (by decide) (by decide) (by decide) (by decide), z99, upd_ne (by decide), upd_ne (by decide), upd_ne (by decide), upd_ne (by decide), upd_ne (by decide), upd_eq]
    · rw [g99 24 (by decide) (by decide) (by decide) (by decide) (by decide) (by decide) (by decide) (by decide), z99, upd_ne (by decide), upd_eq]
  refine m188_82 (I0 := I4) rfl hS (fun v I' a b e => hy v I' a (f0 I' b) e) (fun v I' a b => hb v I' a (f0 I' b)) _ (nI 0) 0 0 A B C' I4 (Nat.le_refl _) hgo hrg k3 hdt ?_ RFR_id
  rw [k4]
  exact ⟨fun k hk => by rw [show nI 0 = 0 from rfl, b_0], fun k hk => by rw [show nI 0 = 0 from rfl, b_0, b_0]⟩
/-- the first half takes the second -/
def hlf (f : Nat → Int32) (n i j : Nat) : Int32 := if j < i then f (n + j) else f j
theorem m214_103 {E : am_Ev} {I : Nat → Nat → Int32} {J : Nat → Nat → Int64} {S : Nat → Nat → Option Nat} {Q : am_Qt} (h : Q (.inl none) E (u_I I 103 (hlf (I 103) 5 5)) J S) : am_cl 214 [.ref 103] E I J S Q := by
  show am_ww 214 0 [.ref 103, am_U] [] E I J S Q
  apply g214_0_103
  have key : ∀ m i, m + i = 5 → am_ww 214 2 [.ref 103, .int (nI i)] [] E (u_I I 103 (hlf (I 103) 5 i)) J S Q := by
    intro m
    induction m with
    | zero =>
      intro i hi
      have ei : i = 5 := by omega
      subst ei
      apply g214_2_103
      rw [nI_divI (by omega) (by omega)]
      exact ⟨fun _ => h, fun z => absurd (by decide) z⟩
    | succ m ih =>
      intro i hi
      apply g214_2_103
      rw [nI_divI (by omega) (by omega), nI_leI (by omega) (by omega), nI_add, nI_clamp (by omega), nI_clamp (by omega), nI_add, u_I_eq, uI_0]
      refine ⟨fun z => by omega, fun _ => ⟨vp_in_nI (by omega) (by omega), vp_in_nI (by omega) (by omega), ?_⟩⟩
      have e : upd (hlf (I 103) 5 i) i (hlf (I 103) 5 i (2 * 5 / 2 + i)) = hlf (I 103) 5 (i + 1) := by
        funext j
        have ev : hlf (I 103) 5 i (2 * 5 / 2 + i) = I 103 (5 + i) := by
          unfold hlf
          rw [if_neg (by omega)]
        rw [ev]
        by_cases ej : j = i
        · rw [ej, upd_eq]
          unfold hlf
          rw [if_pos (by omega)]
        · rw [upd_ne ej]
          unfold hlf
          by_cases c1 : j < i
          · rw [if_pos c1, if_pos (by omega)]
          · rw [if_neg c1, if_neg (by omega)]
      have ih' := ih (i + 1) (by omega)
      rw [← e] at ih'
      exact ih'
  have k0 := key 5 0 rfl
  have e0 : u_I I 103 (hlf (I 103) 5 0) = I := by
    funext j
    by_cases e : j = 103
    · rw [e, u_I_eq]
      funext k
      unfold hlf
      rw [if_neg (by omega)]
    · rw [u_I_ne e]
  rw [e0] at k0
  exact k0
theorem m214_104 {E : am_Ev} {I : Nat → Nat → Int32} {J : Nat → Nat → Int64} {S : Nat → Nat → Option Nat} {Q : am_Qt} (h : Q (.inl none) E (u_I I 104 (hlf (I 104) 16 16)) J S) : am_cl 214 [.ref 104] E I J S Q := by
  show am_ww 214 0 [.ref 104, am_U] [] E I J S Q
  apply g214_0_104
  have key : ∀ m i, m + i = 16 → am_ww 214 2 [.ref 104, .int (nI i)] [] E (u_I I 104 (hlf (I 104) 16 i)) J S Q := by
    intro m
    induction m with
    | zero =>
      intro i hi
      have ei : i = 16 := by omega
      subst ei
      apply g214_2_104
      rw [nI_divI (by omega) (by omega)]
      exact ⟨fun _ => h, fun z => absurd (by decide) z⟩
    | succ m ih =>
      intro i hi
      apply g214_2_104
      rw [nI_divI (by omega) (by omega), nI_leI (by omega) (by omega), nI_add, nI_clamp (by omega), nI_clamp (by omega), nI_add, u_I_eq, uI_0]
      refine ⟨fun z => by omega, fun _ => ⟨vp_in_nI (by omega) (by omega), vp_in_nI (by omega) (by omega), ?_⟩⟩
      have e : upd (hlf (I 104) 16 i) i (hlf (I 104) 16 i (2 * 16 / 2 + i)) = hlf (I 104) 16 (i + 1) := by
        funext j
        have ev : hlf (I 104) 16 i (2 * 16 / 2 + i) = I 104 (16 + i) := by
          unfold hlf
          rw [if_neg (by omega)]
        rw [ev]
        by_cases ej : j = i
        · rw [ej, upd_eq]
          unfold hlf
          rw [if_pos (by omega)]
        · rw [upd_ne ej]
          unfold hlf
          by_cases c1 : j < i
          · rw [if_pos c1, if_pos (by omega)]
          · rw [if_neg c1, if_neg (by omega)]
      have ih' := ih (i + 1) (by omega)
      rw [← e] at ih'
      exact ih'
  have k0 := key 16 0 rfl
  have e0 : u_I I 104 (hlf (I 104) 16 0) = I := by
    funext j
    by_cases e : j = 104
    · rw [e, u_I_eq]
      funext k
      unfold hlf
      rw [if_neg (by omega)]
    · rw [u_I_ne e]
  rw [e0] at k0
  exact k0
theorem m214_105 {E : am_Ev} {I : Nat → Nat → Int32} {J : Nat → Nat → Int64} {S : Nat → Nat → Option Nat} {Q : am_Qt} (h : Q (.inl none) E (u_I I 105 (hlf (I 105) 4 4)) J S) : am_cl 214 [.ref 105] E I J S Q := by
  show am_ww 214 0 [.ref 105, am_U] [] E I J S Q
  apply g214_0_105
  have key : ∀ m i, m + i = 4 → am_ww 214 2 [.ref 105, .int (nI i)] [] E (u_I I 105 (hlf (I 105) 4 i)) J S Q := by
    intro m
    induction m with
    | zero =>
      intro i hi
      have ei : i = 4 := by omega
      subst ei
      apply g214_2_105
      rw [nI_divI (by omega) (by omega)]
      exact ⟨fun _ => h, fun z => absurd (by decide) z⟩
    | succ m ih =>
      intro i hi
      apply g214_2_105
      rw [nI_divI (by omega) (by omega), nI_leI (by omega) (by omega), nI_add, nI_clamp (by omega), nI_clamp (by omega), nI_add, u_I_eq, uI_0]
      refine ⟨fun z => by omega, fun _ => ⟨vp_in_nI (by omega) (by omega), vp_in_nI (by omega) (by omega), ?_⟩⟩
      have e : upd (hlf (I 105) 4 i) i (hlf (I 105) 4 i (2 * 4 / 2 + i)) = hlf (I 105) 4 (i + 1) := by
        funext j
        have ev : hlf (I 105) 4 i (2 * 4 / 2 + i) = I 105 (4 + i) := by
          unfold hlf
          rw [if_neg (by omega)]
        rw [ev]
        by_cases ej : j = i
        · rw [ej, upd_eq]
          unfold hlf
          rw [if_pos (by omega)]
        · rw [upd_ne ej]
          unfold hlf
          by_cases c1 : j < i
          · rw [if_pos c1, if_pos (by omega)]
          · rw [if_neg c1, if_neg (by omega)]
      have ih' := ih (i + 1) (by omega)
      rw [← e] at ih'
      exact ih'
  have k0 := key 4 0 rfl
  have e0 : u_I I 105 (hlf (I 105) 4 0) = I := by
    funext j
    by_cases e : j = 105
    · rw [e, u_I_eq]
      funext k
      unfold hlf
      rw [if_neg (by omega)]
    · rw [u_I_ne e]
  rw [e0] at k0
  exact k0
theorem m214_106 {E : am_Ev} {I : Nat → Nat → Int32} {J : Nat → Nat → Int64} {S : Nat → Nat → Option Nat} {Q : am_Qt} (h : Q (.inl none) E (u_I I 106 (hlf (I 106) 64 64)) J S) : am_cl 214 [.ref 106] E I J S Q := by
  show am_ww 214 0 [.ref 106, am_U] [] E I J S Q
  apply g214_0_106
  have key : ∀ m i, m + i = 64 → am_ww 214 2 [.ref 106, .int (nI i)] [] E (u_I I 106 (hlf (I 106) 64 i)) J S Q := by
    intro m
    induction m with
    | zero =>
      intro i hi
      have ei : i = 64 := by omega
      subst ei
      apply g214_2_106
      rw [nI_divI (by omega) (by omega)]
      exact ⟨fun _ => h, fun z => absurd (by decide) z⟩
    | succ m ih =>
      intro i hi
      apply g214_2_106
      rw [nI_divI (by omega) (by omega), nI_leI (by omega) (by omega), nI_add, nI_clamp (by omega), nI_clamp (by omega), nI_add, u_I_eq, uI_0]
      refine ⟨fun z => by omega, fun _ => ⟨vp_in_nI (by omega) (by omega), vp_in_nI (by omega) (by omega), ?_⟩⟩
      have e : upd (hlf (I 106) 64 i) i (hlf (I 106) 64 i (2 * 64 / 2 + i)) = hlf (I 106) 64 (i + 1) := by
        funext j
        have ev : hlf (I 106) 64 i (2 * 64 / 2 + i) = I 106 (64 + i) := by
          unfold hlf
          rw [if_neg (by omega)]
        rw [ev]
        by_cases ej : j = i
        · rw [ej, upd_eq]
          unfold hlf
          rw [if_pos (by omega)]
        · rw [upd_ne ej]
          unfold hlf
          by_cases c1 : j < i
          · rw [if_pos c1, if_pos (by omega)]
          · rw [if_neg c1, if_neg (by omega)]
      have ih' := ih (i + 1) (by omega)
      rw [← e] at ih'
      exact ih'
  have k0 := key 64 0 rfl
  have e0 : u_I I 106 (hlf (I 106) 64 0) = I := by
    funext j
    by_cases e : j = 106
    · rw [e, u_I_eq]
      funext k
      unfold hlf
      rw [if_neg (by omega)]
    · rw [u_I_ne e]
  rw [e0] at k0
  exact k0
theorem m214_107 {E : am_Ev} {I : Nat → Nat → Int32} {J : Nat → Nat → Int64} {S : Nat → Nat → Option Nat} {Q : am_Qt} (h : Q (.inl none) E (u_I I 107 (hlf (I 107) 64 64)) J S) : am_cl 214 [.ref 107] E I J S Q := by
  show am_ww 214 0 [.ref 107, am_U] [] E I J S Q
  apply g214_0_107
  have key : ∀ m i, m + i = 64 → am_ww 214 2 [.ref 107, .int (nI i)] [] E (u_I I 107 (hlf (I 107) 64 i)) J S Q := by
    intro m
    induction m with
    | zero =>
      intro i hi
      have ei : i = 64 := by omega
      subst ei
      apply g214_2_107
      rw [nI_divI (by omega) (by omega)]
      exact ⟨fun _ => h, fun z => absurd (by decide) z⟩
    | succ m ih =>
      intro i hi
      apply g214_2_107
      rw [nI_divI (by omega) (by omega), nI_leI (by omega) (by omega), nI_add, nI_clamp (by omega), nI_clamp (by omega), nI_add, u_I_eq, uI_0]
      refine ⟨fun z => by omega, fun _ => ⟨vp_in_nI (by omega) (by omega), vp_in_nI (by omega) (by omega), ?_⟩⟩
      have e : upd (hlf (I 107) 64 i) i (hlf (I 107) 64 i (2 * 64 / 2 + i)) = hlf (I 107) 64 (i + 1) := by
        funext j
        have ev : hlf (I 107) 64 i (2 * 64 / 2 + i) = I 107 (64 + i) := by
          unfold hlf
          rw [if_neg (by omega)]
        rw [ev]
        by_cases ej : j = i
        · rw [ej, upd_eq]
          unfold hlf
          rw [if_pos (by omega)]
        · rw [upd_ne ej]
          unfold hlf
          by_cases c1 : j < i
          · rw [if_pos c1, if_pos (by omega)]
          · rw [if_neg c1, if_neg (by omega)]
      have ih' := ih (i + 1) (by omega)
      rw [← e] at ih'
      exact ih'
  have k0 := key 64 0 rfl
  have e0 : u_I I 107 (hlf (I 107) 64 0) = I := by
    funext j
    by_cases e : j = 107
    · rw [e, u_I_eq]
      funext k
      unfold hlf
      rw [if_neg (by omega)]
    · rw [u_I_ne e]
  rw [e0] at k0
  exact k0
theorem m214_108 {E : am_Ev} {I : Nat → Nat → Int32} {J : Nat → Nat → Int64} {S : Nat → Nat → Option Nat} {Q : am_Qt} (h : Q (.inl none) E (u_I I 108 (hlf (I 108) 64 64)) J S) : am_cl 214 [.ref 108] E I J S Q := by
  show am_ww 214 0 [.ref 108, am_U] [] E I J S Q
  apply g214_0_108
  have key : ∀ m i, m + i = 64 → am_ww 214 2 [.ref 108, .int (nI i)] [] E (u_I I 108 (hlf (I 108) 64 i)) J S Q := by
    intro m
    induction m with
    | zero =>
      intro i hi
      have ei : i = 64 := by omega
      subst ei
      apply g214_2_108
      rw [nI_divI (by omega) (by omega)]
      exact ⟨fun _ => h, fun z => absurd (by decide) z⟩
    | succ m ih =>
      intro i hi
      apply g214_2_108
      rw [nI_divI (by omega) (by omega), nI_leI (by omega) (by omega), nI_add, nI_clamp (by omega), nI_clamp (by omega), nI_add, u_I_eq, uI_0]
      refine ⟨fun z => by omega, fun _ => ⟨vp_in_nI (by omega) (by omega), vp_in_nI (by omega) (by omega), ?_⟩⟩
      have e : upd (hlf (I 108) 64 i) i (hlf (I 108) 64 i (2 * 64 / 2 + i)) = hlf (I 108) 64 (i + 1) := by
        funext j
        have ev : hlf (I 108) 64 i (2 * 64 / 2 + i) = I 108 (64 + i) := by
          unfold hlf
          rw [if_neg (by omega)]
        rw [ev]
        by_cases ej : j = i
        · rw [ej, upd_eq]
          unfold hlf
          rw [if_pos (by omega)]
        · rw [upd_ne ej]
          unfold hlf
          by_cases c1 : j < i
          · rw [if_pos c1, if_pos (by omega)]
          · rw [if_neg c1, if_neg (by omega)]
      have ih' := ih (i + 1) (by omega)
      rw [← e] at ih'
      exact ih'
  have k0 := key 64 0 rfl
  have e0 : u_I I 108 (hlf (I 108) 64 0) = I := by
    funext j
    by_cases e : j = 108
    · rw [e, u_I_eq]
      funext k
      unfold hlf
      rw [if_neg (by omega)]
    · rw [u_I_ne e]
  rw [e0] at k0
  exact k0
theorem m214_109 {E : am_Ev} {I : Nat → Nat → Int32} {J : Nat → Nat → Int64} {S : Nat → Nat → Option Nat} {Q : am_Qt} (h : Q (.inl none) E (u_I I 109 (hlf (I 109) 64 64)) J S) : am_cl 214 [.ref 109] E I J S Q := by
  show am_ww 214 0 [.ref 109, am_U] [] E I J S Q
  apply g214_0_109
  have key : ∀ m i, m + i = 64 → am_ww 214 2 [.ref 109, .int (nI i)] [] E (u_I I 109 (hlf (I 109) 64 i)) J S Q := by
    intro m
    induction m with
    | zero =>
      intro i hi
      have ei : i = 64 := by omega
      subst ei
      apply g214_2_109
      rw [nI_divI (by omega) (by omega)]
      exact ⟨fun _ => h, fun z => absurd (by decide) z⟩
    | succ m ih =>
      intro i hi
      apply g214_2_109
      rw [nI_divI (by omega) (by omega), nI_leI (by omega) (by omega), nI_add, nI_clamp (by omega), nI_clamp (by omega), nI_add, u_I_eq, uI_0]
      refine ⟨fun z => by omega, fun _ => ⟨vp_in_nI (by omega) (by omega), vp_in_nI (by omega) (by omega), ?_⟩⟩
      have e : upd (hlf (I 109) 64 i) i (hlf (I 109) 64 i (2 * 64 / 2 + i)) = hlf (I 109) 64 (i + 1) := by
        funext j
        have ev : hlf (I 109) 64 i (2 * 64 / 2 + i) = I 109 (64 + i) := by
          unfold hlf
          rw [if_neg (by omega)]
        rw [ev]
        by_cases ej : j = i
        · rw [ej, upd_eq]
          unfold hlf
          rw [if_pos (by omega)]
        · rw [upd_ne ej]
          unfold hlf
          by_cases c1 : j < i
          · rw [if_pos c1, if_pos (by omega)]
          · rw [if_neg c1, if_neg (by omega)]
      have ih' := ih (i + 1) (by omega)
      rw [← e] at ih'
      exact ih'
  have k0 := key 64 0 rfl
  have e0 : u_I I 109 (hlf (I 109) 64 0) = I := by
    funext j
    by_cases e : j = 109
    · rw [e, u_I_eq]
      funext k
      unfold hlf
      rw [if_neg (by omega)]
    · rw [u_I_ne e]
  rw [e0] at k0
  exact k0
/-- takeOver -/
def TKO (I I' : Nat → Nat → Int32) : Prop := (∀ k, k < 99 ∨ 100 ≤ k ∧ k < 103 ∨ 110 ≤ k ∧ k < 116 ∨ 118 ≤ k ∧ k < 124 ∨ 125 ≤ k → I' k = I k) ∧ (∀ k, k < 5 → I' 103 k = I 103 (5 + k)) ∧ (∀ k, k < 16 → I' 104 k = I 104 (16 + k)) ∧ (∀ k, k < 4 → I' 105 k = I 105 (4 + k)) ∧ (∀ j, 106 ≤ j → j < 110 → ∀ k, k < 64 → I' j k = I j (64 + k)) ∧ (∀ s, s < 3 → I' 124 s = nI 0) ∧ (∀ f, f ≠ 12 → f ≠ 13 → f ≠ 43 → f ≠ 58 → I' 99 f = I 99 f) ∧ I' 99 12 = nI 0 ∧ I' 99 13 = nI 0 ∧ I' 99 43 = nI 0 ∧ I' 99 58 = nI 0 ∧ (∀ k, k < 51 → I' 117 k = m_first I' (I' 103 1) k)
theorem hlf_in {f : Nat → Int32} {n j : Nat} (h : j < n) : hlf f n n j = f (n + j) := if_pos h
theorem m213 {E : am_Ev} {I : Nat → Nat → Int32} {J : Nat → Nat → Int64} {S : Nat → Nat → Option Nat} {Q : am_Qt} (h : ∀ I', TKO I I' → Q (.inl none) E I' J S) : am_cl 213 [.ref 99] E I J S Q := by
  show am_ww 213 0 [.ref 99, am_U] [] E I J S Q
  apply g213_0
  refine m214_103 (q_mkV (m214_104 (q_mkV (m214_105 (q_mkV (m214_106 (q_mkV (m214_107 (q_mkV (m214_108 (q_mkV (m214_109 (q_mkV ?_)))))))))))))
  simp only [u_I_ne (show 104 ≠ 103 by decide), u_I_ne (show 105 ≠ 103 by decide), u_I_ne (show 105 ≠ 104 by decide), u_I_ne (show 106 ≠ 103 by decide), u_I_ne (show 106 ≠ 104 by decide), u_I_ne (show 106 ≠ 105 by decide), u_I_ne (show 107 ≠ 103 by decide), u_I_ne (show 107 ≠ 104 by decide), u_I_ne (show 107 ≠ 105 by decide), u_I_ne (show 107 ≠ 106 by decide), u_I_ne (show 108 ≠ 103 by decide), u_I_ne (show 108 ≠ 104 by decide), u_I_ne (show 108 ≠ 105 by decide), u_I_ne (show 108 ≠ 106 by decide), u_I_ne (show 108 ≠ 107 by decide), u_I_ne (show 109 ≠ 103 by decide), u_I_ne (show 109 ≠ 104 by decide), u_I_ne (show 109 ≠ 105 by decide), u_I_ne (show 109 ≠ 106 by decide), u_I_ne (show 109 ≠ 107 by decide), u_I_ne (show 109 ≠ 108 by decide)]
  have z0 : ∀ k, k < 103 ∨ 110 ≤ k → u_I (u_I (u_I (u_I (u_I (u_I (u_I I 103 (hlf (I 103) 5 5)) 104 (hlf (I 104) 16 16)) 105 (hlf (I 105) 4 4)) 106 (hlf (I 106) 64 64)) 107 (hlf (I 107) 64 64)) 108 (hlf (I 108) 64 64)) 109 (hlf (I 109) 64 64) k = I k := fun k hk => by rw [u_I_ne (by omega), u_I_ne (by omega), u_I_ne (by omega), u_I_ne (by omega), u_I_ne (by omega), u_I_ne (by omega), u_I_ne (by omega)]
  have z3 : u_I (u_I (u_I (u_I (u_I (u_I (u_I I 103 (hlf (I 103) 5 5)) 104 (hlf (I 104) 16 16)) 105 (hlf (I 105) 4 4)) 106 (hlf (I 106) 64 64)) 107 (hlf (I 107) 64 64)) 108 (hlf (I 108) 64 64)) 109 (hlf (I 109) 64 64) 103 = hlf (I 103) 5 5 := by rw [u_I_ne (by decide), u_I_ne (by decide), u_I_ne (by decide), u_I_ne (by decide), u_I_ne (by decide), u_I_ne (by decide), u_I_eq]
  have z4 : u_I (u_I (u_I (u_I (u_I (u_I (u_I I 103 (hlf (I 103) 5 5)) 104 (hlf (I 104) 16 16)) 105 (hlf (I 105) 4 4)) 106 (hlf (I 106) 64 64)) 107 (hlf (I 107) 64 64)) 108 (hlf (I 108) 64 64)) 109 (hlf (I 109) 64 64) 104 = hlf (I 104) 16 16 := by rw [u_I_ne (by decide), u_I_ne (by decide), u_I_ne (by decide), u_I_ne (by decide), u_I_ne (by decide), u_I_eq]
  have z5 : u_I (u_I (u_I (u_I (u_I (u_I (u_I I 103 (hlf (I 103) 5 5)) 104 (hlf (I 104) 16 16)) 105 (hlf (I 105) 4 4)) 106 (hlf (I 106) 64 64)) 107 (hlf (I 107) 64 64)) 108 (hlf (I 108) 64 64)) 109 (hlf (I 109) 64 64) 105 = hlf (I 105) 4 4 := by rw [u_I_ne (by decide), u_I_ne (by decide), u_I_ne (by decide), u_I_ne (by decide), u_I_eq]
  have z6 : u_I (u_I (u_I (u_I (u_I (u_I (u_I I 103 (hlf (I 103) 5 5)) 104 (hlf (I 104) 16 16)) 105 (hlf (I 105) 4 4)) 106 (hlf (I 106) 64 64)) 107 (hlf (I 107) 64 64)) 108 (hlf (I 108) 64 64)) 109 (hlf (I 109) 64 64) 106 = hlf (I 106) 64 64 := by rw [u_I_ne (by decide), u_I_ne (by decide), u_I_ne (by decide), u_I_eq]
  have z7 : u_I (u_I (u_I (u_I (u_I (u_I (u_I I 103 (hlf (I 103) 5 5)) 104 (hlf (I 104) 16 16)) 105 (hlf (I 105) 4 4)) 106 (hlf (I 106) 64 64)) 107 (hlf (I 107) 64 64)) 108 (hlf (I 108) 64 64)) 109 (hlf (I 109) 64 64) 107 = hlf (I 107) 64 64 := by rw [u_I_ne (by decide), u_I_ne (by decide), u_I_eq]
  have z8 : u_I (u_I (u_I (u_I (u_I (u_I (u_I I 103 (hlf (I 103) 5 5)) 104 (hlf (I 104) 16 16)) 105 (hlf (I 105) 4 4)) 106 (hlf (I 106) 64 64)) 107 (hlf (I 107) 64 64)) 108 (hlf (I 108) 64 64)) 109 (hlf (I 109) 64 64) 108 = hlf (I 108) 64 64 := by rw [u_I_ne (by decide), u_I_eq]
  have z9 : u_I (u_I (u_I (u_I (u_I (u_I (u_I I 103 (hlf (I 103) 5 5)) 104 (hlf (I 104) 16 16)) 105 (hlf (I 105) 4 4)) 106 (hlf (I 106) 64 64)) 107 (hlf (I 107) 64 64)) 108 (hlf (I 108) 64 64)) 109 (hlf (I 109) 64 64) 109 = hlf (I 109) 64 64 := by rw [u_I_eq]
  generalize u_I (u_I (u_I (u_I (u_I (u_I (u_I I 103 (hlf (I 103) 5 5)) 104 (hlf (I 104) 16 16)) 105 (hlf (I 105) 4 4)) 106 (hlf (I 106) 64 64)) 107 (hlf (I 107) 64 64)) 108 (hlf (I 108) 64 64)) 109 (hlf (I 109) 64 64) = I1 at *
  have key : ∀ m i I', m + i = 3 → (∀ k, k ≠ 124 → I' k = I1 k) → (∀ s, s < i → I' 124 s = nI 0) → am_ww 213 23 [.ref 99, .int (nI i)] [] E I' J S Q := by
    intro m
    induction m with
    | zero =>
      intro i I' hi h1 h2
      have ei : i = 3 := by omega
      subst ei
      apply g213_23
      refine ⟨fun _ => ?_, fun z => absurd (by decide) z⟩
      refine m184 (fun f hf => q_mkV (m185 (t := 0) (by omega) (q_mkV (h _ ?_))))
      have eo : ∀ k, k ≠ 99 → k ≠ 116 → k ≠ 117 → u_I (u_I (u_I I' 99 (upd (upd (upd (upd (I' 99) 12 (nI 0)) 13 (nI 0)) 43 (nI 0)) 58 (nI 0))) 116 f) 117 (cpk (u_I (u_I I' 99 (upd (upd (upd (upd (I' 99) 12 (nI 0)) 13 (nI 0)) 43 (nI 0)) 58 (nI 0))) 116 f 117) (u_I (u_I I' 99 (upd (upd (upd (upd (I' 99) 12 (nI 0)) 13 (nI 0)) 43 (nI 0)) 58 (nI 0))) 116 f 116) (51 * 0) 51) k = I' k := fun k a b d => by rw [u_I_ne d, u_I_ne b, u_I_ne a]
      have e99 : u_I (u_I (u_I I' 99 (upd (upd (upd (upd (I' 99) 12 (nI 0)) 13 (nI 0)) 43 (nI 0)) 58 (nI 0))) 116 f) 117 (cpk (u_I (u_I I' 99 (upd (upd (upd (upd (I' 99) 12 (nI 0)) 13 (nI 0)) 43 (nI 0)) 58 (nI 0))) 116 f 117) (u_I (u_I I' 99 (upd (upd (upd (upd (I' 99) 12 (nI 0)) 13 (nI 0)) 43 (nI 0)) 58 (nI 0))) 116 f 116) (51 * 0) 51) 99 = upd (upd (upd (upd (I1 99) 12 (nI 0)) 13 (nI 0)) 43 (nI 0)) 58 (nI 0) := by rw [u_I_ne (by decide), u_I_ne (by decide), u_I_eq, h1 99 (by decide)]
      have e117 : ∀ k, k < 51 → u_I (u_I (u_I I' 99 (upd (upd (upd (upd (I' 99) 12 (nI 0)) 13 (nI 0)) 43 (nI 0)) 58 (nI 0))) 116 f) 117 (cpk (u_I (u_I I' 99 (upd (upd (upd (upd (I' 99) 12 (nI 0)) 13 (nI 0)) 43 (nI 0)) 58 (nI 0))) 116 f 117) (u_I (u_I I' 99 (upd (upd (upd (upd (I' 99) 12 (nI 0)) 13 (nI 0)) 43 (nI 0)) 58 (nI 0))) 116 f 116) (51 * 0) 51) 117 k = f k := fun k hk => by
        rw [u_I_eq, u_I_eq]
        have := cpk_in (f := u_I (u_I I' 99 (upd (upd (upd (upd (I' 99) 12 (nI 0)) 13 (nI 0)) 43 (nI 0)) 58 (nI 0))) 116 f 117) (g := f) (o := 51 * 0) (n := 51) hk
        rw [show 51 * 0 + k = k from by omega] at this
        exact this
      have em : ∀ k, k < 51 → f k = m_first (u_I I' 99 (upd (upd (upd (upd (I' 99) 12 (nI 0)) 13 (nI 0)) 43 (nI 0)) 58 (nI 0))) (I' 103 1) k := fun k hk => hf k hk
      generalize u_I (u_I (u_I I' 99 (upd (upd (upd (upd (I' 99) 12 (nI 0)) 13 (nI 0)) 43 (nI 0)) 58 (nI 0))) 116 f) 117 (cpk (u_I (u_I I' 99 (upd (upd (upd (upd (I' 99) 12 (nI 0)) 13 (nI 0)) 43 (nI 0)) 58 (nI 0))) 116 f 117) (u_I (u_I I' 99 (upd (upd (upd (upd (I' 99) 12 (nI 0)) 13 (nI 0)) 43 (nI 0)) 58 (nI 0))) 116 f 116) (51 * 0) 51) = I2 at *
      have e3 : I2 103 = hlf (I 103) 5 5 := by rw [eo 103 (by decide) (by decide) (by decide), h1 103 (by decide)]; exact z3
      have e4 : I2 104 = hlf (I 104) 16 16 := by rw [eo 104 (by decide) (by decide) (by decide), h1 104 (by decide)]; exact z4
      have e5 : I2 105 = hlf (I 105) 4 4 := by rw [eo 105 (by decide) (by decide) (by decide), h1 105 (by decide)]; exact z5
      have e6 : I2 106 = hlf (I 106) 64 64 := by rw [eo 106 (by decide) (by decide) (by decide), h1 106 (by decide)]; exact z6
      have e7 : I2 107 = hlf (I 107) 64 64 := by rw [eo 107 (by decide) (by decide) (by decide), h1 107 (by decide)]; exact z7
      have e8 : I2 108 = hlf (I 108) 64 64 := by rw [eo 108 (by decide) (by decide) (by decide), h1 108 (by decide)]; exact z8
      have e9 : I2 109 = hlf (I 109) 64 64 := by rw [eo 109 (by decide) (by decide) (by decide), h1 109 (by decide)]; exact z9
      refine ⟨fun k hk => ?_, fun k hk => by rw [e3, hlf_in hk], fun k hk => by rw [e4, hlf_in hk], fun k hk => by rw [e5, hlf_in hk], fun j j1 j2 k hk => ?_, fun s hs => ?_, fun g g1 g2 g3 g4 => ?_, ?_, ?_, ?_, ?_, fun k hk => ?_⟩
      · rw [eo k (by omega) (by omega) (by omega), h1 k (by omega), z0 k (by omega)]
      · have hc : j = 106 ∨ j = 107 ∨ j = 108 ∨ j = 109 := by omega
        rcases hc with e | e | e | e <;> subst e
        · rw [e6, hlf_in hk]
        · rw [e7, hlf_in hk]
        · rw [e8, hlf_in hk]
        · rw [e9, hlf_in hk]
      · rw [eo 124 (by decide) (by decide) (by decide)]; exact h2 s hs
      · rw [e99, upd_ne g4, upd_ne g3, upd_ne g2, upd_ne g1, z0 99 (by omega)]
      · rw [e99, upd_ne (by decide), upd_ne (by decide), upd_ne (by decide), upd_eq]
      · rw [e99, upd_ne (by decide), upd_ne (by decide), upd_eq]
      · rw [e99, upd_ne (by decide), upd_eq]
      · rw [e99, upd_eq]
      · rw [e117 k hk, em k hk]
        unfold m_first
        rw [u_I_ne (show 104 ≠ 99 by decide), eo 104 (by decide) (by decide) (by decide), eo 103 (by decide) (by decide) (by decide)]
    | succ m ih =>
      intro i I' hi h1 h2
      apply g213_23
      rw [nI_leI (by omega) (by omega), nI_clamp (by omega), nI_add]
      refine ⟨fun z => by omega, fun _ => ⟨vp_in_nI (by omega) (by omega), ih (i + 1) _ (by omega) (fun k hk => by rw [u_I_ne hk]; exact h1 k hk) (fun s hs => ?_)⟩⟩
      rw [u_I_eq]
      by_cases e : s = i
      · rw [e, upd_eq]
      · rw [upd_ne e]; exact h2 s (by omega)
  exact key 3 0 I1 rfl (fun _ _ => rfl) (fun s hs => by omega)
