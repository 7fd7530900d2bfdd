/-! diverged, matters: the calls -/
theorem Hn_v {E E' : am_Ev} {I I' : Nat → Nat → Int32} {J J' : Nat → Nat → Int64} {S : Nat → Nat → Option Nat} {Q : am_Qt} {x4 : Int32} {T cu ac n d : Nat} (h : Hn I J S E x4 Q) (hE : E' = E ∨ E' = Ex E) (hcr : CR I T cu ac n) (hvw : vw I' T d) (hk : ∀ k, k < 60 ∨ 89 ≤ k ∧ k < 96 ∨ 100 ≤ k ∧ k < 116 ∨ 117 ≤ k ∧ k < 125 ∨ k = 126 ∨ k = 127 ∨ 134 ≤ k → I' k = I k) (h9 : ∀ f, f = 12 ∨ f = 13 ∨ f = 15 ∨ f = 24 ∨ f = 43 ∨ 58 ≤ f ∧ f < 62 → I' 99 f = I 99 f) (hJ : Jq J J') : lk x4 E' I' J' S Q :=
  h E' I' J' T cu ac n d hE (CR_e ⟨fun k q => hk k (by omega), h9 12 (by omega), h9 13 (by omega), h9 43 (by omega)⟩ hcr) hvw ⟨fun k q => hk k (by omega), fun f q => h9 f (by omega)⟩ (Or.inr ⟨fun k a b => hk k (by omega), hk 33 (by omega), by rw [hk 18 (by omega)], hJ 95 (by omega)⟩)
theorem L4 {E : am_Ev} {I : Nat → Nat → Int32} {J : Nat → Nat → Int64} {S : Nat → Nat → Option Nat} {Q : am_Qt} {W M i : Nat} {x4 : Int32} (hx : x4 = nI i) (hi : i + 6 ≤ E.2.2.1) (hL : E.2.2.1 ≤ 3072) (h : am_cl W [.ref 0, .int (E.2.2.2 (i + 1)), .int (E.2.2.2 (i + 2)), .int (E.2.2.2 (i + 3)), .int (E.2.2.2 (i + 4)), .ref 145] E I J S (q_I fun v1 E1 I1 J1 S1 => E1.2.2 = E.2.2 ∧ am_cl M [.ref 99, .int (E.2.2.2 (i + 1)), .int (E.2.2.2 (i + 2)), .int (E.2.2.2 (i + 3)), .int (E.2.2.2 (i + 4))] E1 I1 J1 S1 (q_I fun v2 E2 I2 J2 S2 => tl v1 v2 x4 E2 I2 J2 S2 Q))) :
    vp_in (x4 + (nI 1)) E.2.2.1 ∧ (vp_in (x4 + (nI 2)) E.2.2.1 ∧ (vp_in (x4 + (nI 3)) E.2.2.1 ∧ (vp_in (x4 + (nI 4)) E.2.2.1 ∧ (am_cl W [.ref 0, .int (E.2.2.2 (x4 + (nI 1)).toNatClampNeg), .int (E.2.2.2 (x4 + (nI 2)).toNatClampNeg), .int (E.2.2.2 (x4 + (nI 3)).toNatClampNeg), .int (E.2.2.2 (x4 + (nI 4)).toNatClampNeg), .ref 145] E I J S (q_I fun v1 E1 I1 J1 S1 => vp_in (x4 + (nI 1)) E1.2.2.1 ∧ (vp_in (x4 + (nI 2)) E1.2.2.1 ∧ (vp_in (x4 + (nI 3)) E1.2.2.1 ∧ (vp_in (x4 + (nI 4)) E1.2.2.1 ∧ (am_cl M [.ref 99, .int (E1.2.2.2 (x4 + (nI 1)).toNatClampNeg), .int (E1.2.2.2 (x4 + (nI 2)).toNatClampNeg), .int (E1.2.2.2 (x4 + (nI 3)).toNatClampNeg), .int (E1.2.2.2 (x4 + (nI 4)).toNatClampNeg)] E1 I1 J1 S1 (q_I fun v2 E2 I2 J2 S2 => tl v1 v2 x4 E2 I2 J2 S2 Q)))))))))) := by
  subst hx
  rw [nI_add, nI_add, nI_add, nI_add, nI_clamp (by omega), nI_clamp (by omega), nI_clamp (by omega), nI_clamp (by omega)]
  refine ⟨vp_in_nI (by omega) (by omega), vp_in_nI (by omega) (by omega), vp_in_nI (by omega) (by omega), vp_in_nI (by omega) (by omega), am_ww.mono h ?_⟩
  rintro r E1 I1 J1 S1 ⟨v, rfl, he, hq⟩
  refine q_mkI ?_
  rw [he]
  exact ⟨vp_in_nI (by omega) (by omega), vp_in_nI (by omega) (by omega), vp_in_nI (by omega) (by omega), vp_in_nI (by omega) (by omega), hq⟩
/-- the reference: what it does of an alteration that may be, and of one that may not -/
theorem m274 {E : am_Ev} {I : Nat → Nat → Int32} {J : Nat → Nat → Int64} {S : Nat → Nat → Option Nat} {Q : am_Qt} {T n : Nat} {how wh ins : Int32} {w : Nat} (hv : vr0 I T n) (hT : I 99 12 = nI T) (hw : w < 3)
    (h1 : al I T n how wh ins → am_cl 276 [.ref 99] E (u_I I 99 (upd (upd (upd (upd (I 99) 3 (nI 0)) 51 how) 52 wh) 53 ins)) J S (q_V fun E7 I7 J7 S7 => Q (.inl (some (.int (if w = 0 then I7 99 54 else if w = 1 then I7 99 55 else I7 99 56)))) E7 I7 J7 S7))
    (h0 : ¬ al I T n how wh ins → Q (.inl (some (.int (nI 0)))) E (u_I I 99 (upd (upd (I 99) 3 (nI 0)) 3 (nI 1))) J S) : am_cl 274 [.ref 99, .int how, .int wh, .int ins, .int (nI w)] E I J S Q := by
  show am_ww 274 0 [.ref 99, .int how, .int wh, .int ins, .int (nI w)] [] E I J S Q
  obtain ⟨hp, hc, hR, hs, hl⟩ := hv
  have hT4 := hR.1
  have hm := vb hp.1
  have e47 : I 117 (51 * T + 47) = nI n := by rw [← rt_k (I := I) (t := T) (show 47 < 51 by omega)]; exact hR.2.2.2.1
  -- the answer
  have ans : al I T n how wh ins → am_cl 276 [.ref 99] E (u_I I 99 (upd (upd (upd (upd (I 99) 3 (nI 0)) 51 how) 52 wh) 53 ins)) J S (q_V fun E7 I7 J7 S7 => ∀ w10 : Int32, w10 = (if nI w = 0 then ((I7 99) 54) else (if nI w = (nI 1) then ((I7 99) 55) else ((I7 99) 56))) → (Q (.inl (some (.int w10))) E7 I7 J7 S7)) := by
    intro a
    refine am_ww.mono (h1 a) ?_
    rintro r E1 I1 J1 S1 ⟨rfl, hq⟩
    refine q_mkV (fun w10 e => ?_)
    have ee : w10 = (if w = 0 then I1 99 54 else if w = 1 then I1 99 55 else I1 99 56) := by
      rw [e]
      have : w = 0 ∨ w = 1 ∨ w = 2 := by omega
      rcases this with rfl | rfl | rfl
      · rw [if_pos nI_0, if_pos rfl]
      · rw [if_neg (show ¬ nI 1 = 0 by decide), if_pos (rfl : nI 1 = nI 1), if_neg (show ¬ (1 : Nat) = 0 by decide), if_pos (rfl : (1 : Nat) = 1)]
      · rw [if_neg (show ¬ nI 2 = 0 by decide), if_neg (show ¬ nI 2 = nI 1 by decide), if_neg (show ¬ (2 : Nat) = 0 by decide), if_neg (show ¬ (2 : Nat) = 1 by decide)]
    rw [ee]
    exact hq
  apply g274_0
  refine ⟨fun q => absurd ((nI_ltI (by omega) (by omega)).mp q) (by omega), fun _ => ⟨fun q => absurd ((nI_ltI (by omega) (by omega)).mp q) (by omega), fun _ => ?_⟩⟩
  rw [hT]
  -- six ways
  rcases rng' how 6 (by omega) with ⟨k, hk, ek⟩ | ⟨hn, hb⟩
  · subst ek
    rw [nI_ltI (by omega) (by omega), nI_ltI (by omega) (by omega), nI_leI (by omega) (by omega)]
    refine ⟨fun q => absurd q (by omega), fun _ => ⟨fun q => absurd q (by omega), fun _ => ⟨fun c2 => ⟨fun c5 => ?_, fun c5 => ?_⟩, fun c2 => ?_⟩⟩⟩
    · have c5' : k = 5 := by rw [nI_eq (by omega) (by omega)] at c5; exact c5
      have nal : ¬ (∃ i, i < 16 ∧ wh = nI i) → ¬ al I T n (nI k) wh ins := by
        intro q a
        rcases a with ⟨a, _⟩ | ⟨a, _⟩ | ⟨_, a⟩ | ⟨z, hz, a, _⟩
        · rw [nI_eq (by omega) (by omega)] at a; omega
        · rw [nI_eq (by omega) (by omega)] at a; omega
        · exact q a
        · rw [nI_eq (by omega) (by omega)] at a; omega
      have := tst' (x := wh) (n := 16) (by omega) (fun v => ans (Or.inr (Or.inr (Or.inl ⟨c5, v⟩)))) (fun v => h0 (nal v))
      rw [nI_subI (by omega)] at this
      exact this
    · have c5' : ¬ k = 5 := fun q => c5 (by rw [q])
      obtain ⟨z, rfl⟩ : ∃ z, k = 2 + z := ⟨k - 2, by omega⟩
      have v := hl z (by omega)
      have vbb := vb v.2.1
      have nal : ¬ (∃ i, i < (lm I T z).toNatClampNeg ∧ wh = nI i) → ¬ al I T n (nI (2 + z)) wh ins := by
        intro q a
        rcases a with ⟨a, _⟩ | ⟨a, _⟩ | ⟨a, _⟩ | ⟨z', hz, a, b⟩
        · rw [nI_eq (by omega) (by omega)] at a; omega
        · rw [nI_eq (by omega) (by omega)] at a; omega
        · rw [nI_eq (by omega) (by omega)] at a; omega
        · rw [nI_eq (by omega) (by omega)] at a
          have : z' = z := by omega
          subst this
          exact q b
      have e48 : I 117 (51 * T + (48 + z)) = nI (lm I T z).toNatClampNeg := by
        rw [← rt_k (I := I) (t := T) (show 48 + z < 51 by omega)]
        exact vc v.2.1
      rw [nI_mulI, nI_add, nI_subI (by omega), nI_add, show 48 + (2 + z) - 2 = 48 + z by omega, nI_clamp (by omega), e48]
      refine ⟨vp_in_nI (by omega) (by omega), fun w2 e2 => ?_⟩
      subst e2
      exact tst' (by omega) (fun v => ans (Or.inr (Or.inr (Or.inr ⟨z, by omega, rfl, v⟩)))) (fun v => h0 (nal v))
    · rw [nI_mulI, nI_add, nI_clamp (by omega), e47]
      refine ⟨vp_in_nI (by omega) (by omega), fun w2 e2 => ?_⟩
      subst e2
      have nal : (¬ (∃ i, i < n ∧ wh = nI i) ∨ (k = 0 ∧ ¬ ∃ t, t < (I 103 4).toNatClampNeg ∧ ins = nI t)) → ¬ al I T n (nI k) wh ins := by
        intro q a
        rcases a with ⟨_, a, b⟩ | ⟨a0, a⟩ | ⟨a, _⟩ | ⟨z, hz, a, _⟩
        · rcases q with q | ⟨_, q⟩
          · exact q a
          · exact q b
        · rcases q with q | ⟨q0, _⟩
          · exact q a
          · rw [nI_eq (by omega) (by omega)] at a0; omega
        · rw [nI_eq (by omega) (by omega)] at a; omega
        · rw [nI_eq (by omega) (by omega)] at a; omega
      refine tst' (by omega) (fun v => ⟨fun c1 => ans (Or.inr (Or.inl ⟨c1, v⟩)), fun c1 => ?_⟩) (fun v => h0 (nal (Or.inl v)))
      have k1 : ¬ k = 1 := fun q => c1 (by rw [q])
      have k0 : k = 0 := by omega
      rw [vc hp.1]
      exact tst' (by omega) (fun t => ans (Or.inl ⟨by rw [k0], v, t⟩)) (fun t => h0 (nal (Or.inr ⟨k0, t⟩)))
  · have t := h0 (fun a => by
      rcases a with ⟨a, _⟩ | ⟨a, _⟩ | ⟨a, _⟩ | ⟨z, hz, a, _⟩
      · exact hn ⟨0, by omega, a⟩
      · exact hn ⟨1, by omega, a⟩
      · exact hn ⟨5, by omega, a⟩
      · exact hn ⟨2 + z, by omega, a⟩)
    refine ⟨fun _ => t, fun q0 => ⟨fun _ => t, fun q5 => ?_⟩⟩
    rw [nI_0] at q0
    exact (ctr_le hb q0 (Int32.not_lt.mp q5) rfl (by omega)).elim
theorem al_ok {I : Nat → Nat → Int32} {T n : Nat} {how wh ins : Int32} (hv : vr0 I T n) (h : al I T n how wh ins) : k_ok I n how ins ∧ (how = nI 5 → ∃ i, i < 16 ∧ wh = nI i) := by
  obtain ⟨hp, hc, hR, hs, hl⟩ := hv
  have hT4 := hR.1
  have hm := vb hp.1
  refine ⟨⟨by omega, hR.2.2.2.2.2, fun q => ?_⟩, fun q => ?_⟩
  · rcases h with ⟨_, _, t, ht, e⟩ | ⟨a, _⟩ | ⟨a, _⟩ | ⟨z, hz, a, _⟩
    · rw [e]; exact vp_in_nI ht (by omega)
    · rw [q, nI_eq (by omega) (by omega)] at a; omega
    · rw [q, nI_eq (by omega) (by omega)] at a; omega
    · rw [q, nI_eq (by omega) (by omega)] at a; omega
  · rcases h with ⟨a, _⟩ | ⟨a, _⟩ | ⟨_, a⟩ | ⟨z, hz, a, _⟩
    · rw [q, nI_eq (by omega) (by omega)] at a; omega
    · rw [q, nI_eq (by omega) (by omega)] at a; omega
    · exact a
    · rw [q, nI_eq (by omega) (by omega)] at a; omega
theorem al_e {I I' : Nat → Nat → Int32} {T n : Nat} {how wh ins : Int32} (h3 : I' 103 = I 103) (h7 : I' 117 = I 117) : al I' T n how wh ins ↔ al I T n how wh ins := by
  unfold al
  rw [h3, lm_e h7]
theorem k_diverged {E : am_Ev} {I : Nat → Nat → Int32} {J : Nat → Nat → Int64} {S : Nat → Nat → Option Nat} {Q : am_Qt} {T cu ac n d i : Nat} {x4 : Int32} {d5 d6 : Value} (hd5 : am_isL d5 = false) (hd6 : am_isL d6 = false) (hcr : CR I T cu ac n) (hvw : vw I T d) (hx : x4 = nI i) (hi : i + 6 ≤ E.2.2.1) (hL : E.2.2.1 ≤ 3072) (h : Hn I J S E x4 Q) : am_ww 291 927 [.ref 1000000, .ref 0, .ref 99, .ref 145, .int x4, d5, d6] [] E I J S Q := by
  apply g291_927 hd5 hd6
  refine L4 hx hi hL ?_
  generalize E.2.2.2 (i + 1) = how
  generalize E.2.2.2 (i + 2) = wh
  generalize E.2.2.2 (i + 3) = ins
  generalize E.2.2.2 (i + 4) = y
  have hv := CR_vr0 hcr
  obtain ⟨h1, h2, h3, h4, h5, h6, h7, h8, h9, h10, h11, h12, h13, h14⟩ := id hcr
  obtain ⟨pt, p1, p2, p3⟩ := h3.2.1
  have hT4 := h4.1.1
  show am_ww 166 0 [.ref 0, .int how, .int wh, .int ins, .int y, .ref 145, am_U] [] E I J S _
  apply g166_0
  show am_ww 167 0 [.ref 0, .int how, .int wh, .int ins, .int y] [] E I J S _
  apply g167_0
  -- refused
  have tb : q_I (fun v2 E2 I2 J2 S2 => tl (nI 1) v2 x4 E2 I2 J2 S2 Q) (.inl (some (.int (nI 0)))) (E.1 + 1, E.2.1 + 6, E.2.2) (u_I I 99 (upd (upd (I 99) 3 (nI 0)) 3 (nI 1))) J S := q_mkI (tl_bad (by omega) (by omega) (by rw [u_I_eq, upd_eq]) (Hn_q h (Or.inr rfl) hcr hvw (fun k hk => u_I_ne (by omega)) (fun f hf => by rw [u_I_eq, upd_ne (by omega), upd_ne (by omega)]) Jq_id))
  rcases rng' y 3 (by omega) with ⟨w, hw, ew⟩ | ⟨hy, hb⟩
  · subst ew
    refine ⟨fun q => absurd q (nI_pos (by omega)), fun _ => ⟨fun q => absurd ((nI_ltI (by omega) (by omega)).mp q) (by omega), fun _ => ?_⟩⟩
    refine c168 hv (fun a => q_mkI ⟨fun z => absurd z (by decide), fun _ => ?_⟩) (fun a => q_mkI ⟨fun _ => ⟨1, rfl, q_mkI ⟨rfl, m274 hv h8.1 hw (fun z => absurd z a) (fun _ => tb)⟩⟩, fun z => absurd nI_0 z⟩)
    obtain ⟨ko, h5'⟩ := al_ok hv a
    have h5v : how = nI 5 → vp_in wh 16 := fun q => by
      obtain ⟨j, hj, e⟩ := h5' q
      rw [e]
      exact vp_in_nI hj (by omega)
    -- the reference, on a heap that the class has left
    have ref : ∀ (I2 : Nat → Nat → Int32) (d' : Nat) (v : Int32), vw I2 T d' → fb I I2 60 75 → v = (if w = 0 then @ite _ (same (r0 I how wh ins) (rt I 0)) (Classical.propDecidable _) (dfr (nxr I n (lm I T) how wh ins) (rt I) T 1 (r0 I how wh ins)) (nI 0) else if w = 1 then dgs (nxr I n (lm I T) how wh ins) (rt I) (I 103 4).toNatClampNeg pt T 1 (r0 I how wh ins) else stk (nxr I n (lm I T) how wh ins) T 1 (r0 I how wh ins)) → q_I (fun v1 E1 I1 J1 S1 => E1.2.2 = E.2.2 ∧ am_cl 274 [.ref 99, .int how, .int wh, .int ins, .int (nI w)] E1 I1 J1 S1 (q_I fun v2 E2 I2 J2 S2 => tl v1 v2 x4 E2 I2 J2 S2 Q)) (.inl (some (.int (nI 0)))) E I2 (u_J J 145 (vp_updL (J 145) 0 v.toInt64)) S := by
      intro I2 d' v w2 f2 ev
      refine q_mkI ⟨rfl, ?_⟩
      have hv2 := vr0_fb hv f2 (by omega) (by omega)
      refine m274 hv2 (by rw [f2 99 (by omega)]; exact h8.1) hw (fun _ => ?_) (fun z => absurd ((al_e (f2 103 (by omega)) (f2 117 (by omega))).mpr a) z)
      have z99 : u_I I2 99 (upd (upd (upd (upd (I2 99) 3 (nI 0)) 51 how) 52 wh) 53 ins) 99 = upd (upd (upd (upd (I 99) 3 (nI 0)) 51 how) 52 wh) 53 ins := by rw [u_I_eq, f2 99 (by omega)]
      have zo : ∀ k, k ≠ 99 → u_I I2 99 (upd (upd (upd (upd (I2 99) 3 (nI 0)) 51 how) 52 wh) 53 ins) k = I2 k := fun k hk => u_I_ne hk
      generalize u_I I2 99 (upd (upd (upd (upd (I2 99) 3 (nI 0)) 51 how) 52 wh) 53 ins) = I3 at z99 zo ⊢
      have h3i : ∀ k, k < 60 ∨ 75 < k ∧ k < 99 ∨ 99 < k → I3 k = I k := fun k hk => by rw [zo k (by omega), f2 k (by omega)]
      have hv3 : vr0 I3 T n := vr0_e hv (fun k hk => h3i k (by omega))
      have hh : h_eq I I3 := ⟨fun k a b => h3i k (by omega), h3i 117 (by omega), h3i 120 (by omega), h3i 121 (by omega), h3i 122 (by omega), h3i 123 (by omega)⟩
      have ko3 : k_ok I3 n how ins := by
        obtain ⟨o1, o2, o3⟩ := ko
        refine ⟨o1, fun i hi => ?_, fun q => ?_⟩
        · rw [h3i 122 (by omega), h3i 103 (by omega)]; exact o2 i hi
        · rw [h3i 103 (by omega)]; exact o3 q
      refine m276 (pt := pt) hv3 ko3 h5v (by rw [z99, upd_ne (by omega), upd_ne (by omega), upd_ne (by omega), upd_ne (by omega)]; exact h8.1) p1 p2 (by rw [h3i 103 (by omega)]; exact p3) (by rw [z99, upd_ne (by omega), upd_ne (by omega), upd_eq]) (by rw [z99, upd_ne (by omega), upd_eq]) (by rw [z99, upd_eq]) (fun I4 f4 q54 q55 q56 _ => q_mkV (q_mkI (tl_ok ?_ ?_ (Hn_v (d := d') h (Or.inl rfl) hcr (vw_e (fun k hk => by rw [f4.1 k (by simp; omega), zo k (by omega)]) w2) (fun k hk => by rw [f4.1 k (by simp; omega), h3i k (by omega)]) (fun f hf => ?_) (fun k hk => u_J_ne hk)))))
      · rw [f4.2 3 (by omega) (by omega) (by omega) (by omega) (by omega), z99, upd_ne (by omega), upd_ne (by omega), upd_ne (by omega), upd_eq]
      · rw [u_J_eq, q54, q55, q56, rt_e (h3i 117 (by omega)), r0_e hh.1, nxr_e hh, lm_e (h3i 117 (by omega)), h3i 103 (by omega), ← ev]
        exact if_pos rfl
      · rw [f4.2 f (by omega) (by omega) (by omega) (by omega) (by omega), z99, upd_ne (by omega), upd_ne (by omega), upd_ne (by omega), upd_ne (by omega)]
    refine c_alt hv h5' (fun I2 a2 f2 => ⟨fun w0 => ?_, fun w0 => ⟨fun w1 => ?_, fun w1 => ?_⟩⟩)
    · refine c170 hv ko h8.2 a2 (fun I3 d' w3 f3 => q_mkI (W_ok (y := 166) (ref I3 d' _ w3 (fb_tr a2.1 f3) ?_)))
      have : w = 0 := by rw [nI_e0 (by omega)] at w0; exact w0
      rw [if_pos this]
    · have hw0 : ¬ w = 0 := fun q => w0 (by rw [q]; exact nI_0)
      have hw1 : w = 1 := by rw [nI_eq (by omega) (by omega)] at w1; exact w1
      have ep : (I 103 2).toNatClampNeg = pt := by rw [p3, nI_clamp (by omega)]
      unfold DG at h12
      rw [ep] at h12
      refine c173 hv ko h8.2 p1 p2 (by rw [h2.2.2.2 2 (by omega)]; exact p3) h12 a2 (fun I3 f3 => q_mkI (W_ok (y := 166) (ref I3 d _ (vw_e (fun k hk => by rw [f3 k (by omega), f2 k (by omega)]) hvw) (fb_tr a2.1 (fb_le f3 (by omega) (by omega))) ?_)))
      rw [if_neg hw0, if_pos hw1]
    · have hw0 : ¬ w = 0 := fun q => w0 (by rw [q]; exact nI_0)
      have hw1 : ¬ w = 1 := fun q => w1 (by rw [q])
      rw [a2.1 18 (by omega), h8.2]
      show am_ww 46 0 [.ref 68, .int (nI T), .ref 12, .ref 18, am_U] [] E I2 J S _
      apply g46_0_68
      rw [a2.2.2.1.1]
      refine c46a hv ko hT4 T 0 _ I2 (by omega) a2 (fun I3 k hk sk _ _ q1 f3 => q_mkV (fun w6 e6 => W_ok (y := 166) (ref I3 d _ (vw_e (fun k hk => by rw [f3 k (by omega), f2 k (by omega)]) hvw) (fb_tr a2.1 (fb_le f3 (by omega) (by omega))) ?_))) (fun I3 r' _ sk a3 f3 => q_mkV (fun w6 e6 => W_ok (y := 166) (ref I3 d _ (vw_e (fun k hk => by rw [f3 k (by omega), f2 k (by omega)]) hvw) a3.1 ?_)))
      · rw [if_neg hw0, if_neg hw1, sk, e6, q1, f3 18 (by omega), a2.1 18 (by omega), h8.2, if_neg (fun q => absurd ((nI_leI (by omega) (by omega)).mp q) (by omega))]
      · rw [if_neg hw0, if_neg hw1, sk, e6, a3.2.2.1.1, a3.1 18 (by omega), h8.2, if_pos (Int32.le_refl _)]
  · have t : ∀ r' : Nat, q_I (fun v1 E1 I1 J1 S1 => E1.2.2 = E.2.2 ∧ am_cl 274 [.ref 99, .int how, .int wh, .int ins, .int y] E1 I1 J1 S1 (q_I fun v2 E2 I2 J2 S2 => tl v1 v2 x4 E2 I2 J2 S2 Q)) (.inl (some (.int (nI 1)))) (E.1 + 1, E.2.1 + 6, E.2.2) I J S := by
      intro _
      refine q_mkI ⟨rfl, ?_⟩
      show am_ww 274 0 [.ref 99, .int how, .int wh, .int ins, .int y] [] _ I J S _
      apply g274_0
      refine ⟨fun _ => tb, fun q0 => ⟨fun _ => tb, fun q1 => ?_⟩⟩
      rw [nI_0] at q0
      exact (ctr_le hb q0 (Int32.not_lt.mp q1) rfl (by omega)).elim
    exact ⟨fun _ => ⟨1, rfl, t 0⟩, fun q0 => ⟨fun _ => ⟨1, rfl, t 0⟩, fun q1 => (ctr_le hb q0 (Int32.not_lt.mp q1) rfl (by omega)).elim⟩⟩
