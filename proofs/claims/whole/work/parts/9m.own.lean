/-! who has the locks, step by step -/
def ow (I : Nat → Nat → Int32) (a : Nat) (C : Int32) (w : Nat → Int32) (l : Nat) : Int32 := if I 106 a = nI 7 then (if l = (I 107 a).toNatClampNeg then C else w l) else if I 106 a = nI 8 then (if l = (I 107 a).toNatClampNeg then (if w l = C then -1 else w l) else w l) else w l
theorem own_step {I : Nat → Nat → Int32} {T n t : Nat} (hp : p_in I) (hc : p_cl I) (hR : RW I T n) (hd : dn I t) (t1 : 1 ≤ t) (tT : t ≤ T) : ∃ C p n', C < (I 103 4).toNatClampNeg ∧ C < 4 ∧ p < 16 ∧ I 33 t = nI (16 * C + p) ∧ I 119 t = nI (16 * C + p) ∧ I 118 t = nI C ∧ p_ok I (16 * C + p) n' ∧ p_op I (16 * C + p) ∧ ∀ l, l < 4 → rt I t (40 + l) = ow I (16 * C + p) (nI C) (fun l => rt I (t - 1) (40 + l)) l := by
  have hm := vb hp.1
  obtain ⟨C, p, d1, d2, d3, d4, d5, d6, d7⟩ := hd
  obtain ⟨c4, p16⟩ := ins_lt hp d1 d2
  obtain ⟨ro, ⟨j, k1, k2⟩, _⟩ := hR.2.1 (t - 1) (by omega)
  have hcs := hR.2.2.2.2.1 (t - 1) (by omega)
  rw [show t - 1 + 1 = t by omega] at hcs
  obtain ⟨s, C', a, hg, b, _⟩ := cs_step hp ro k2 (by have := hR.1; omega) (by have := hR.1; omega) hR.2.2.2.2.2 hcs
  obtain ⟨g1, g2, g3, g4, g5⟩ := hg
  have gs := (m_can_t g3).1
  have e44 : rt I t 44 = nI C' := by rw [← g4 44 (by omega), m_do_k hp a g2 gs (by omega) (by omega), g1]
  rw [d6, nI_eq (by omega) (by omega)] at e44
  subst e44
  have sp : s (16 + 6 * C + 4) = nI p := by rw [b _ (by omega) (by omega)]; exact d7
  have hi : m_i s C = 16 * C + p := by unfold m_i; rw [sp, nI_clamp (by omega)]
  have ok := (hp.2 C d1).2 p d2
  refine ⟨C, p, _, d1, c4, p16, d5.trans d3, d3, d4, ok, (hc.2.1 C d1).2 p d2, fun l hl => ?_⟩
  obtain ⟨o, ho, eo, q1, q2, q3, q4, q5, q6⟩ := ok
  rw [← g4 (40 + l) (by omega)]
  unfold m_do
  rw [upd_ne (by omega), upd_ne (by omega), m_val_if hi ho eo]
  unfold ow
  have bl : s (40 + l) = rt I (t - 1) (40 + l) := b _ (by omega) (by omega)
  rw [eo]
  simp (disch := omega) only [nI_eq]
  have h12 : o = 0 ∨ o = 1 ∨ o = 2 ∨ o = 3 ∨ o = 4 ∨ o = 5 ∨ o = 6 ∨ o = 7 ∨ o = 8 ∨ 9 ≤ o := by omega
  rcases h12 with rfl | rfl | rfl | rfl | rfl | rfl | rfl | rfl | rfl | h9
  · have b := vb (q2 (by omega) (by omega) (by omega)); simp only [reduceIte, Nat.reduceEqDiff]; rw [upd_ne (by omega)]; exact bl
  · have b := vb (q2 (by omega) (by omega) (by omega)); simp only [reduceIte, Nat.reduceEqDiff]; rw [upd_ne (by omega)]; exact bl
  · have b := vb (q1 rfl); simp only [reduceIte, Nat.reduceEqDiff]; rw [upd_ne (by omega)]; exact bl
  · have b := vb (q2 (by omega) (by omega) (by omega)); simp only [reduceIte, Nat.reduceEqDiff]; rw [upd_ne (by omega)]; exact bl
  · have b := vb (q2 (by omega) (by omega) (by omega)); simp only [reduceIte, Nat.reduceEqDiff]; rw [upd_ne (by omega)]; exact bl
  · have b := vb (q2 (by omega) (by omega) (by omega)); simp only [reduceIte, Nat.reduceEqDiff]; rw [upd_ne (by omega)]; exact bl
  · have b := vb (q2 (by omega) (by omega) (by omega)); have b' := vb (q5 rfl); simp only [reduceIte, Nat.reduceEqDiff]; rw [upd_ne (by omega), upd_ne (by omega)]; exact bl
  · simp only [reduceIte, Nat.reduceEqDiff]
    by_cases c : l = (I 107 (16 * C + p)).toNatClampNeg
    · rw [if_pos c, c, upd_eq]
    · rw [if_neg c, upd_ne (by omega)]; exact bl
  · simp only [reduceIte, Nat.reduceEqDiff]
    by_cases c : l = (I 107 (16 * C + p)).toNatClampNeg
    · rw [if_pos c, ← c, upd_eq, bl]
    · rw [if_neg c, upd_ne (by omega)]; exact bl
  · rw [if_neg (by omega), if_neg (by omega), if_neg (by omega), if_neg (by omega), if_neg (by omega), if_neg (by omega), if_neg (by omega), if_neg (by omega), if_neg (by omega), if_neg (by omega), if_neg (by omega)]
    exact bl
theorem c149 {E : am_Ev} {I : Nat → Nat → Int32} {J : Nat → Nat → Int64} {S : Nat → Nat → Option Nat} {Q : am_Qt} {C p n' : Nat} (hC : C < 4) (hpp : p < 16) (hok : p_ok I (16 * C + p) n') (hop : p_op I (16 * C + p)) (h1 : I 106 (16 * C + p) = nI 8 → I 88 (I 107 (16 * C + p)).toNatClampNeg = nI C → Q (.inl (some (.int (nI 1)))) E I J S) (h0 : ¬ (I 106 (16 * C + p) = nI 8 ∧ I 88 (I 107 (16 * C + p)).toNatClampNeg = nI C) → Q (.inl (some (.int (nI 0)))) E I J S) : am_cl 149 [.ref 87, .ref 12, .int (nI (16 * C + p))] E I J S Q := by
  show am_ww 149 0 [.ref 87, .ref 12, .int (nI (16 * C + p))] [] E I J S Q
  obtain ⟨o, o1, o2, o3, o4, o5, o6, o7, o8⟩ := hop
  obtain ⟨o', ho', eo', q1, q2, q3, q4, q5, q6⟩ := hok
  have eoo : o' = o := by rw [o2, nI_eq (by omega) (by omega)] at eo'; exact eo'.symm
  subst eoo
  apply g149_0
  rw [nI_clamp (by omega), o3, nI_eq (by omega) (by omega), nI_mulI, nI_add, nI_clamp (by omega), nI_divI (by omega) (by omega), show (16 * C + p) / 16 = C by omega]
  refine ⟨vp_in_nI (by omega) (by omega), fun c => ⟨vp_in_nI (by omega) (by omega), fun w3 e3 => ?_⟩, fun c => h0 (fun q => ?_)⟩
  · have o8' : o' = 8 := by omega
    rw [o4 (by omega) (by omega)] at e3
    subst e3
    have v := q2 (by omega) (by omega) (by omega)
    exact ⟨v, fun y => h1 (by rw [o2, o8']) y, fun y => h0 (fun q => y q.2)⟩
  · have := q.1
    rw [o2, nI_eq (by omega) (by omega)] at this
    omega
theorem c150 {E : am_Ev} {I : Nat → Nat → Int32} {J : Nat → Nat → Int64} {S : Nat → Nat → Option Nat} {Q : am_Qt} {C p n' : Nat} (hC : C < 4) (hpp : p < 16) (hok : p_ok I (16 * C + p) n') (hop : p_op I (16 * C + p)) (h : ∀ I', (∀ k, k ≠ 88 → I' k = I k) → (∀ l, l < 4 → I' 88 l = ow I (16 * C + p) (nI C) (I 88) l) → Q (.inl none) E I' J S) : am_cl 150 [.ref 87, .ref 12, .int (nI (16 * C + p))] E I J S Q := by
  show am_ww 150 0 [.ref 87, .ref 12, .int (nI (16 * C + p)), am_U, am_U] [] E I J S Q
  obtain ⟨o, o1, o2, o3, o4, o5, o6, o7, o8⟩ := id hop
  obtain ⟨o', ho', eo', q1, q2, q3, q4, q5, q6⟩ := id hok
  have eoo : o' = o := by rw [o2, nI_eq (by omega) (by omega)] at eo'; exact eo'.symm
  subst eoo
  apply g150_0
  rw [nI_mulI, nI_add, nI_clamp (by omega), nI_clamp (by omega), o3, nI_eq (by omega) (by omega), nI_divI (by omega) (by omega), show (16 * C + p) / 16 = C by omega]
  refine ⟨vp_in_nI (by omega) (by omega), fun w2 e2 => ⟨vp_in_nI (by omega) (by omega), fun c => ?_, fun c => ?_⟩⟩
  · have o7' : o' = 7 := by omega
    rw [o4 (by omega) (by omega)] at e2
    subst e2
    refine ⟨q2 (by omega) (by omega) (by omega), h _ (fun k hk => u_I_ne hk) (fun l hl => ?_)⟩
    rw [u_I_eq]
    unfold ow
    rw [if_pos (by rw [o2, o7'])]
    by_cases cl : l = (I 107 (16 * C + p)).toNatClampNeg
    · rw [if_pos cl, cl, upd_eq]
    · rw [if_neg cl, upd_ne cl]
  · have n7 : ¬ I 106 (16 * C + p) = nI 7 := by rw [o2, nI_eq (by omega) (by omega)]; omega
    refine c149 hC hpp hok hop (fun y1 y2 => q_mkI ⟨fun q => absurd q (by decide), fun _ => ?_⟩) (fun y => q_mkI ⟨fun _ => h I (fun _ _ => rfl) (fun l hl => ?_), fun q => absurd nI_0 q⟩)
    · have o8' : o' = 8 := by rw [o2, nI_eq (by omega) (by omega)] at y1; exact y1
      rw [o4 (by omega) (by omega)] at e2
      subst e2
      refine ⟨q2 (by omega) (by omega) (by omega), h _ (fun k hk => u_I_ne hk) (fun l hl => ?_)⟩
      rw [u_I_eq]
      unfold ow
      rw [if_neg n7, if_pos y1]
      by_cases cl : l = (I 107 (16 * C + p)).toNatClampNeg
      · rw [if_pos cl, cl, upd_eq, if_pos y2]
      · rw [if_neg cl, upd_ne cl]
    · unfold ow
      rw [if_neg n7]
      by_cases c8 : I 106 (16 * C + p) = nI 8
      · rw [if_pos c8]
        by_cases cl : l = (I 107 (16 * C + p)).toNatClampNeg
        · rw [if_pos cl, cl, if_neg (fun z => y ⟨c8, z⟩)]
        · rw [if_neg cl]
      · rw [if_neg c8]
def hb1 (e : Bool) (l : Nat) (x : Int32) : Int32 := if e then x ||| (nI 1 <<< (nI l &&& 31)) else x
def hmk (e0 e1 e2 e3 : Bool) : Int32 := hb1 e3 3 (hb1 e2 2 (hb1 e1 1 (hb1 e0 0 (nI 0))))
def rb1 (e : Bool) (l : Nat) (x : Int32) : Int32 := if e then x else x &&& ((nI 1 <<< (nI l &&& 31)) ^^^ (-1))
def rmk (e0 e1 e2 e3 : Bool) (x : Int32) : Int32 := rb1 e3 3 (rb1 e2 2 (rb1 e1 1 (rb1 e0 0 x)))
def mm (e0 e1 e2 e3 : Bool) : Nat := (if e0 then 1 else 0) + (if e1 then 2 else 0) + (if e2 then 4 else 0) + (if e3 then 8 else 0)
theorem gmask : ∀ b, b < 16 → ∀ e0 e1 e2 e3 : Bool, nI b &&& hmk e0 e1 e2 e3 = nI (b &&& mm e0 e1 e2 e3) ∧ rmk e0 e1 e2 e3 (nI b) = nI (b &&& mm e0 e1 e2 e3) ∧ b &&& mm e0 e1 e2 e3 < 16 := by decide +kernel
theorem c162 {E : am_Ev} {I : Nat → Nat → Int32} {J : Nat → Nat → Int64} {S : Nat → Nat → Option Nat} {Q : am_Qt} {C : Nat} (h : Q (.inl (some (.int (hmk (decide (I 88 0 = nI C)) (decide (I 88 1 = nI C)) (decide (I 88 2 = nI C)) (decide (I 88 3 = nI C)))))) E I J S) : am_cl 162 [.ref 87, .int (nI C)] E I J S Q := by
  show am_ww 162 0 [.ref 87, .int (nI C), am_U, am_U] [] E I J S Q
  apply g162_0
  have st : ∀ (l : Nat) (x w : Int32), w = (if I 88 l = nI C then x ||| (nI 1 <<< (nI l &&& 31)) else x) → w = hb1 (decide (I 88 l = nI C)) l x := by
    intro l x w e
    rw [e]
    unfold hb1
    by_cases c : I 88 l = nI C
    · rw [if_pos c, decide_eq_true c, if_pos rfl]
    · rw [if_neg c, decide_eq_false c, if_neg Bool.false_ne_true]
  apply g162_4
  refine ⟨fun q => absurd q (by decide), fun _ => ⟨vp_in_nI (by omega) (by omega), fun w e => ?_⟩⟩
  rw [nI_clamp (by omega)] at e
  rw [st 0 _ w e, nI_add]
  clear e
  apply g162_4
  refine ⟨fun q => absurd q (by decide), fun _ => ⟨vp_in_nI (by omega) (by omega), fun w e => ?_⟩⟩
  rw [nI_clamp (by omega)] at e
  rw [st 1 _ w e, nI_add]
  clear e
  apply g162_4
  refine ⟨fun q => absurd q (by decide), fun _ => ⟨vp_in_nI (by omega) (by omega), fun w e => ?_⟩⟩
  rw [nI_clamp (by omega)] at e
  rw [st 2 _ w e, nI_add]
  clear e
  apply g162_4
  refine ⟨fun q => absurd q (by decide), fun _ => ⟨vp_in_nI (by omega) (by omega), fun w e => ?_⟩⟩
  rw [nI_clamp (by omega)] at e
  rw [st 3 _ w e, nI_add]
  apply g162_4
  exact ⟨fun _ => h, fun q => absurd (Int32.le_refl _) q⟩
