/-! steps: one that is put down -/
def mg (C G : Nat → Nat → Int32) (k : Nat) : Nat → Int32 := if k < 99 then C k else G k
theorem mg_lo {C G : Nat → Nat → Int32} {k : Nat} (h : k < 99) : mg C G k = C k := if_pos h
theorem mg_hi {C G : Nat → Nat → Int32} {k : Nat} (h : 99 ≤ k) : mg C G k = G k := if_neg (by omega)
theorem mg_id {C : Nat → Nat → Int32} : mg C C = C := by
  funext k
  unfold mg
  split <;> rfl
/-- the reference's step, as it leaves its heap -/
def gst (G : Nat → Nat → Int32) (s : Nat → Int32) (k : Nat) : Nat → Int32 := if k = 99 then upd (upd (upd (G 99) 39 (s 44)) 40 (nI (m_i (G 116) (s 44).toNatClampNeg))) 12 (G 99 12 + nI 1) else if k = 116 then m_st G (G 123) s else if k = 117 then cpk (G 117) (m_st G (G 123) s) (51 * ((G 99 12).toNatClampNeg + 1)) 51 else if k = 118 then upd (G 118) ((G 99 12).toNatClampNeg + 1) (s 44) else if k = 119 then upd (G 119) ((G 99 12).toNatClampNeg + 1) (nI (m_i (G 116) (s 44).toNatClampNeg)) else if k = 120 then m_rec true (G 116) s (G 120) (m_lb (G 116)) else if k = 121 then m_rec true (G 116) s (G 121) (m_lp (G 116)) else if k = 122 then m_rec true (G 116) s (G 122) (s 44) else G k
section
variable {G C : Nat → Nat → Int32} {s : Nat → Int32}
theorem gst_99 : gst G s 99 = upd (upd (upd (G 99) 39 (s 44)) 40 (nI (m_i (G 116) (s 44).toNatClampNeg))) 12 (G 99 12 + nI 1) := if_pos rfl
theorem gst_116 : gst G s 116 = m_st G (G 123) s := by unfold gst; rw [if_neg (by omega), if_pos rfl]
theorem gst_117 : gst G s 117 = cpk (G 117) (m_st G (G 123) s) (51 * ((G 99 12).toNatClampNeg + 1)) 51 := by unfold gst; rw [if_neg (by omega), if_neg (by omega), if_pos rfl]
theorem gst_118 : gst G s 118 = upd (G 118) ((G 99 12).toNatClampNeg + 1) (s 44) := by unfold gst; rw [if_neg (by omega), if_neg (by omega), if_neg (by omega), if_pos rfl]
theorem gst_119 : gst G s 119 = upd (G 119) ((G 99 12).toNatClampNeg + 1) (nI (m_i (G 116) (s 44).toNatClampNeg)) := by unfold gst; rw [if_neg (by omega), if_neg (by omega), if_neg (by omega), if_neg (by omega), if_pos rfl]
theorem gst_120 : gst G s 120 = m_rec true (G 116) s (G 120) (m_lb (G 116)) := by unfold gst; rw [if_neg (by omega), if_neg (by omega), if_neg (by omega), if_neg (by omega), if_neg (by omega), if_pos rfl]
theorem gst_121 : gst G s 121 = m_rec true (G 116) s (G 121) (m_lp (G 116)) := by unfold gst; rw [if_neg (by omega), if_neg (by omega), if_neg (by omega), if_neg (by omega), if_neg (by omega), if_neg (by omega), if_pos rfl]
theorem gst_122 : gst G s 122 = m_rec true (G 116) s (G 122) (s 44) := by unfold gst; rw [if_neg (by omega), if_neg (by omega), if_neg (by omega), if_neg (by omega), if_neg (by omega), if_neg (by omega), if_neg (by omega), if_pos rfl]
theorem gst_o {k : Nat} (h : k < 99 ∨ 99 < k ∧ k < 116 ∨ 122 < k) : gst G s k = G k := by unfold gst; rw [if_neg (by omega), if_neg (by omega), if_neg (by omega), if_neg (by omega), if_neg (by omega), if_neg (by omega), if_neg (by omega), if_neg (by omega)]
theorem gst_mg : gst (mg C G) s = mg C (gst G s) := by
  have hp : p_eq G (mg C G) := fun k a b => mg_hi (by omega)
  funext k
  by_cases c : k < 99
  · rw [gst_o (by omega), mg_lo c, mg_lo c]
  · rw [mg_hi (show 99 ≤ k by omega)]
    unfold gst
    rw [m_st_e hp]
    simp only [mg_hi (C := C) (G := G) (show 99 ≤ 99 by omega), mg_hi (C := C) (G := G) (show 99 ≤ 116 by omega), mg_hi (C := C) (G := G) (show 99 ≤ 117 by omega), mg_hi (C := C) (G := G) (show 99 ≤ 118 by omega), mg_hi (C := C) (G := G) (show 99 ≤ 119 by omega), mg_hi (C := C) (G := G) (show 99 ≤ 120 by omega), mg_hi (C := C) (G := G) (show 99 ≤ 121 by omega), mg_hi (C := C) (G := G) (show 99 ≤ 122 by omega), mg_hi (C := C) (G := G) (show 99 ≤ 123 by omega), mg_hi (C := C) (G := G) (show 99 ≤ k by omega)]
end
/-- as many steps as there can be, at most j -/
def gnx (q : Nat) (G : Nat → Nat → Int32) : Option (Nat → Int32) := m_pre G (G 124) q (G 116)
def git (q : Nat) : Nat → (Nat → Nat → Int32) → Nat → Nat → Int32
  | 0, G => G
  | j + 1, G => match gnx q (git q j G) with
    | some s => gst (git q j G) s
    | none => git q j G
theorem gnx_mg {q : Nat} {C G : Nat → Nat → Int32} : gnx q (mg C G) = gnx q G := by
  have hp : p_eq G (mg C G) := fun k a b => mg_hi (by omega)
  unfold gnx
  rw [m_pre_e hp, mg_hi (by omega), mg_hi (by omega)]
theorem git_s {q j : Nat} {G : Nat → Nat → Int32} {s : Nat → Int32} (h : gnx q (git q j G) = some s) : git q (j + 1) G = gst (git q j G) s := by
  show (match gnx q (git q j G) with | some s => gst (git q j G) s | none => git q j G) = _
  rw [h]
theorem git_mg {q : Nat} {C G : Nat → Nat → Int32} : ∀ j, git q j (mg C G) = mg C (git q j G) := by
  intro j
  induction j with
  | zero => rfl
  | succ j ih =>
    have e : gnx q (git q j (mg C G)) = gnx q (git q j G) := by rw [ih, gnx_mg]
    cases h : gnx q (git q j G) with
    | none =>
      show (match gnx q (git q j (mg C G)) with | some s => gst (git q j (mg C G)) s | none => git q j (mg C G)) = mg C (match gnx q (git q j G) with | some s => gst (git q j G) s | none => git q j G)
      rw [e, h]
      exact ih
    | some s =>
      rw [git_s h, git_s (e.trans h), ih, gst_mg]
theorem dv {p T : Nat} (hp : 0 < p) : ((T + 1) % p = 0 → (T + 1) / p = T / p + 1 ∧ p * ((T + 1) / p) = T + 1) ∧ (¬ (T + 1) % p = 0 → (T + 1) / p = T / p) := by
  have h1 := Nat.div_add_mod (T + 1) p
  have h2 := Nat.div_add_mod T p
  have h3 := Nat.mod_lt T hp
  have h4 := Nat.mod_lt (T + 1) hp
  have e1 : p * (T / p + 1) = p * (T / p) + p := Nat.mul_succ _ _
  have e2 : p * ((T + 1) / p + 1) = p * ((T + 1) / p) + p := Nat.mul_succ _ _
  refine ⟨fun c => ?_, fun c => ?_⟩
  · have a : T / p < (T + 1) / p := Nat.lt_of_mul_lt_mul_left (a := p) (show p * (T / p) < p * ((T + 1) / p) by omega)
    have b : (T + 1) / p ≤ T / p + 1 := Nat.le_of_mul_le_mul_left (show p * ((T + 1) / p) ≤ p * (T / p + 1) by omega) hp
    exact ⟨by omega, by omega⟩
  · have a : T / p < (T + 1) / p + 1 := Nat.lt_of_mul_lt_mul_left (a := p) (show p * (T / p) < p * ((T + 1) / p + 1) by omega)
    have b : (T + 1) / p < T / p + 1 := Nat.lt_of_mul_lt_mul_left (a := p) (show p * ((T + 1) / p) < p * (T / p + 1) by omega)
    omega
theorem aw_r {I I' : Nat → Nat → Int32} {T0 : Nat} (h : ∀ k, 35 ≤ k ∧ k < 39 ∨ k = 126 ∨ k = 127 → I' k = I k) (h7 : ∀ t, t ≤ T0 → rt I' t = rt I t) : ∀ j T g, T ≤ T0 → aw I j T g → aw I' j T g := by
  intro j
  induction j with
  | zero => intro T g _ _; trivial
  | succ j ih =>
    intro T g hT hw
    obtain ⟨w1, w2⟩ := hw
    unfold aw
    rw [h 35 (by omega), h 36 (by omega), h 37 (by omega), h 38 (by omega), h 126 (by omega), h 127 (by omega)]
    refine ⟨w1, ?_⟩
    rcases w2 with ⟨a, t, b, c, d, e, f⟩ | ⟨s, a, b, c, d, e, f⟩
    · exact Or.inl ⟨a, t, b, c, by rw [h7 t (by omega)]; exact d, by rw [h7 t (by omega)]; exact e, ih _ _ (by omega) f⟩
    · exact Or.inr ⟨s, a, b, c, d, by rw [h7 T (by omega)]; exact e, ih _ _ (by omega) f⟩
/-- what was read stays below what was given -/
theorem st_rd {P : Nat → Nat → Int32} {G gv r s : Nat → Int32} {q z : Nat} (hp : p_in P) (hr : r_ok P r) (hG : ∀ z, z < 3 → vp_in (G z) 31) (h : m_pre P G q r = some s) (hz : z < 3) (hle : r (48 + z) ≤ G z) : m_st P gv s (48 + z) ≤ G z := by
  obtain ⟨T, t1, t2, t3, t4, t5, t6, t7⟩ := m_pre_ok hp hr h
  have hm := vb hp.1
  obtain ⟨g1, g2, g3⟩ := m_can_t t4
  obtain ⟨p, n, ep, en, hpn, hn, hi, ht4, hok⟩ := r_at hp t6 t1
  rw [ep, en, nI_ltI (by omega) (by omega)] at g1
  have hok := hok g1
  have e44 : (s 44).toNatClampNeg = T := by rw [t2, nI_clamp (by omega)]
  unfold m_st m_do
  rw [upd_ne (by omega), e44, upd_ne (by omega), upd_ne (by omega), m_val_rd hi hok ht4 (by omega) (by omega), t5 _ (by omega)]
  by_cases c : P 106 (16 * T + p) = nI 6 ∧ 48 + z = 48 + (P 108 (16 * T + p)).toNatClampNeg
  · rw [if_pos c]
    have g2' := g2 (by rw [hi]; exact c.1)
    rw [hi, t5 _ (by omega), ← c.2, show (P 108 (16 * T + p)).toNatClampNeg = z by omega] at g2'
    have v1 := hr.2.2.2 z hz
    have v2 := hG z hz
    have b1 := vb v1
    have b2 := vb v2
    rw [vc v1, vc v2, nI_ltI (by omega) (by omega)] at g2'
    rw [vc v1, vc v2, nI_add, nI_leI (by omega) (by omega)]
    omega
  · rw [if_neg c]
    exact hle
