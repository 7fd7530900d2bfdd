/-! all rows -/
def rt (I : Nat → Nat → Int32) (t : Nat) (k : Nat) : Int32 := if k < 51 then I 117 (51 * t + k) else 0
theorem rt_k {I : Nat → Nat → Int32} {t k : Nat} (h : k < 51) : rt I t k = I 117 (51 * t + k) := if_pos h
def lm (I : Nat → Nat → Int32) (T : Nat) (z : Nat) : Int32 := rt I T (48 + z)
def RW (I : Nat → Nat → Int32) (T n : Nat) : Prop := (T ≤ 400 ∧ n ≤ T) ∧ (∀ t, t ≤ T → r_ok I (rt I t) ∧ (∃ k, k ≤ t ∧ rt I t 47 = nI k) ∧ (∀ c, c < 4 → ∃ b, b ≤ t ∧ rt I t (16 + 6 * c + 5) = nI b)) ∧ e51 (m_first I (I 103 1)) (rt I 0) ∧ rt I T 47 = nI n ∧ (∀ t, t < T → cs I n (lm I T) (rt I t) (rt I (t + 1))) ∧ (∀ i, i < n → vp_in (I 122 i) (I 103 4).toNatClampNeg)
theorem nI_leN {a b : Nat} (ha : a < 2 ^ 31) (hb : b < 2 ^ 31) (h : nI a ≤ nI b) : a ≤ b := (nI_leI ha hb).mp h
/-- one step of the rows -/
theorem cs_step {I : Nat → Nat → Int32} {n k : Nat} {L r r2 : Nat → Int32} (hp : p_in I) (hr : r_ok I r) (hk : r 47 = nI k) (hk4 : k ≤ 400) (hn : n ≤ 400) (hv : ∀ i, i < n → vp_in (I 122 i) (I 103 4).toNatClampNeg) (h : cs I n L r r2) : ∃ s C, r_ok I s ∧ go I L s r2 C ∧ (∀ j, j ≠ 44 → j ≠ 47 → s j = r j) ∧ ((s = r ∧ r2 47 = nI k) ∨ (k < n ∧ r2 47 = nI (k + 1))) := by
  obtain ⟨s, C, ht, hg⟩ := h
  have hko : k_ok I n (-1) 0 := ⟨hn, hv, fun q => absurd q.symm (nI_nm (by omega))⟩
  obtain ⟨a, b, _⟩ := m_tk_ok (wh := 0) hp hr hk hk4 hko ht
  refine ⟨s, C, a, hg, b, ?_⟩
  rw [hg.2.2.2.2]
  rcases tk_cases hk hk4 hn ht with ⟨h1, h3⟩ | ⟨h1, h3, h4⟩
  · exact Or.inl ⟨h1, by rw [h1]; exact hk⟩
  · exact Or.inr ⟨h1, by rw [h4, upd_ne (by omega), upd_eq]⟩
theorem cs_rd {I : Nat → Nat → Int32} {n k : Nat} {L r r2 : Nat → Int32} (hp : p_in I) (hr : r_ok I r) (hk : r 47 = nI k) (hk4 : k ≤ 400) (hn : n ≤ 400) (hv : ∀ i, i < n → vp_in (I 122 i) (I 103 4).toNatClampNeg) (h : cs I n L r r2) : ∀ z, z < 3 → r (48 + z) ≤ r2 (48 + z) := by
  obtain ⟨s, C, a, hg, b, _⟩ := cs_step hp hr hk hk4 hn hv h
  intro z hz
  rw [go_rd hp a hg z hz, b _ (by omega) (by omega)]
  split
  · have v := hr.2.2.2 z hz
    have v' := vb v
    rw [vc v]
    exact Int32.le_of_lt (nI_lts (by omega))
  · exact Int32.le_refl _
section
variable {I : Nat → Nat → Int32} {T n : Nat}
/-- switches and reads grow -/
theorem RW_mono (hp : p_in I) (h : RW I T n) : ∀ d t, t + d ≤ T → (∀ k k', rt I t 47 = nI k → rt I (t + d) 47 = nI k' → k ≤ 400 → k' ≤ 400 → k ≤ k') ∧ (∀ z, z < 3 → rt I t (48 + z) ≤ rt I (t + d) (48 + z)) := by
  obtain ⟨⟨h1, h1'⟩, h2, h3, h4, h5, h6⟩ := h
  intro d
  induction d with
  | zero =>
    intro t ht
    refine ⟨fun k k' e e' hk hk' => ?_, fun z hz => Int32.le_refl _⟩
    rw [Nat.add_zero, e] at e'
    exact Nat.le_of_eq (nI_inj (by omega) (by omega) e')
  | succ d ih =>
    intro t ht
    obtain ⟨i1, i2⟩ := ih t (by omega)
    obtain ⟨r1, ⟨km, km1, km2⟩, _⟩ := h2 (t + d) (by omega)
    have hcs := h5 (t + d) (by omega)
    obtain ⟨s, C, a, hg, b, hk⟩ := cs_step hp r1 km2 (by omega) (by omega) h6 hcs
    refine ⟨fun k k' e e' hk4 hk4' => ?_, fun z hz => Int32.le_trans (i2 z hz) (cs_rd hp r1 km2 (by omega) (by omega) h6 hcs z hz)⟩
    have q := i1 k km e km2 hk4 (by omega)
    rw [← Nat.add_assoc] at e'
    rcases hk with ⟨_, hk⟩ | ⟨_, hk⟩
    · rw [e'] at hk
      have := nI_inj (by omega) (by omega) hk
      omega
    · rw [e'] at hk
      have := nI_inj (by omega) (by omega) hk
      omega
/-- while none is switched to, the current thread goes on -/
theorem RW_seq (hp : p_in I) (h : RW I T n) : ∀ d t k C b p, t + d + 1 ≤ T → rt I t 47 = nI k → k ≤ 400 → rt I (t + d + 1) 47 = nI k → rt I t 44 = nI C → C < 4 → rt I t (16 + 6 * C + 5) = nI b → b ≤ t → rt I t (16 + 6 * C + 4) = nI p → p ≤ 16 → rt I (t + d + 1) 44 = nI C ∧ ∃ b' p', rt I (t + d + 1) (16 + 6 * C + 5) = nI b' ∧ rt I (t + d + 1) (16 + 6 * C + 4) = nI p' ∧ (b < b' ∨ b = b' ∧ p < p') ∧ b' ≤ t + d + 1 ∧ p' ≤ 16 := by
  have hR := h
  obtain ⟨⟨h1, h1'⟩, h2, h3, h4, h5, h6⟩ := h
  have one : ∀ t k C b p, t + 1 ≤ T → rt I t 47 = nI k → k ≤ 400 → rt I (t + 1) 47 = nI k → rt I t 44 = nI C → C < 4 → rt I t (16 + 6 * C + 5) = nI b → b ≤ t → rt I t (16 + 6 * C + 4) = nI p → p ≤ 16 → rt I (t + 1) 44 = nI C ∧ ∃ b' p', rt I (t + 1) (16 + 6 * C + 5) = nI b' ∧ rt I (t + 1) (16 + 6 * C + 4) = nI p' ∧ (b < b' ∨ b = b' ∧ p < p') ∧ b' ≤ t + 1 ∧ p' ≤ 16 := by
    intro t k C b p ht ek hk ek' e44 hC eb hb ep hp16
    obtain ⟨r1, _, _⟩ := h2 t (by omega)
    obtain ⟨s, C', a, hg, _, hkk⟩ := cs_step hp r1 ek (by omega) (by omega) h6 (h5 t (by omega))
    have hs : s = rt I t := by
      rcases hkk with ⟨q, _⟩ | ⟨_, q⟩
      · exact q
      · rw [ek'] at q
        have := nI_inj (by omega) (by omega) q
        omega
    subst hs
    have eC : C' = C := by
      have q := hg.1
      rw [e44] at q
      have := vb hp.1
      have := hg.2.1
      exact (nI_inj (by omega) (by omega) q).symm
    subst eC
    obtain ⟨g1, p0, b', p', g2, g3, g4, g5, g6, g7, g8⟩ := go_lx hp r1 eb (by omega) hg
    rw [ep] at g2
    have := nI_inj (by omega) (by omega) g2
    subst this
    exact ⟨g1, b', p', g3, g4, g5, by omega, g8⟩
  intro d
  induction d with
  | zero => exact one
  | succ d ih =>
    intro t k C b p ht ek hk ek' e44 hC eb hb ep hp16
    obtain ⟨r1, ⟨km, km1, km2⟩, _⟩ := h2 (t + d + 1) (by omega)
    have m1 := (RW_mono hp hR (d + 1) t (by omega)).1 k km ek (by rw [← Nat.add_assoc]; exact km2) hk (by omega)
    have m2 := (RW_mono hp hR 1 (t + d + 1) (by omega)).1 km k km2 (by rw [← ek']; rfl) (by omega) hk
    have : km = k := by omega
    subst this
    obtain ⟨j1, b', p', j2, j3, j4, j5, j6⟩ := ih t km C b p (by omega) ek hk km2 e44 hC eb hb ep hp16
    obtain ⟨l1, b'', p'', l2, l3, l4, l5, l6⟩ := one (t + d + 1) km C b' p' (by omega) km2 hk ek' j1 hC j2 j5 j3 j6
    exact ⟨l1, b'', p'', l2, l3, by omega, l5, l6⟩
end
