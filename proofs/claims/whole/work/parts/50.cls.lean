/-! the class: its program, its machines -/
def fb (I I' : Nat → Nat → Int32) (a c : Nat) : Prop := ∀ k, k < a ∨ c < k → I' k = I k
theorem fb_id {I : Nat → Nat → Int32} {a c : Nat} : fb I I a c := fun _ _ => rfl
theorem fb_u {I I' : Nat → Nat → Int32} {a c j : Nat} {f : Nat → Int32} (h : fb I I' a c) (h1 : a ≤ j) (h2 : j ≤ c) : fb I (u_I I' j f) a c := fun k hk => by rw [u_I_ne (by omega)]; exact h k hk
theorem fb_tr {I I' I'' : Nat → Nat → Int32} {a c : Nat} (h : fb I I' a c) (h' : fb I' I'' a c) : fb I I'' a c := fun k hk => (h' k hk).trans (h k hk)
theorem fb_le {I I' : Nat → Nat → Int32} {a c a' c' : Nat} (h : fb I I' a c) (h1 : a' ≤ a) (h2 : c ≤ c') : fb I I' a' c' := fun k hk => h k (by omega)
theorem p_eq_fb {I I' : Nat → Nat → Int32} {a c : Nat} (h : fb I I' a c) (hc : c < 103 ∨ 110 ≤ a) : p_eq I I' := fun k h1 h2 => h k (by omega)
/-- an instruction in the class's words -/
def p_op (I : Nat → Nat → Int32) (i : Nat) : Prop := ∃ o, o < 13 ∧ I 106 i = nI o ∧ I 13 i = nI (o + 6) ∧ (o ≠ 9 → o < 12 → I 14 (i * 3 + 0) = I 107 i) ∧ (o < 7 ∨ o = 11 → I 14 (i * 3 + 1) = I 108 i) ∧ (o = 9 → I 14 (i * 3 + 0) = I 109 i) ∧ (o = 10 → I 14 (i * 3 + 1) = I 109 i) ∧ (o = 11 → I 14 (i * 3 + 2) = I 109 i)
def p_cl (I : Nat → Nat → Int32) : Prop := I 12 5 = I 103 4 ∧ (∀ t, t < (I 103 4).toNatClampNeg → I 15 t = I 105 t ∧ ∀ l, l < (I 105 t).toNatClampNeg → p_op I (16 * t + l)) ∧ (∀ k, k < 16 → I 16 k = I 104 k) ∧ (∀ k, k < 4 → I 17 k = I 103 k)
/-- what the class's program and the reference's are made of -/
def p_q (I I' : Nat → Nat → Int32) : Prop := (∀ k, 12 ≤ k → k < 18 → I' k = I k) ∧ p_eq I I'
theorem p_cl_e {I I' : Nat → Nat → Int32} (h : p_q I I') : p_cl I' ↔ p_cl I := by
  obtain ⟨h1, h2⟩ := h
  unfold p_cl p_op
  rw [h1 12 (by omega) (by omega), h1 13 (by omega) (by omega), h1 14 (by omega) (by omega), h1 15 (by omega) (by omega), h1 16 (by omega) (by omega), h1 17 (by omega) (by omega), h2 103 (by omega) (by omega), h2 104 (by omega) (by omega), h2 105 (by omega) (by omega), h2 106 (by omega) (by omega), h2 107 (by omega) (by omega), h2 108 (by omega) (by omega), h2 109 (by omega) (by omega)]
theorem p_q_fb {I I' : Nat → Nat → Int32} {a c : Nat} (h : fb I I' a c) (hc : c < 12 ∨ 18 ≤ a ∧ c < 103 ∨ 110 ≤ a) : p_q I I' := ⟨fun k h1 h2 => h k (by omega), fun k h1 h2 => h k (by omega)⟩
/-- both of an instruction at once -/
theorem p_at {I : Nat → Nat → Int32} {t p n : Nat} (hp : p_in I) (hc : p_cl I) (ht : t < (I 103 4).toNatClampNeg) (en : I 105 t = nI n) (hn : n ≤ 16) (h : p < n) : p_ok I (16 * t + p) n ∧ p_op I (16 * t + p) := by
  have e : (I 105 t).toNatClampNeg = n := by rw [en, nI_clamp (by omega)]
  have h1 := (hp.2 t ht).2 p (by omega)
  rw [e] at h1
  exact ⟨h1, (hc.2.1 t ht).2 p (by omega)⟩
/-- a machine holds a row (but for 45, 46, 47) -/
def rm (I : Nat → Nat → Int32) (b : Nat) (r : Nat → Int32) : Prop := (∀ k, k < 16 → I (b + 1) k = r k) ∧ (∀ t j, t < 4 → j < 4 → I (b + 2) (t * 4 + j) = r (16 + 6 * t + j)) ∧ (∀ t, t < 4 → I (b + 3) t = r (16 + 6 * t + 4)) ∧ (∀ t, t < 4 → I (b + 4) t = r (16 + 6 * t + 5)) ∧ (∀ l, l < 4 → I (b + 5) l = r (40 + l)) ∧ I b 6 = r 44 ∧ (∀ s, s < 3 → I (b + 6) s = r (48 + s))
section
variable {I I' : Nat → Nat → Int32} {b : Nat} {r s : Nat → Int32} {v : Int32}
theorem rm_c (h : rm I b r) (hc : c_eq r s) : rm I b s := by
  obtain ⟨h1, h2, h3, h4, h5, h6, h7⟩ := h
  exact ⟨fun k hk => (h1 k hk).trans (hc _ (by omega)), fun t j ht hj => (h2 t j ht hj).trans (hc _ (by omega)), fun t ht => (h3 t ht).trans (hc _ (by omega)), fun t ht => (h4 t ht).trans (hc _ (by omega)), fun l hl => (h5 l hl).trans (hc _ (by omega)), h6.trans (hc _ (by omega)), fun q hq => (h7 q hq).trans (hc _ (by omega))⟩
theorem rm_e (h : rm I b r) (he : ∀ k, b ≤ k → k ≤ b + 6 → I' k = I k) : rm I' b r := by
  unfold rm
  rw [he b (by omega) (by omega), he (b + 1) (by omega) (by omega), he (b + 2) (by omega) (by omega), he (b + 3) (by omega) (by omega), he (b + 4) (by omega) (by omega), he (b + 5) (by omega) (by omega), he (b + 6) (by omega) (by omega)]
  exact h
theorem rm_cell (h : rm I b r) {k : Nat} (hk : k < 16) : rm (u_I I (b + 1) (upd (I (b + 1)) k v)) b (upd r k v) := by
  obtain ⟨h1, h2, h3, h4, h5, h6, h7⟩ := h
  refine ⟨fun j hj => ?_, fun t j ht hj => ?_, fun t ht => ?_, fun t ht => ?_, fun l hl => ?_, ?_, fun q hq => ?_⟩
  · rw [u_I_eq]
    by_cases e : j = k
    · rw [e, upd_eq, upd_eq]
    · rw [upd_ne e, upd_ne e]; exact h1 j hj
  · rw [u_I_ne (by omega), upd_ne (by omega)]; exact h2 t j ht hj
  · rw [u_I_ne (by omega), upd_ne (by omega)]; exact h3 t ht
  · rw [u_I_ne (by omega), upd_ne (by omega)]; exact h4 t ht
  · rw [u_I_ne (by omega), upd_ne (by omega)]; exact h5 l hl
  · rw [u_I_ne (by omega), upd_ne (by omega)]; exact h6
  · rw [u_I_ne (by omega), upd_ne (by omega)]; exact h7 q hq
theorem rm_reg (h : rm I b r) {c a : Nat} (hc : c < 4) (ha : a < 4) : rm (u_I I (b + 2) (upd (I (b + 2)) (c * 4 + a) v)) b (upd r (16 + 6 * c + a) v) := by
  obtain ⟨h1, h2, h3, h4, h5, h6, h7⟩ := h
  refine ⟨fun j hj => ?_, fun t j ht hj => ?_, fun t ht => ?_, fun t ht => ?_, fun l hl => ?_, ?_, fun q hq => ?_⟩
  · rw [u_I_ne (by omega), upd_ne (by omega)]; exact h1 j hj
  · rw [u_I_eq]
    by_cases e : t * 4 + j = c * 4 + a
    · have e1 : t = c := by omega
      have e2 : j = a := by omega
      rw [e1, e2, upd_eq, upd_eq]
    · rw [upd_ne e, upd_ne (by omega)]; exact h2 t j ht hj
  · rw [u_I_ne (by omega), upd_ne (by omega)]; exact h3 t ht
  · rw [u_I_ne (by omega), upd_ne (by omega)]; exact h4 t ht
  · rw [u_I_ne (by omega), upd_ne (by omega)]; exact h5 l hl
  · rw [u_I_ne (by omega), upd_ne (by omega)]; exact h6
  · rw [u_I_ne (by omega), upd_ne (by omega)]; exact h7 q hq
theorem rm_pl (h : rm I b r) {c : Nat} (hc : c < 4) : rm (u_I I (b + 3) (upd (I (b + 3)) c v)) b (upd r (16 + 6 * c + 4) v) := by
  obtain ⟨h1, h2, h3, h4, h5, h6, h7⟩ := h
  refine ⟨fun j hj => ?_, fun t j ht hj => ?_, fun t ht => ?_, fun t ht => ?_, fun l hl => ?_, ?_, fun q hq => ?_⟩
  · rw [u_I_ne (by omega), upd_ne (by omega)]; exact h1 j hj
  · rw [u_I_ne (by omega), upd_ne (by omega)]; exact h2 t j ht hj
  · rw [u_I_eq]
    by_cases e : t = c
    · rw [e, upd_eq, upd_eq]
    · rw [upd_ne e, upd_ne (by omega)]; exact h3 t ht
  · rw [u_I_ne (by omega), upd_ne (by omega)]; exact h4 t ht
  · rw [u_I_ne (by omega), upd_ne (by omega)]; exact h5 l hl
  · rw [u_I_ne (by omega), upd_ne (by omega)]; exact h6
  · rw [u_I_ne (by omega), upd_ne (by omega)]; exact h7 q hq
theorem rm_br (h : rm I b r) {c : Nat} (hc : c < 4) : rm (u_I I (b + 4) (upd (I (b + 4)) c v)) b (upd r (16 + 6 * c + 5) v) := by
  obtain ⟨h1, h2, h3, h4, h5, h6, h7⟩ := h
  refine ⟨fun j hj => ?_, fun t j ht hj => ?_, fun t ht => ?_, fun t ht => ?_, fun l hl => ?_, ?_, fun q hq => ?_⟩
  · rw [u_I_ne (by omega), upd_ne (by omega)]; exact h1 j hj
  · rw [u_I_ne (by omega), upd_ne (by omega)]; exact h2 t j ht hj
  · rw [u_I_ne (by omega), upd_ne (by omega)]; exact h3 t ht
  · rw [u_I_eq]
    by_cases e : t = c
    · rw [e, upd_eq, upd_eq]
    · rw [upd_ne e, upd_ne (by omega)]; exact h4 t ht
  · rw [u_I_ne (by omega), upd_ne (by omega)]; exact h5 l hl
  · rw [u_I_ne (by omega), upd_ne (by omega)]; exact h6
  · rw [u_I_ne (by omega), upd_ne (by omega)]; exact h7 q hq
theorem rm_own (h : rm I b r) {c : Nat} (hc : c < 4) : rm (u_I I (b + 5) (upd (I (b + 5)) c v)) b (upd r (40 + c) v) := by
  obtain ⟨h1, h2, h3, h4, h5, h6, h7⟩ := h
  refine ⟨fun j hj => ?_, fun t j ht hj => ?_, fun t ht => ?_, fun t ht => ?_, fun l hl => ?_, ?_, fun q hq => ?_⟩
  · rw [u_I_ne (by omega), upd_ne (by omega)]; exact h1 j hj
  · rw [u_I_ne (by omega), upd_ne (by omega)]; exact h2 t j ht hj
  · rw [u_I_ne (by omega), upd_ne (by omega)]; exact h3 t ht
  · rw [u_I_ne (by omega), upd_ne (by omega)]; exact h4 t ht
  · rw [u_I_eq]
    by_cases e : l = c
    · rw [e, upd_eq, upd_eq]
    · rw [upd_ne e, upd_ne (by omega)]; exact h5 l hl
  · rw [u_I_ne (by omega), upd_ne (by omega)]; exact h6
  · rw [u_I_ne (by omega), upd_ne (by omega)]; exact h7 q hq
theorem rm_cur (h : rm I b r) : rm (u_I I b (upd (I b) 6 v)) b (upd r 44 v) := by
  obtain ⟨h1, h2, h3, h4, h5, h6, h7⟩ := h
  refine ⟨fun j hj => ?_, fun t j ht hj => ?_, fun t ht => ?_, fun t ht => ?_, fun l hl => ?_, ?_, fun q hq => ?_⟩
  · rw [u_I_ne (by omega), upd_ne (by omega)]; exact h1 j hj
  · rw [u_I_ne (by omega), upd_ne (by omega)]; exact h2 t j ht hj
  · rw [u_I_ne (by omega), upd_ne (by omega)]; exact h3 t ht
  · rw [u_I_ne (by omega), upd_ne (by omega)]; exact h4 t ht
  · rw [u_I_ne (by omega), upd_ne (by omega)]; exact h5 l hl
  · rw [u_I_eq, upd_eq, upd_eq]
  · rw [u_I_ne (by omega), upd_ne (by omega)]; exact h7 q hq
theorem rm_rd (h : rm I b r) {c : Nat} (hc : c < 3) : rm (u_I I (b + 6) (upd (I (b + 6)) c v)) b (upd r (48 + c) v) := by
  obtain ⟨h1, h2, h3, h4, h5, h6, h7⟩ := h
  refine ⟨fun j hj => ?_, fun t j ht hj => ?_, fun t ht => ?_, fun t ht => ?_, fun l hl => ?_, ?_, fun q hq => ?_⟩
  · rw [u_I_ne (by omega), upd_ne (by omega)]; exact h1 j hj
  · rw [u_I_ne (by omega), upd_ne (by omega)]; exact h2 t j ht hj
  · rw [u_I_ne (by omega), upd_ne (by omega)]; exact h3 t ht
  · rw [u_I_ne (by omega), upd_ne (by omega)]; exact h4 t ht
  · rw [u_I_ne (by omega), upd_ne (by omega)]; exact h5 l hl
  · rw [u_I_ne (by omega), upd_ne (by omega)]; exact h6
  · rw [u_I_eq]
    by_cases e : q = c
    · rw [e, upd_eq, upd_eq]
    · rw [upd_ne e, upd_ne (by omega)]; exact h7 q hq
end
theorem upd_id {f : Nat → Int32} {k : Nat} {x : Int32} (h : f k = x) : upd f k x = f := by
  funext j
  unfold upd
  by_cases e : j = k
  · rw [if_pos e, e, h]
  · rw [if_neg e]
theorem i32_a0 (x : Int32) : x + nI 0 = x := by rw [nI_0, Int32.add_zero]
