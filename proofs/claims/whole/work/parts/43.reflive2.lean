/-! the reference: who comes next; a live step -/
theorem nI_nm {t : Nat} (h : t < 2 ^ 31) : ¬ nI t = -1 := by
  intro q
  have h2 : (nI t).toInt = -1 := by rw [q]; rfl
  rw [nI_toInt h] at h2
  omega
theorem fr_u {I : Nat → Nat → Int32} {k : Nat} {f : Nat → Int32} : fr I (u_I I k f) [k] := fun j hj => u_I_ne (by simpa using hj)
theorem fr_up {I I' : Nat → Nat → Int32} {L : List Nat} {k : Nat} {f : Nat → Int32} (h : fr I I' L) : fr I (u_I I' k f) (k :: L) := by
  intro j hj
  simp only [List.mem_cons, not_or] at hj
  rw [u_I_ne hj.1, h j hj.2]
theorem fr_le {I I' : Nat → Nat → Int32} {L M : List Nat} (h : fr I I' L) (hl : ∀ k, k ∈ L → k ∈ M) : fr I I' M := fun j hj => h j (fun q => hj (hl j q))
theorem fr_tr {I I' I'' : Nat → Nat → Int32} {L M : List Nat} (h : fr I I' L) (h' : fr I' I'' M) : fr I I'' (L ++ M) := by
  intro j hj
  simp only [List.mem_append, not_or] at hj
  rw [h' j hj.2, h j hj.1]
theorem fr_id {I : Nat → Nat → Int32} {L : List Nat} : fr I I L := fun _ _ => rfl
theorem c_eq_refl (r : Nat → Int32) : c_eq r r := fun _ _ => rfl
theorem c_eq_upd {r s : Nat → Int32} {k : Nat} {x : Int32} (h : c_eq r s) (hk : k = 45 ∨ k = 46 ∨ k = 47) : c_eq r (upd s k x) := fun j hj => by rw [upd_ne (by omega)]; exact h j hj
theorem m_rec_f {r s A : Nat → Int32} {v : Int32} : m_rec false r s A v = A := by
  unfold m_rec
  rw [Bool.false_and, if_neg Bool.false_ne_true]
theorem m_rec_n {b : Bool} {r s A : Nat → Int32} {v : Int32} (h : s 44 = r 44) : m_rec b r s A v = A := by
  unfold m_rec
  rw [decide_eq_true h, Bool.not_true, Bool.and_false, if_neg Bool.false_ne_true]
theorem m_rec_t {r s A : Nat → Int32} {v : Int32} (h : ¬ s 44 = r 44) : m_rec true r s A v = upd A (r 47).toNatClampNeg v := by
  unfold m_rec
  rw [decide_eq_false h, Bool.not_false, Bool.and_true, if_pos rfl]
theorem m237 {E : am_Ev} {I : Nat → Nat → Int32} {J : Nat → Nat → Int64} {S : Nat → Nat → Option Nat} {Q : am_Qt} {n q : Nat} {b : Bool} (hp : p_in I) (hr : r_ok I (I 116)) (hn : n = m_cnt (m_can I (I 124) (I 116)) (I 103 4).toNatClampNeg 0) (hn0 : 0 < n) (hq : 0 < q) (hq9 : q < 10) (hsw : b = true → vp_in (I 116 47) 400)
    (h : ∀ I', I' 116 = m_ch I (I 124) q (I 116) → I' 120 = m_rec b (I 116) (m_ch I (I 124) q (I 116)) (I 120) (m_lb (I 116)) → I' 121 = m_rec b (I 116) (m_ch I (I 124) q (I 116)) (I 121) (m_lp (I 116)) → I' 122 = m_rec b (I 116) (m_ch I (I 124) q (I 116)) (I 122) (m_ch I (I 124) q (I 116) 44) → fr I I' [116, 120, 121, 122] → Q (.inl none) E I' J S) : am_cl 237 [.ref 99, .int (nI n), .int (nI q), .int (bI b)] E I J S Q := by
  show am_ww 237 0 [.ref 99, .int (nI n), .int (nI q), .int (bI b), am_U, am_U, am_U] [] E I J S Q
  have hm := vb hp.1
  have hle : n ≤ (I 103 4).toNatClampNeg := by rw [hn]; exact m_cnt_le _ _ _
  apply g237_0
  refine ⟨nI_ne0 hn0 (by omega), ?_⟩
  intro w1 e1
  obtain ⟨b1, b2⟩ := m_b_eq (m_d (I 116 46))
  change w1 = (((m_d (I 116 46)) >>> ((nI 16) &&& 31)) &&& (nI 32767)) - (((m_d (I 116 46)) >>> ((nI 16) &&& 31)) &&& (nI 32767)) / nI n * nI n at e1
  rw [b1, nI_remI (by omega) (by omega)] at e1
  subst e1
  have hk : m_b (m_d (I 116 46)) % n < n := Nat.mod_lt _ hn0
  have hc : c_eq (I 116) (upd (I 116) 46 (m_d (I 116 46))) := c_eq_upd (c_eq_refl _) (by omega)
  refine m237_l (I := u_I I 116 (upd (I 116) 46 (m_d (I 116 46)))) (w := m_can I (I 124) (I 116)) rfl hp (r_ok_c hp hr hc) (fun t ht => (m_can_c hp hr ht hc).symm) (I 103 4).toNatClampNeg 0 (m_b (m_d (I 116 46)) % n) (Nat.zero_add _) (by omega) (by omega) ?_
  intro x4 x6
  obtain ⟨s1, s2, s3⟩ := m_sel_lt (m_can I (I 124) (I 116)) (I 103 4).toNatClampNeg 0 (m_b (m_d (I 116 46)) % n) (by omega)
  have hch : m_ch I (I 124) q (I 116) = (if nI (m_sel (m_can I (I 124) (I 116)) (I 103 4).toNatClampNeg 0 (m_b (m_d (I 116 46)) % n)) = I 116 44 then upd (upd (I 116) 46 (m_d (m_d (I 116 46)))) 45 (nI (m_b (m_d (m_d (I 116 46))) % q + 1)) else upd (upd (upd (upd (I 116) 46 (m_d (m_d (I 116 46)))) 45 (nI (m_b (m_d (m_d (I 116 46))) % q + 1))) 47 (I 116 47 + nI 1)) 44 (nI (m_sel (m_can I (I 124) (I 116)) (I 103 4).toNatClampNeg 0 (m_b (m_d (I 116 46)) % n)))) := by
    rw [hn]; rfl
  generalize m_sel (m_can I (I 124) (I 116)) (I 103 4).toNatClampNeg 0 (m_b (m_d (I 116 46)) % n) = T at s1 s2 s3 hch
  generalize m_ch I (I 124) q (I 116) = C at hch h
  apply g237_29 rfl rfl rfl
  refine ⟨nI_ne0 hq (by omega), ?_⟩
  intro w1 e1
  obtain ⟨b3, b4⟩ := m_b_eq (m_d (m_d (I 116 46)))
  change w1 = (((m_d (m_d (I 116 46))) >>> ((nI 16) &&& 31)) &&& (nI 32767)) - (((m_d (m_d (I 116 46))) >>> ((nI 16) &&& 31)) &&& (nI 32767)) / nI q * nI q at e1
  rw [b3, nI_remI (by omega) (by omega)] at e1
  subst e1
  have hq2 : m_b (m_d (m_d (I 116 46))) % q < q := Nat.mod_lt _ hq
  have e44 : (u_I I 116 (upd (I 116) 46 (m_d (I 116 46)))) 116 44 = I 116 44 := rfl
  have e47 : (u_I I 116 (upd (I 116) 46 (m_d (I 116 46)))) 116 47 = I 116 47 := rfl
  have eU : upd (upd ((u_I I 116 (upd (I 116) 46 (m_d (I 116 46)))) 116) 46 (((u_I I 116 (upd (I 116) 46 (m_d (I 116 46)))) 116 46) * nI 1103515245 + nI 12345)) 45 (nI (m_b (m_d (m_d (I 116 46))) % q) + nI 1) = upd (upd (I 116) 46 (m_d (m_d (I 116 46)))) 45 (nI (m_b (m_d (m_d (I 116 46))) % q + 1)) := by
    rw [nI_add]
    show upd (upd (upd (I 116) 46 (m_d (I 116 46))) 46 (m_d (m_d (I 116 46)))) 45 _ = _
    rw [upd_upd]
  rw [eU, e44, e47]
  simp only [uI_0]
  have hR : ∀ k, k ≠ 45 → k ≠ 46 → upd (upd (I 116) 46 (m_d (m_d (I 116 46)))) 45 (nI (m_b (m_d (m_d (I 116 46))) % q + 1)) k = I 116 k := fun k h1 h2 => by rw [upd_ne h1, upd_ne h2]
  generalize upd (upd (I 116) 46 (m_d (m_d (I 116 46)))) 45 (nI (m_b (m_d (m_d (I 116 46))) % q + 1)) = R at hch hR
  have hT : ∀ {A : Nat → Int32} {v : Int32}, C = R → m_rec b (I 116) C A v = A := by
    intro A v c2
    exact m_rec_n (by rw [c2]; exact hR 44 (by omega) (by omega))
  have hN : ∀ {A : Nat → Int32} {v : Int32}, ¬ nI T = I 116 44 → C 44 = nI T → b = true → m_rec b (I 116) C A v = upd A (I 116 47).toNatClampNeg v := by
    intro A v c1 c2 c3
    rw [c3]
    exact m_rec_t (by rw [c2]; exact c1)
  refine ⟨fun c => ?_, fun c => ⟨fun c3 => ?_, fun c3 => ⟨fun c4 => ?_, fun c4 => ?_⟩⟩⟩
  · rw [if_pos c] at hch
    refine h _ (by rw [u_I_eq, hch]) ?_ ?_ ?_ (fr_le fr_u (by simp)) <;> rw [u_I_ne (by decide), hT hch]
  · rw [if_neg c] at hch
    rw [bI_0] at c3
    refine h _ (by rw [u_I_eq, hch]) ?_ ?_ ?_ (fr_le fr_u (by simp)) <;> rw [u_I_ne (by decide), c3, m_rec_f]
  · rw [if_neg c] at hch
    rw [bI_0, Bool.not_eq_false] at c3
    have hs := hsw c3
    have C44 : C 44 = nI T := by rw [hch]; exact upd_eq
    have hlb : m_lb (I 116) = nI 0 := if_pos c4
    have hlp : m_lp (I 116) = nI 0 := if_pos c4
    apply g237_66 rfl rfl rfl rfl
    refine ⟨hs, fun _ => ?_, fun q => absurd c4 q⟩
    have e5 : u_I (u_I I 116 R) 120 (upd ((u_I I 116 R) 120) (I 116 47).toNatClampNeg (nI 0)) 116 47 = I 116 47 := by rw [u_I_ne (by decide), u_I_eq]; exact hR 47 (by omega) (by omega)
    have e7 : u_I I 116 R 116 47 = I 116 47 := by rw [u_I_eq]; exact hR 47 (by omega) (by omega)
    apply g237_84 rfl rfl rfl rfl rfl
    rw [e5, e7]
    refine ⟨hs, hs, h _ ?_ ?_ ?_ ?_ ?_⟩
    · rw [hch, u_I_eq, u_I_ne (by decide), u_I_eq]
    · rw [hlb, hN c C44 c3, u_I_ne (by decide), u_I_ne (by decide), u_I_ne (by decide), u_I_eq, u_I_ne (by decide)]
    · rw [hlp, hN c C44 c3, u_I_ne (by decide), u_I_ne (by decide), u_I_eq, u_I_ne (by decide), u_I_ne (by decide)]
    · rw [C44, hN c C44 c3, u_I_ne (by decide), u_I_eq, u_I_ne (by decide), u_I_ne (by decide)]
    · exact fr_le (fr_up (fr_up (fr_up (fr_up fr_u)))) (by simp)
  · rw [if_neg c] at hch
    rw [bI_0, Bool.not_eq_false] at c3
    have hs := hsw c3
    have C44 : C 44 = nI T := by rw [hch]; exact upd_eq
    have hcu : vp_in (I 116 44) (I 103 4).toNatClampNeg := hr.2.2.1.resolve_left c4
    have hlb : m_lb (I 116) = I 116 (16 + 6 * (I 116 44).toNatClampNeg + 5) := if_neg c4
    have hlp : m_lp (I 116) = I 116 (16 + 6 * (I 116 44).toNatClampNeg + 4) := if_neg c4
    have hcb := vb hcu
    intro w2 e2
    rw [vc hcu, nI_mulI, nI_add, nI_add] at e2
    subst e2
    refine ⟨vp_in_nI (by omega) (by omega), ?_⟩
    rw [nI_clamp (by omega), hR _ (by omega) (by omega)]
    apply g237_66 rfl rfl rfl rfl
    refine ⟨hs, fun q => absurd q c4, fun _ => ?_⟩
    have e5 : u_I (u_I I 116 R) 120 (upd ((u_I I 116 R) 120) (I 116 47).toNatClampNeg (I 116 (16 + 6 * (I 116 44).toNatClampNeg + 5))) 116 47 = I 116 47 := by rw [u_I_ne (by decide), u_I_eq]; exact hR 47 (by omega) (by omega)
    intro w2 e2
    rw [vc hcu, nI_mulI, nI_add, nI_add] at e2
    subst e2
    refine ⟨vp_in_nI (by omega) (by omega), ?_⟩
    rw [nI_clamp (by omega)]
    have e6 : u_I I 116 R 116 (16 + 6 * (I 116 44).toNatClampNeg + 4) = I 116 (16 + 6 * (I 116 44).toNatClampNeg + 4) := by rw [u_I_eq]; exact hR _ (by omega) (by omega)
    have e7 : u_I I 116 R 116 47 = I 116 47 := by rw [u_I_eq]; exact hR _ (by omega) (by omega)
    apply g237_84 rfl rfl rfl rfl rfl
    rw [e5, e6, e7]
    refine ⟨hs, hs, h _ ?_ ?_ ?_ ?_ ?_⟩
    · rw [hch, u_I_eq, u_I_ne (by decide), u_I_eq]
    · rw [hlb, hN c C44 c3, u_I_ne (by decide), u_I_ne (by decide), u_I_ne (by decide), u_I_eq, u_I_ne (by decide)]
    · rw [hlp, hN c C44 c3, u_I_ne (by decide), u_I_ne (by decide), u_I_eq, u_I_ne (by decide), u_I_ne (by decide)]
    · rw [C44, hN c C44 c3, u_I_ne (by decide), u_I_eq, u_I_ne (by decide), u_I_ne (by decide)]
    · exact fr_le (fr_up (fr_up (fr_up (fr_up fr_u)))) (by simp)
