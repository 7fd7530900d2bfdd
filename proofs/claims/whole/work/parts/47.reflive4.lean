/-! the reference: liveStep -/
theorem m236 {E : am_Ev} {I : Nat → Nat → Int32} {J : Nat → Nat → Int64} {S : Nat → Nat → Option Nat} {Q : am_Qt} {q : Nat} {b : Bool} (hp : p_in I) (hr : r_ok I (I 116)) (hG : ∀ s, s < 3 → vp_in (I 124 s) 31) (hq : 0 < q) (hq9 : q < 10) (hsw : b = true → vp_in (I 116 47) 400)
    (h0 : m_live I (I 124) (I 123) q (I 116) = none → Q (.inl (some (.int (nI 0)))) E I J S)
    (h1 : ∀ s I', m_pre I (I 124) q (I 116) = some s → I' 116 = m_st I (I 123) s → I' 99 = upd (upd (I 99) 39 (s 44)) 40 (nI (m_i (I 116) (s 44).toNatClampNeg)) → I' 120 = m_rec b (I 116) s (I 120) (m_lb (I 116)) → I' 121 = m_rec b (I 116) s (I 121) (m_lp (I 116)) → I' 122 = m_rec b (I 116) s (I 122) (s 44) → fr I I' [99, 116, 120, 121, 122] → Q (.inl (some (.int (nI 1)))) E I' J S) : am_cl 236 [.ref 99, .int (nI q), .int (bI b)] E I J S Q := by
  show am_ww 236 0 [.ref 99, .int (nI q), .int (bI b), am_U] [] E I J S Q
  have hm := vb hp.1
  have key : m_need I (I 124) (I 116) = true → am_ww 236 18 [.ref 99, .int (nI q), .int (bI b), am_U] [] E I J S Q := by
    intro hn
    apply g236_18 rfl
    have hle := m_cnt_le (m_can I (I 124) (I 116)) (I 103 4).toNatClampNeg 0
    refine m219 hp hr (q_mkI ⟨fun c => ?_, fun c => ?_⟩)
    · rw [nI_e0 (by omega)] at c
      apply h0
      unfold m_live m_pre
      rw [if_pos hn, if_pos c]
      rfl
    · rw [nI_e0 (by omega)] at c
      have hpre : m_pre I (I 124) q (I 116) = some (m_ch I (I 124) q (I 116)) := by
        unfold m_pre
        rw [if_pos hn, if_neg c]
      obtain ⟨T, t1, t2, t3, t4, t5, t6, t7⟩ := m_pre_ok hp hr hpre
      refine m237 (b := b) hp hr rfl (by omega) hq hq9 hsw ?_
      intro I2 e116 e120 e121 e122 hf
      have hpe : p_eq I I2 := p_eq_fr hf (by simp)
      refine q_mkV ?_
      have e103 := hpe 103 (by omega) (by omega)
      have e123 : I2 123 = I 123 := hf 123 (by simp)
      have e99 : I2 99 = I 99 := hf 99 (by simp)
      refine m236_go (T := T) (G := I 124) ((p_in_e hpe).mpr hp) (by rw [e116]; exact (r_ok_e hpe).mpr t6) (by rw [e103]; exact t1) (by rw [e116]; exact t2) (by rw [e116, m_can_e hpe]; exact t4) hG ?_
      refine h1 _ _ hpre ?_ ?_ ?_ ?_ ?_ ?_
      · rw [u_I_eq, e116, e123, m_st_e hpe]
      · rw [u_I_ne (by decide), u_I_eq, e99, t2, e116, nI_clamp (by omega)]
        have : m_i (m_ch I (I 124) q (I 116)) T = m_i (I 116) T := by unfold m_i; rw [t5 _ (by omega)]
        rw [this]
      · rw [u_I_ne (by decide), u_I_ne (by decide), e120]
      · rw [u_I_ne (by decide), u_I_ne (by decide), e121]
      · rw [u_I_ne (by decide), u_I_ne (by decide), e122]
      · exact fr_le (fr_up (fr_up hf)) (by simp)
  apply g236_0
  refine ⟨fun c => key ?_, fun c => ⟨fun c2 => key ?_, fun c2 => ?_⟩⟩
  · unfold m_need; rw [decide_eq_true c]; rfl
  · unfold m_need; rw [decide_eq_true c2, Bool.or_true]; rfl
  · have h44 := hr.2.2.1.resolve_left c
    rw [vc h44]
    refine m220 hp hr (vb h44) (q_mkI ?_)
    rw [bI_0]
    refine ⟨fun c3 => key ?_, fun c3 => ?_⟩
    · unfold m_need; rw [c3]; simp
    · rw [Bool.not_eq_false] at c3
      have hpre : m_pre I (I 124) q (I 116) = some (I 116) := by
        unfold m_pre
        rw [if_neg]
        unfold m_need
        rw [c3, decide_eq_false c, decide_eq_false c2]
        decide
      refine m236_go (T := (I 116 44).toNatClampNeg) (G := I 124) hp hr (vb h44) (vc h44) c3 hG ?_
      refine h1 _ _ hpre ?_ ?_ ?_ ?_ ?_ ?_
      · rw [u_I_eq]
      · rw [u_I_ne (by decide), u_I_eq, ← vc h44]
      · rw [u_I_ne (by decide), u_I_ne (by decide), m_rec_n rfl]
      · rw [u_I_ne (by decide), u_I_ne (by decide), m_rec_n rfl]
      · rw [u_I_ne (by decide), u_I_ne (by decide), m_rec_n rfl]
      · exact fr_le (fr_up fr_u) (by simp)
