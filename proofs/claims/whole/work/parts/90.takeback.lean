/-! steps are taken back -/
theorem c45 {E : am_Ev} {I : Nat → Nat → Int32} {J : Nat → Nat → Int64} {S : Nat → Nat → Option Nat} {Q : am_Qt} {T n e : Nat} (hv : vr0 I T n) (he : e ≤ T) (h : ∀ I', vw I' T e → rm I' 20 (rt I e) → I' 18 = upd (upd (I 18) 9 (rt I e 47)) 10 (nI e) → (∀ k, k < 18 ∨ k = 19 ∨ 26 < k ∧ k < 60 ∨ 67 < k → I' k = I k) → Q (.inl none) E I' J S) : am_cl 45 [.ref 0, .int (nI e)] E I J S Q := by
  show am_ww 45 0 [.ref 0, .int (nI e)] [] E I J S Q
  apply g45_0
  refine c17v hv (fun I1 w1 f1 => q_mkV ?_)
  refine c46_60 (vr0_fb hv f1 (by omega) (by omega)) w1 (Nat.zero_le _) he (fun I2 w2 f2 => q_mkV ?_)
  have f12 := fb_tr f1 f2
  have er : rt I2 = rt I := rt_e (f12 117 (by omega))
  refine c50_20_61 w2.2.2.2.2.2 (fun I3 m3 f3 => q_mkV ?_)
  have e60 : I3 60 2 = rt I e 47 := by rw [f3 60 (by omega), w2.2.2.1, er]
  have e18 : I3 18 = I 18 := by rw [f3 18 (by omega), f12 18 (by omega)]
  rw [e60, e18]
  have hw : vw I3 T e := vw_e (fun k hk => f3 k (by omega)) w2
  refine h _ (vw_e (fun k hk => u_I_ne (by omega)) hw) ?_ (by rw [u_I_eq]) (fun k hk => ?_)
  · rw [← er]
    exact rm_e m3 (fun k a b => u_I_ne (by omega))
  · rw [u_I_ne (by omega), f3 k (by omega), f12 k (by omega)]
