/-! bits of a long are counted -/
def tn (x : Int64) : Nat := x.toBitVec.toNat
theorem tn_lt (x : Int64) : tn x < 2 ^ 64 := x.toBitVec.isLt
theorem tn_add (x y : Int64) : tn (x + y) = (tn x + tn y) % 2 ^ 64 := by unfold tn; rw [Int64.toBitVec_add, BitVec.toNat_add]
theorem tn_sub {x y : Int64} (h : tn y ≤ tn x) : tn (x - y) = tn x - tn y := by unfold tn; rw [Int64.toBitVec_sub]; exact BitVec.toNat_sub_of_le h
theorem tn_and (x y : Int64) : tn (x &&& y) = tn x &&& tn y := by unfold tn; rw [Int64.toBitVec_and, BitVec.toNat_and]
theorem su_l : ∀ n, n < 64 → (((nI n).toInt64.toUInt64 &&& Int64.toUInt64 63).toBitVec % 64).toNat = n := by decide +kernel
theorem tn_shr (n : Nat) (hn : n < 64) (x : Int64) : tn ((x.toUInt64 >>> ((nI n).toInt64.toUInt64 &&& Int64.toUInt64 63)).toInt64) = tn x / 2 ^ n := by
  show (x.toUInt64 >>> ((nI n).toInt64.toUInt64 &&& Int64.toUInt64 63)).toBitVec.toNat = x.toUInt64.toBitVec.toNat / 2 ^ n
  rw [UInt64.toBitVec_shiftRight]
  show (x.toUInt64.toBitVec >>> (((nI n).toInt64.toUInt64 &&& Int64.toUInt64 63).toBitVec % 64).toNat).toNat = _
  rw [su_l n hn, BitVec.toNat_ushiftRight, Nat.shiftRight_eq_div_pow]
theorem land8 {a b c d : Nat} (ha : a < 256) (hc : c < 256) : (a + 256 * b) &&& (c + 256 * d) = (a &&& c) + 256 * (b &&& d) := by
  have hac : a &&& c < 2 ^ 8 := Nat.lt_of_le_of_lt Nat.and_le_left ha
  apply Nat.eq_of_testBit_eq
  intro j
  rw [Nat.testBit_and, show a + 256 * b = 2 ^ 8 * b + a by omega, show c + 256 * d = 2 ^ 8 * d + c by omega, show (a &&& c) + 256 * (b &&& d) = 2 ^ 8 * (b &&& d) + (a &&& c) by omega, Nat.testBit_two_pow_mul_add b ha j, Nat.testBit_two_pow_mul_add d hc j, Nat.testBit_two_pow_mul_add (b &&& d) hac j]
  by_cases h : j < 8
  · rw [if_pos h, if_pos h, if_pos h, Nat.testBit_and]
  · rw [if_neg h, if_neg h, if_neg h, Nat.testBit_and]
def hn (a b c d e f g h : Nat) : Nat := a + 256 * (b + 256 * (c + 256 * (d + 256 * (e + 256 * (f + 256 * (g + 256 * h))))))
theorem hn_and {a b c d e f g h m : Nat} (ha : a < 256) (hb : b < 256) (hc : c < 256) (hd : d < 256) (he : e < 256) (hf : f < 256) (hg : g < 256) (hh : h < 256) (hm : m < 256) : hn a b c d e f g h &&& hn m m m m m m m m = hn (a &&& m) (b &&& m) (c &&& m) (d &&& m) (e &&& m) (f &&& m) (g &&& m) (h &&& m) := by
  unfold hn
  rw [land8 ha hm, land8 hb hm, land8 hc hm, land8 hd hm, land8 he hm, land8 hf hm, land8 hg hm]
theorem and_le8 {a m : Nat} (h : a < 256) : a &&& m < 256 := Nat.lt_of_le_of_lt Nat.and_le_left h
def b1 (v : Nat) : Nat := v - (v / 2 &&& 85)
def b2 (u : Nat) : Nat := (u &&& 51) + (u / 4 &&& 51)
def b3 (u : Nat) : Nat := u % 16 + u / 16
def pop8 (v : Nat) : Nat := m_cnt (fun j => v.testBit j) 8 0
theorem k_1 : ∀ v, v < 256 → ∀ c, c < 2 → (v / 2 + 128 * c) &&& 85 = v / 2 &&& 85 ∧ v / 2 &&& 85 ≤ v := by decide +kernel
theorem k_2 : ∀ v, v < 256 → ∀ c, c < 4 → (v / 4 + 64 * c) &&& 51 = v / 4 &&& 51 := by decide +kernel
theorem k_3 : ∀ u, u < 256 → (b2 (b1 u) < 69 ∧ b2 (b1 u) % 16 < 5 ∧ b1 u < 256 ∧ b3 (b2 (b1 u)) = pop8 u ∧ pop8 u ≤ 8) := by decide +kernel
theorem k_4 : ∀ u, u < 69 → ∀ c, c < 5 → (u + u / 16 + 16 * c) &&& 15 = b3 u ∨ ¬ u % 16 < 5 := by decide +kernel
theorem m_cnt_add (f : Nat → Bool) : ∀ n m t, m_cnt f (n + m) t = m_cnt f n t + m_cnt f m (t + n) := by
  intro n
  induction n with
  | zero => intro m t; rw [Nat.zero_add]; show _ = 0 + _; rw [Nat.zero_add]; rfl
  | succ n ih =>
    intro m t
    rw [show n + 1 + m = (n + m) + 1 by omega]
    show (if f t then 1 else 0) + m_cnt f (n + m) (t + 1) = (if f t then 1 else 0) + m_cnt f n (t + 1) + m_cnt f m (t + (n + 1))
    rw [ih, show t + 1 + n = t + (n + 1) by omega]
    omega
theorem m_cnt_sh {f g : Nat → Bool} {k : Nat} (h : ∀ j, f (k + j) = g j) : ∀ n t, m_cnt f n (k + t) = m_cnt g n t := by
  intro n
  induction n with
  | zero => intro t; rfl
  | succ n ih =>
    intro t
    show (if f (k + t) then 1 else 0) + m_cnt f n (k + t + 1) = (if g t then 1 else 0) + m_cnt g n (t + 1)
    rw [h t, show k + t + 1 = k + (t + 1) by omega, ih]
theorem cntH {a B : Nat} (ha : a < 256) (n : Nat) : m_cnt (fun i => (a + 256 * B).testBit i) (8 + n) 0 = pop8 a + m_cnt (fun i => B.testBit i) n 0 := by
  have tb : ∀ i, (a + 256 * B).testBit i = if i < 8 then a.testBit i else B.testBit (i - 8) := fun i => by
    rw [show a + 256 * B = 2 ^ 8 * B + a by omega, Nat.testBit_two_pow_mul_add B ha i]
  rw [m_cnt_add]
  have e1 : m_cnt (fun i => (a + 256 * B).testBit i) 8 0 = pop8 a := m_cnt_congr 8 0 (fun j _ hj => by
    show (a + 256 * B).testBit j = a.testBit j
    rw [tb j, if_pos (by omega)])
  have e2 : m_cnt (fun i => (a + 256 * B).testBit i) n (0 + 8) = m_cnt (fun i => B.testBit i) n 0 := m_cnt_sh (k := 8) (fun j => by
    show (a + 256 * B).testBit (8 + j) = B.testBit j
    rw [tb (8 + j), if_neg (by omega), show 8 + j - 8 = j by omega]) n 0
  rw [e1, e2]
set_option maxHeartbeats 8000000 in
theorem c155 {E : am_Ev} {I : Nat → Nat → Int32} {J : Nat → Nat → Int64} {S : Nat → Nat → Option Nat} {Q : am_Qt} {x : Int64} (hQ : Q (.inl (some (.int (nI (m_cnt (bl x) 64 0))))) E I J S) : am_cl 155 [.long x] E I J S Q := by
  show am_ww 155 0 [.long x, am_U] [] E I J S Q
  apply g155_0
  intro w1 e1 w2 e2 w3 e3 w4 e4 w5 e5 w6 e6
  have hx := tn_lt x
  obtain ⟨a, b, c, d, e, f, g, h, ha, hb, hc, hd, he, hf, hg, hh, ey⟩ : ∃ a b c d e f g h, a < 256 ∧ b < 256 ∧ c < 256 ∧ d < 256 ∧ e < 256 ∧ f < 256 ∧ g < 256 ∧ h < 256 ∧ tn x = hn a b c d e f g h := ⟨tn x / 1 % 256, tn x / 256 % 256, tn x / 65536 % 256, tn x / 16777216 % 256, tn x / 4294967296 % 256, tn x / 1099511627776 % 256, tn x / 281474976710656 % 256, tn x / 72057594037927936 % 256, Nat.mod_lt _ (by omega), Nat.mod_lt _ (by omega), Nat.mod_lt _ (by omega), Nat.mod_lt _ (by omega), Nat.mod_lt _ (by omega), Nat.mod_lt _ (by omega), Nat.mod_lt _ (by omega), Nat.mod_lt _ (by omega), by unfold hn; omega⟩
  have s1 : tn w1 = hn (b1 a) (b1 b) (b1 c) (b1 d) (b1 e) (b1 f) (b1 g) (b1 h) := by
    have q : tn x / 2 ^ 1 = hn (a / 2 + 128 * (b % 2)) (b / 2 + 128 * (c % 2)) (c / 2 + 128 * (d % 2)) (d / 2 + 128 * (e % 2)) (e / 2 + 128 * (f % 2)) (f / 2 + 128 * (g % 2)) (g / 2 + 128 * (h % 2)) (h / 2 + 128 * 0) := by rw [ey]; unfold hn; omega
    have r : tn (lN 6148914691236517205) = hn 85 85 85 85 85 85 85 85 := by decide +kernel
    have t : tn (((x.toUInt64 >>> ((nI 1).toInt64.toUInt64 &&& Int64.toUInt64 63)).toInt64) &&& (lN 6148914691236517205)) = hn (a / 2 &&& 85) (b / 2 &&& 85) (c / 2 &&& 85) (d / 2 &&& 85) (e / 2 &&& 85) (f / 2 &&& 85) (g / 2 &&& 85) (h / 2 &&& 85) := by
      rw [tn_and, tn_shr 1 (by omega), q, r, hn_and (by omega) (by omega) (by omega) (by omega) (by omega) (by omega) (by omega) (by omega) (by omega)]
      rw [(k_1 a ha (b % 2) (by omega)).1, (k_1 b hb (c % 2) (by omega)).1, (k_1 c hc (d % 2) (by omega)).1, (k_1 d hd (e % 2) (by omega)).1, (k_1 e he (f % 2) (by omega)).1, (k_1 f hf (g % 2) (by omega)).1, (k_1 g hg (h % 2) (by omega)).1, (k_1 h hh 0 (by omega)).1]
    have la := (k_1 a ha 0 (by omega)).2
    have lb := (k_1 b hb 0 (by omega)).2
    have lc := (k_1 c hc 0 (by omega)).2
    have ld := (k_1 d hd 0 (by omega)).2
    have le := (k_1 e he 0 (by omega)).2
    have lf := (k_1 f hf 0 (by omega)).2
    have lg := (k_1 g hg 0 (by omega)).2
    have lh := (k_1 h hh 0 (by omega)).2
    rw [e1, tn_sub (by rw [t, ey]; unfold hn; omega), t, ey]
    unfold hn b1
    omega
  have za := k_3 a ha
  have zb := k_3 b hb
  have zc := k_3 c hc
  have zd := k_3 d hd
  have ze := k_3 e he
  have zf := k_3 f hf
  have zg := k_3 g hg
  have zh := k_3 h hh
  have s2 : tn w2 = hn (b2 (b1 a)) (b2 (b1 b)) (b2 (b1 c)) (b2 (b1 d)) (b2 (b1 e)) (b2 (b1 f)) (b2 (b1 g)) (b2 (b1 h)) := by
    generalize b1 a = ua at s1 za ⊢
    generalize b1 b = ub at s1 zb ⊢
    generalize b1 c = uc at s1 zc ⊢
    generalize b1 d = ud at s1 zd ⊢
    generalize b1 e = ue at s1 ze ⊢
    generalize b1 f = uf at s1 zf ⊢
    generalize b1 g = ug at s1 zg ⊢
    generalize b1 h = uh at s1 zh ⊢
    have q : tn w1 / 2 ^ 2 = hn (ua / 4 + 64 * (ub % 4)) (ub / 4 + 64 * (uc % 4)) (uc / 4 + 64 * (ud % 4)) (ud / 4 + 64 * (ue % 4)) (ue / 4 + 64 * (uf % 4)) (uf / 4 + 64 * (ug % 4)) (ug / 4 + 64 * (uh % 4)) (uh / 4 + 64 * 0) := by rw [s1]; unfold hn; omega
    have r : tn (lN 3689348814741910323) = hn 51 51 51 51 51 51 51 51 := by decide +kernel
    have t1 : tn (w1 &&& lN 3689348814741910323) = hn (ua &&& 51) (ub &&& 51) (uc &&& 51) (ud &&& 51) (ue &&& 51) (uf &&& 51) (ug &&& 51) (uh &&& 51) := by rw [tn_and, s1, r, hn_and za.2.2.1 zb.2.2.1 zc.2.2.1 zd.2.2.1 ze.2.2.1 zf.2.2.1 zg.2.2.1 zh.2.2.1 (by omega)]
    have t2 : tn (((w1.toUInt64 >>> ((nI 2).toInt64.toUInt64 &&& Int64.toUInt64 63)).toInt64) &&& (lN 3689348814741910323)) = hn (ua / 4 &&& 51) (ub / 4 &&& 51) (uc / 4 &&& 51) (ud / 4 &&& 51) (ue / 4 &&& 51) (uf / 4 &&& 51) (ug / 4 &&& 51) (uh / 4 &&& 51) := by

      rw [tn_and, tn_shr 2 (by omega), q, r, hn_and (by omega) (by omega) (by omega) (by omega) (by omega) (by omega) (by omega) (by omega) (by omega)]
      rw [k_2 ua za.2.2.1 (ub % 4) (by omega), k_2 ub zb.2.2.1 (uc % 4) (by omega), k_2 uc zc.2.2.1 (ud % 4) (by omega), k_2 ud zd.2.2.1 (ue % 4) (by omega), k_2 ue ze.2.2.1 (uf % 4) (by omega), k_2 uf zf.2.2.1 (ug % 4) (by omega), k_2 ug zg.2.2.1 (uh % 4) (by omega), k_2 uh zh.2.2.1 0 (by omega)]
    have ma : (ua &&& 51) + (ua / 4 &&& 51) < 69 := za.1
    have mb : (ub &&& 51) + (ub / 4 &&& 51) < 69 := zb.1
    have mc : (uc &&& 51) + (uc / 4 &&& 51) < 69 := zc.1
    have md : (ud &&& 51) + (ud / 4 &&& 51) < 69 := zd.1
    have me : (ue &&& 51) + (ue / 4 &&& 51) < 69 := ze.1
    have mf : (uf &&& 51) + (uf / 4 &&& 51) < 69 := zf.1
    have mg : (ug &&& 51) + (ug / 4 &&& 51) < 69 := zg.1
    have mh : (uh &&& 51) + (uh / 4 &&& 51) < 69 := zh.1
    rw [e2, tn_add, t1, t2]
    unfold hn b2
    omega
  have s3 : tn w3 = hn (pop8 a) (pop8 b) (pop8 c) (pop8 d) (pop8 e) (pop8 f) (pop8 g) (pop8 h) := by
    have ya := za
    have yb := zb
    have yc := zc
    have yd := zd
    have ye := ze
    have yf := zf
    have yg := zg
    have yh := zh
    generalize b2 (b1 a) = ua at s2 ya
    generalize b2 (b1 b) = ub at s2 yb
    generalize b2 (b1 c) = uc at s2 yc
    generalize b2 (b1 d) = ud at s2 yd
    generalize b2 (b1 e) = ue at s2 ye
    generalize b2 (b1 f) = uf at s2 yf
    generalize b2 (b1 g) = ug at s2 yg
    generalize b2 (b1 h) = uh at s2 yh
    have q : tn w2 / 2 ^ 4 = hn (ua / 16 + 16 * (ub % 16)) (ub / 16 + 16 * (uc % 16)) (uc / 16 + 16 * (ud % 16)) (ud / 16 + 16 * (ue % 16)) (ue / 16 + 16 * (uf % 16)) (uf / 16 + 16 * (ug % 16)) (ug / 16 + 16 * (uh % 16)) (uh / 16 + 16 * 0) := by rw [s2]; unfold hn; omega
    have r : tn (lN 1085102592571150095) = hn 15 15 15 15 15 15 15 15 := by decide +kernel
    have t1 : tn (w2 + ((w2.toUInt64 >>> ((nI 4).toInt64.toUInt64 &&& Int64.toUInt64 63)).toInt64)) = hn (ua + ua / 16 + 16 * (ub % 16)) (ub + ub / 16 + 16 * (uc % 16)) (uc + uc / 16 + 16 * (ud % 16)) (ud + ud / 16 + 16 * (ue % 16)) (ue + ue / 16 + 16 * (uf % 16)) (uf + uf / 16 + 16 * (ug % 16)) (ug + ug / 16 + 16 * (uh % 16)) (uh + uh / 16 + 16 * 0) := by
      rw [tn_add, tn_shr 4 (by omega), q, s2]
      unfold hn
      omega
    rw [e3, tn_and, t1, r, hn_and (by omega) (by omega) (by omega) (by omega) (by omega) (by omega) (by omega) (by omega) (by omega)]
    rw [(k_4 ua ya.1 (ub % 16) (by omega)).resolve_right (fun n => n ya.2.1), ya.2.2.2.1, (k_4 ub yb.1 (uc % 16) (by omega)).resolve_right (fun n => n yb.2.1), yb.2.2.2.1, (k_4 uc yc.1 (ud % 16) (by omega)).resolve_right (fun n => n yc.2.1), yc.2.2.2.1, (k_4 ud yd.1 (ue % 16) (by omega)).resolve_right (fun n => n yd.2.1), yd.2.2.2.1, (k_4 ue ye.1 (uf % 16) (by omega)).resolve_right (fun n => n ye.2.1), ye.2.2.2.1, (k_4 uf yf.1 (ug % 16) (by omega)).resolve_right (fun n => n yf.2.1), yf.2.2.2.1, (k_4 ug yg.1 (uh % 16) (by omega)).resolve_right (fun n => n yg.2.1), yg.2.2.2.1, (k_4 uh yh.1 0 (by omega)).resolve_right (fun n => n yh.2.1), yh.2.2.2.1]
  have pa := za.2.2.2.2
  have pb := zb.2.2.2.2
  have pc := zc.2.2.2.2
  have pd := zd.2.2.2.2
  have pe := ze.2.2.2.2
  have pf := zf.2.2.2.2
  have pg := zg.2.2.2.2
  have ph := zh.2.2.2.2
  have ecnt : m_cnt (bl x) 64 0 = pop8 a + pop8 b + pop8 c + pop8 d + pop8 e + pop8 f + pop8 g + pop8 h := by
    have eb : (bl x) = (fun i => (hn a b c d e f g h).testBit i) := by
      funext i
      rw [← ey]
      rfl
    rw [eb]
    unfold hn
    rw [show 64 = 8 + (8 + (8 + (8 + (8 + (8 + (8 + 8)))))) from rfl, cntH ha, cntH hb, cntH hc, cntH hd, cntH he, cntH hf, cntH hg]
    show pop8 a + (pop8 b + (pop8 c + (pop8 d + (pop8 e + (pop8 f + (pop8 g + pop8 h)))))) = _
    omega
  generalize pop8 a = ta at s3 pa ecnt
  generalize pop8 b = tb at s3 pb ecnt
  generalize pop8 c = tc at s3 pc ecnt
  generalize pop8 d = td at s3 pd ecnt
  generalize pop8 e = te at s3 pe ecnt
  generalize pop8 f = tf at s3 pf ecnt
  generalize pop8 g = tg at s3 pg ecnt
  generalize pop8 h = th at s3 ph ecnt
  have s4 : tn w4 = hn (ta + tb) (tb + tc) (tc + td) (td + te) (te + tf) (tf + tg) (tg + th) (th) := by
    have q : tn w3 / 2 ^ 8 = hn tb tc td te tf tg th 0 := by rw [s3]; unfold hn; omega
    rw [e4, tn_add, tn_shr 8 (by omega), q, s3]; unfold hn; omega
  have s5 : tn w5 = hn (ta + tb + tc + td) (tb + tc + td + te) (tc + td + te + tf) (td + te + tf + tg) (te + tf + tg + th) (tf + tg + th) (tg + th) (th) := by
    have q : tn w4 / 2 ^ 16 = hn (tc + td) (td + te) (te + tf) (tf + tg) (tg + th) (th) 0 0 := by rw [s4]; unfold hn; omega
    rw [e5, tn_add, tn_shr 16 (by omega), q, s4]; unfold hn; omega
  have s6 : tn w6 = hn (ta + tb + tc + td + te + tf + tg + th) (tb + tc + td + te + tf + tg + th) (tc + td + te + tf + tg + th) (td + te + tf + tg + th) (te + tf + tg + th) (tf + tg + th) (tg + th) (th) := by
    have q : tn w5 / 2 ^ 32 = hn (te + tf + tg + th) (tf + tg + th) (tg + th) (th) 0 0 0 0 := by rw [s5]; unfold hn; omega
    rw [e6, tn_add, tn_shr 32 (by omega), q, s5]; unfold hn; omega
  have e7 : w6.toInt32.toBitVec.toNat % 2 ^ 7 = ta + tb + tc + td + te + tf + tg + th := by
    show (w6.toBitVec.signExtend 32).toNat % 2 ^ 7 = _
    rw [BitVec.signExtend_eq_setWidth_of_le _ (by omega), BitVec.toNat_setWidth]
    show tn w6 % 2 ^ 32 % 2 ^ 7 = _
    rw [s6]
    unfold hn
    omega
  have fin : w6.toInt32 &&& nI 127 = nI (m_cnt (bl x) 64 0) := by
    rw [pk_and w6.toInt32 (m := nI 127) 7 rfl, e7, ecnt]
  rw [fin]
  exact hQ
