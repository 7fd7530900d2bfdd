theorem am_zb_all {z : Nat} (hz : z < 291) : am_zB z = true := by sorry
theorem am_chk_all : ∀ z, z < 292 → am_chkR (am_own z) (decide ((am_nm z).name = "<init>")) (am_by z) (am_dc z) (am_code z) (am_dc z) = true := by sorry
