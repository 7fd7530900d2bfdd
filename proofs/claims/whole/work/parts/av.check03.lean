theorem am_zb_226 : ((List.range 30).all fun z => am_zB (226 + z)) = true := by decide +kernel
theorem am_zb_256 : ((List.range 30).all fun z => am_zB (256 + z)) = true := by decide +kernel
theorem am_zb_286 : ((List.range 5).all fun z => am_zB (286 + z)) = true := by decide +kernel
theorem am_k226 : am_chkR 12 false prog_14_method_50_code am_d226 am_c226 am_d226 = true := by decide +kernel
theorem am_k227 : am_chkR 12 false prog_14_method_53_code am_d227 am_c227 am_d227 = true := by decide +kernel
theorem am_k228 : am_chkR 12 false prog_14_method_52_code am_d228 am_c228 am_d228 = true := by decide +kernel
theorem am_k229 : am_chkR 12 false prog_14_method_55_code am_d229 am_c229 am_d229 = true := by decide +kernel
theorem am_k230 : am_chkR 12 false prog_14_method_54_code am_d230 am_c230 am_d230 = true := by decide +kernel
theorem am_k231 : am_chkR 12 false prog_14_method_59_code am_d231 am_c231 am_d231 = true := by decide +kernel
theorem am_k232 : am_chkR 12 false prog_14_method_4_code am_d232 am_c232 am_d232 = true := by decide +kernel
theorem am_k233 : am_chkR 12 false prog_14_method_62_code am_d233 am_c233 am_d233 = true := by decide +kernel
theorem am_k234 : am_chkR 12 false prog_14_method_60_code am_d234 am_c234 am_d234 = true := by decide +kernel
theorem am_k235 : am_chkR 12 false prog_14_method_61_code am_d235 am_c235 am_d235 = true := by decide +kernel
theorem am_k236 : am_chkR 12 false prog_14_method_47_code am_d236 am_c236 am_d236 = true := by decide +kernel
theorem am_k237 : am_chkR 12 false prog_14_method_46_code am_d237 am_c237 am_d237 = true := by decide +kernel
theorem am_k238 : am_chkR 12 false prog_14_method_37_code am_d238 am_c238 am_d238 = true := by decide +kernel
theorem am_k239 : am_chkR 12 false prog_14_method_45_code am_d239 am_c239 am_d239 = true := by decide +kernel
theorem am_k240 : am_chkR 12 false prog_14_method_44_code am_d240 am_c240 am_d240 = true := by decide +kernel
theorem am_k241_0 : am_chkP 12 false prog_14_method_43_code am_d241 133 (am_c241.drop 0) (am_d241.drop 0) = true := by decide +kernel
theorem am_k241_1 : am_chkP 12 false prog_14_method_43_code am_d241 66 (am_c241.drop 133) (am_d241.drop 133) = true := by decide +kernel
theorem am_k241_2 : am_chkR 12 false prog_14_method_43_code am_d241 (am_c241.drop 199) (am_d241.drop 199) = true := by decide +kernel
theorem am_k241 : am_chkR 12 false prog_14_method_43_code am_d241 am_c241 am_d241 = true := (am_chk_cut 133 am_k241_0 rfl rfl (am_chk_cut 66 am_k241_1 List.drop_drop List.drop_drop am_k241_2))
theorem am_k242 : am_chkR 12 false prog_14_method_63_code am_d242 am_c242 am_d242 = true := by decide +kernel
theorem am_k243 : am_chkR 12 false prog_14_method_64_code am_d243 am_c243 am_d243 = true := by decide +kernel
theorem am_k244 : am_chkR 12 false prog_14_method_65_code am_d244 am_c244 am_d244 = true := by decide +kernel
theorem am_k245 : am_chkR 12 false prog_14_method_36_code am_d245 am_c245 am_d245 = true := by decide +kernel
theorem am_k246 : am_chkR 12 false prog_14_method_66_code am_d246 am_c246 am_d246 = true := by decide +kernel
theorem am_k247 : am_chkR 12 false prog_14_method_67_code am_d247 am_c247 am_d247 = true := by decide +kernel
theorem am_k248 : am_chkR 12 false prog_14_method_48_code am_d248 am_c248 am_d248 = true := by decide +kernel
theorem am_k249 : am_chkR 12 false prog_14_method_68_code am_d249 am_c249 am_d249 = true := by decide +kernel
theorem am_k250 : am_chkR 12 false prog_14_method_69_code am_d250 am_c250 am_d250 = true := by decide +kernel
theorem am_k251 : am_chkR 12 false prog_14_method_70_code am_d251 am_c251 am_d251 = true := by decide +kernel
theorem am_k252 : am_chkR 12 false prog_14_method_71_code am_d252 am_c252 am_d252 = true := by decide +kernel
theorem am_k253 : am_chkR 12 false prog_14_method_72_code am_d253 am_c253 am_d253 = true := by decide +kernel
theorem am_k254 : am_chkR 12 false prog_14_method_73_code am_d254 am_c254 am_d254 = true := by decide +kernel
theorem am_k255 : am_chkR 12 false prog_14_method_75_code am_d255 am_c255 am_d255 = true := by decide +kernel
theorem am_k256 : am_chkR 12 false prog_14_method_74_code am_d256 am_c256 am_d256 = true := by decide +kernel
theorem am_k257 : am_chkR 12 false prog_14_method_76_code am_d257 am_c257 am_d257 = true := by decide +kernel
theorem am_k258 : am_chkR 12 false prog_14_method_80_code am_d258 am_c258 am_d258 = true := by decide +kernel
theorem am_k259 : am_chkR 12 false prog_14_method_79_code am_d259 am_c259 am_d259 = true := by decide +kernel
theorem am_k260 : am_chkR 12 false prog_14_method_77_code am_d260 am_c260 am_d260 = true := by decide +kernel
theorem am_k261 : am_chkR 12 false prog_14_method_81_code am_d261 am_c261 am_d261 = true := by decide +kernel
theorem am_k262 : am_chkR 12 false prog_14_method_82_code am_d262 am_c262 am_d262 = true := by decide +kernel
theorem am_k263 : am_chkR 12 false prog_14_method_78_code am_d263 am_c263 am_d263 = true := by decide +kernel
theorem am_k264 : am_chkR 12 false prog_14_method_88_code am_d264 am_c264 am_d264 = true := by decide +kernel
theorem am_k265 : am_chkR 12 false prog_14_method_86_code am_d265 am_c265 am_d265 = true := by decide +kernel
theorem am_k266 : am_chkR 12 false prog_14_method_85_code am_d266 am_c266 am_d266 = true := by decide +kernel
theorem am_k267 : am_chkR 12 false prog_14_method_84_code am_d267 am_c267 am_d267 = true := by decide +kernel
theorem am_k268 : am_chkR 12 false prog_14_method_87_code am_d268 am_c268 am_d268 = true := by decide +kernel
theorem am_k269 : am_chkR 12 false prog_14_method_83_code am_d269 am_c269 am_d269 = true := by decide +kernel
theorem am_k270 : am_chkR 12 false prog_14_method_89_code am_d270 am_c270 am_d270 = true := by decide +kernel
theorem am_k271 : am_chkR 12 false prog_14_method_90_code am_d271 am_c271 am_d271 = true := by decide +kernel
theorem am_k272 : am_chkR 12 false prog_14_method_92_code am_d272 am_c272 am_d272 = true := by decide +kernel
theorem am_k273 : am_chkR 12 false prog_14_method_91_code am_d273 am_c273 am_d273 = true := by decide +kernel
theorem am_k274 : am_chkR 12 false prog_14_method_99_code am_d274 am_c274 am_d274 = true := by decide +kernel
theorem am_k275 : am_chkR 12 false prog_14_method_98_code am_d275 am_c275 am_d275 = true := by decide +kernel
theorem am_k276 : am_chkR 12 false prog_14_method_97_code am_d276 am_c276 am_d276 = true := by decide +kernel
theorem am_k277 : am_chkR 12 false prog_14_method_96_code am_d277 am_c277 am_d277 = true := by decide +kernel
theorem am_k278 : am_chkR 12 false prog_14_method_95_code am_d278 am_c278 am_d278 = true := by decide +kernel
theorem am_k279 : am_chkR 12 false prog_14_method_94_code am_d279 am_c279 am_d279 = true := by decide +kernel
theorem am_k280 : am_chkR 12 false prog_14_method_93_code am_d280 am_c280 am_d280 = true := by decide +kernel
theorem am_k281 : am_chkR 12 false prog_14_method_49_code am_d281 am_c281 am_d281 = true := by decide +kernel
theorem am_k282 : am_chkR 12 false prog_14_method_101_code am_d282 am_c282 am_d282 = true := by decide +kernel
theorem am_k283 : am_chkR 12 false prog_14_method_100_code am_d283 am_c283 am_d283 = true := by decide +kernel
theorem am_k284 : am_chkR 12 false prog_14_method_104_code am_d284 am_c284 am_d284 = true := by decide +kernel
theorem am_k285 : am_chkR 12 false prog_14_method_102_code am_d285 am_c285 am_d285 = true := by decide +kernel
theorem am_k286 : am_chkR 12 false prog_14_method_103_code am_d286 am_c286 am_d286 = true := by decide +kernel
theorem am_k287 : am_chkR 12 false prog_14_method_105_code am_d287 am_c287 am_d287 = true := by decide +kernel
theorem am_k288 : am_chkR 12 false prog_14_method_107_code am_d288 am_c288 am_d288 = true := by decide +kernel
theorem am_k289 : am_chkR 12 false prog_14_method_106_code am_d289 am_c289 am_d289 = true := by decide +kernel
theorem am_k290 : am_chkR 12 false prog_14_method_108_code am_d290 am_c290 am_d290 = true := by decide +kernel
