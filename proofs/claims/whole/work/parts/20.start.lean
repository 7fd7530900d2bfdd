/-! the start: what the Statement gives makes the abstract machine's world -/
def am_fl : List Cond := flatC (Jvm.Cond.and given_1 narrow_1)
def am_tm (j : Nat) : Term := Term.string (am_srL.getD j ("", 0, "", 0)).1 (am_srL.getD j ("", 0, "", 0)).2.1
def am_sck (j : Nat) (ps qs : List Nat) : Bool :=
  decide (am_fl[ps.getD 0 0]? = some (.exactly (am_tm j) "java/lang/String")) && decide (am_fl[ps.getD 1 0]? = some (.eq (.field (am_tm j) "java/lang/String" "coder" "B") (.int 0))) && decide (am_fl[ps.getD 2 0]? = some (.arrayOf (.field (am_tm j) "java/lang/String" "value" "[B") .byte)) && decide (am_fl[ps.getD 3 0]? = some (.eq (.length (.field (am_tm j) "java/lang/String" "value" "[B")) (.int (Int32.ofNat (am_slen.getD j 0)))))
  && (List.range (am_slen.getD j 0)).all (fun k => decide (am_fl[qs.getD k 0]? = some (.eq (.elem (.field (am_tm j) "java/lang/String" "value" "[B") (.int (Int32.ofNat k))) (.int ((am_strL.getD j []).getD k 0)))))
def am_sps : List (List Nat × List Nat) := [([39, 40, 41, 42], []), ([43, 44, 45, 46], [47, 48, 49, 50, 51, 52, 53, 54, 55, 56, 57, 58, 59, 60, 61, 62, 63, 64, 65, 66, 67, 68, 69, 70, 71, 72, 73, 74, 75, 76]), ([77, 78, 79, 80], [81, 82, 83, 84, 85, 86, 87, 88, 89, 90, 91, 92, 93, 94, 95, 96, 97, 98, 99, 100, 101, 102, 103, 104, 105, 106, 107, 108, 109, 110, 111, 112, 113, 114, 115, 116, 117, 118, 119, 120, 121, 122, 123, 124, 125, 126, 127, 128, 129, 130, 131, 132, 133, 134, 135, 136, 137, 138, 139, 140, 141, 142, 143, 144, 145, 146, 147, 148, 149, 150, 151, 152, 153, 154, 155, 156, 157, 158, 159, 160, 161, 162, 163, 164, 165, 166, 167, 168, 169, 170, 171, 172, 173, 174, 175, 176, 177, 178, 179, 180, 181]), ([182, 183, 184, 185], [186, 187, 188]), ([189, 190, 191, 192], [193, 194]), ([195, 196, 197, 198], [199, 200]), ([201, 202, 203, 204], [205, 206]), ([207, 208, 209, 210], [211, 212]), ([213, 214, 215, 216], [217, 218]), ([219, 220, 221, 222], [223, 224]), ([225, 226, 227, 228], [229]), ([230, 231, 232, 233], [234]), ([235, 236, 237, 238], [239, 240]), ([241, 242, 243, 244], [245, 246, 247]), ([248, 249, 250, 251], [252, 253, 254, 255, 256, 257, 258, 259, 260, 261, 262, 263, 264]), ([265, 266, 267, 268], [269, 270, 271, 272, 273, 274, 275, 276, 277, 278, 279, 280, 281, 282, 283]), ([284, 285, 286, 287], [288, 289, 290, 291, 292, 293, 294, 295, 296, 297, 298, 299, 300, 301]), ([302, 303, 304, 305], [306, 307, 308, 309, 310, 311, 312, 313, 314, 315, 316, 317, 318, 319, 320, 321, 322, 323, 324, 325, 326, 327, 328, 329, 330]), ([331, 332, 333, 334], [335, 336, 337, 338, 339, 340, 341, 342, 343, 344, 345, 346, 347, 348, 349, 350, 351, 352, 353, 354, 355, 356, 357, 358, 359, 360, 361]), ([362, 363, 364, 365], [366, 367, 368, 369, 370, 371, 372, 373, 374, 375, 376, 377, 378, 379]), ([380, 381, 382, 383], [384, 385, 386, 387, 388, 389, 390, 391, 392, 393, 394, 395, 396, 397, 398, 399]), ([400, 401, 402, 403], [404, 405, 406, 407, 408, 409, 410, 411, 412, 413, 414, 415]), ([416, 417, 418, 419], [420, 421, 422, 423, 424, 425, 426, 427, 428, 429, 430, 431]), ([432, 433, 434, 435], [436, 437, 438, 439, 440, 441, 442, 443, 444, 445, 446, 447, 448, 449]), ([450, 451, 452, 453], [454, 455, 456, 457, 458, 459, 460, 461, 462, 463, 464, 465, 466, 467, 468, 469, 470, 471, 472, 473, 474, 475, 476, 477, 478]), ([479, 480, 481, 482], [483, 484, 485, 486, 487, 488, 489, 490, 491, 492, 493, 494]), ([495, 496, 497, 498], [499, 500, 501, 502, 503, 504, 505, 506, 507, 508, 509, 510, 511, 512, 513, 514, 515, 516, 517]), ([518, 519, 520, 521], [522, 523, 524, 525, 526, 527, 528, 529, 530, 531, 532, 533, 534, 535, 536, 537, 538, 539, 540, 541, 542, 543, 544, 545, 546, 547, 548, 549, 550]), ([551, 552, 553, 554], [555, 556, 557, 558, 559, 560, 561, 562, 563, 564, 565, 566, 567, 568, 569, 570, 571, 572, 573, 574, 575, 576, 577, 578, 579, 580, 581, 582, 583, 584, 585, 586]), ([587, 588, 589, 590], [591, 592, 593, 594, 595, 596, 597, 598, 599, 600, 601, 602, 603, 604, 605, 606, 607, 608, 609, 610, 611, 612, 613, 614]), ([615, 616, 617, 618], [619, 620, 621, 622, 623, 624, 625, 626, 627, 628, 629, 630]), ([631, 632, 633, 634], [635, 636, 637, 638, 639, 640, 641, 642, 643, 644, 645, 646, 647, 648, 649, 650, 651, 652, 653, 654, 655, 656, 657]), ([658, 659, 660, 661], [662, 663, 664, 665, 666, 667, 668, 669, 670, 671, 672, 673, 674, 675, 676, 677, 678, 679, 680, 681, 682, 683, 684, 685, 686, 687, 688, 689, 690, 691]), ([692, 693, 694, 695], [696, 697, 698, 699, 700, 701, 702, 703, 704, 705, 706, 707, 708, 709]), ([710, 711, 712, 713], [714, 715, 716, 717, 718, 719, 720, 721, 722, 723, 724, 725, 726, 727, 728, 729, 730, 731, 732, 733, 734, 735, 736, 737, 738, 739]), ([740, 741, 742, 743], [744, 745, 746, 747, 748, 749, 750, 751, 752, 753, 754, 755, 756, 757, 758, 759, 760, 761, 762, 763, 764, 765, 766, 767, 768, 769, 770, 771, 772, 773, 774, 775]), ([776, 777, 778, 779], [780, 781, 782, 783, 784, 785, 786]), ([787, 788, 789, 790], [791, 792, 793, 794]), ([795, 796, 797, 798], [799, 800, 801, 802, 803]), ([804, 805, 806, 807], [808, 809, 810, 811, 812]), ([813, 814, 815, 816], [817, 818, 819, 820]), ([821, 822, 823, 824], [825, 826, 827, 828, 829, 830]), ([831, 832, 833, 834], [835, 836, 837]), ([838, 839, 840, 841], [842, 843, 844, 845]), ([846, 847, 848, 849], [850, 851, 852, 853, 854]), ([855, 856, 857, 858], [859, 860, 861]), ([862, 863, 864, 865], [866, 867, 868]), ([869, 870, 871, 872], [873, 874, 875]), ([876, 877, 878, 879], [880, 881, 882, 883]), ([884, 885, 886, 887], [888, 889, 890, 891]), ([892, 893, 894, 895], [896, 897, 898, 899, 900, 901]), ([902, 903, 904, 905], [906, 907, 908, 909]), ([910, 911, 912, 913], [914, 915, 916, 917]), ([918, 919, 920, 921], [922, 923, 924, 925]), ([926, 927, 928, 929], [930, 931, 932, 933])]
theorem am_sc0 : ((List.range 11).all fun k => am_sck (0 + k) (am_sps.getD (0 + k) ([], [])).1 (am_sps.getD (0 + k) ([], [])).2) = true := by decide +kernel
theorem am_sc11 : ((List.range 11).all fun k => am_sck (11 + k) (am_sps.getD (11 + k) ([], [])).1 (am_sps.getD (11 + k) ([], [])).2) = true := by decide +kernel
theorem am_sc22 : ((List.range 11).all fun k => am_sck (22 + k) (am_sps.getD (22 + k) ([], [])).1 (am_sps.getD (22 + k) ([], [])).2) = true := by decide +kernel
theorem am_sc33 : ((List.range 11).all fun k => am_sck (33 + k) (am_sps.getD (33 + k) ([], [])).1 (am_sps.getD (33 + k) ([], [])).2) = true := by decide +kernel
theorem am_sc44 : ((List.range 11).all fun k => am_sck (44 + k) (am_sps.getD (44 + k) ([], [])).1 (am_sps.getD (44 + k) ([], [])).2) = true := by decide +kernel
theorem am_sc {j : Nat} (hj : j < 55) : am_sck j (am_sps.getD j ([], [])).1 (am_sps.getD j ([], [])).2 = true := by
  have key : ∀ a k, a + k = j → k < 11 → ((List.range 11).all fun k => am_sck (a + k) (am_sps.getD (a + k) ([], [])).1 (am_sps.getD (a + k) ([], [])).2) = true → am_sck j (am_sps.getD j ([], [])).1 (am_sps.getD j ([], [])).2 = true := by
    intro a k h hk h1
    have h2 := List.all_eq_true.mp h1 k (List.mem_range.mpr hk)
    rw [h] at h2
    exact h2
  rcases Nat.lt_or_ge j 11 with h | h
  · exact key 0 j (by omega) h am_sc0
  rcases Nat.lt_or_ge j 22 with h2 | h2
  · exact key 11 (j - 11) (by omega) (by omega) am_sc11
  rcases Nat.lt_or_ge j 33 with h3 | h3
  · exact key 22 (j - 22) (by omega) (by omega) am_sc22
  rcases Nat.lt_or_ge j 44 with h4 | h4
  · exact key 33 (j - 33) (by omega) (by omega) am_sc33
  · exact key 44 (j - 44) (by omega) (by omega) am_sc44
theorem am_slen_lt : (am_slen.all fun n => decide (n < 2147483648)) = true := by decide +kernel
theorem am_str_start {args : Array Value} {s : State} (hg : (Jvm.Cond.and given_1 narrow_1).before args s = true) {A : Nat → Prop} (hA : ∀ a : Nat, a < s.heap.size → ¬ A a) {j : Nat} (hj : j < 55) :
    ∃ aK aV : Nat, vk_S 1 [am_slen.getD j 0] [am_strL.getD j []] (fun _ => aK) (fun _ => aV) A s s.heap ∧ (am_tm j).eval args s none [] s = some (.ref aK) := by
  have hs := flat_of_before _ hg
  have hc := am_sc hj
  unfold am_sck at hc
  simp only [Bool.and_eq_true, decide_eq_true_eq, List.all_eq_true, List.mem_range] at hc
  obtain ⟨⟨⟨⟨h1, h2⟩, h3⟩, h4⟩, h5⟩ := hc
  have hlt : am_slen.getD j 0 < 2 ^ 31 := by
    rw [List.getD_eq_getElem?_getD]
    cases hx : am_slen[j]? with
    | none => simp
    | some n =>
      have := List.all_eq_true.mp am_slen_lt n (List.mem_of_getElem? hx)
      simpa using this
  obtain ⟨adK, adV, hS, hE⟩ := vk_Sof (args := args) (s := s) (N := 1) (tm := fun _ => am_tm j) (len := [am_slen.getD j 0]) (byt := [am_strL.getD j []]) (A := A)
    (fun i hi => by have : i = 0 := by omega
                    subst this; exact hlt)
    (fun i _ => hs _ (List.mem_of_getElem? h1)) (fun i _ => hs _ (List.mem_of_getElem? h2)) (fun i _ => hs _ (List.mem_of_getElem? h3))
    (fun i hi => by have : i = 0 := by omega
                    subst this; exact hs _ (List.mem_of_getElem? h4))
    (fun i hi k hk => by have : i = 0 := by omega
                         subst this; exact hs _ (List.mem_of_getElem? (h5 k hk)))
    (fun i k hi hk hne => by omega) hA
  refine ⟨adK 0, adV 0, ⟨fun i hi => ?_, fun i k hi hk _ => by omega⟩, hE 0 (by omega)⟩
  have : i = 0 := by omega
  subst this
  exact hS.1 0 (by omega)
theorem am_f4 : Cond.isRef (.static Bundle.tN "UNASSIGNED_STACK" Bundle.steD) ∈ am_fl := List.mem_of_getElem? (i := 4) (by decide +kernel)
theorem am_f5 : Cond.isRef (.static Bundle.tN "SUPPRESSED_SENTINEL" Bundle.listD) ∈ am_fl := List.mem_of_getElem? (i := 5) (by decide +kernel)
theorem am_f6 : Cond.eq (.static "java/lang/String" "COMPACT_STRINGS" "Z") (.int 1) ∈ am_fl := List.mem_of_getElem? (i := 6) (by decide +kernel)
theorem am_f7 : Cond.isRef (.static "jdk/internal/util/Preconditions" "SIOOBE_FORMATTER" "Ljava/util/function/BiFunction;") ∈ am_fl := List.mem_of_getElem? (i := 7) (by decide +kernel)
theorem am_f38 : Cond.not (.castable "java/lang/IllegalArgumentException" "java/util/NoSuchElementException") ∈ am_fl := List.mem_of_getElem? (i := 38) (by decide +kernel)
theorem am_l4 : Cond.laysStatic Bundle.tN "UNASSIGNED_STACK" Bundle.steD ∈ lw_tbl := List.mem_of_getElem? (i := 861) (by decide +kernel)
theorem am_l5 : Cond.laysStatic Bundle.tN "SUPPRESSED_SENTINEL" Bundle.listD ∈ lw_tbl := List.mem_of_getElem? (i := 863) (by decide +kernel)
theorem am_l6 : Cond.laysStatic "java/lang/String" "COMPACT_STRINGS" "Z" ∈ lw_tbl := List.mem_of_getElem? (i := 937) (by decide +kernel)
theorem am_l7 : Cond.laysStatic "jdk/internal/util/Preconditions" "SIOOBE_FORMATTER" "Ljava/util/function/BiFunction;" ∈ lw_tbl := List.mem_of_getElem? (i := 953) (by decide +kernel)
theorem am_i4 : Cond.initialized Bundle.tN ∈ lw_tbl := List.mem_of_getElem? (i := 137) (by decide +kernel)
theorem am_i6 : Cond.initialized "java/lang/String" ∈ lw_tbl := List.mem_of_getElem? (i := 141) (by decide +kernel)
theorem am_i7 : Cond.initialized "jdk/internal/util/Preconditions" ∈ lw_tbl := List.mem_of_getElem? (i := 143) (by decide +kernel)
theorem am_srL_len : am_srL.length = 55 := by decide +kernel
theorem am_srt : (lw_tbl.all fun w => match w with
  | .arrayOver (.object _) => true
  | .stringRef .. => true
  | w => w.onTables || true) = true := by decide +kernel
/-- the classes of the table, in the machine -/
theorem am_known {args : Array Value} {s : State} (hts : ∀ w ∈ lw_tbl, w.before args s = true) : ∃ (dC : Nat → ClassId) (dI : Nat → Nat → Nat), ∀ (k : Nat) (q : vw_C), am_cls[k]? = some q → u_Kn s q.1 q.2.1 q.2.2 (dC k) (dI k) := by
  have h : ∀ k : Nat, ∃ (c : ClassId) (iS : Nat → Nat), ∀ q : vw_C, am_cls[k]? = some q → u_Kn s q.1 q.2.1 q.2.2 c iS := by
    intro k
    rcases Nat.lt_or_ge k 13 with hk | hk
    · obtain ⟨T, hT, hTw, -⟩ := am_cls_at hk
      obtain ⟨c, iS, hK⟩ := u_known (n := am_nf k) hts hTw (hts _ (am_win hk).1)
      exact ⟨c, iS, fun q hq => by rw [hT] at hq; cases hq; exact hK⟩
    · refine ⟨0, fun _ => 0, fun q hq => ?_⟩
      have := (List.getElem?_eq_some_iff.mp hq).1
      have h13 : am_cls.length = 13 := rfl
      omega
  exact ⟨fun k => (h k).choose, fun k => (h k).choose_spec.choose, fun k q hq => (h k).choose_spec.choose_spec q hq⟩
theorem am_arr {args : Array Value} {s : State} {ty : FieldType} (h : (Cond.arrayClass ty).before args s = true) (hra : ∀ c : ClassId, va_RA s c ty = (s.vm.findClass ("[" ++ ty.toString) = some c)) : ∃ c : ClassId, ArrOfT s c ty ∧ va_RA s c ty := by
  obtain ⟨cB, kB, comp, hcB, hkB, hkind⟩ := Cond.arrayClass_spec h
  exact ⟨cB, fun n z => ⟨fun k h => (by cases h), kB, hkB, comp, hkind⟩, by rw [hra]; exact hcB⟩
def R_law : String := "RecordDeskLaw"
def lw_P (b : Addr) (xs : List Int32) (args : Array Value) (s : State) : Prop := args = #[.ref b] ∧ s.IntsAt b xs ∧ xs.length ≤ 3072 ∧ (Jvm.Cond.and given_1 narrow_1).before args s = true
def lw_Q (_ : Array Value) (s : State) (o : Outcome) (t : State) : Prop := o = .returned (some (.int 1)) ∧ Framed s o t [] 1193 71728
def lw_Z (below : List Frame) (a : Array Value) (s : State) : State → Prop := fun t => ∃ o, t.status = .running ∧ Ended t below o ∧ lw_Q a s o t
/-- the law's own end, with 1 on the stack, nothing written that was there before, its room as the claim has it -/
theorem lw_ret {p : Program} {l : Launch} {e : Env} {s : State} {m : MethodId} {below : List Frame} {meth : Method} {c : Code} {b : Nat} (hx : p.tables.exec = Jvm.exec) (hb : c.code = code) (hr : meth.sig.returnType = ret) (hlocks : meth.locks = false) {pc : Nat} {H : Heap} {ls : Array Slot} (hdg : decode code pc = .ok (.ireturn, 1)) : W p l e room_1 s m #[Value.ref b] below meth c H [] 1193 71728 (lw_Z below #[Value.ref b] s) (F0 m pc ls [.int 1]) := by
  intro T hT X
  obtain ⟨fs, hret, hrun, hended, hW, hframe⟩ := X.leave (v := some (.int 1)) (hlocks := hlocks) (fun h => by rw [hr] at h; cases h)
  have hmeth' : T.vm.method? m = some meth := X.method'
  refine ⟨T.setFrames fs, ?_, .returned (some (.int 1)), hrun, hended, rfl, ⟨_, rfl⟩, hW, hframe⟩
  jvm_step X.here [X.here.top, hx, hb, hdg, hmeth', hr, ret, narrow_b1]
  (try refine ⟨rfl, ?_⟩); (try refine ⟨rfl, ?_⟩)
  first | (intro acts; rw [hret _ acts rfl rfl rfl]) | rw [hret _ _ rfl rfl rfl]
  exact Steps.refl _
/-- what holds at the law's entry: the machine, the code, the tables' words (any of lw_tbl by 'hts w (by decide +kernel)'), the script of L ints xs at the cell b, what the Statement gives of the start (any of its parts by flat_of_before) -/
def lw_At (p : Program) (s : State) (m : MethodId) (meth : Method) (c : Code) (b L : Nat) (xs : Nat → Int32) : Prop :=
  p.tables.exec = Jvm.exec ∧ c.code = code ∧ meth.sig.returnType = ret ∧ c.maxLocals = 7 ∧ s.vm.findClass R_law = some m.cls ∧ (∀ w ∈ lw_tbl, w.before #[Value.ref b] s = true) ∧ va_X b L xs s s.heap ∧ b < s.heap.size ∧ meth.locks = false ∧ (Jvm.Cond.and given_1 narrow_1).before #[Value.ref b] s = true
/-- the abstract heap at first -/
def am_s0 (L : Nat) (xs : Nat → Int32) : am_St := (0, 0, 0, (L, xs), (fun _ _ => 0), (fun _ _ => 0), (fun _ _ => none), (fun _ _ => none))
theorem am_words {A : Array Value} {s : State} (hts : ∀ w ∈ lw_tbl, w.before A s = true) : ∀ w ∈ lw_tbl, am_lw w = true → ∀ a : Array Value, w.before a s = true := by
  intro w hw hl a
  have hb := hts w hw
  unfold am_lw at hl
  split at hl
  · exact (va_Nw.of rfl hb).use rfl
  · exact (va_Nw.of rfl hb).use rfl
  · exact (va_Nw.of rfl hb).use rfl
  · exact (va_AO.of hb).use
  · exact word_at (State.WarmedH.refl s) (good_of_word hl) hb
theorem am_world {s : State} {b L : Nat} {xs : Nat → Int32} (hts : ∀ w ∈ lw_tbl, w.before #[Value.ref b] s = true) (hgv : (Jvm.Cond.and given_1 narrow_1).before #[Value.ref b] s = true) (hX : va_X b L xs s s.heap) (hbl : b < s.heap.size) (hL : L ≤ 3072) :
    ∃ G : am_G, am_B G s ∧ h_n G = s.heap.size ∧ h_b G = b ∧ h_H G = s.heap ∧ h_L G = L ∧ h_x G = xs := by
  have hA : ∀ a : Nat, a < s.heap.size → ¬ (fun q => s.heap.size ≤ q) a := fun a h => Nat.not_le.mpr h
  have hs := flat_of_before _ hgv
  obtain ⟨dC, dI, hKn⟩ := am_known hts
  obtain ⟨c0, a0, r0⟩ := am_arr (hts _ am_wa_int) (fun _ => rfl)
  obtain ⟨c1, a1, r1⟩ := am_arr (hts _ am_wa_long) (fun _ => rfl)
  obtain ⟨c2, a2, r2⟩ := am_arr (hts _ am_wa_byte) (fun _ => rfl)
  obtain ⟨c3, a3, r3⟩ := am_arr (hts _ am_wa_boolean) (fun _ => rfl)
  obtain ⟨comp, c4, k4, f1, -, f2, f3, f4⟩ := Cond.arrayOver_spec (hts _ am_wao)
  have hstr : ∀ j : Nat, ∃ aK aV : Nat, j < 55 → vk_S 1 [am_slen.getD j 0] [am_strL.getD j []] (fun _ => aK) (fun _ => aV) (fun q => s.heap.size ≤ q) s s.heap ∧ (am_tm j).eval #[Value.ref b] s none [] s = some (.ref aK) := by
    intro j
    by_cases hj : j < 55
    · obtain ⟨aK, aV, h⟩ := am_str_start hgv hA hj
      exact ⟨aK, aV, fun _ => h⟩
    · exact ⟨0, 0, fun h => absurd h hj⟩
  have hzq := va_Zqof (A := fun q => s.heap.size ≤ q) (hts _ am_l7) (hts _ am_i7) (hs _ am_f7) hA
  obtain ⟨vq, hvq, hvc⟩ : ∃ vq : Value, va_Z "jdk/internal/util/Preconditions" "SIOOBE_FORMATTER" "Ljava/util/function/BiFunction;" vq (fun q => s.heap.size ≤ q) s s.heap ∧ vq.category = 1 := by
    rcases hzq with h | ⟨t, h⟩
    · exact ⟨_, h, rfl⟩
    · exact ⟨_, h, rfl⟩
  refine ⟨((dC, dI), (fun k => if k = 0 then c0 else if k = 1 then c1 else if k = 2 then c2 else if k = 3 then c3 else c4), s.heap.size, b, (fun j => (hstr j).choose), (fun j => (hstr j).choose_spec.choose), vq, s.heap, L, xs), ?_, rfl, rfl, rfl, rfl, rfl⟩
  refine ⟨am_words hts, ⟨hKn, fun k q hk => ?_⟩, fun q hq j hj => ?_, fun j hj => ((hstr j).choose_spec.choose_spec hj).1, va_Zof (hts _ am_l6) (hts _ am_i6) (va_eqi (hs _ am_f6)) hA, hvq, vx_Zqof (hts _ am_l4) (hts _ am_i4) (hs _ am_f4) hA, vx_Zqof (hts _ am_l5) (hts _ am_i4) (hs _ am_f5) hA, hX, hbl, rfl, hvc, by show L < 2 ^ 31; omega, va_Nc.of (hs _ am_f38)⟩
  · have hlt : k < 5 := (List.getElem?_eq_some_iff.mp hk).1
    match k, hk, hlt with
    | 0, hk, _ => cases hk; exact ⟨a0, r0⟩
    | 1, hk, _ => cases hk; exact ⟨a1, r1⟩
    | 2, hk, _ => cases hk; exact ⟨a2, r2⟩
    | 3, hk, _ => cases hk; exact ⟨a3, r3⟩
    | 4, hk, _ => cases hk; exact ⟨fun n z => ⟨fun k h => (by cases h), k4, f2, comp, f3⟩, k4, comp, f2, f3, f1, f4⟩
  · have hlt : j < 55 := by have := (List.getElem?_eq_some_iff.mp hj).1; rw [am_srL_len] at this; exact this
    have h1 := of_decide_eq_true (List.all_eq_true.mp am_srok q hq)
    have h2 := ((hstr j).choose_spec.choose_spec hlt).2
    have e : am_srL.getD j ("", 0, "", 0) = q := by rw [List.getD_eq_getElem?_getD, hj]; rfl
    unfold am_tm at h2
    have key : ∀ {aa : Nat} {r : String × Nat × String × Nat}, (Term.string r.1 r.2.1).eval #[Value.ref b] s none [] s = some (.ref aa) → r = q → (Term.string q.1 q.2.1).eval #[Value.ref b] s none [] s = some (.ref aa) := by
      intro aa r h e
      subst e
      exact h
    exact vk_R.of (hts _ (List.mem_of_getElem? h1)) (key h2 e)
/-- THE CLAIM, out of a run of the abstract machine -/
theorem am_whole (hall : am_All) (hlaw : am_chkR (am_own 291) (am_ini 291) (am_by 291) (am_dc 291) (am_code 291) (am_dc 291) = true)
    (hrun : ∀ (L : Nat) (xs : Nat → Int32), L ≤ 3072 → ∃ n σ', am_run n 291 0 (am_l0 291 [.ref 1000000]) [] (am_s0 L xs) = some (.inl (some (.int 1)), σ') ∧ g_C σ' ≤ 1193 ∧ g_Z σ' ≤ 71728)
    {p : Program} {e : Env} {s : State} {m : MethodId} {below : List Frame} {meth : Method} {c : Code} (l : Launch) (hflags : l.flags = flags0) {b L : Nat} {xs : Nat → Int32} (hL : L ≤ 3072) (C0 : lw_At p s m meth c b L xs) : W p l e room_1 s m #[Value.ref b] below meth c s.heap [] 0 0 (lw_Z below #[Value.ref b] s) (entryFrame m ([Value.ref b] : List Value).toArray 7) := by
  obtain ⟨hx, hb, hr, hml, hown, hts, hX, hbl, hlocks, hgv⟩ := id C0
  obtain ⟨G, hB, hn, hbb, hH, hLL, hxx⟩ := am_world hts hgv hX hbl hL
  obtain ⟨n, σ', hrn, hC, hZ⟩ := hrun L xs hL
  have hlt : l.stackTraces = false := by
    unfold Launch.stackTraces
    rw [hflags]
    decide +kernel
  have X : am_X G p l s m meth c 291 := ⟨hx, hb, hml, hown, hB, (fun h => absurd h (by decide +kernel)), hlocks, hlt, Nat.le_of_eq hn, (fun q _ => by rw [hH]), hlaw⟩
  have hq1 : (h_q G).category = 1 := hB.2.2.2.2.2.2.2.2.2.2.2.1
  have hV := am_sound (G := G) hall hlt n 291 0 _ [] _ _ _ hrn p e room_1 s m #[Value.ref b] below meth c 0 0 (lw_Z below #[Value.ref b] s) X (by decide +kernel) (fun h => absurd rfl h) (by decide +kernel) (by decide +kernel) (by rw [hn]; exact Nat.le_refl _) (Nat.zero_le _) (Nat.zero_le _) (by show g_C σ' - 0 ≤ 1193; omega) (by show g_Z σ' - 0 ≤ 71728; omega) ?_ (fun e' he => by cases he) (fun e' j st' ls' σ1 he => by cases he)
  · have hH0 : am_H G (am_s0 L xs) s.heap := ⟨Nat.le_refl _, hLL.symm, hxx.symm, fun k q hk => by simp [am_ws, am_s0, g_N] at hk⟩
    have h0 := hV s.heap [] _ hH0 va_S.rf (am_entry hq1 (z := 291) (as := [.ref 1000000]) (by decide +kernel))
    have e0 : am_pc 291 0 = 0 := by decide +kernel
    rw [e0] at h0
    rw [lg_entry_eq]
    have e1 : ([Value.ref 1000000].map (am_tr G)) = [Value.ref b] := by rw [← hbb]; rfl
    rw [e1] at h0
    exact h0
  · intro v hv j ls' hat H locs sl hH1 hS hLH
    cases hv
    obtain ⟨ins, hi, -, hend⟩ := hat
    obtain ⟨real, len, h, -, hd, -, hk⟩ := am_fact X hi
    have hins : ins = .ireturn := by
      unfold am_end at hend
      split at hend
      · rfl
      · split at hend <;> first | (split at hend <;> cases hend) | cases hend
      · split at hend <;> first | (split at hend <;> cases hend) | cases hend
      · split at hend <;> cases hend
      · cases hend
    subst hins
    simp only [am_chkI, Bool.and_eq_true, decide_eq_true_eq] at hk
    obtain ⟨rfl, rfl⟩ := hk
    refine va_forget (fun q hq => by rw [← hn]; exact hS.2.2 q hq) ?_
    refine W.widen (k := 1193) (n := 71728) (by omega) (by omega) ?_
    exact lw_ret hx hb hr hlocks hd
