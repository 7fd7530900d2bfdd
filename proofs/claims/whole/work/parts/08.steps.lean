/-! one instruction of the abstract machine is one of the machine -/
/-- words that stay as the tables grow warmer -/
def am_lw (w : Cond) : Bool := match w with
  | .methodLinkNest .. => true
  | .castable .. => true
  | .declares .. => true
  | .arrayOver (.object _) => true
  | w => goodWord w
/-- the words that the tables say, and that stay -/
def am_B (G : am_G) (U : State) : Prop :=
  (∀ w ∈ lw_tbl, am_lw w = true → ∀ a : Array Value, w.before a U = true) ∧
  va_K (h_D G) am_cls [(h_c G 0, .int), (h_c G 1, .long), (h_c G 2, .byte), (h_c G 3, .boolean), (h_c G 4, .object "java/lang/String")] U ∧
  (∀ q ∈ am_srL, ∀ j, am_srL[j]? = some q → vk_R q.1 q.2.1 q.2.2.1 (h_d G j) U) ∧
  (∀ j, j < 55 → vk_S 1 [am_slen.getD j 0] [am_strL.getD j []] (fun _ => h_d G j) (fun _ => h_v G j) (fun q => h_n G ≤ q) U (h_H G)) ∧
  va_Z "java/lang/String" "COMPACT_STRINGS" "Z" (.int 1) (fun q => h_n G ≤ q) U (h_H G) ∧
  va_Z "jdk/internal/util/Preconditions" "SIOOBE_FORMATTER" "Ljava/util/function/BiFunction;" (h_q G) (fun q => h_n G ≤ q) U (h_H G) ∧
  vx_Zq Bundle.tN "UNASSIGNED_STACK" Bundle.steD (fun q => h_n G ≤ q) U (h_H G) ∧ vx_Zq Bundle.tN "SUPPRESSED_SENTINEL" Bundle.listD (fun q => h_n G ≤ q) U (h_H G) ∧
  va_X (h_b G) (h_L G) (h_x G) U (h_H G) ∧ h_b G < h_n G ∧ (h_H G).size = h_n G ∧ (h_q G).category = 1 ∧ h_L G < 2 ^ 31 ∧ va_Nc "java/lang/IllegalArgumentException" "java/util/NoSuchElementException" U
def am_ini (y : Nat) : Bool := decide ((am_nm y).name = "<init>")
/-- what holds inside a method -/
def am_X (G : am_G) (p : Program) (l : Launch) (s : State) (m : MethodId) (meth : Method) (c : Code) (y : Nat) : Prop :=
  p.tables.exec = Jvm.exec ∧ c.code = am_by y ∧ c.maxLocals = am_ml y ∧ s.vm.findClass (am_on (am_own y)) = some m.cls ∧ am_B G s ∧ (am_ini y = true → meth.name = "<init>") ∧ meth.locks = false ∧ l.stackTraces = false ∧ h_n G ≤ s.heap.size ∧ (∀ q : Nat, q < h_n G → s.heap[q]? = (h_H G)[q]?) ∧
  am_chkR (am_own y) (am_ini y) (am_by y) (am_dc y) (am_code y) (am_dc y) = true
abbrev am_pc (y i : Nat) : Nat := am_pcd (am_dc y) i
/-- the machine stands where the abstract one stands -/
def am_V (G : am_G) (p : Program) (l : Launch) (e : Env) (R : Room) (s : State) (m : MethodId) (args : Array Value) (below : List Frame) (meth : Method) (c : Code) (c0 z0 : Nat) (Q : State → Prop) (y i : Nat) (ls st : List Value) (σ : am_St) : Prop :=
  ∀ (H : Heap) (locs : List Loc) (sl : Array Slot), am_H G σ H → va_S (fun q => h_n G ≤ q) s.heap H locs → am_LH G sl (am_ml y) ls → W p l e R s m args below meth c H locs (g_C σ - c0) (g_Z σ - z0) Q (F0 m (am_pc y i) sl (st.map (am_tr G)))
/-- what the check says of one instruction -/
theorem am_chk_at {own : Nat} {ini : Bool} {by_ : ByteArray} {d : List am_Dr} : ∀ (c : List Instr) (nx : List am_Dr), am_chkR own ini by_ d c nx = true → ∀ (i : Nat) (ins : Instr), c[i]? = some ins →
    ∃ (pc : Nat) (real : Instr) (len : Nat) (h : List Nat), nx[i]? = some (pc, real, len, h) ∧ decode by_ pc = .ok (real, len) ∧ (am_fall ins = true → (nx.getD (i + 1) am_dz).1 = pc + len) ∧ am_chkI own ini d pc ins real len h (nx.drop (i + 1)) = true
  | [], _, _, i, ins, hi => by simp at hi
  | ins0 :: c, [], h, _, _, _ => by simp [am_chkR] at h
  | ins0 :: c, (pc, real, len, hh) :: nx, h, i, ins, hi => by
    simp only [am_chkR, Bool.and_eq_true, decide_eq_true_eq, Bool.or_eq_true, Bool.not_eq_true'] at h
    obtain ⟨⟨⟨h1, h2⟩, h3⟩, h4⟩ := h
    cases i with
    | zero =>
      simp only [List.getElem?_cons_zero, Option.some.injEq] at hi
      subst hi
      refine ⟨pc, real, len, hh, rfl, h1, fun hf => ?_, h3⟩
      rcases h2 with h2 | h2
      · rw [hf] at h2; cases h2
      · cases nx <;> exact h2
    | succ i =>
      simp only [List.getElem?_cons_succ] at hi
      obtain ⟨pc', real', len', h', e1, e2, e3, e4⟩ := am_chk_at c nx h4 i ins hi
      exact ⟨pc', real', len', h', e1, e2, e3, e4⟩
theorem am_fact {G : am_G} {p : Program} {l : Launch} {s : State} {m : MethodId} {meth : Method} {c : Code} {y : Nat} (X : am_X G p l s m meth c y) {i : Nat} {ins : Instr} (hi : (am_code y)[i]? = some ins) :
    ∃ (real : Instr) (len : Nat) (h : List Nat), (am_dc y)[i]? = some (am_pc y i, real, len, h) ∧ decode (am_by y) (am_pc y i) = .ok (real, len) ∧ (am_fall ins = true → am_pc y (i + 1) = am_pc y i + len) ∧ am_chkI (am_own y) (am_ini y) (am_dc y) (am_pc y i) ins real len h ((am_dc y).drop (i + 1)) = true := by
  obtain ⟨pc, real, len, h, e1, e2, e3, e4⟩ := am_chk_at _ _ X.2.2.2.2.2.2.2.2.2.2 i ins hi
  have hp : am_pc y i = pc := by simp [am_pc, am_pcd, List.getD, e1]
  exact ⟨real, len, h, by rw [hp]; exact e1, by rw [hp]; exact e2, fun hf => by rw [hp]; exact e3 hf, by rw [hp]; exact e4⟩
section Steps
variable {G : am_G} {p : Program} {l : Launch} {e : Env} {R : Room} {s : State} {m : MethodId} {args : Array Value} {below : List Frame} {meth : Method} {c : Code} {c0 z0 : Nat} {Q : State → Prop} {y i : Nat} {ls st : List Value} {σ : am_St}
theorem am_w (X : am_X G p l s m meth c y) {h : List Nat} {w : Cond} (hw : am_word h w = true) (hg : am_lw w = true) (a : Array Value) : w.before a s = true :=
  X.2.2.2.2.1.1 w (List.mem_of_getElem? (of_decide_eq_true hw)) hg a
theorem am_s_iadd (X : am_X G p l s m meth c y) (hi : (am_code y)[i]? = some (.iadd)) {x z : Int32} {r : List Value} (k : am_V G p l e R s m args below meth c c0 z0 Q y (i + 1) ls (.int (x + z) :: r) σ) : am_V G p l e R s m args below meth c c0 z0 Q y i ls (.int z :: .int x :: r) σ := by
  obtain ⟨real, len, h, -, hd, hn, hk⟩ := am_fact X hi
  simp only [am_chkI, Bool.and_eq_true, decide_eq_true_eq] at hk
  obtain ⟨rfl, rfl⟩ := hk
  intro H locs sl hH hS hL
  have hn1 := hn rfl
  clear hn
  refine lv_iadd X.1 X.2.1 hd ?_
  rw [← hn1]
  exact k H locs sl hH hS hL
theorem am_s_isub (X : am_X G p l s m meth c y) (hi : (am_code y)[i]? = some (.isub)) {x z : Int32} {r : List Value} (k : am_V G p l e R s m args below meth c c0 z0 Q y (i + 1) ls (.int (x - z) :: r) σ) : am_V G p l e R s m args below meth c c0 z0 Q y i ls (.int z :: .int x :: r) σ := by
  obtain ⟨real, len, h, -, hd, hn, hk⟩ := am_fact X hi
  simp only [am_chkI, Bool.and_eq_true, decide_eq_true_eq] at hk
  obtain ⟨rfl, rfl⟩ := hk
  intro H locs sl hH hS hL
  have hn1 := hn rfl
  clear hn
  refine lv_isub X.1 X.2.1 hd ?_
  rw [← hn1]
  exact k H locs sl hH hS hL
theorem am_s_imul (X : am_X G p l s m meth c y) (hi : (am_code y)[i]? = some (.imul)) {x z : Int32} {r : List Value} (k : am_V G p l e R s m args below meth c c0 z0 Q y (i + 1) ls (.int (x * z) :: r) σ) : am_V G p l e R s m args below meth c c0 z0 Q y i ls (.int z :: .int x :: r) σ := by
  obtain ⟨real, len, h, -, hd, hn, hk⟩ := am_fact X hi
  simp only [am_chkI, Bool.and_eq_true, decide_eq_true_eq] at hk
  obtain ⟨rfl, rfl⟩ := hk
  intro H locs sl hH hS hL
  have hn1 := hn rfl
  clear hn
  refine lv_imul X.1 X.2.1 hd ?_
  rw [← hn1]
  exact k H locs sl hH hS hL
theorem am_s_iand (X : am_X G p l s m meth c y) (hi : (am_code y)[i]? = some (.iand)) {x z : Int32} {r : List Value} (k : am_V G p l e R s m args below meth c c0 z0 Q y (i + 1) ls (.int (x &&& z) :: r) σ) : am_V G p l e R s m args below meth c c0 z0 Q y i ls (.int z :: .int x :: r) σ := by
  obtain ⟨real, len, h, -, hd, hn, hk⟩ := am_fact X hi
  simp only [am_chkI, Bool.and_eq_true, decide_eq_true_eq] at hk
  obtain ⟨rfl, rfl⟩ := hk
  intro H locs sl hH hS hL
  have hn1 := hn rfl
  clear hn
  refine lv_iand X.1 X.2.1 hd ?_
  rw [← hn1]
  exact k H locs sl hH hS hL
theorem am_s_ior (X : am_X G p l s m meth c y) (hi : (am_code y)[i]? = some (.ior)) {x z : Int32} {r : List Value} (k : am_V G p l e R s m args below meth c c0 z0 Q y (i + 1) ls (.int (x ||| z) :: r) σ) : am_V G p l e R s m args below meth c c0 z0 Q y i ls (.int z :: .int x :: r) σ := by
  obtain ⟨real, len, h, -, hd, hn, hk⟩ := am_fact X hi
  simp only [am_chkI, Bool.and_eq_true, decide_eq_true_eq] at hk
  obtain ⟨rfl, rfl⟩ := hk
  intro H locs sl hH hS hL
  have hn1 := hn rfl
  clear hn
  refine lv_ior X.1 X.2.1 hd ?_
  rw [← hn1]
  exact k H locs sl hH hS hL
theorem am_s_ixor (X : am_X G p l s m meth c y) (hi : (am_code y)[i]? = some (.ixor)) {x z : Int32} {r : List Value} (k : am_V G p l e R s m args below meth c c0 z0 Q y (i + 1) ls (.int (x ^^^ z) :: r) σ) : am_V G p l e R s m args below meth c c0 z0 Q y i ls (.int z :: .int x :: r) σ := by
  obtain ⟨real, len, h, -, hd, hn, hk⟩ := am_fact X hi
  simp only [am_chkI, Bool.and_eq_true, decide_eq_true_eq] at hk
  obtain ⟨rfl, rfl⟩ := hk
  intro H locs sl hH hS hL
  have hn1 := hn rfl
  clear hn
  refine lv_ixor X.1 X.2.1 hd ?_
  rw [← hn1]
  exact k H locs sl hH hS hL
theorem am_s_ishl (X : am_X G p l s m meth c y) (hi : (am_code y)[i]? = some (.ishl)) {x z : Int32} {r : List Value} (k : am_V G p l e R s m args below meth c c0 z0 Q y (i + 1) ls (.int (x <<< (z &&& 31)) :: r) σ) : am_V G p l e R s m args below meth c c0 z0 Q y i ls (.int z :: .int x :: r) σ := by
  obtain ⟨real, len, h, -, hd, hn, hk⟩ := am_fact X hi
  simp only [am_chkI, Bool.and_eq_true, decide_eq_true_eq] at hk
  obtain ⟨rfl, rfl⟩ := hk
  intro H locs sl hH hS hL
  have hn1 := hn rfl
  clear hn
  refine lv_ishl X.1 X.2.1 hd ?_
  rw [← hn1]
  exact k H locs sl hH hS hL
theorem am_s_ishr (X : am_X G p l s m meth c y) (hi : (am_code y)[i]? = some (.ishr)) {x z : Int32} {r : List Value} (k : am_V G p l e R s m args below meth c c0 z0 Q y (i + 1) ls (.int (x >>> (z &&& 31)) :: r) σ) : am_V G p l e R s m args below meth c c0 z0 Q y i ls (.int z :: .int x :: r) σ := by
  obtain ⟨real, len, h, -, hd, hn, hk⟩ := am_fact X hi
  simp only [am_chkI, Bool.and_eq_true, decide_eq_true_eq] at hk
  obtain ⟨rfl, rfl⟩ := hk
  intro H locs sl hH hS hL
  have hn1 := hn rfl
  clear hn
  refine lv_ishr X.1 X.2.1 hd ?_
  rw [← hn1]
  exact k H locs sl hH hS hL
theorem am_s_iushr (X : am_X G p l s m meth c y) (hi : (am_code y)[i]? = some (.iushr)) {x z : Int32} {r : List Value} (k : am_V G p l e R s m args below meth c c0 z0 Q y (i + 1) ls (.int (x.toUInt32 >>> (z.toUInt32 &&& Int32.toUInt32 31)).toInt32 :: r) σ) : am_V G p l e R s m args below meth c c0 z0 Q y i ls (.int z :: .int x :: r) σ := by
  obtain ⟨real, len, h, -, hd, hn, hk⟩ := am_fact X hi
  simp only [am_chkI, Bool.and_eq_true, decide_eq_true_eq] at hk
  obtain ⟨rfl, rfl⟩ := hk
  intro H locs sl hH hS hL
  have hn1 := hn rfl
  clear hn
  refine lv_iushr X.1 X.2.1 hd rfl ?_
  rw [← hn1]
  exact k H locs sl hH hS hL
theorem am_s_idiv (X : am_X G p l s m meth c y) (hi : (am_code y)[i]? = some (.idiv)) {x z : Int32} {r : List Value} (hz : ¬ z = 0) (k : am_V G p l e R s m args below meth c c0 z0 Q y (i + 1) ls (.int (x / z) :: r) σ) : am_V G p l e R s m args below meth c c0 z0 Q y i ls (.int z :: .int x :: r) σ := by
  obtain ⟨real, len, h, -, hd, hn, hk⟩ := am_fact X hi
  simp only [am_chkI, Bool.and_eq_true, decide_eq_true_eq] at hk
  obtain ⟨rfl, rfl⟩ := hk
  intro H locs sl hH hS hL
  have hn1 := hn rfl
  clear hn
  refine lv_idiv X.1 X.2.1 hd hz ?_
  rw [← hn1]
  exact k H locs sl hH hS hL
theorem am_s_irem (X : am_X G p l s m meth c y) (hi : (am_code y)[i]? = some (.irem)) {x z : Int32} {r : List Value} (hz : ¬ z = 0) (k : am_V G p l e R s m args below meth c c0 z0 Q y (i + 1) ls (.int (x - x / z * z) :: r) σ) : am_V G p l e R s m args below meth c c0 z0 Q y i ls (.int z :: .int x :: r) σ := by
  obtain ⟨real, len, h, -, hd, hn, hk⟩ := am_fact X hi
  simp only [am_chkI, Bool.and_eq_true, decide_eq_true_eq] at hk
  obtain ⟨rfl, rfl⟩ := hk
  intro H locs sl hH hS hL
  have hn1 := hn rfl
  clear hn
  refine lv_irem X.1 X.2.1 hd hz ?_
  rw [← hn1]
  exact k H locs sl hH hS hL
theorem am_s_ladd (X : am_X G p l s m meth c y) (hi : (am_code y)[i]? = some (.ladd)) {x z : Int64} {r : List Value} (k : am_V G p l e R s m args below meth c c0 z0 Q y (i + 1) ls (.long (x + z) :: r) σ) : am_V G p l e R s m args below meth c c0 z0 Q y i ls (.long z :: .long x :: r) σ := by
  obtain ⟨real, len, h, -, hd, hn, hk⟩ := am_fact X hi
  simp only [am_chkI, Bool.and_eq_true, decide_eq_true_eq] at hk
  obtain ⟨rfl, rfl⟩ := hk
  intro H locs sl hH hS hL
  have hn1 := hn rfl
  clear hn
  refine lv_ladd X.1 X.2.1 hd ?_
  rw [← hn1]
  exact k H locs sl hH hS hL
theorem am_s_lsub (X : am_X G p l s m meth c y) (hi : (am_code y)[i]? = some (.lsub)) {x z : Int64} {r : List Value} (k : am_V G p l e R s m args below meth c c0 z0 Q y (i + 1) ls (.long (x - z) :: r) σ) : am_V G p l e R s m args below meth c c0 z0 Q y i ls (.long z :: .long x :: r) σ := by
  obtain ⟨real, len, h, -, hd, hn, hk⟩ := am_fact X hi
  simp only [am_chkI, Bool.and_eq_true, decide_eq_true_eq] at hk
  obtain ⟨rfl, rfl⟩ := hk
  intro H locs sl hH hS hL
  have hn1 := hn rfl
  clear hn
  refine lv_lsub X.1 X.2.1 hd ?_
  rw [← hn1]
  exact k H locs sl hH hS hL
theorem am_s_land (X : am_X G p l s m meth c y) (hi : (am_code y)[i]? = some (.land)) {x z : Int64} {r : List Value} (k : am_V G p l e R s m args below meth c c0 z0 Q y (i + 1) ls (.long (x &&& z) :: r) σ) : am_V G p l e R s m args below meth c c0 z0 Q y i ls (.long z :: .long x :: r) σ := by
  obtain ⟨real, len, h, -, hd, hn, hk⟩ := am_fact X hi
  simp only [am_chkI, Bool.and_eq_true, decide_eq_true_eq] at hk
  obtain ⟨rfl, rfl⟩ := hk
  intro H locs sl hH hS hL
  have hn1 := hn rfl
  clear hn
  refine lv_land X.1 X.2.1 hd ?_
  rw [← hn1]
  exact k H locs sl hH hS hL
theorem am_s_lor (X : am_X G p l s m meth c y) (hi : (am_code y)[i]? = some (.lor)) {x z : Int64} {r : List Value} (k : am_V G p l e R s m args below meth c c0 z0 Q y (i + 1) ls (.long (x ||| z) :: r) σ) : am_V G p l e R s m args below meth c c0 z0 Q y i ls (.long z :: .long x :: r) σ := by
  obtain ⟨real, len, h, -, hd, hn, hk⟩ := am_fact X hi
  simp only [am_chkI, Bool.and_eq_true, decide_eq_true_eq] at hk
  obtain ⟨rfl, rfl⟩ := hk
  intro H locs sl hH hS hL
  have hn1 := hn rfl
  clear hn
  refine lv_lor X.1 X.2.1 hd ?_
  rw [← hn1]
  exact k H locs sl hH hS hL
theorem am_s_lshl (X : am_X G p l s m meth c y) (hi : (am_code y)[i]? = some (.lshl)) {x : Int64} {z : Int32} {r : List Value} (k : am_V G p l e R s m args below meth c c0 z0 Q y (i + 1) ls (.long (x <<< (z.toInt64 &&& 63)) :: r) σ) : am_V G p l e R s m args below meth c c0 z0 Q y i ls (.int z :: .long x :: r) σ := by
  obtain ⟨real, len, h, -, hd, hn, hk⟩ := am_fact X hi
  simp only [am_chkI, Bool.and_eq_true, decide_eq_true_eq] at hk
  obtain ⟨rfl, rfl⟩ := hk
  intro H locs sl hH hS hL
  have hn1 := hn rfl
  clear hn
  refine lv_lshl X.1 X.2.1 hd rfl ?_
  rw [← hn1]
  exact k H locs sl hH hS hL
theorem am_s_lshr (X : am_X G p l s m meth c y) (hi : (am_code y)[i]? = some (.lshr)) {x : Int64} {z : Int32} {r : List Value} (k : am_V G p l e R s m args below meth c c0 z0 Q y (i + 1) ls (.long (x >>> (z.toInt64 &&& 63)) :: r) σ) : am_V G p l e R s m args below meth c c0 z0 Q y i ls (.int z :: .long x :: r) σ := by
  obtain ⟨real, len, h, -, hd, hn, hk⟩ := am_fact X hi
  simp only [am_chkI, Bool.and_eq_true, decide_eq_true_eq] at hk
  obtain ⟨rfl, rfl⟩ := hk
  intro H locs sl hH hS hL
  have hn1 := hn rfl
  clear hn
  refine lv_lshr X.1 X.2.1 hd rfl ?_
  rw [← hn1]
  exact k H locs sl hH hS hL
theorem am_s_lushr (X : am_X G p l s m meth c y) (hi : (am_code y)[i]? = some (.lushr)) {x : Int64} {z : Int32} {r : List Value} (k : am_V G p l e R s m args below meth c c0 z0 Q y (i + 1) ls (.long (x.toUInt64 >>> (z.toInt64.toUInt64 &&& Int64.toUInt64 63)).toInt64 :: r) σ) : am_V G p l e R s m args below meth c c0 z0 Q y i ls (.int z :: .long x :: r) σ := by
  obtain ⟨real, len, h, -, hd, hn, hk⟩ := am_fact X hi
  simp only [am_chkI, Bool.and_eq_true, decide_eq_true_eq] at hk
  obtain ⟨rfl, rfl⟩ := hk
  intro H locs sl hH hS hL
  have hn1 := hn rfl
  clear hn
  refine lv_lushr X.1 X.2.1 hd rfl ?_
  rw [← hn1]
  exact k H locs sl hH hS hL
theorem am_s_ineg (X : am_X G p l s m meth c y) (hi : (am_code y)[i]? = some (.ineg)) {x : Int32} {r : List Value} (k : am_V G p l e R s m args below meth c c0 z0 Q y (i + 1) ls (.int (-x) :: r) σ) : am_V G p l e R s m args below meth c c0 z0 Q y i ls (.int x :: r) σ := by
  obtain ⟨real, len, h, -, hd, hn, hk⟩ := am_fact X hi
  simp only [am_chkI, Bool.and_eq_true, decide_eq_true_eq] at hk
  obtain ⟨rfl, rfl⟩ := hk
  intro H locs sl hH hS hL
  have hn1 := hn rfl
  clear hn
  refine lv_ineg X.1 X.2.1 hd ?_
  rw [← hn1]
  exact k H locs sl hH hS hL
theorem am_s_i2l (X : am_X G p l s m meth c y) (hi : (am_code y)[i]? = some (.i2l)) {x : Int32} {r : List Value} (k : am_V G p l e R s m args below meth c c0 z0 Q y (i + 1) ls (.long x.toInt64 :: r) σ) : am_V G p l e R s m args below meth c c0 z0 Q y i ls (.int x :: r) σ := by
  obtain ⟨real, len, h, -, hd, hn, hk⟩ := am_fact X hi
  simp only [am_chkI, Bool.and_eq_true, decide_eq_true_eq] at hk
  obtain ⟨rfl, rfl⟩ := hk
  intro H locs sl hH hS hL
  have hn1 := hn rfl
  clear hn
  refine lv_i2l X.1 X.2.1 hd rfl ?_
  rw [← hn1]
  exact k H locs sl hH hS hL
theorem am_s_i2b (X : am_X G p l s m meth c y) (hi : (am_code y)[i]? = some (.i2b)) {x : Int32} {r : List Value} (k : am_V G p l e R s m args below meth c c0 z0 Q y (i + 1) ls (.int x.toInt8.toInt32 :: r) σ) : am_V G p l e R s m args below meth c c0 z0 Q y i ls (.int x :: r) σ := by
  obtain ⟨real, len, h, -, hd, hn, hk⟩ := am_fact X hi
  simp only [am_chkI, Bool.and_eq_true, decide_eq_true_eq] at hk
  obtain ⟨rfl, rfl⟩ := hk
  intro H locs sl hH hS hL
  have hn1 := hn rfl
  clear hn
  refine lv_i2b X.1 X.2.1 hd rfl ?_
  rw [← hn1]
  exact k H locs sl hH hS hL
theorem am_s_i2c (X : am_X G p l s m meth c y) (hi : (am_code y)[i]? = some (.i2c)) {x : Int32} {r : List Value} (k : am_V G p l e R s m args below meth c c0 z0 Q y (i + 1) ls (.int (x.toUInt32 % 65536).toInt32 :: r) σ) : am_V G p l e R s m args below meth c c0 z0 Q y i ls (.int x :: r) σ := by
  obtain ⟨real, len, h, -, hd, hn, hk⟩ := am_fact X hi
  simp only [am_chkI, Bool.and_eq_true, decide_eq_true_eq] at hk
  obtain ⟨rfl, rfl⟩ := hk
  intro H locs sl hH hS hL
  have hn1 := hn rfl
  clear hn
  refine lv_i2c X.1 X.2.1 hd rfl ?_
  rw [← hn1]
  exact k H locs sl hH hS hL
theorem am_s_l2i (X : am_X G p l s m meth c y) (hi : (am_code y)[i]? = some (.l2i)) {x : Int64} {r : List Value} (k : am_V G p l e R s m args below meth c c0 z0 Q y (i + 1) ls (.int x.toInt32 :: r) σ) : am_V G p l e R s m args below meth c c0 z0 Q y i ls (.long x :: r) σ := by
  obtain ⟨real, len, h, -, hd, hn, hk⟩ := am_fact X hi
  simp only [am_chkI, Bool.and_eq_true, decide_eq_true_eq] at hk
  obtain ⟨rfl, rfl⟩ := hk
  intro H locs sl hH hS hL
  have hn1 := hn rfl
  clear hn
  refine lv_l2i X.1 X.2.1 hd rfl ?_
  rw [← hn1]
  exact k H locs sl hH hS hL
theorem am_s_lcmp (X : am_X G p l s m meth c y) (hi : (am_code y)[i]? = some (.lcmp)) {x z : Int64} {r : List Value} (k : am_V G p l e R s m args below meth c c0 z0 Q y (i + 1) ls (.int (lg_cmp x z) :: r) σ) : am_V G p l e R s m args below meth c c0 z0 Q y i ls (.long z :: .long x :: r) σ := by
  obtain ⟨real, len, h, -, hd, hn, hk⟩ := am_fact X hi
  simp only [am_chkI, Bool.and_eq_true, decide_eq_true_eq] at hk
  obtain ⟨rfl, rfl⟩ := hk
  intro H locs sl hH hS hL
  have hn1 := hn rfl
  clear hn
  refine W.lcmp X.1 X.2.1 hd ?_
  rw [← hn1]
  exact k H locs sl hH hS hL
theorem am_s_dup (X : am_X G p l s m meth c y) (hi : (am_code y)[i]? = some (.dup)) {v : Value} {r : List Value} (hv : v.category = 1) (k : am_V G p l e R s m args below meth c c0 z0 Q y (i + 1) ls (v :: v :: r) σ) : am_V G p l e R s m args below meth c c0 z0 Q y i ls (v :: r) σ := by
  obtain ⟨real, len, h, -, hd, hn, hk⟩ := am_fact X hi
  simp only [am_chkI, Bool.and_eq_true, decide_eq_true_eq] at hk
  obtain ⟨rfl, rfl⟩ := hk
  intro H locs sl hH hS hL
  have hn1 := hn rfl
  clear hn
  refine lv_dup X.1 X.2.1 hd (by rw [am_tr_cat X.2.2.2.2.1.2.2.2.2.2.2.2.2.2.2.2.1]; exact hv) ?_
  rw [← hn1]
  exact k H locs sl hH hS hL
theorem am_s_pop (X : am_X G p l s m meth c y) (hi : (am_code y)[i]? = some (.pop)) {v : Value} {r : List Value} (hv : v.category = 1) (k : am_V G p l e R s m args below meth c c0 z0 Q y (i + 1) ls (r) σ) : am_V G p l e R s m args below meth c c0 z0 Q y i ls (v :: r) σ := by
  obtain ⟨real, len, h, -, hd, hn, hk⟩ := am_fact X hi
  simp only [am_chkI, Bool.and_eq_true, decide_eq_true_eq] at hk
  obtain ⟨rfl, rfl⟩ := hk
  intro H locs sl hH hS hL
  have hn1 := hn rfl
  clear hn
  refine lv_pop X.1 X.2.1 hd (by rw [am_tr_cat X.2.2.2.2.1.2.2.2.2.2.2.2.2.2.2.2.1]; exact hv) ?_
  rw [← hn1]
  exact k H locs sl hH hS hL
theorem am_s_dup2 (X : am_X G p l s m meth c y) (hi : (am_code y)[i]? = some (.dup2)) {v u : Value} {r : List Value} (hv : v.category = 1) (hu : u.category = 1) (k : am_V G p l e R s m args below meth c c0 z0 Q y (i + 1) ls (v :: u :: v :: u :: r) σ) : am_V G p l e R s m args below meth c c0 z0 Q y i ls (v :: u :: r) σ := by
  obtain ⟨real, len, h, -, hd, hn, hk⟩ := am_fact X hi
  simp only [am_chkI, Bool.and_eq_true, decide_eq_true_eq] at hk
  obtain ⟨rfl, rfl⟩ := hk
  intro H locs sl hH hS hL
  have hn1 := hn rfl
  clear hn
  refine lv_dup2_11 X.1 X.2.1 hd (by rw [am_tr_cat X.2.2.2.2.1.2.2.2.2.2.2.2.2.2.2.2.1]; exact hv) (by rw [am_tr_cat X.2.2.2.2.1.2.2.2.2.2.2.2.2.2.2.2.1]; exact hu) ?_
  rw [← hn1]
  exact k H locs sl hH hS hL
theorem am_s_ldc_w (X : am_X G p l s m meth c y) {n : Nat} (hi : (am_code y)[i]? = some (.ldc_w n)) (k : am_V G p l e R s m args below meth c c0 z0 Q y (i + 1) ls (.int (nI n) :: st) σ) : am_V G p l e R s m args below meth c c0 z0 Q y i ls st σ := by
  obtain ⟨real, len, h, -, hd, hn, hk⟩ := am_fact X hi
  intro H locs sl hH hS hL
  have hn1 := hn rfl
  clear hn
  have k := k H locs sl hH hS hL
  rw [hn1] at k
  unfold am_chkI at hk
  cases real with
  | iconst q =>
    simp only [Bool.and_eq_true, decide_eq_true_eq] at hk
    obtain ⟨rfl, h2⟩ := hk
    exact lv_iconst X.1 X.2.1 hd h2 k
  | bipush q =>
    simp only [Bool.and_eq_true, decide_eq_true_eq] at hk
    obtain ⟨rfl, h2⟩ := hk
    exact lv_bipush X.1 X.2.1 hd h2 k
  | sipush q =>
    simp only [Bool.and_eq_true, decide_eq_true_eq] at hk
    obtain ⟨rfl, h2⟩ := hk
    exact lv_sipush X.1 X.2.1 hd h2 k
  | ldc q =>
    simp only [Bool.and_eq_true, decide_eq_true_eq] at hk
    obtain ⟨rfl, h2⟩ := hk
    exact lv_ldc X.1 X.2.1 X.2.2.2.1 (am_w X h2 rfl args) hd k
  | ldc_w q =>
    simp only [Bool.and_eq_true, decide_eq_true_eq] at hk
    obtain ⟨rfl, h2⟩ := hk
    exact lv_ldcw X.1 X.2.1 X.2.2.2.1 (am_w X h2 rfl args) hd k
  | _ => cases hk
theorem am_s_iconst (X : am_X G p l s m meth c y) {n : Int} (hi : (am_code y)[i]? = some (.iconst n)) (k : am_V G p l e R s m args below meth c c0 z0 Q y (i + 1) ls (.int (Int32.ofInt n) :: st) σ) : am_V G p l e R s m args below meth c c0 z0 Q y i ls st σ := by
  obtain ⟨real, len, h, -, hd, hn, hk⟩ := am_fact X hi
  intro H locs sl hH hS hL
  have hn1 := hn rfl
  clear hn
  have k := k H locs sl hH hS hL
  rw [hn1] at k
  unfold am_chkI at hk
  cases real with
  | iconst q =>
    simp only [Bool.and_eq_true, decide_eq_true_eq] at hk
    obtain ⟨rfl, h2⟩ := hk
    exact lv_iconst X.1 X.2.1 hd h2 k
  | bipush q =>
    simp only [Bool.and_eq_true, decide_eq_true_eq] at hk
    obtain ⟨rfl, h2⟩ := hk
    exact lv_bipush X.1 X.2.1 hd h2 k
  | sipush q =>
    simp only [Bool.and_eq_true, decide_eq_true_eq] at hk
    obtain ⟨rfl, h2⟩ := hk
    exact lv_sipush X.1 X.2.1 hd h2 k
  | _ => cases hk
theorem am_s_ldc2_w (X : am_X G p l s m meth c y) {n : Nat} (hi : (am_code y)[i]? = some (.ldc2_w n)) (k : am_V G p l e R s m args below meth c c0 z0 Q y (i + 1) ls (.long (lN n) :: st) σ) : am_V G p l e R s m args below meth c c0 z0 Q y i ls st σ := by
  obtain ⟨real, len, h, -, hd, hn, hk⟩ := am_fact X hi
  intro H locs sl hH hS hL
  have hn1 := hn rfl
  clear hn
  have k := k H locs sl hH hS hL
  rw [hn1] at k
  unfold am_chkI at hk
  cases real with
  | ldc2_w q =>
    simp only [Bool.and_eq_true, decide_eq_true_eq] at hk
    obtain ⟨rfl, h2⟩ := hk
    exact lv_ldc2 X.1 X.2.1 X.2.2.2.1 (am_w X h2 rfl args) hd k
  | _ => cases hk
theorem am_s_lconst (X : am_X G p l s m meth c y) {n : Fin 2} (hi : (am_code y)[i]? = some (.lconst n)) (k : am_V G p l e R s m args below meth c c0 z0 Q y (i + 1) ls (.long (lN n.val) :: st) σ) : am_V G p l e R s m args below meth c c0 z0 Q y i ls st σ := by
  obtain ⟨real, len, h, -, hd, hn, hk⟩ := am_fact X hi
  intro H locs sl hH hS hL
  have hn1 := hn rfl
  clear hn
  have k := k H locs sl hH hS hL
  rw [hn1] at k
  simp only [am_chkI, Bool.and_eq_true, decide_eq_true_eq] at hk
  obtain ⟨rfl, rfl⟩ := hk
  exact lv_lconst X.1 X.2.1 hd rfl k
theorem am_s_ldc (X : am_X G p l s m meth c y) {n : Nat} (hi : (am_code y)[i]? = some (.ldc n)) (hn5 : n < 55) (k : am_V G p l e R s m args below meth c c0 z0 Q y (i + 1) ls (.ref (2000000 + n) :: st) σ) : am_V G p l e R s m args below meth c c0 z0 Q y i ls st σ := by
  obtain ⟨real, len, h, -, hd, hn, hk⟩ := am_fact X hi
  intro H locs sl hH hS hL
  have hn1 := hn rfl
  clear hn
  have k := k H locs sl hH hS hL
  rw [hn1] at k
  unfold am_chkI at hk
  have key : ∀ q : Nat, am_isS (am_own y) q n = true → ∃ tx, vk_R (am_on (am_own y)) q tx (h_d G n) s := by
    intro q hq
    have h1 := of_decide_eq_true hq
    cases h2 : am_srL[n]? with
    | none => rw [h2] at h1; cases h1
    | some z =>
      rw [h2] at h1
      simp only [Option.map_some, Option.some.injEq, Prod.mk.injEq] at h1
      have h3 := X.2.2.2.2.1.2.2.1 z (List.mem_of_getElem? h2) n h2
      rw [h1.1, h1.2] at h3
      exact ⟨_, h3⟩
  cases real with
  | ldc q =>
    simp only [Bool.and_eq_true, decide_eq_true_eq] at hk
    obtain ⟨rfl, h2⟩ := hk
    obtain ⟨tx, hR⟩ := key q h2
    refine va_ldcS X.1 X.2.1 X.2.2.2.1 hR hd ?_
    have e : am_tr G (.ref (2000000 + n)) = .ref (h_d G n) := am_tr_str hn5
    rw [List.map_cons, e] at k
    exact k
  | _ => cases hk
theorem am_s_iload (X : am_X G p l s m meth c y) {q : Nat} {x : Int32} (hi : (am_code y)[i]? = some (.iload q)) (hv : ls.getD q am_U = .int x) (k : am_V G p l e R s m args below meth c c0 z0 Q y (i + 1) ls (.int x :: st) σ) : am_V G p l e R s m args below meth c c0 z0 Q y i ls st σ := by
  obtain ⟨real, len, h, -, hd, hn, hk⟩ := am_fact X hi
  intro H locs sl hH hS hL
  have hn1 := hn rfl
  clear hn
  have k := k H locs sl hH hS hL
  rw [hn1] at k
  have hl : sl[q]? = some (.val (.int x)) := hL.at hv (by intro z; cases z)
  unfold am_chkI at hk
  cases real with
  | iload q' =>
    simp only [Bool.and_eq_true, decide_eq_true_eq] at hk
    obtain ⟨rfl, rfl⟩ := hk
    exact lv_iload X.1 X.2.1 hd hl k
  | iload_n q' =>
    simp only [Bool.and_eq_true, decide_eq_true_eq] at hk
    obtain ⟨rfl, h2⟩ := hk
    exact lv_iload_n X.1 X.2.1 hd h2 hl k
  | _ => cases hk
theorem am_s_lload (X : am_X G p l s m meth c y) {q : Nat} {x : Int64} (hi : (am_code y)[i]? = some (.lload q)) (hv : ls.getD q am_U = .long x) (k : am_V G p l e R s m args below meth c c0 z0 Q y (i + 1) ls (.long x :: st) σ) : am_V G p l e R s m args below meth c c0 z0 Q y i ls st σ := by
  obtain ⟨real, len, h, -, hd, hn, hk⟩ := am_fact X hi
  intro H locs sl hH hS hL
  have hn1 := hn rfl
  clear hn
  have k := k H locs sl hH hS hL
  rw [hn1] at k
  have hl : sl[q]? = some (.val (.long x)) := hL.at hv (by intro z; cases z)
  unfold am_chkI at hk
  cases real with
  | lload q' =>
    simp only [Bool.and_eq_true, decide_eq_true_eq] at hk
    obtain ⟨rfl, rfl⟩ := hk
    exact lv_lload X.1 X.2.1 hd hl k
  | lload_n q' =>
    simp only [Bool.and_eq_true, decide_eq_true_eq] at hk
    obtain ⟨rfl, h2⟩ := hk
    exact lv_lload_n X.1 X.2.1 hd h2 hl k
  | _ => cases hk
theorem am_s_aload (X : am_X G p l s m meth c y) {q a : Nat} (hi : (am_code y)[i]? = some (.aload q)) (hv : ls.getD q am_U = .ref a) (ha : a < 4000000) (k : am_V G p l e R s m args below meth c c0 z0 Q y (i + 1) ls (.ref a :: st) σ) : am_V G p l e R s m args below meth c c0 z0 Q y i ls st σ := by
  obtain ⟨real, len, h, -, hd, hn, hk⟩ := am_fact X hi
  intro H locs sl hH hS hL
  have hn1 := hn rfl
  clear hn
  have k := k H locs sl hH hS hL
  rw [hn1, List.map_cons, am_tr_ref ha] at k
  have hl : sl[q]? = some (.val (.ref (am_ad G a))) := by
    have h1 := hL.at hv (by intro z; cases z)
    rw [am_tr_ref ha] at h1
    exact h1
  unfold am_chkI at hk
  cases real with
  | aload q' =>
    simp only [Bool.and_eq_true, decide_eq_true_eq] at hk
    obtain ⟨rfl, rfl⟩ := hk
    exact lv_aload X.1 X.2.1 hd hl k
  | aload_n q' =>
    simp only [Bool.and_eq_true, decide_eq_true_eq] at hk
    obtain ⟨rfl, h2⟩ := hk
    exact lv_aload_n X.1 X.2.1 hd h2 hl k
  | _ => cases hk
theorem am_s_istore (X : am_X G p l s m meth c y) {q : Nat} {x : Int32} {ls' : List Value} (hi : (am_code y)[i]? = some (.istore q)) (hs : am_sto ls q (.int x) = some ls') (k : am_V G p l e R s m args below meth c c0 z0 Q y (i + 1) ls' st σ) : am_V G p l e R s m args below meth c c0 z0 Q y i ls (.int x :: st) σ := by
  obtain ⟨real, len, h, -, hd, hn, hk⟩ := am_fact X hi
  intro H locs sl hH hS hL
  have hn1 := hn rfl
  clear hn
  have hq0 : q < am_ml y := by
    unfold am_sto at hs
    split at hs
    · rename_i hc; rw [← hL.2.2.1]; exact hc.1
    · cases hs
  rw [List.map_cons]
  have ht : am_tr G (.int x) = .int x := rfl
  unfold am_chkI at hk
  cases real with
  | istore q' =>
    simp only [Bool.and_eq_true, decide_eq_true_eq] at hk
    obtain ⟨rfl, rfl⟩ := hk
    refine lv_istore X.1 X.2.1 hd hL.has hq0 rfl (fun sl' h' => ?_)
    rw [← hn1]
    exact k H locs sl' hH hS (hL.sto X.2.2.2.2.1.2.2.2.2.2.2.2.2.2.2.2.1 hs (by rw [ht]; exact h'))
  | istore_n q' =>
    simp only [Bool.and_eq_true, decide_eq_true_eq] at hk
    obtain ⟨rfl, h2⟩ := hk
    refine lv_istore_n X.1 X.2.1 hd h2 hL.has hq0 rfl (fun sl' h' => ?_)
    rw [← hn1]
    exact k H locs sl' hH hS (hL.sto X.2.2.2.2.1.2.2.2.2.2.2.2.2.2.2.2.1 hs (by rw [ht]; exact h'))
  | _ => cases hk
theorem am_s_astore (X : am_X G p l s m meth c y) {q : Nat} {x : Nat} {ls' : List Value} (hi : (am_code y)[i]? = some (.astore q)) (ha : x < 4000000) (hs : am_sto ls q (.ref x) = some ls') (k : am_V G p l e R s m args below meth c c0 z0 Q y (i + 1) ls' st σ) : am_V G p l e R s m args below meth c c0 z0 Q y i ls (.ref x :: st) σ := by
  obtain ⟨real, len, h, -, hd, hn, hk⟩ := am_fact X hi
  intro H locs sl hH hS hL
  have hn1 := hn rfl
  clear hn
  have hq0 : q < am_ml y := by
    unfold am_sto at hs
    split at hs
    · rename_i hc; rw [← hL.2.2.1]; exact hc.1
    · cases hs
  rw [List.map_cons, am_tr_ref ha]
  have ht := am_tr_ref (G := G) ha
  unfold am_chkI at hk
  cases real with
  | astore q' =>
    simp only [Bool.and_eq_true, decide_eq_true_eq] at hk
    obtain ⟨rfl, rfl⟩ := hk
    refine lv_astore X.1 X.2.1 hd hL.has hq0 rfl (fun sl' h' => ?_)
    rw [← hn1]
    exact k H locs sl' hH hS (hL.sto X.2.2.2.2.1.2.2.2.2.2.2.2.2.2.2.2.1 hs (by rw [ht]; exact h'))
  | astore_n q' =>
    simp only [Bool.and_eq_true, decide_eq_true_eq] at hk
    obtain ⟨rfl, h2⟩ := hk
    refine lv_astore_n X.1 X.2.1 hd h2 hL.has hq0 rfl (fun sl' h' => ?_)
    rw [← hn1]
    exact k H locs sl' hH hS (hL.sto X.2.2.2.2.1.2.2.2.2.2.2.2.2.2.2.2.1 hs (by rw [ht]; exact h'))
  | _ => cases hk
theorem am_s_lstore (X : am_X G p l s m meth c y) {q : Nat} {x : Int64} {ls' : List Value} (hi : (am_code y)[i]? = some (.lstore q)) (hq1 : q + 1 < ls.length) (hs : am_sto ls q (.long x) = some ls') (k : am_V G p l e R s m args below meth c c0 z0 Q y (i + 1) (ls'.set (q + 1) am_U) st σ) : am_V G p l e R s m args below meth c c0 z0 Q y i ls (.long x :: st) σ := by
  obtain ⟨real, len, h, -, hd, hn, hk⟩ := am_fact X hi
  intro H locs sl hH hS hL
  have hn1 := hn rfl
  clear hn
  have hq0 : q + 1 < am_ml y := by rw [← hL.2.2.1]; exact hq1
  rw [List.map_cons]
  have ht : am_tr G (.long x) = .long x := rfl
  unfold am_chkI at hk
  cases real with
  | lstore q' =>
    simp only [Bool.and_eq_true, decide_eq_true_eq] at hk
    obtain ⟨rfl, rfl⟩ := hk
    refine lv_lstore X.1 X.2.1 hd hL.has hq0 rfl (fun sl' h' => ?_)
    rw [← hn1]
    exact k H locs sl' hH hS (hL.sto2 X.2.2.2.2.1.2.2.2.2.2.2.2.2.2.2.2.1 hs (by rw [ht]; exact h'))
  | lstore_n q' =>
    simp only [Bool.and_eq_true, decide_eq_true_eq] at hk
    obtain ⟨rfl, h2⟩ := hk
    refine lv_lstore_n X.1 X.2.1 hd h2 hL.has hq0 rfl (fun sl' h' => ?_)
    rw [← hn1]
    exact k H locs sl' hH hS (hL.sto2 X.2.2.2.2.1.2.2.2.2.2.2.2.2.2.2.2.1 hs (by rw [ht]; exact h'))
  | _ => cases hk
theorem am_s_iinc (X : am_X G p l s m meth c y) {q : Nat} {n : Int} {x : Int32} {ls' : List Value} (hi : (am_code y)[i]? = some (.iinc q n)) (hv : ls.getD q am_U = .int x) (hs : am_sto ls q (.int (am_inc x n)) = some ls') (k : am_V G p l e R s m args below meth c c0 z0 Q y (i + 1) ls' st σ) : am_V G p l e R s m args below meth c c0 z0 Q y i ls st σ := by
  obtain ⟨real, len, h, -, hd, hn, hk⟩ := am_fact X hi
  intro H locs sl hH hS hL
  have hn1 := hn rfl
  clear hn
  have hq0 : q < am_ml y := by
    unfold am_sto at hs
    split at hs
    · rename_i hc; rw [← hL.2.2.1]; exact hc.1
    · cases hs
  simp only [am_chkI, Bool.and_eq_true, decide_eq_true_eq] at hk
  obtain ⟨⟨rfl, rfl⟩, h3⟩ := hk
  have hm : (q, Value.int x) ∈ am_lp G ls := am_lp_mem.mpr ⟨.int x, by
    have hl : q < ls.length := by rw [hL.2.2.1]; exact hq0
    have h1 : ls.getD q am_U = ls[q] := by simp [hl]
    rw [List.getElem?_eq_getElem hl, ← h1, hv], by (intro z; cases z), rfl⟩
  obtain ⟨j, hj⟩ := List.getElem?_of_mem hm
  refine lv_iinc (v := am_inc x n) X.1 X.2.1 hd hL.has hj (am_inc_eq h3 x) hq0 rfl (fun sl' h' => ?_)
  rw [← hn1]
  exact k H locs sl' hH hS (hL.sto X.2.2.2.2.1.2.2.2.2.2.2.2.2.2.2.2.1 hs h')
theorem am_s_ifCond (X : am_X G p l s m meth c y) {o : ClassFile.Cond} {t : Int} {x : Int32} {r : List Value} (hi : (am_code y)[i]? = some (.ifCond o t)) (kt : am_cz o x = true → am_V G p l e R s m args below meth c c0 z0 Q y t.toNat ls r σ) (kf : am_cz o x = false → am_V G p l e R s m args below meth c c0 z0 Q y (i + 1) ls r σ) : am_V G p l e R s m args below meth c c0 z0 Q y i ls (.int x :: r) σ := by
  obtain ⟨real, len, h, -, hd, hn, hk⟩ := am_fact X hi
  intro H locs sl hH hS hL
  have hn1 := hn rfl
  clear hn
  have kt := fun q => kt q H locs sl hH hS hL
  have kf := fun q => kf q H locs sl hH hS hL
  rw [hn1] at kf
  unfold am_chkI at hk
  cases real with
  | ifCond o' off =>
    simp only [Bool.and_eq_true, decide_eq_true_eq] at hk
    obtain ⟨⟨rfl, rfl⟩, h2⟩ := hk
    have ht : ((am_pc y i : Nat) : Int) + off = ((am_pc y t.toNat : Nat) : Int) := of_decide_eq_true h2
    cases o' with
    | eq => exact lv_if_eq X.1 X.2.1 hd ht (fun q => kt (decide_eq_true q)) (fun q => kf (decide_eq_false q))
    | ne => exact lv_if_ne X.1 X.2.1 hd ht (fun q => kt (decide_eq_true q)) (fun q => kf (decide_eq_false (fun z => z q)))
    | lt => exact lv_if_lt X.1 X.2.1 hd ht (fun q => kt (decide_eq_true q)) (fun q => kf (decide_eq_false q))
    | ge => exact lv_if_ge X.1 X.2.1 hd ht (fun q => kt (decide_eq_true q)) (fun q => kf (decide_eq_false q))
    | gt => exact lv_if_gt X.1 X.2.1 hd ht (fun q => kt (decide_eq_true q)) (fun q => kf (decide_eq_false q))
    | le => exact lv_if_le X.1 X.2.1 hd ht (fun q => kt (decide_eq_true q)) (fun q => kf (decide_eq_false q))
  | _ => cases hk
theorem am_s_if_icmp (X : am_X G p l s m meth c y) {o : ClassFile.Cond} {t : Int} {x z : Int32} {r : List Value} (hi : (am_code y)[i]? = some (.if_icmp o t)) (kt : am_cc o x z = true → am_V G p l e R s m args below meth c c0 z0 Q y t.toNat ls r σ) (kf : am_cc o x z = false → am_V G p l e R s m args below meth c c0 z0 Q y (i + 1) ls r σ) : am_V G p l e R s m args below meth c c0 z0 Q y i ls (.int z :: .int x :: r) σ := by
  obtain ⟨real, len, h, -, hd, hn, hk⟩ := am_fact X hi
  intro H locs sl hH hS hL
  have hn1 := hn rfl
  clear hn
  have kt := fun q => kt q H locs sl hH hS hL
  have kf := fun q => kf q H locs sl hH hS hL
  rw [hn1] at kf
  unfold am_chkI at hk
  cases real with
  | if_icmp o' off =>
    simp only [Bool.and_eq_true, decide_eq_true_eq] at hk
    obtain ⟨⟨rfl, rfl⟩, h2⟩ := hk
    have ht : ((am_pc y i : Nat) : Int) + off = ((am_pc y t.toNat : Nat) : Int) := of_decide_eq_true h2
    cases o' with
    | eq => exact lv_icmp_eq X.1 X.2.1 hd ht (fun q => kt (decide_eq_true q)) (fun q => kf (decide_eq_false q))
    | ne => exact lv_icmp_ne X.1 X.2.1 hd ht (fun q => kt (decide_eq_true q)) (fun q => kf (decide_eq_false (fun z => z q)))
    | lt => exact lv_icmp_lt X.1 X.2.1 hd ht (fun q => kt (decide_eq_true q)) (fun q => kf (decide_eq_false q))
    | ge => exact lv_icmp_ge X.1 X.2.1 hd ht (fun q => kt (decide_eq_true q)) (fun q => kf (decide_eq_false q))
    | gt => exact lv_icmp_gt X.1 X.2.1 hd ht (fun q => kt (decide_eq_true q)) (fun q => kf (decide_eq_false q))
    | le => exact lv_icmp_le X.1 X.2.1 hd ht (fun q => kt (decide_eq_true q)) (fun q => kf (decide_eq_false q))
  | _ => cases hk
theorem am_s_goto (X : am_X G p l s m meth c y) {t : Int} (hi : (am_code y)[i]? = some (.goto t)) (k : am_V G p l e R s m args below meth c c0 z0 Q y t.toNat ls st σ) : am_V G p l e R s m args below meth c c0 z0 Q y i ls st σ := by
  obtain ⟨real, len, h, -, hd, hn, hk⟩ := am_fact X hi
  intro H locs sl hH hS hL
  unfold am_chkI at hk
  cases real with
  | goto off =>
    simp only [Bool.and_eq_true, decide_eq_true_eq] at hk
    obtain ⟨rfl, h2⟩ := hk
    exact lv_goto X.1 X.2.1 hd (of_decide_eq_true h2) (k H locs sl hH hS hL)
  | _ => cases hk
theorem am_s_table (X : am_X G p l s m meth c y) {d lo up : Int} {ts : Array Int} {x : Int32} {r : List Value} (hi : (am_code y)[i]? = some (.tableswitch d lo up ts)) (k : am_V G p l e R s m args below meth c c0 z0 Q y (am_tab d lo up ts x) ls r σ) : am_V G p l e R s m args below meth c c0 z0 Q y i ls (.int x :: r) σ := by
  obtain ⟨real, len, h, -, hd, hn, hk⟩ := am_fact X hi
  intro H locs sl hH hS hL
  have k := k H locs sl hH hS hL
  unfold am_chkI at hk
  cases real with
  | tableswitch o lo' up' os =>
    simp only [Bool.and_eq_true, decide_eq_true_eq, List.all_eq_true, List.mem_range] at hk
    obtain ⟨⟨⟨⟨⟨rfl, rfl⟩, h1⟩, h2⟩, h3⟩, h4⟩ := hk
    unfold am_tab at k
    by_cases hx : x.toInt < lo' ∨ up' < x.toInt
    · rw [if_pos hx] at k
      exact lv_tableOut X.1 X.2.1 hd hx (of_decide_eq_true h1) k
    · rw [if_neg hx] at k
      have hlt : (x.toInt - lo').toNat < ts.size := by omega
      have h5 : (((am_pc y i : Nat) : Int) + os.getD (x.toInt - lo').toNat 0 = _) := of_decide_eq_true (h4 _ hlt)
      have e1 : os[(x.toInt - lo').toNat]? = some (os.getD (x.toInt - lo').toNat 0) := by
        have : (x.toInt - lo').toNat < os.size := by omega
        simp [Array.getD, this]
      have e2 : ts.getD (x.toInt - lo').toNat d = ts.getD (x.toInt - lo').toNat 0 := by
        simp [Array.getD, hlt]
      rw [e2] at k
      exact lv_tableIn X.1 X.2.1 hd (fun q => hx (Or.inl q)) (fun q => hx (Or.inr q)) e1 h5 k
  | _ => cases hk
theorem am_s_lookup (X : am_X G p l s m meth c y) {d : Int} {ps : Array (Int × Int)} {x : Int32} {r : List Value} (hi : (am_code y)[i]? = some (.lookupswitch d ps)) (k : am_V G p l e R s m args below meth c c0 z0 Q y (am_look d ps.toList x) ls r σ) : am_V G p l e R s m args below meth c c0 z0 Q y i ls (.int x :: r) σ := by
  obtain ⟨real, len, h, -, hd, hn, hk⟩ := am_fact X hi
  intro H locs sl hH hS hL
  have k := k H locs sl hH hS hL
  unfold am_chkI at hk
  cases real with
  | lookupswitch o qs =>
    simp only [Bool.and_eq_true, decide_eq_true_eq] at hk
    obtain ⟨⟨⟨h1, h2⟩, h3⟩, h4⟩ := hk
    refine lv_lookup X.1 X.2.1 hd h4 rfl ?_ k
    exact am_look_eq _ _ h2 (fun q hq => of_decide_eq_true (List.all_eq_true.mp h3 q hq)) (of_decide_eq_true h1)
  | _ => cases hk
theorem am_E_obj {G : am_G} {σ : am_St} {k c : Nat} (h : (am_tau k).1 = 10 + c) : am_E G σ k = .inr (c, (List.range (am_nf c)).map (am_fw G σ k c)) := by
  unfold am_E
  rw [h, Nat.add_comm 10 c]
  show Sum.inr (c + 10 - 10, (List.range (am_nf (c + 10 - 10))).map (am_fw G σ k (c + 10 - 10))) = _
  rw [Nat.add_sub_cancel]
/-- a class of the table: its words, names, types -/
theorem am_cls_at {c : Nat} (hc : c < 13) : ∃ T : u_T, am_cls[c]? = some (am_on c, T, am_nf c) ∧ (∀ w ∈ u_ws (am_on c) T (am_nf c), w ∈ lw_tbl) ∧ (∀ a, a < am_nf c → ∀ b, b < am_nf c → a ≠ b → (T a).2.1 ≠ (T b).2.1) ∧ (∀ k, k < am_nf c → parseFieldDescriptor (T k).2.2.1 = some (am_Ys.getD c (fun _ => .int) k)) ∧ (∀ k, (T k).1 = am_on c) := by
  match c, hc with
  | 0, _ => exact ⟨am_T0, rfl, am_Tw0, am_Tn0, am_Ty0, fun k => by unfold am_T0; split <;> rfl⟩
  | 1, _ => exact ⟨am_T1, rfl, am_Tw1, am_Tn1, am_Ty1, fun k => by unfold am_T1; split <;> rfl⟩
  | 2, _ => exact ⟨am_T2, rfl, am_Tw2, am_Tn2, am_Ty2, fun k => by unfold am_T2; split <;> rfl⟩
  | 3, _ => exact ⟨am_T3, rfl, am_Tw3, am_Tn3, am_Ty3, fun k => by unfold am_T3; split <;> rfl⟩
  | 4, _ => exact ⟨am_T4, rfl, am_Tw4, am_Tn4, am_Ty4, fun k => by unfold am_T4; split <;> rfl⟩
  | 5, _ => exact ⟨am_T5, rfl, am_Tw5, am_Tn5, am_Ty5, fun k => by unfold am_T5; split <;> rfl⟩
  | 6, _ => exact ⟨am_T6, rfl, am_Tw6, am_Tn6, am_Ty6, fun k => by unfold am_T6; split <;> rfl⟩
  | 7, _ => exact ⟨am_T7, rfl, am_Tw7, am_Tn7, am_Ty7, fun k => by unfold am_T7; split <;> rfl⟩
  | 8, _ => exact ⟨am_T8, rfl, am_Tw8, am_Tn8, am_Ty8, fun k => by unfold am_T8; split <;> rfl⟩
  | 9, _ => exact ⟨am_T9, rfl, am_Tw9, am_Tn9, am_Ty9, fun k => by unfold am_T9; rfl⟩
  | 10, _ => exact ⟨am_T10, rfl, am_Tw10, am_Tn10, am_Ty10, fun k => by unfold am_T10; split <;> rfl⟩
  | 11, _ => exact ⟨am_T11, rfl, am_Tw11, am_Tn11, am_Ty11, fun k => by unfold am_T11; split <;> rfl⟩
  | 12, _ => exact ⟨am_T12, rfl, am_Tw12, am_Tn12, am_Ty12, fun k => by unfold am_T12; split <;> rfl⟩
  | c + 13, h => exact absurd h (by omega)
theorem am_lays_good {C : String} {T : u_T} {n : Nat} : ∀ w ∈ u_ws C T n, am_lw w = true := by
  intro w hw
  obtain ⟨k, -, rfl⟩ := List.mem_map.mp hw
  unfold u_lay
  split <;> rfl
theorem am_cls_lt {c f : Nat} (h : f < am_nf c) : c < 13 := by
  rcases Nat.lt_or_ge c 13 with q | q
  · exact q
  · have : am_nf c = 0 := by
      unfold am_nf am_nfL
      simp [List.getD, List.getElem?_eq_none (l := [14, 20, 6, 14, 7, 7, 5, 7, 2, 1, 9, 3, 73]) (i := c) (by simpa using q)]
    omega
theorem am_fld {f n : Nat} {g : Nat → Value} (h : f < n) : ((List.range n).map g)[f]? = some (g f) := by simp [h]
theorem am_fld_set {f n : Nat} {g g' : Nat → Value} (v : Value) (hv : g' f = v) (h : ∀ j, j ≠ f → g' j = g j) : ((List.range n).map g).set f v = (List.range n).map g' := by
  apply List.ext_getElem?
  intro j
  rw [List.getElem?_set]
  by_cases hj : j < n
  · rw [am_fld hj, am_fld hj]
    by_cases hk : f = j
    · subst hk; simp [hj, hv]
    · rw [if_neg hk, h j (Ne.symm hk)]
  · by_cases hk : f = j
    · subst hk; simp [hj]
    · rw [if_neg hk]; simp [hj]
/-- a field is read -/
theorem am_get_row {H : Heap} {locs : List Loc} {sl : Array Slot} {rest : List Value} {n k idx : Nat} {hh : List Nat} (X : am_X G p l s m meth c y) (hH : am_H G σ H) (hk : k < g_N σ) (ht : (am_tau k).1 = 10 + n / 1000) (hf : n / 10 % 100 < am_nf (n / 1000)) (hn : n < 990000)
    (hw : am_word hh (.fieldLink (am_on (am_own y)) idx (am_fd n).1 (am_fd n).2.1 (am_fd n).2.2) = true) (hd : decode (am_by y) (am_pc y i) = .ok (.getfield idx, 3))
    (kk : W p l e R s m args below meth c H locs (g_C σ - c0) (g_Z σ - z0) Q (F0 m (am_pc y i + 3) sl (am_fw G σ k (n / 1000) (n / 10 % 100) :: rest))) :
    W p l e R s m args below meth c H locs (g_C σ - c0) (g_Z σ - z0) Q (F0 m (am_pc y i) sl (.ref (h_n G + k) :: rest)) := by
  obtain ⟨T, hT, hTw, -, -, hTo⟩ := am_cls_at (am_cls_lt hf)
  have he := am_ws_get (G := G) hk
  rw [am_E_obj ht] at he
  have hfd : am_fd n = ((T (n / 10 % 100)).1, (T (n / 10 % 100)).2.1, (T (n / 10 % 100)).2.2.1) := by
    unfold am_fd
    rw [if_neg (by omega), if_neg (by omega), hT]
  rw [hfd] at hw
  exact va_get (Ts := u_ws (am_on (n / 1000)) T (am_nf (n / 1000))) X.1 X.2.1 (fun w h => X.2.2.2.2.1.1 w (hTw w h) (am_lays_good w h) args) (fun _ h => h) X.2.2.2.1 X.2.2.2.2.1.2.1 hH.2.2.2 k he hT _ hf (am_w X hw rfl args) (fun _ h => h) (am_fld hf) hd kk
theorem am_s_get (X : am_X G p l s m meth c y) {n : Nat} (hi : (am_code y)[i]? = some (.getfield n)) {r : List Value} {k : Nat} {v : Value} (hk6 : k < 1000000) (hk : k < g_N σ) (ht : (am_tau k).1 = 10 + n / 1000) (hf : n / 10 % 100 < am_nf (n / 1000)) (hn9 : n < 990000) (hkd : am_fk (n / 1000) (n / 10 % 100) = n % 10)
    (hv : am_fv σ k (n / 10 % 100) (n % 10) = some v) (kk : am_V G p l e R s m args below meth c c0 z0 Q y (i + 1) ls (v :: r) σ) : am_V G p l e R s m args below meth c c0 z0 Q y i ls (.ref k :: r) σ := by
  obtain ⟨real, len, h, -, hd, hn, hc⟩ := am_fact X hi
  intro H locs sl hH hS hL
  have hn1 := hn rfl
  clear hn
  have kk := kk H locs sl hH hS hL
  unfold am_chkI at hc
  cases real with
  | getfield idx =>
    simp only [Bool.and_eq_true, decide_eq_true_eq] at hc
    obtain ⟨rfl, hw⟩ := hc
    rw [List.map_cons, am_tr_obj hk6]
    refine am_get_row X hH hk ht hf hn9 hw hd ?_
    rw [hn1, List.map_cons] at kk
    have e : am_tr G v = am_fw G σ k (n / 1000) (n / 10 % 100) := by
      unfold am_fw
      rw [hkd]
      revert hv
      generalize n % 10 = d
      intro hv
      unfold am_fwk
      unfold am_fv at hv
      split at hv
      · cases hv; rfl
      · cases hv; rfl
      · cases hv; rfl
      · obtain ⟨a, ha, h2⟩ := Option.bind_eq_some_iff.mp hv
        split at h2
        · rename_i h6
          cases h2
          rw [am_tr_obj h6, ha]; rfl
        · cases h2
      · obtain ⟨a, ha, h2⟩ := Option.bind_eq_some_iff.mp hv
        split at h2
        · rename_i h6
          cases h2
          rw [am_tr_str h6, ha]; rfl
        · cases h2
      · cases hv
    rw [e] at kk
    exact kk
  | _ => cases hc
theorem am_ykOk : ((List.range 13).all fun c => (List.range (am_nf c)).all fun f => match am_fk c f, am_Ys.getD c (fun _ => .int) f with
  | 0, .int => true
  | 1, .long => true
  | 5, .boolean => true
  | 2, .array _ => true
  | 2, .object _ => true
  | 3, .object _ => true
  | _, _ => false) = true := by decide +kernel
/-- the type of a field fits its kind -/
def am_ykP (t : FieldType) (d : Nat) : Prop := match d with
  | 0 => t = .int
  | 1 => t = .long
  | 5 => t = .boolean
  | 2 => (∃ u, t = .array u) ∨ ∃ u, t = .object u
  | 3 => ∃ u, t = .object u
  | _ => False
theorem am_yk {c f : Nat} (hf : f < am_nf c) : am_ykP (am_Ys.getD c (fun _ => .int) f) (am_fk c f) := by
  have h := List.all_eq_true.mp (List.all_eq_true.mp am_ykOk c (List.mem_range.mpr (am_cls_lt hf))) f (List.mem_range.mpr hf)
  revert h
  generalize am_fk c f = d
  generalize am_Ys.getD c (fun _ => FieldType.int) f = t
  intro h
  split at h <;> first | exact rfl | exact Or.inl ⟨_, rfl⟩ | exact Or.inr ⟨_, rfl⟩ | exact ⟨_, rfl⟩ | cases h
/-- a field is written -/
theorem am_put_row {H : Heap} {locs : List Loc} {sl : Array Slot} {rest : List Value} {n k idx : Nat} {hh : List Nat} {w : Value} {τ : am_St} (X : am_X G p l s m meth c y) (hH : am_H G σ H) (hS : va_S (fun q => h_n G ≤ q) s.heap H locs) (hk : k < g_N σ) (ht : (am_tau k).1 = 10 + n / 1000) (hf : n / 10 % 100 < am_nf (n / 1000)) (hn : n < 990000)
    (hw : am_word hh (.fieldLink (am_on (am_own y)) idx (am_fd n).1 (am_fd n).2.1 (am_fd n).2.2) = true) (hfin : (am_own y = n / 1000 ∧ am_ini y = true) ∨ ∃ q, am_cls[n / 1000]? = some q ∧ (q.2.1 (n / 10 % 100)).2.2.2 = false) (hd : decode (am_by y) (am_pc y i) = .ok (.putfield idx, 3))
    (hnar : narrow (am_Ys.getD (n / 1000) (fun _ => .int) (n / 10 % 100)) w = w) (hfit : fits (am_Ys.getD (n / 1000) (fun _ => .int) (n / 10 % 100)) w = true)
    (hN : g_N τ = g_N σ) (hC : g_C τ = g_C σ) (hZ : g_Z τ = g_Z σ) (hLx : g_L τ = g_L σ) (hXx : g_X τ = g_X σ) (hE : ∀ j, j ≠ k → am_E G τ j = am_E G σ j) (hfw : am_fw G τ k (n / 1000) (n / 10 % 100) = w) (hfo : ∀ j, j ≠ n / 10 % 100 → am_fw G τ k (n / 1000) j = am_fw G σ k (n / 1000) j)
    (kk : ∀ (H1 : Heap) (locs1 : List Loc), am_H G τ H1 → va_S (fun q => h_n G ≤ q) s.heap H1 locs1 → W p l e R s m args below meth c H1 locs1 (g_C τ - c0) (g_Z τ - z0) Q (F0 m (am_pc y i + 3) sl rest)) :
    W p l e R s m args below meth c H locs (g_C σ - c0) (g_Z σ - z0) Q (F0 m (am_pc y i) sl (w :: .ref (h_n G + k) :: rest)) := by
  obtain ⟨T, hT, hTw, hTn, hTy, hTo⟩ := am_cls_at (am_cls_lt hf)
  have he := am_ws_get (G := G) hk
  rw [am_E_obj ht] at he
  have hfd : am_fd n = ((T (n / 10 % 100)).1, (T (n / 10 % 100)).2.1, (T (n / 10 % 100)).2.2.1) := by
    unfold am_fd
    rw [if_neg (by omega), if_neg (by omega), hT]
  rw [hfd] at hw
  have hnew : (am_ws G σ).set k (h_n G + k, .inr (n / 1000, ((List.range (am_nf (n / 1000))).map (am_fw G σ k (n / 1000))).set (n / 10 % 100) w)) = am_ws G τ := by
    rw [am_fld_set w hfw hfo, ← am_E_obj ht]
    exact am_ws_set hN hE
  have key : ∀ (H1 : Heap) (locs1 : List Loc), va_P (h_D G) am_cls ((am_ws G σ).set k (h_n G + k, .inr (n / 1000, ((List.range (am_nf (n / 1000))).map (am_fw G σ k (n / 1000))).set (n / 10 % 100) w))) H1 → va_D (fun q => h_n G ≤ q) ((am_ws G σ).set k (h_n G + k, .inr (n / 1000, ((List.range (am_nf (n / 1000))).map (am_fw G σ k (n / 1000))).set (n / 10 % 100) w))) → va_S (fun q => h_n G ≤ q) s.heap H1 locs1 → W p l e R s m args below meth c H1 locs1 (g_C σ - c0) (g_Z σ - z0) Q (F0 m (am_pc y i + 3) sl rest) := by
    intro H1 locs1 hP1 _ hS1
    rw [hnew] at hP1
    rw [← hC, ← hZ]
    exact kk H1 locs1 ⟨by rw [hN, hC]; exact hH.1, by rw [hLx]; exact hH.2.1, by rw [hXx]; exact hH.2.2.1, hP1⟩ hS1
  by_cases hfl : (T (n / 10 % 100)).2.2.2 = false
  · exact va_put (Ts := u_ws (am_on (n / 1000)) T (am_nf (n / 1000))) X.1 X.2.1 (fun w h => X.2.2.2.2.1.1 w (hTw w h) (am_lays_good w h) args) (fun _ h => h) _ hTy hTn X.2.2.2.1 X.2.2.2.2.1.2.1 hH.2.2.2 am_ws_D hS k he hT _ hf (am_w X hw rfl args) (fun _ h => h) hfl (hTy _ hf) hnar hfit (by simpa using hf) hd key
  · have hfl : (T (n / 10 % 100)).2.2.2 = true := by simpa using hfl
    rcases hfin with ⟨h1, h2⟩ | ⟨q, h1, h2⟩
    · exact va_putF (Ts := u_ws (am_on (n / 1000)) T (am_nf (n / 1000))) X.1 X.2.1 (fun w h => X.2.2.2.2.1.1 w (hTw w h) (am_lays_good w h) args) (fun _ h => h) _ hTy hTn X.2.2.2.1 X.2.2.2.2.1.2.1 hH.2.2.2 am_ws_D hS k he hT _ hf (am_w X hw rfl args) (fun _ h => h) hfl (X.2.2.2.2.2.1 h2) ((hTo _).trans (by rw [h1])) (hTy _ hf) hnar hfit (by simpa using hf) hd key
    · rw [hT] at h1
      cases h1
      rw [hfl] at h2
      cases h2
theorem am_s_put (X : am_X G p l s m meth c y) {n : Nat} (hi : (am_code y)[i]? = some (.putfield n)) {r : List Value} {k : Nat} {v : Value} {τ : am_St} (hk6 : k < 1000000) (hk : k < g_N σ) (ht : (am_tau k).1 = 10 + n / 1000) (hf : n / 10 % 100 < am_nf (n / 1000)) (hkd : am_fk (n / 1000) (n / 10 % 100) = n % 10)
    (hv : am_pv σ k (n / 10 % 100) (n % 10) v = some τ) (kk : am_V G p l e R s m args below meth c c0 z0 Q y (i + 1) ls r τ) : am_V G p l e R s m args below meth c c0 z0 Q y i ls (v :: .ref k :: r) σ := by
  obtain ⟨real, len, h, -, hd, hn, hc⟩ := am_fact X hi
  intro H locs sl hH hS hL
  have hn1 := hn rfl
  clear hn
  have hn9 : n < 990000 := by have := am_cls_lt hf; omega
  have kk := fun H1 locs1 a b => kk H1 locs1 sl a b hL
  rw [hn1] at kk
  unfold am_chkI at hc
  cases real with
  | putfield idx =>
    simp only [Bool.and_eq_true, Bool.or_eq_true, decide_eq_true_eq] at hc
    have hfin : len = 3 ∧ am_word h (.fieldLink (am_on (am_own y)) idx (am_fd n).1 (am_fd n).2.1 (am_fd n).2.2) = true ∧ ((am_own y = n / 1000 ∧ am_ini y = true) ∨ ∃ q, am_cls[n / 1000]? = some q ∧ (q.2.1 (n / 10 % 100)).2.2.2 = false) := by
      rcases hc with ⟨⟨⟨h1, h2⟩, h3⟩, h4⟩ | ⟨⟨h1, h2⟩, h3⟩
      · exact ⟨h1, h2, Or.inl ⟨h3, h4⟩⟩
      · refine ⟨h1, h2, Or.inr ?_⟩
        split at h3
        · rename_i q hq
          exact ⟨q, hq, by simpa using h3⟩
        · cases h3
    obtain ⟨rfl, hw, hfin⟩ := hfin
    rw [List.map_cons, List.map_cons, am_tr_obj hk6]
    have hyk := am_yk hf
    rw [hkd] at hyk
    have hfk : ∀ σ' : am_St, am_fw G σ' k (n / 1000) (n / 10 % 100) = am_fwk G σ' k (n / 10 % 100) (n % 10) := fun σ' => by unfold am_fw; rw [hkd]
    revert hv hyk hfk hkd
    generalize n % 10 = d
    intro hkd hv hyk hfk
    unfold am_pv at hv
    split at hv
    · split at hv
      · rename_i x
        cases hv
        have hyk : am_Ys.getD (n / 1000) (fun _ => .int) (n / 10 % 100) = .int := hyk
        refine am_put_row (τ := p_I σ k (upd (g_I σ k) (n / 10 % 100) x)) X hH hS hk ht hf hn9 hw hfin hd (by rw [hyk]; rfl) (by rw [hyk]; rfl) rfl rfl rfl rfl rfl (fun j hj => am_E_I hj) (by rw [hfk]; show Value.int _ = _; rw [g_I_same]; simp [upd, am_tr]) (fun j hj => ?_) kk
        unfold am_fw am_fwk
        rw [g_I_same]
        simp only [upd, if_neg hj]
        rfl
      · cases hv
    · split at hv
      · rename_i x
        split at hv
        · rename_i hx
          cases hv
          have hyk : am_Ys.getD (n / 1000) (fun _ => .int) (n / 10 % 100) = .boolean := hyk
          refine am_put_row (τ := p_I σ k (upd (g_I σ k) (n / 10 % 100) x)) X hH hS hk ht hf hn9 hw hfin hd (by rw [hyk]; rcases hx with rfl | rfl <;> rfl) (by rw [hyk]; rcases hx with rfl | rfl <;> rfl) rfl rfl rfl rfl rfl (fun j hj => am_E_I hj) (by rw [hfk]; show Value.int _ = _; rw [g_I_same]; simp [upd, am_tr]) (fun j hj => ?_) kk
          unfold am_fw am_fwk
          rw [g_I_same]
          simp only [upd, if_neg hj]
          rfl
        · cases hv
      · cases hv
    · split at hv
      · rename_i x
        cases hv
        have hyk : am_Ys.getD (n / 1000) (fun _ => .int) (n / 10 % 100) = .long := hyk
        refine am_put_row (τ := p_J σ k (vp_updL (g_J σ k) (n / 10 % 100) x)) X hH hS hk ht hf hn9 hw hfin hd (by rw [hyk]; rfl) (by rw [hyk]; rfl) rfl rfl rfl rfl rfl (fun j hj => am_E_J hj) (by rw [hfk]; show Value.long _ = _; rw [g_J_same]; simp [vp_updL, am_tr]) (fun j hj => ?_) kk
        unfold am_fw am_fwk
        rw [g_J_same]
        simp only [vp_updL, if_neg hj]
        rfl
      · cases hv
    · split at hv
      · rename_i a
        split at hv
        · rename_i ha
          cases hv
          have hyk : (∃ u, am_Ys.getD (n / 1000) (fun _ => .int) (n / 10 % 100) = .array u) ∨ ∃ u, am_Ys.getD (n / 1000) (fun _ => .int) (n / 10 % 100) = .object u := hyk
          have ha6 : a < 1000000 := ha.2
          rw [am_tr_obj ha6]
          refine am_put_row (τ := p_K σ k (am_upO (g_K σ k) (n / 10 % 100) (some a))) X hH hS hk ht hf hn9 hw hfin hd (by rcases hyk with ⟨t, hyk⟩ | ⟨t, hyk⟩ <;> (rw [hyk]; rfl)) (by rcases hyk with ⟨t, hyk⟩ | ⟨t, hyk⟩ <;> (rw [hyk]; rfl)) rfl rfl rfl rfl rfl (fun j hj => am_E_K hj) (by rw [hfk]; show va_rf _ = _; rw [g_K_same]; simp [am_upO, va_rf]) (fun j hj => ?_) kk
          unfold am_fw am_fwk
          rw [g_K_same]
          simp only [am_upO, if_neg hj]
          rfl
        · cases hv
      · cases hv
    · split at hv
      · rename_i a
        split at hv
        · rename_i ha
          cases hv
          have hyk : ∃ u, am_Ys.getD (n / 1000) (fun _ => .int) (n / 10 % 100) = .object u := hyk
          obtain ⟨b, hb0⟩ := Nat.exists_eq_add_of_le ha.1
          subst hb0
          have hb : b < 55 := by have h2 : 2000000 + b < 2000055 := ha.2; omega
          rw [Nat.add_sub_cancel_left] at kk
          rw [am_tr_str hb]
          refine am_put_row (τ := p_S σ k (am_upO (g_S σ k) (n / 10 % 100) (some b))) X hH hS hk ht hf hn9 hw hfin hd (by obtain ⟨t, hyk⟩ := hyk; rw [hyk]; rfl) (by obtain ⟨t, hyk⟩ := hyk; rw [hyk]; rfl) rfl rfl rfl rfl rfl (fun j hj => am_E_S hj) (by rw [hfk]; show va_rf _ = _; rw [g_S_same]; simp [am_upO, va_rf]) (fun j hj => ?_) kk
          unfold am_fw am_fwk
          rw [g_S_same]
          simp only [am_upO, if_neg hj]
          rfl
        · cases hv
      · cases hv
    · cases hv
  | _ => cases hc
/-- an array of the table -/
theorem am_E_arr {G : am_G} {σ : am_St} {k : Nat} : (am_tau k).1 = 0 → am_E G σ k = .inl (h_c G 0, (am_tau k).2, .inl (g_I σ k)) := fun h => by unfold am_E; rw [h]; rfl
theorem am_E_arr1 {G : am_G} {σ : am_St} {k : Nat} : (am_tau k).1 = 1 → am_E G σ k = .inl (h_c G 1, (am_tau k).2, .inr (.inl (g_J σ k))) := fun h => by unfold am_E; rw [h]; rfl
theorem am_E_arr2 {G : am_G} {σ : am_St} {k : Nat} : (am_tau k).1 = 2 → am_E G σ k = .inl (h_c G 2, (am_tau k).2, .inl (g_I σ k)) := fun h => by unfold am_E; rw [h]; rfl
theorem am_E_arr3 {G : am_G} {σ : am_St} {k : Nat} : (am_tau k).1 = 3 → am_E G σ k = .inl (h_c G 3, (am_tau k).2, .inl (g_I σ k)) := fun h => by unfold am_E; rw [h]; rfl
theorem am_E_arr4 {G : am_G} {σ : am_St} {k : Nat} : (am_tau k).1 = 4 → am_E G σ k = .inl (h_c G 4, (am_tau k).2, .inr (.inr (.inr (.inr (fun j => (g_S σ k j).map (h_d G)))))) := fun h => by unfold am_E; rw [h]; rfl
theorem am_in {j : Int32} {n : Nat} (h : am_out j n = false) : vp_in j n := by
  unfold am_out at h
  simp only [Bool.or_eq_false_iff, decide_eq_false_iff_not] at h
  exact fun q => q.elim h.1 h.2
/-- what the heap held at first is held -/
theorem am_S0 {H : Heap} {locs : List Loc} (X : am_X G p l s m meth c y) (hS : va_S (fun q => h_n G ≤ q) s.heap H locs) : va_S (fun q => h_n G ≤ q) (h_H G) H locs := by
  have hn : (h_H G).size = h_n G := X.2.2.2.2.1.2.2.2.2.2.2.2.2.2.2.1
  refine ⟨by rw [hn]; exact Nat.le_trans X.2.2.2.2.2.2.2.2.1 hS.1, fun q h1 h2 => ?_, hS.2.2⟩
  rw [hn] at h1
  rw [hS.2.1 q (Nat.lt_of_lt_of_le h1 X.2.2.2.2.2.2.2.2.1) h2]
  exact X.2.2.2.2.2.2.2.2.2.1 q h1
/-- a String constant and its bytes -/
theorem am_strT (X : am_X G p l s m meth c y) {b : Nat} (hb : b < 55) : va_O "java/lang/String" (h_d G b) (fun q => h_n G ≤ q) s s.heap ∧ va_OF "java/lang/String" "coder" "B" (.int 0) (h_d G b) (fun q => h_n G ≤ q) s s.heap ∧ va_OF "java/lang/String" "value" "[B" (.ref (h_v G b)) (h_d G b) (fun q => h_n G ≤ q) s s.heap ∧ va_T .byte (h_v G b) (am_slen.getD b 0) (fun j => .int ((am_strL.getD b []).getD j 0)) (fun q => h_n G ≤ q) s s.heap := by
  have hn : (h_H G).size = h_n G := X.2.2.2.2.1.2.2.2.2.2.2.2.2.2.2.1
  exact ((X.2.2.2.2.1.2.2.2.1 b hb).kept (H1 := s.heap) (fun a h1 _ => X.2.2.2.2.2.2.2.2.2.1 a (by rw [← hn]; exact h1))).1 0 (by omega)
theorem am_s_ald (X : am_X G p l s m meth c y) {ins : Instr} (hi : (am_code y)[i]? = some ins) (hins : ins = .iaload ∨ ins = .laload ∨ ins = .baload ∨ ins = .aaload) {i' : Nat} {ls' st' : List Value} {σ' : am_St} (hs : am_ald ins i ls st σ = some (i', ls', st', σ'))
    (k : am_V G p l e R s m args below meth c c0 z0 Q y i' ls' st' σ') : am_V G p l e R s m args below meth c c0 z0 Q y i ls st σ := by
  obtain ⟨real, len, h, -, hd, hn, hk⟩ := am_fact X hi
  have hrl : real = ins ∧ len = 1 := by rcases hins with rfl | rfl | rfl | rfl <;> simpa [am_chkI] using hk
  obtain ⟨rfl, rfl⟩ := hrl
  have hn1 := hn (by rcases hins with rfl | rfl | rfl | rfl <;> rfl)
  clear hn hk
  unfold am_ald at hs
  split at hs
  · rename_i j a r
    split at hs
    · rename_i ha
      split at hs
      · rename_i hc
        simp only [am_ok, Bool.and_eq_true, decide_eq_true_eq, Bool.not_eq_true', and_true] at hc
        obtain ⟨⟨hc1, hc2⟩, hc3⟩ := hc
        obtain ⟨v, hv, he⟩ := Option.map_eq_some_iff.mp hs
        cases he
        intro H locs sl hH hS hL
        have k := k H locs sl hH hS hL
        rw [hn1, List.map_cons] at k
        rw [List.map_cons, List.map_cons, am_tr_obj ha]
        have hw := am_ws_get (G := G) hc1
        have hin := am_in hc3
        unfold am_el at hv
        rcases hins with rfl | rfl | rfl | rfl
        · have e0 : (am_tau a).1 = 0 := by simpa [am_fit] using hc2
          rw [am_E_arr e0] at hw
          simp only [e0] at hv
          cases hv
          exact va_iald X.1 X.2.1 X.2.2.2.2.1.2.1 hH.2.2.2 a 0 hw rfl hin hd k
        · have e0 : (am_tau a).1 = 1 := by simpa [am_fit] using hc2
          rw [am_E_arr1 e0] at hw
          simp only [e0] at hv
          cases hv
          exact va_lald X.1 X.2.1 X.2.2.2.2.1.2.1 hH.2.2.2 a 1 hw rfl hin hd k
        · have e0 : (am_tau a).1 = 2 ∨ (am_tau a).1 = 3 := by simpa [am_fit] using hc2
          rcases e0 with e0 | e0
          · rw [am_E_arr2 e0] at hw
            simp only [e0] at hv
            cases hv
            exact va_bald X.1 X.2.1 X.2.2.2.2.1.2.1 hH.2.2.2 a 2 hw rfl hin hd k
          · rw [am_E_arr3 e0] at hw
            simp only [e0] at hv
            cases hv
            exact va_zald X.1 X.2.1 X.2.2.2.2.1.2.1 hH.2.2.2 a 3 hw rfl hin hd k
        · have e0 : (am_tau a).1 = 4 := by simpa [am_fit] using hc2
          rw [am_E_arr4 e0] at hw
          simp only [e0] at hv
          obtain ⟨b, hb, h2⟩ := Option.bind_eq_some_iff.mp hv
          split at h2
          · rename_i h5
            cases h2
            rw [am_tr_str h5] at k
            refine va_aldq X.1 X.2.1 X.2.2.2.2.1.2.1 hH.2.2.2 a 4 hw rfl hin hd ?_
            rw [hb]
            exact k
          · cases h2
      · cases hs
    · split at hs
      · rename_i ha
        split at hs
        · rename_i hc
          simp only [Bool.and_eq_true, Bool.not_eq_true'] at hc
          cases hs
          have hi0 : real = .iaload := by rcases hins with rfl | rfl | rfl | rfl <;> first | rfl | (simp [am_fit] at hc)
          subst hi0
          subst ha
          intro H locs sl hH hS hL
          have k := k H locs sl hH hS hL
          rw [hn1, List.map_cons] at k
          rw [List.map_cons, List.map_cons, am_tr_scr]
          have hB := X.2.2.2.2.1.2.2.2.2.2.2.2.2
          have hin := am_in hc.2
          rw [hH.2.1] at hin
          refine va_sld X.1 X.2.1 hB.1 (by rw [hB.2.2.1]; exact hB.2.1) (Nat.not_le.mpr hB.2.1) (am_S0 X hS) hin hd ?_
          rw [hH.2.2.1] at k
          exact k
        · cases hs
      · split at hs
        · rename_i ha
          split at hs
          · rename_i hc
            simp only [Bool.and_eq_true, Bool.not_eq_true'] at hc
            cases hs
            have hi0 : real = .baload := by rcases hins with rfl | rfl | rfl | rfl <;> first | rfl | (simp [am_fit] at hc)
            subst hi0
            obtain ⟨b, hb0⟩ := Nat.exists_eq_add_of_le ha.1
            subst hb0
            have hb : b < 55 := by have h2 : 3000000 + b < 3000055 := ha.2; omega
            rw [Nat.add_sub_cancel_left] at hc k
            intro H locs sl hH hS hL
            have k := k H locs sl hH hS hL
            rw [hn1, List.map_cons] at k
            rw [List.map_cons, List.map_cons, am_tr_byt hb]
            exact va_tb X.1 X.2.1 (am_strT X hb).2.2.2 hS (am_in hc.2) rfl hd k
          · cases hs
        · cases hs
  · cases hs
end Steps
