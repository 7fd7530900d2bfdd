/-! the abstract machine: its heap is the objects 0, 1, .. that the law makes, in the order in which it makes them -/
/-- how many objects, cells and slots were made; the script; ints, longs, references, Strings by object and place -/
abbrev am_St : Type := Nat × Nat × Nat × (Nat × (Nat → Int32)) × (Nat → Nat → Int32) × (Nat → Nat → Int64) × (Nat → Nat → Option Nat) × (Nat → Nat → Option Nat)
def g_N (σ : am_St) : Nat := σ.1
def g_C (σ : am_St) : Nat := σ.2.1
def g_Z (σ : am_St) : Nat := σ.2.2.1
def g_L (σ : am_St) : Nat := σ.2.2.2.1.1
def g_X (σ : am_St) : Nat → Int32 := σ.2.2.2.1.2
def g_I (σ : am_St) : Nat → Nat → Int32 := σ.2.2.2.2.1
def g_J (σ : am_St) : Nat → Nat → Int64 := σ.2.2.2.2.2.1
def g_K (σ : am_St) : Nat → Nat → Option Nat := σ.2.2.2.2.2.2.1
def g_S (σ : am_St) : Nat → Nat → Option Nat := σ.2.2.2.2.2.2.2
/-- what an object holds is another -/
def p_I (σ : am_St) (k : Nat) (f : Nat → Int32) : am_St := (σ.1, σ.2.1, σ.2.2.1, σ.2.2.2.1, (fun a => if a = k then f else σ.2.2.2.2.1 a), σ.2.2.2.2.2)
def p_J (σ : am_St) (k : Nat) (f : Nat → Int64) : am_St := (σ.1, σ.2.1, σ.2.2.1, σ.2.2.2.1, σ.2.2.2.2.1, (fun a => if a = k then f else σ.2.2.2.2.2.1 a), σ.2.2.2.2.2.2)
def p_K (σ : am_St) (k : Nat) (f : Nat → Option Nat) : am_St := (σ.1, σ.2.1, σ.2.2.1, σ.2.2.2.1, σ.2.2.2.2.1, σ.2.2.2.2.2.1, (fun a => if a = k then f else σ.2.2.2.2.2.2.1 a), σ.2.2.2.2.2.2.2)
def p_S (σ : am_St) (k : Nat) (f : Nat → Option Nat) : am_St := (σ.1, σ.2.1, σ.2.2.1, σ.2.2.2.1, σ.2.2.2.2.1, σ.2.2.2.2.2.1, σ.2.2.2.2.2.2.1, (fun a => if a = k then f else σ.2.2.2.2.2.2.2 a))
/-- one object more, of n slots, all 0 -/
def p_N (σ : am_St) (n : Nat) : am_St := (σ.1 + 1, σ.2.1 + 1, σ.2.2.1 + n, σ.2.2.2.1, (fun a => if a = σ.1 then (fun _ => 0) else σ.2.2.2.2.1 a), (fun a => if a = σ.1 then (fun _ => 0) else σ.2.2.2.2.2.1 a), (fun a => if a = σ.1 then (fun _ => none) else σ.2.2.2.2.2.2.1 a), (fun a => if a = σ.1 then (fun _ => none) else σ.2.2.2.2.2.2.2 a))
/-- an exception more: nobody looks into it -/
def p_E (σ : am_St) : am_St := (σ.1, σ.2.1 + 1, σ.2.2.1 + 6, σ.2.2.2)
def am_ok (σ : am_St) (k t : Nat) : Bool := decide (k < g_N σ) && decide ((am_tau k).1 = t)
def am_out (i : Int32) (n : Nat) : Bool := decide (i < 0) || decide (n ≤ i.toNatClampNeg)
def am_upO (f : Nat → Option Nat) (k : Nat) (x : Option Nat) : Nat → Option Nat := fun j => if j = k then x else f j
def am_U : Value := .retAddr 0
def am_isL (v : Value) : Bool := v.category == 2
def am_sto (ls : List Value) (k : Nat) (v : Value) : Option (List Value) := if k < ls.length ∧ (k = 0 ∨ am_isL (ls.getD (k - 1) am_U) = false) then some (ls.set k v) else none
def am_inc (x : Int32) (n : Int) : Int32 := match n with
  | .ofNat k => x + nI k
  | .negSucc k => x - nI (k + 1)
def am_cz (c : ClassFile.Cond) (x : Int32) : Bool := match c with
  | .eq => decide (x = 0)
  | .ne => decide (¬ x = 0)
  | .lt => decide (x < 0)
  | .ge => decide (0 ≤ x)
  | .gt => decide (0 < x)
  | .le => decide (x ≤ 0)
def am_cc (c : ClassFile.Cond) (x y : Int32) : Bool := match c with
  | .eq => decide (x = y)
  | .ne => decide (¬ x = y)
  | .lt => decide (x < y)
  | .ge => decide (y ≤ x)
  | .gt => decide (y < x)
  | .le => decide (x ≤ y)
def am_tab (d lo hi : Int) (ts : Array Int) (x : Int32) : Nat := (if x.toInt < lo ∨ hi < x.toInt then d else ts.getD (x.toInt - lo).toNat d).toNat
def am_look (d : Int) (ps : List (Int × Int)) (x : Int32) : Nat := ((ps.lookup x.toInt).getD d).toNat
/-- what a field holds, by its kind -/
def am_fv (σ : am_St) (k f : Nat) : Nat → Option Value
  | 0 => some (.int (g_I σ k f))
  | 5 => some (.int (g_I σ k f))
  | 1 => some (.long (g_J σ k f))
  | 2 => (g_K σ k f).bind (fun a => if a < 1000000 then some (.ref a) else none)
  | 3 => (g_S σ k f).bind (fun j => if j < 55 then some (.ref (2000000 + j)) else none)
  | _ => none
/-- a field holds another value -/
def am_pv (σ : am_St) (k f : Nat) (d : Nat) (v : Value) : Option am_St := match d with
  | 0 => match v with
    | .int x => some (p_I σ k (upd (g_I σ k) f x))
    | _ => none
  | 5 => match v with
    | .int x => if x = 0 ∨ x = 1 then some (p_I σ k (upd (g_I σ k) f x)) else none
    | _ => none
  | 1 => match v with
    | .long x => some (p_J σ k (vp_updL (g_J σ k) f x))
    | _ => none
  | 2 => match v with
    | .ref a => if am_kk k f = some a ∧ a < 1000000 then some (p_K σ k (am_upO (g_K σ k) f (some a))) else none
    | _ => none
  | 3 => match v with
    | .ref a => if 2000000 ≤ a ∧ a < 2000055 then some (p_S σ k (am_upO (g_S σ k) f (some (a - 2000000)))) else none
    | _ => none
  | _ => none
def am_ak : ArrayType → Nat
  | .int => 0
  | .long => 1
  | .byte => 2
  | .boolean => 3
  | _ => 77
abbrev am_Cf : Type := Nat × List Value × List Value × am_St
/-- one object more, of a kind and length, if it is the next one in the table -/
def am_mk (σ : am_St) (t n z : Nat) : Option am_St := if g_N σ = g_C σ ∧ am_tau (g_N σ) = (t, n) then some (p_N σ z) else none
/-- what two ints on the stack become -/
def am_i2 : Instr → Int32 → Int32 → Option Int32
  | .iadd, x, y => some (x + y)
  | .isub, x, y => some (x - y)
  | .imul, x, y => some (x * y)
  | .iand, x, y => some (x &&& y)
  | .ior, x, y => some (x ||| y)
  | .ixor, x, y => some (x ^^^ y)
  | .ishl, x, y => some (x <<< (y &&& 31))
  | .ishr, x, y => some (x >>> (y &&& 31))
  | .iushr, x, y => some (x.toUInt32 >>> (y.toUInt32 &&& Int32.toUInt32 31)).toInt32
  | .idiv, x, y => if y = 0 then none else some (x / y)
  | .irem, x, y => if y = 0 then none else some (x - x / y * y)
  | _, _, _ => none
def am_l2 : Instr → Int64 → Int64 → Option Int64
  | .ladd, x, y => some (x + y)
  | .lsub, x, y => some (x - y)
  | .land, x, y => some (x &&& y)
  | .lor, x, y => some (x ||| y)
  | _, _, _ => none
def am_li : Instr → Int64 → Int32 → Option Int64
  | .lshl, x, y => some (x <<< (y.toInt64 &&& 63))
  | .lshr, x, y => some (x >>> (y.toInt64 &&& 63))
  | .lushr, x, y => some (x.toUInt64 >>> (y.toInt64.toUInt64 &&& Int64.toUInt64 63)).toInt64
  | _, _, _ => none
def am_i1 : Instr → Int32 → Option Value
  | .ineg, x => some (.int (-x))
  | .i2l, x => some (.long x.toInt64)
  | .i2b, x => some (.int x.toInt8.toInt32)
  | .i2c, x => some (.int (x.toUInt32 % 65536).toInt32)
  | _, _ => none
/-- an element of an array, by its kind -/
def am_el (σ : am_St) (k j : Nat) : Nat → Option Value
  | 0 => some (.int (g_I σ k j))
  | 1 => some (.long (g_J σ k j))
  | 2 => some (.int (g_I σ k j))
  | 3 => some (.int (g_I σ k j))
  | 4 => (g_S σ k j).bind (fun q => if q < 55 then some (.ref (2000000 + q)) else none)
  | _ => none
def am_es (σ : am_St) (k j : Nat) (d : Nat) (v : Value) : Option am_St := match d with
  | 0 => match v with
    | .int x => some (p_I σ k (upd (g_I σ k) j x))
    | _ => none
  | 1 => match v with
    | .long x => some (p_J σ k (vp_updL (g_J σ k) j x))
    | _ => none
  | 2 => match v with
    | .int x => some (p_I σ k (upd (g_I σ k) j (vp_nar .byte x)))
    | _ => none
  | 3 => match v with
    | .int x => some (p_I σ k (upd (g_I σ k) j (vp_nar .boolean x)))
    | _ => none
  | 4 => match v with
    | .ref a => if 2000000 ≤ a ∧ a < 2000055 then some (p_S σ k (am_upO (g_S σ k) j (some (a - 2000000)))) else none
    | _ => none
  | _ => none
/-- which kinds of arrays an instruction is for -/
def am_fit : Instr → Nat → Bool
  | .iaload, d => d == 0
  | .laload, d => d == 1
  | .baload, d => d == 2 || d == 3
  | .aaload, d => d == 4
  | .iastore, d => d == 0
  | .lastore, d => d == 1
  | .bastore, d => d == 2 || d == 3
  | .aastore, d => d == 4
  | _, _ => false
def am_ald (ins : Instr) (i : Nat) (ls st : List Value) (σ : am_St) : Option am_Cf := match st with
  | .int j :: .ref k :: r =>
    if k < 1000000 then
      if am_ok σ k (am_tau k).1 && am_fit ins (am_tau k).1 && !am_out j (am_tau k).2 then (am_el σ k j.toNatClampNeg (am_tau k).1).map (fun v => (i + 1, ls, v :: r, σ)) else none
    else if k = 1000000 then
      if am_fit ins 0 && !am_out j (g_L σ) then some (i + 1, ls, .int (g_X σ j.toNatClampNeg) :: r, σ) else none
    else if 3000000 ≤ k ∧ k < 3000055 then
      if am_fit ins 2 && !am_out j (am_slen.getD (k - 3000000) 0) then some (i + 1, ls, .int ((am_strL.getD (k - 3000000) []).getD j.toNatClampNeg 0) :: r, σ) else none
    else none
  | _ => none
def am_ast (ins : Instr) (i : Nat) (ls st : List Value) (σ : am_St) : Option am_Cf := match st with
  | v :: .int j :: .ref k :: r =>
    if k < 1000000 then
      if am_ok σ k (am_tau k).1 && am_fit ins (am_tau k).1 && !am_out j (am_tau k).2 then (am_es σ k j.toNatClampNeg (am_tau k).1 v).map (fun τ => (i + 1, ls, r, τ)) else none
    else none
  | _ => none
def am_len (i : Nat) (ls st : List Value) (σ : am_St) : Option am_Cf := match st with
  | .ref k :: r =>
    if k < 1000000 then
      if am_ok σ k (am_tau k).1 && decide ((am_tau k).1 < 5) then some (i + 1, ls, .int (nI (am_tau k).2) :: r, σ) else none
    else if k = 1000000 then some (i + 1, ls, .int (nI (g_L σ)) :: r, σ)
    else if 3000000 ≤ k ∧ k < 3000055 then some (i + 1, ls, .int (nI (am_slen.getD (k - 3000000) 0)) :: r, σ)
    else none
  | _ => none
def am_get (n i : Nat) (ls st : List Value) (σ : am_St) : Option am_Cf := match st with
  | .ref k :: r =>
    if n < 990000 then
      if k < 1000000 && am_ok σ k (10 + n / 1000) && decide (n / 10 % 100 < am_nf (n / 1000)) && decide (am_fk (n / 1000) (n / 10 % 100) = n % 10) then (am_fv σ k (n / 10 % 100) (n % 10)).map (fun v => (i + 1, ls, v :: r, σ)) else none
    else if 2000000 ≤ k ∧ k < 2000055 then
      if n = 990000 then some (i + 1, ls, .ref (k + 1000000) :: r, σ) else if n = 990001 then some (i + 1, ls, .int (nI 0) :: r, σ) else none
    else none
  | _ => none
def am_put (n i : Nat) (ls st : List Value) (σ : am_St) : Option am_Cf := match st with
  | v :: .ref k :: r =>
    if k < 1000000 && am_ok σ k (10 + n / 1000) && decide (n / 10 % 100 < am_nf (n / 1000)) && decide (am_fk (n / 1000) (n / 10 % 100) = n % 10) then (am_pv σ k (n / 10 % 100) (n % 10) v).map (fun τ => (i + 1, ls, r, τ)) else none
  | _ => none
/-- System.arraycopy of ints -/
def am_copy (i : Nat) (ls st : List Value) (σ : am_St) : Option am_Cf := match st with
  | .int n :: .int dp :: .ref a :: .int sp :: .ref k :: r =>
    if k < 1000000 && a < 1000000 && am_ok σ k 0 && am_ok σ a 0 && !decide (sp < 0) && !decide (dp < 0) && !decide (n < 0) && decide (sp.toNatClampNeg + n.toNatClampNeg ≤ (am_tau k).2) && decide (dp.toNatClampNeg + n.toNatClampNeg ≤ (am_tau a).2) then
      some (i + 1, ls, r, p_I σ a (va_cpy (g_I σ k) (g_I σ a) sp.toNatClampNeg dp.toNatClampNeg n.toNatClampNeg)) else none
  | _ => none
def am_bi (ins : Instr) (i : Nat) (ls st : List Value) (σ : am_St) : Option am_Cf := match st with
  | .int y :: .int x :: r => (am_i2 ins x y).map (fun v => (i + 1, ls, .int v :: r, σ))
  | _ => none
def am_bl (ins : Instr) (i : Nat) (ls st : List Value) (σ : am_St) : Option am_Cf := match st with
  | .long y :: .long x :: r => (am_l2 ins x y).map (fun v => (i + 1, ls, .long v :: r, σ))
  | _ => none
def am_bs (ins : Instr) (i : Nat) (ls st : List Value) (σ : am_St) : Option am_Cf := match st with
  | .int y :: .long x :: r => (am_li ins x y).map (fun v => (i + 1, ls, .long v :: r, σ))
  | _ => none
def am_un (ins : Instr) (i : Nat) (ls st : List Value) (σ : am_St) : Option am_Cf := match st with
  | .int y :: r => (am_i1 ins y).map (fun v => (i + 1, ls, v :: r, σ))
  | _ => none
def am_step (ins : Instr) (i : Nat) (ls st : List Value) (σ : am_St) : Option am_Cf :=
  match ins with
  | .ldc_w n => some (i + 1, ls, .int (nI n) :: st, σ)
  | .iconst n => some (i + 1, ls, .int (Int32.ofInt n) :: st, σ)
  | .ldc2_w n => some (i + 1, ls, .long (lN n) :: st, σ)
  | .lconst n => some (i + 1, ls, .long (lN n.val) :: st, σ)
  | .ldc n => if n < 55 then some (i + 1, ls, .ref (2000000 + n) :: st, σ) else none
  | .iload k => match ls.getD k am_U with
    | .int x => some (i + 1, ls, .int x :: st, σ)
    | _ => none
  | .lload k => match ls.getD k am_U with
    | .long x => some (i + 1, ls, .long x :: st, σ)
    | _ => none
  | .aload k => match ls.getD k am_U with
    | .ref a => if a < 4000000 then some (i + 1, ls, .ref a :: st, σ) else none
    | _ => none
  | .istore k => match st with
    | .int x :: r => (am_sto ls k (.int x)).map (fun l => (i + 1, l, r, σ))
    | _ => none
  | .astore k => match st with
    | .ref a :: r => if a < 4000000 then (am_sto ls k (.ref a)).map (fun l => (i + 1, l, r, σ)) else none
    | _ => none
  | .lstore k => match st with
    | .long x :: r => if k + 1 < ls.length then (am_sto ls k (.long x)).map (fun l => (i + 1, l.set (k + 1) am_U, r, σ)) else none
    | _ => none
  | .iinc k n => match ls.getD k am_U with
    | .int x => (am_sto ls k (.int (am_inc x n))).map (fun l => (i + 1, l, st, σ))
    | _ => none
  | .dup => match st with
    | v :: r => if v.category = 1 then some (i + 1, ls, v :: v :: r, σ) else none
    | _ => none
  | .dup2 => match st with
    | v :: u :: r => if v.category = 1 ∧ u.category = 1 then some (i + 1, ls, v :: u :: v :: u :: r, σ) else none
    | _ => none
  | .pop => match st with
    | v :: r => if v.category = 1 then some (i + 1, ls, r, σ) else none
    | _ => none
  | .lcmp => match st with
    | .long y :: .long x :: r => some (i + 1, ls, .int (lg_cmp x y) :: r, σ)
    | _ => none
  | .l2i => match st with
    | .long x :: r => some (i + 1, ls, .int x.toInt32 :: r, σ)
    | _ => none
  | .ifCond c t => match st with
    | .int x :: r => some (if am_cz c x then t.toNat else i + 1, ls, r, σ)
    | _ => none
  | .if_icmp c t => match st with
    | .int y :: .int x :: r => some (if am_cc c x y then t.toNat else i + 1, ls, r, σ)
    | _ => none
  | .goto t => some (t.toNat, ls, st, σ)
  | .tableswitch d lo hi ts => match st with
    | .int x :: r => some (am_tab d lo hi ts x, ls, r, σ)
    | _ => none
  | .lookupswitch d ps => match st with
    | .int x :: r => some (am_look d ps.toList x, ls, r, σ)
    | _ => none
  | .getfield n => am_get n i ls st σ
  | .putfield n => am_put n i ls st σ
  | .getstatic n => if n = 0 then some (i + 1, ls, .int (nI 1) :: st, σ) else if n = 1 then some (i + 1, ls, .ref 4000000 :: st, σ) else none
  | .arraylength => am_len i ls st σ
  | .newarray t => match st with
    | .int n :: r => if n < 0 then none else (am_mk σ (am_ak t) n.toNatClampNeg n.toNatClampNeg).map (fun τ => (i + 1, ls, .ref (g_N σ) :: r, τ))
    | _ => none
  | .anewarray _ => match st with
    | .int n :: r => if n < 0 then none else (am_mk σ 4 n.toNatClampNeg n.toNatClampNeg).map (fun τ => (i + 1, ls, .ref (g_N σ) :: r, τ))
    | _ => none
  | .new n => if n < 13 then (am_mk σ (10 + n) 0 (am_nf n)).map (fun τ => (i + 1, ls, .ref (g_N σ) :: st, τ)) else none
  | .invokespecial _ => match st with
    | .ref k :: r => if k < 1000000 ∧ (r.map fun v => v.category).sum ≤ 8 then some (i + 1, ls, r, σ) else none
    | _ => none
  | .invokestatic z => if z = 10003 then (if ((st.drop 5).map fun v => v.category).sum ≤ 8 then am_copy i ls st σ else none) else match st with
    | .int y :: .int x :: r => if (r.map fun v => v.category).sum ≤ 8 then (if z = 10001 then some (i + 1, ls, .int (if x < y then y else x) :: r, σ) else if z = 10002 then some (i + 1, ls, .int (if y < x then y else x) :: r, σ) else none) else none
    | _ => none
  | .iaload => am_ald ins i ls st σ
  | .laload => am_ald ins i ls st σ
  | .baload => am_ald ins i ls st σ
  | .aaload => am_ald ins i ls st σ
  | .iastore => am_ast ins i ls st σ
  | .lastore => am_ast ins i ls st σ
  | .bastore => am_ast ins i ls st σ
  | .aastore => am_ast ins i ls st σ
  | .iadd => am_bi ins i ls st σ
  | .isub => am_bi ins i ls st σ
  | .imul => am_bi ins i ls st σ
  | .iand => am_bi ins i ls st σ
  | .ior => am_bi ins i ls st σ
  | .ixor => am_bi ins i ls st σ
  | .ishl => am_bi ins i ls st σ
  | .ishr => am_bi ins i ls st σ
  | .iushr => am_bi ins i ls st σ
  | .idiv => am_bi ins i ls st σ
  | .irem => am_bi ins i ls st σ
  | .ladd => am_bl ins i ls st σ
  | .lsub => am_bl ins i ls st σ
  | .land => am_bl ins i ls st σ
  | .lor => am_bl ins i ls st σ
  | .lshl => am_bs ins i ls st σ
  | .lshr => am_bs ins i ls st σ
  | .lushr => am_bs ins i ls st σ
  | .ineg => am_un ins i ls st σ
  | .i2l => am_un ins i ls st σ
  | .i2b => am_un ins i ls st σ
  | .i2c => am_un ins i ls st σ
  | _ => none
/-- which method an instruction calls -/
def am_tgt : Instr → Option Nat
  | .invokevirtual z => some z
  | .invokestatic z => if z < 10000 then some z else none
  | .invokespecial z => if z < 10000 then some z else none
  | _ => none
def am_own (y : Nat) : Nat := (am_mt y).1
def am_na (y : Nat) : Nat := (am_mt y).2.1
def am_ml (y : Nat) : Nat := (am_mt y).2.2.1
def am_rk (y : Nat) : Nat := (am_mt y).2.2.2.1
def am_nd (y : Nat) : Nat := (am_mt y).2.2.2.2
def am_rty : Nat → FieldType
  | 1 => .int
  | 2 => .boolean
  | 3 => .byte
  | _ => .char
/-- a method's end: it returns, or throws (exception number e) -/
def am_end (ins : Instr) (y : Nat) (st : List Value) (σ : am_St) : Option ((Option Value ⊕ Nat) × am_St) := match ins with
  | .ireturn => match st with
    | [.int v] => if 1 ≤ am_rk y ∧ am_rk y ≤ 4 ∧ narrow (am_rty (am_rk y)) (.int v) = .int v then some (.inl (some (.int v)), σ) else none
    | _ => none
  | .areturn => match st with
    | [.ref a] => if am_rk y = 5 ∧ a < 4000000 then some (.inl (some (.ref a)), σ) else none
    | _ => none
  | .return_ => match st with
    | [] => if am_rk y = 0 then some (.inl none, σ) else none
    | _ => none
  | .new n => if 1000 ≤ n ∧ n < 1002 ∧ 8 ≤ am_nd y ∧ (st.map fun v => v.category).sum ≤ 8 then some (.inr (n - 1000), p_E σ) else none
  | _ => none
/-- the locals at a method's beginning -/
def am_lay : List Value → List Value
  | [] => []
  | v :: r => if am_isL v then v :: am_U :: am_lay r else v :: am_lay r
def am_l0 (y : Nat) (as : List Value) : List Value := am_lay as ++ List.replicate (am_ml y - (am_lay as).length) am_U
/-- the receiver of a call by 'invokevirtual' -/
def am_rcv (ins : Instr) (z : Nat) (as : List Value) (σ : am_St) : Bool := match ins with
  | .invokevirtual _ => match as with
    | .ref k :: _ => if am_own z < 13 then k < 1000000 && am_ok σ k (10 + am_own z) else decide (am_own z = 14) && decide (2000000 ≤ k) && decide (k < 2000055)
    | _ => false
  | .invokespecial _ => match as with
    | .ref k :: _ => decide (k < 1000000)
    | _ => false
  | _ => true
def am_run : Nat → Nat → Nat → List Value → List Value → am_St → Option ((Option Value ⊕ Nat) × am_St)
  | 0, _, _, _, _, _ => none
  | n + 1, y, i, ls, st, σ => match (am_code y)[i]? with
    | none => none
    | some ins => match am_tgt ins with
      | some z =>
        if am_na z ≤ st.length ∧ am_nd z < am_nd y ∧ ((st.drop (am_na z)).map fun v => v.category).sum ≤ 8 ∧ am_rcv ins z (st.take (am_na z)).reverse σ = true ∧ (am_lay (st.take (am_na z)).reverse).length ≤ am_ml z then
          match am_run n z 0 (am_l0 z (st.take (am_na z)).reverse) [] σ with
          | none => none
          | some (.inl v, σ') => am_run n y (i + 1) ls (v.toList ++ st.drop (am_na z)) σ'
          | some (.inr e, σ') => match am_hd y e with
            | some k => some (.inl (some (.int (nI k))), σ')
            | none => if (am_hdL.getD y []).isEmpty then some (.inr e, σ') else none
        else none
      | none => match am_end ins y st σ with
        | some r => some r
        | none => match am_step ins i ls st σ with
          | none => none
          | some (i', ls', st', σ') => am_run n y i' ls' st' σ'
