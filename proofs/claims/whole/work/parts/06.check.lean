/-! every resolved instruction is what the bytes say, and its links stand in the tables -/
abbrev am_Dr : Type := Nat × Instr × Nat × List Nat
def am_dz : am_Dr := (0, .nop, 0, [])
def am_word (h : List Nat) (w : Cond) : Bool := decide (lw_tbl[h.headD 0]? = some w)
/-- the class, name and descriptor of the field behind a number -/
def am_fd (n : Nat) : String × String × String := if n = 990000 then ("java/lang/String", "value", "[B") else if n = 990001 then ("java/lang/String", "coder", "B") else match am_cls[n / 1000]? with
  | some q => ((q.2.1 (n / 10 % 100)).1, (q.2.1 (n / 10 % 100)).2.1, (q.2.1 (n / 10 % 100)).2.2.1)
  | none => ("", "", "")
def am_sd (n : Nat) : String × String × String := if n = 0 then ("java/lang/String", "COMPACT_STRINGS", "Z") else ("jdk/internal/util/Preconditions", "SIOOBE_FORMATTER", "Ljava/util/function/BiFunction;")
def am_en (e : Nat) : String := if e = 0 then "java/util/NoSuchElementException" else "java/lang/IllegalArgumentException"
def am_ek (e : Nat) : Nat := if e = 0 then 201 else 105
def am_ec (e : Nat) : Nat := if e = 0 then 205 else 109
def am_isS (own x n : Nat) : Bool := decide ((am_srL[n]?).map (fun q => (q.1, q.2.1)) = some (am_on own, x))
/-- an exception is made and thrown: new, dup, ldc, invokespecial, athrow -/
def am_thr (own pc e : Nat) (nx : List am_Dr) : Bool := match nx with
  | (p1, .dup, 1, _) :: (p2, i2, n2, h2) :: (p3, .invokespecial c, 3, _) :: (p4, .athrow, 1, _) :: _ => decide (own = 0) && decide (p1 = pc + 3) && decide (p2 = pc + 4) && decide (p3 = p2 + n2) && decide (p4 = p3 + 3) && decide (c = am_ec e) && (match i2 with
    | .ldc x => decide (n2 = 2) && (match lw_tbl[h2.headD 0]? with
      | some (.stringRef o k _) => decide (o = "RecordDesk") && decide (k = x) && (am_srL.any fun q => q.2.2.2 == h2.headD 0)
      | _ => false)
    | .ldc_w x => decide (n2 = 3) && (match lw_tbl[h2.headD 0]? with
      | some (.stringRef o k _) => decide (o = "RecordDesk") && decide (k = x) && (am_srL.any fun q => q.2.2.2 == h2.headD 0)
      | _ => false)
    | _ => false)
  | _ => false
def am_pcd (d : List am_Dr) (i : Nat) : Nat := (d.getD i am_dz).1
def am_pcZ (z : Nat) : Nat := am_pcd (am_dc z) 0
def am_tgo (d : List am_Dr) (pc : Nat) (off : Int) (t : Int) : Bool := decide ((pc : Int) + off = (am_pcd d t.toNat : Int))
def am_at (p : Nat) (w : Cond) : Bool := decide (lw_tbl[p]? = some w)
def am_np (z : Nat) : Option Nat := (parseMethodDescriptor (am_nm z).desc).map (fun d => d.parameters.length)
/-- a row of a table of handlers: it covers every call, and its code answers a number -/
def am_hrow (z : Nat) (q : Nat × Nat × Nat × Nat) (r : Nat × Nat) : Bool := (List.range (am_code z).length).any (fun j => decide (am_pcd (am_dc z) j = q.2.2.1) && (match (am_code z)[j]?, (am_code z)[j + 1]?, (am_code z)[j + 2]? with
    | some (.astore k), some (.ldc_w n), some .ireturn => decide (n = r.2) && decide (k < am_ml z) && decide (am_rk z = 1)
    | _, _, _ => false)) && decide (q.2.2.2 ≠ 0) && (lw_tbl.any fun w => decide (w = .classLink "RecordDeskLaw" q.2.2.2 (am_en r.1)))
  && ((List.range (am_code z).length).all fun j => match (am_code z)[j]? with
    | some ins => match am_tgt ins with
      | some _ => decide (q.1 ≤ am_pcd (am_dc z) j) && decide (am_pcd (am_dc z) j < q.2.1)
      | none => true
    | none => true)
def am_hok (z : Nat) : Bool := match am_hh z, am_hdL.getD z [] with
  | [], [] => true
  | [q], [r] => decide (am_own z = 13) && am_hrow z q r
  | [q, q'], [r, r'] => decide (am_own z = 13) && am_hrow z q r && am_hrow z q' r' && decide (r.1 = 0) && decide (r'.1 = 1)
  | _, _ => false
/-- a callee: its class, first byte, locals, code, kind of answer -/
def am_zB (z : Nat) : Bool := decide ((am_nm z).cls = am_on (am_own z)) && plainName (am_nm z).cls && decide (am_pcZ z = 0) && decide (am_ml z ≤ 9) && decide ((am_nm z).cls ≠ "java/lang/invoke/MethodHandle") && decide ((am_nm z).cls ≠ "java/lang/invoke/VarHandle")
  && (match am_hh z with
    | [] => am_at (am_pl z).1 (.code (am_nm z) (am_by z) (am_ml z) (am_rt z))
    | _ :: _ => am_at (am_pl z).1 (.codeWith (am_nm z) (am_by z) (am_ml z) (am_rt z) (am_hh z)))
  && am_at (am_pl z).2.2.2 (.initialized (am_nm z).cls) && am_hok z
  && (match am_rk z, am_rt z with
    | 0, none => true
    | 1, some .int => true
    | 2, some .boolean => true
    | 3, some .byte => true
    | 4, some .char => true
    | 5, some (.object _) => true
    | _, _ => false)
def am_zV (z : Nat) : Bool := am_at (am_pl z).2.1 (.instanceMethod (am_nm z)) && am_at (am_pl z).2.2.1 (.selects (am_nm z).cls (am_nm z) (am_nm z)) && decide ((am_np z).map (· + 1) = some (am_na z)) && (am_hh z).isEmpty && decide (z < 291)
def am_zS (z : Nat) : Bool := am_at (am_pl z).2.1 (.static (am_nm z)) && decide (am_np z = some (am_na z)) && decide (z < 291)
def am_zI (z : Nat) : Bool := am_at (am_pl z).2.1 (.instanceMethod (am_nm z)) && decide ((am_nm z).name = "<init>") && decide ((am_np z).map (· + 1) = some (am_na z)) && (am_hh z).isEmpty && decide (am_rt z = none) && decide (z < 291)
def am_lnV (own x : Nat) (h : List Nat) (z : Nat) : Bool := match lw_tbl[h.headD 0]? with
  | some (.methodLink o k y) => decide (o = am_on own) && decide (k = x) && decide (y = am_nm z)
  | _ => false
def am_lnk (own x : Nat) (h : List Nat) (z : Nat) : Bool := match lw_tbl[h.headD 0]? with
  | some (.methodLink o k y) => decide (o = am_on own) && decide (k = x) && decide (y = am_nm z)
  | some (.methodLinkNest o k y w) => decide (o = am_on own) && decide (k = x) && decide (y = am_nm z) && decide (w = "RecordDesk") && (am_hh z).isEmpty
  | _ => false
def am_chkI (own : Nat) (ini : Bool) (d : List am_Dr) (pc : Nat) (ins real : Instr) (len : Nat) (h : List Nat) (nx : List am_Dr) : Bool := match ins with
  | .ldc_w n => match real with
    | .iconst k => decide (len = 1) && decide (Int32.ofInt k = nI n)
    | .bipush k => decide (len = 2) && decide ((Int8.ofInt k).toInt32 = nI n)
    | .sipush k => decide (len = 3) && decide ((Int16.ofInt k).toInt32 = nI n)
    | .ldc x => decide (len = 2) && am_word h (.constant (am_on own) x (nI n))
    | .ldc_w x => decide (len = 3) && am_word h (.constant (am_on own) x (nI n))
    | _ => false
  | .iconst n => match real with
    | .iconst k => decide (len = 1) && decide (Int32.ofInt k = Int32.ofInt n)
    | .bipush k => decide (len = 2) && decide ((Int8.ofInt k).toInt32 = Int32.ofInt n)
    | .sipush k => decide (len = 3) && decide ((Int16.ofInt k).toInt32 = Int32.ofInt n)
    | _ => false
  | .ldc2_w n => match real with
    | .ldc2_w x => decide (len = 3) && am_word h (.constantLong (am_on own) x (lN n))
    | _ => false
  | .ldc n => match real with
    | .ldc x => decide (len = 2) && am_isS own x n
    | _ => false
  | .iload k => match real with
    | .iload x => decide (len = 2) && decide (x = k)
    | .iload_n x => decide (len = 1) && decide (x.val = k)
    | _ => false
  | .lload k => match real with
    | .lload x => decide (len = 2) && decide (x = k)
    | .lload_n x => decide (len = 1) && decide (x.val = k)
    | _ => false
  | .aload k => match real with
    | .aload x => decide (len = 2) && decide (x = k)
    | .aload_n x => decide (len = 1) && decide (x.val = k)
    | _ => false
  | .istore k => match real with
    | .istore x => decide (len = 2) && decide (x = k)
    | .istore_n x => decide (len = 1) && decide (x.val = k)
    | _ => false
  | .lstore k => match real with
    | .lstore x => decide (len = 2) && decide (x = k)
    | .lstore_n x => decide (len = 1) && decide (x.val = k)
    | _ => false
  | .astore k => match real with
    | .astore x => decide (len = 2) && decide (x = k)
    | .astore_n x => decide (len = 1) && decide (x.val = k)
    | _ => false
  | .ifCond c t => match real with
    | .ifCond c' o => decide (c' = c) && decide (len = 3) && am_tgo d pc o t
    | _ => false
  | .if_icmp c t => match real with
    | .if_icmp c' o => decide (c' = c) && decide (len = 3) && am_tgo d pc o t
    | _ => false
  | .goto t => match real with
    | .goto o => decide (len = 3) && am_tgo d pc o t
    | _ => false
  | .tableswitch t lo hi ts => match real with
    | .tableswitch o lo' hi' os => decide (lo' = lo) && decide (hi' = hi) && am_tgo d pc o t && decide (ts.size = os.size) && decide ((ts.size : Int) = hi - lo + 1) && (List.range ts.size).all (fun q => am_tgo d pc (os.getD q 0) (ts.getD q 0))
    | _ => false
  | .lookupswitch t ps => match real with
    | .lookupswitch o qs => am_tgo d pc o t && decide (ps.toList.map Prod.fst = qs.toList.map Prod.fst) && ((ps.toList.zip qs.toList).all fun q => am_tgo d pc q.2.2 q.1.2) && (qs.toList.zip (qs.toList.drop 1)).all (fun (a, next) => decide (a.1 < next.1))
    | _ => false
  | .getfield n => match real with
    | .getfield x => decide (len = 3) && am_word h (.fieldLink (am_on own) x (am_fd n).1 (am_fd n).2.1 (am_fd n).2.2)
    | _ => false
  | .putfield n => match real with
    | .putfield x => decide (len = 3) && am_word h (.fieldLink (am_on own) x (am_fd n).1 (am_fd n).2.1 (am_fd n).2.2) && decide (own = n / 1000) && ini
        || decide (len = 3) && am_word h (.fieldLink (am_on own) x (am_fd n).1 (am_fd n).2.1 (am_fd n).2.2) && (match am_cls[n / 1000]? with
          | some q => !(q.2.1 (n / 10 % 100)).2.2.2
          | none => false)
    | _ => false
  | .getstatic n => match real with
    | .getstatic x => decide (len = 3) && decide (n < 2) && am_word h (.fieldLink (am_on own) x (am_sd n).1 (am_sd n).2.1 (am_sd n).2.2)
    | _ => false
  | .newarray t => decide (real = .newarray t) && decide (len = 2) && decide (am_ak t < 4)
  | .anewarray _ => match real with
    | .anewarray x => decide (len = 3) && am_word h (.classLink (am_on own) x "java/lang/String")
    | _ => false
  | .new n => match real with
    | .new x => decide (len = 3) && (if n < 13 then am_word h (.classLink (am_on own) x (am_on n)) else decide (x = am_ek (n - 1000)) && am_thr own pc (n - 1000) nx)
    | _ => false
  | .invokevirtual z => match real with
    | .invokevirtual x => decide (len = 3) && am_lnV own x h z && am_zV z
    | _ => false
  | .invokestatic z => match real with
    | .invokestatic x => decide (len = 3) && (if z < 10000 then am_lnk own x h z && am_zS z else if z = 10001 then am_word h (.methodLink (am_on own) x Lib.Math.max.name) else if z = 10002 then am_word h (.methodLink (am_on own) x Lib.Math.min.name) else if z = 10003 then am_word h (.methodLink (am_on own) x arraycopyName) else false)
    | _ => false
  | .invokespecial z => match real with
    | .invokespecial x => decide (len = 3) && (if z < 10000 then am_lnk own x h z && am_zI z else am_word h (.methodLink (am_on own) x Lib.objectInit))
    | _ => false
  | .iinc k n => decide (real = .iinc k n) && decide (len = 3) && decide (am_inc 0 n = Int32.ofInt n)
  | .nop => true
  | .athrow => true
  | _ => decide (real = ins) && decide (len = 1)
def am_fall : Instr → Bool
  | .goto _ => false
  | .tableswitch .. => false
  | .lookupswitch .. => false
  | .ireturn => false
  | .areturn => false
  | .return_ => false
  | .athrow => false
  | .nop => false
  | _ => true
/-- a method's code against its bytes, from an instruction on -/
def am_chkR (own : Nat) (ini : Bool) (by_ : ByteArray) (d : List am_Dr) : List Instr → List am_Dr → Bool
  | [], [] => true
  | ins :: c, (pc, real, len, h) :: nx => decide (decode by_ pc = .ok (real, len)) && (!am_fall ins || decide ((nx.headD am_dz).1 = pc + len)) && am_chkI own ini d pc ins real len h nx && am_chkR own ini by_ d c nx
  | _, _ => false
/-- the same, of the first k instructions alone -/
def am_chkP (own : Nat) (ini : Bool) (by_ : ByteArray) (d : List am_Dr) : Nat → List Instr → List am_Dr → Bool
  | 0, _, _ => true
  | k + 1, ins :: c, (pc, real, len, h) :: nx => decide (decode by_ pc = .ok (real, len)) && (!am_fall ins || decide ((nx.headD am_dz).1 = pc + len)) && am_chkI own ini d pc ins real len h nx && am_chkP own ini by_ d k c nx
  | _ + 1, [], _ => false
  | _ + 1, _ :: _, [] => false
theorem am_chk_cut {own : Nat} {ini : Bool} {by_ : ByteArray} {d : List am_Dr} (k : Nat) {c c' : List Instr} {nx nx' : List am_Dr} (h : am_chkP own ini by_ d k c nx = true) (hc : c.drop k = c') (hn : nx.drop k = nx') (h2 : am_chkR own ini by_ d c' nx' = true) : am_chkR own ini by_ d c nx = true := by
  induction k generalizing c nx with
  | zero => simp only [List.drop_zero] at hc hn; subst hc; subst hn; exact h2
  | succ k ih =>
    match c, nx, h with
    | ins :: c, (pc, real, len, hh) :: nx, h =>
      simp only [am_chkP, Bool.and_eq_true] at h
      simp only [List.drop_succ_cons] at hc hn
      simp only [am_chkR, Bool.and_eq_true]
      exact ⟨h.1, ih h.2 hc hn⟩
