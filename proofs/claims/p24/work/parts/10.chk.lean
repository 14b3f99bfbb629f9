/-! What is checked of a method's rows by a program: each instruction is what the bytes hold, and the words that it leans on stand in the tables. -/
def exI : Nat → Nat
  | 1 => 206
  | 2 => 211
  | _ => 156
def exC : Nat → Nat
  | 1 => 210
  | 2 => 215
  | _ => 160
def exNs : List String := ["java/lang/RuntimeException", "java/lang/Exception"]
theorem at_in : ∀ i ∈ [1, 2, 3], ∀ w ∈ vx_atS RX9 (exC i) (exN i) exNs, (decide (w ∈ lw_tbl) && vx_ot w && (goodWord w || decide (w = .castable (exN i) (exN i)) || DCs.any (fun C => decide (w = .declares (Bundle.initS C))))) = true := by decide +kernel
theorem at_in2 : ∀ i ∈ [1, 2, 3], ∀ w ∈ [Jvm.Cond.classLink RX9 (exI i) (exN i), Jvm.Cond.initialized (exN i)], (decide (w ∈ lw_tbl) && vx_ot w && goodWord w) = true := by decide +kernel
section CK
variable (own : String) (cc : ByteArray) (ct : List (Nat × CI)) (fr lo : Nat) (ini rz : Bool) (ret : Option FieldType)
/-- a callee's words, its room -/
def chkC (ix : Nat) (ws : List Nat) : Bool := match lkC ct ix with
  | some (y, cb, mL, ret, n, (f2, mc, ms, l2), mode, hh, _) => decide (¬ mc = 0 ∨ ms = 0) && decide (f2 + 1 ≤ fr) && decide (8 + (mL + 11) + l2 ≤ lo) && decide (y.cls ≠ "java/lang/invoke/MethodHandle") && decide (y.cls ≠ "java/lang/invoke/VarHandle") &&
    (match mode, ws with
      | 0, [a1, b1, a2, b2, a3, b3, a4, b4] => isW a1 b1 (.methodLink own ix y) && isW a2 b2 (.static y) && isW a3 b3 (.initialized y.cls) && isW a4 b4 (.code y cb mL ret) && decide ((parseMethodDescriptor y.desc).map (fun d => d.parameters.length) = some n)
      | 4, [a1, b1, a2, b2, a3, b3, a4, b4] => isW a1 b1 (.methodLink own ix y) && isW a2 b2 (.static y) && isW a3 b3 (.initialized y.cls) && isW a4 b4 (.codeWith y cb mL ret hh) && decide ((parseMethodDescriptor y.desc).map (fun d => d.parameters.length) = some n)
      | ci + 10, [a1, b1, a2, b2, a3, b3, a4, b4, a5, b5] => decide ((vwCl[ci]?).map (fun q => q.1) = some y.cls) && isW a1 b1 (.methodLink own ix y) && isW a2 b2 (.instanceMethod y) && isW a3 b3 (.initialized y.cls) && isW a4 b4 (.code y cb mL ret) && isW a5 b5 (.selects y.cls y y) && decide ((parseMethodDescriptor y.desc).map (fun d => d.parameters.length + 1) = some n)
      | 2, [a1, b1, a2, b2, a3, b3, a4, b4] => isW a1 b1 (.methodLink own ix y) && isW a2 b2 (.instanceMethod y) && isW a3 b3 (.initialized y.cls) && isW a4 b4 (.code y cb mL ret) && decide (ret = none) && decide (y.name = "<init>") && decide ((parseMethodDescriptor y.desc).map (fun d => d.parameters.length + 1) = some n)
      | 3, [j, _, a2, b2, a3, b3, a4, b4] => decide (NMs[j]? = some (own, ix, y, RX9)) && isW a2 b2 (.instanceMethod y) && isW a3 b3 (.initialized y.cls) && isW a4 b4 (.code y cb mL ret) && decide (ret = none) && decide (y.name = "<init>") && decide ((parseMethodDescriptor y.desc).map (fun d => d.parameters.length + 1) = some n)
      | _, _ => false)
  | none => false
def chkF (ix ci f t i : Nat) : Bool := match vwCl[ci]? with
  | some r => decide (f < r.2.2) && isW t i (.fieldLink own ix (r.2.1 f).1 (r.2.1 f).2.1 (r.2.1 f).2.2.1)
  | none => false
def finF (ci f : Nat) (b : Bool) : Bool := match vwCl[ci]? with
  | some r => (r.2.1 f).2.2.2 == b && (!b || decide (r.1 = own))
  | none => false
def setK (k0 k1 ci f : Nat) : Bool := match KT k0, KT k1 with
  | .inl (c0, fs0), .inl (c1, fs1) => decide (c0 = ci) && decide (c1 = ci) && decide (fs1 = fs0.set f (fs1.getD f (0, 0))) && decide (1 ≤ k1) && decide (21 ≤ k0)
  | _, _ => false
def rawK (k n : Nat) (t1 i1 t2 i2 t3 i3 ix : Nat) : Bool := match KT k with
  | .inl (ci, fs) => (match vwCl[ci]? with
    | some r => decide (n = r.2.2) && fs.all (fun q => decide (q.1 < 3)) && isW t1 i1 (.classLink own ix r.1) && isW t2 i2 (.instantiable r.1 n) && isW t3 i3 (.initialized r.1) && decide (1 ≤ k)
    | none => false)
  | _ => false
def chkE (e : Ent) : Bool := match e with
  | (pc, i, len, an) => decide (decode cc pc = .ok (i, len)) && match i, an with
    | .iconst _, _ => decide (len = 1)
    | .bipush k, _ => decide (len = 2) && decide ((Int8.ofInt k).toInt32 = Int32.ofInt k)
    | .sipush k, _ => decide (len = 3) && decide ((Int16.ofInt k).toInt32 = Int32.ofInt k)
    | .lconst _, _ => decide (len = 1)
    | .ldc ix, [t, i, v] => decide (len = 2) && isW t i (.constant own ix (Int32.ofNat v))
    | .ldc_w ix, [t, i, v] => decide (len = 3) && isW t i (.constant own ix (Int32.ofNat v))
    | .ldc2_w ix, [t, i, v] => decide (len = 3) && isW t i (.constantLong own ix (Int64.ofNat v))
    | .iload _, _ => decide (len = 2)
    | .lload _, _ => decide (len = 2)
    | .aload _, _ => decide (len = 2)
    | .istore _, _ => decide (len = 2)
    | .lstore _, _ => decide (len = 2)
    | .astore _, _ => decide (len = 2)
    | .iload_n _, _ => decide (len = 1)
    | .lload_n _, _ => decide (len = 1)
    | .aload_n _, _ => decide (len = 1)
    | .istore_n _, _ => decide (len = 1)
    | .lstore_n _, _ => decide (len = 1)
    | .astore_n _, _ => decide (len = 1)
    | .iinc _ _, _ => decide (len = 3)
    | .goto off, [t] => decide (len = 3) && decide ((pc : Int) + off = (t : Int))
    | .ifCond _ off, [t] => decide (len = 3) && decide ((pc : Int) + off = (t : Int))
    | .if_icmp _ off, [t] => decide (len = 3) && decide ((pc : Int) + off = (t : Int))
    | .tableswitch d lo hi offs, t :: ts => decide ((pc : Int) + d = (t : Int)) && decide (offs.toList.map (fun o => (pc : Int) + o) = ts.map (fun (t : Nat) => (t : Int))) && decide (hi - lo + 1 = (ts.length : Int))
    | .lookupswitch d ps, t :: ts => decide ((pc : Int) + d = (t : Int)) && decide (ps.toList.map (fun o => (pc : Int) + o.2) = ts.map (fun (t : Nat) => (t : Int))) && (ps.toList.zip (ps.toList.drop 1)).all (fun (a, next) => a.1 < next.1)
    | .getstatic ix, [k, t, i] => decide (len = 3) && ((decide (k = 91) && isW t i (.fieldLink own ix RX6 "SHIFTS" "[I")) || (decide (k = 92) && isW t i (.fieldLink own ix RX6 "MASKS" "[I")))
    | .getfield ix, [ci, f, t, i] => decide (len = 3) && chkF own ix ci f t i
    | .putfield ix, [ci, f, t, i] => decide (len = 3) && chkF own ix ci f t i && finF own ci f false
    | .putfield ix, [ci, f, t, i, k1, k0] => decide (len = 3) && chkF own ix ci f t i && finF own ci f true && ini && setK k0 k1 ci f
    | .new ix, [0, e, j] => decide (own = RX9) && (decide (e = 1) || decide (e = 2) || decide (e = 3)) && decide (ix = exI e) && decide (len = 3) && (match SLs[j]? with
      | some q => decide (q.1 = RX9) && decide (decode cc (pc + 3) = .ok (.dup, 1)) && decide (decode cc (pc + 4) = .ok (.ldc q.2.1, 2)) && decide (decode cc (pc + 6) = .ok (.invokespecial (exC e), 3)) && decide (decode cc (pc + 9) = .ok (.athrow, 1)) && decide (6 ≤ fr) && decide (82 + 8 ≤ lo)
      | none => false)
    | .new ix, [1, k, n, t1, i1, t2, i2, t3, i3] => decide (len = 3) && rawK own k n t1 i1 t2 i2 t3 i3 ix
    | .newarray at', [k, n, t, i] => decide (len = 2) && (match KT k with
      | .inr (ty, n', _) => decide (n' = n) && decide (ty < 3) && decide (newarray.typeOf at' = tyA ty) && isW t i (.arrayClass (newarray.typeOf at')) && decide (1 ≤ k ∧ k < 90)
      | _ => false)
    | .anewarray ix, [k, n, t, i, _, _] => decide (len = 3) && (match KT k with
      | .inr (ty, n', _) => decide (n' = n) && decide (3 ≤ ty) && decide (1 ≤ k) && (match vwCl[ciA ty]? with
        | some r => isW t i (.classLink own ix r.1)
        | none => false)
      | _ => false)
    | .invokevirtual ix, ws => decide (len = 3) && chkC own ct fr lo ix ws && (match lkC ct ix with | some ci => decide (10 ≤ ci.2.2.2.2.2.2.1) | none => false)
    | .invokestatic ix, [0, a1, b1, a2, b2, a3, b3, a4, b4] => decide (len = 3) && isW a1 b1 (.methodLink own ix arraycopyName) && isW a2 b2 (.native arraycopyName) && isW a3 b3 (.static arraycopyName) && isW a4 b4 (.initialized "java/lang/System") && decide (1 ≤ fr) && decide (nativeFrameWords "java/lang/System" "arraycopy" 5 + 11 ≤ lo)
    | .invokestatic ix, [2, a1, b1, a2, b2, a3, b3, a4, b4] => decide (len = 3) && isW a1 b1 (.methodLink own ix Lib.Math.abs.name) && isW a2 b2 (.static Lib.Math.abs.name) && isW a3 b3 (.initialized "java/lang/Math") && isW a4 b4 (.code Lib.Math.abs.name Lib.Math.abs.code 1 (some .int)) && decide (1 ≤ fr) && decide (13 ≤ lo)
    | .invokestatic ix, [3, a1, b1, a2, b2, a3, b3, a4, b4] => decide (len = 3) && isW a1 b1 (.methodLink own ix Lib.Math.max.name) && isW a2 b2 (.static Lib.Math.max.name) && isW a3 b3 (.initialized "java/lang/Math") && isW a4 b4 (.code Lib.Math.max.name Lib.Math.max.code 2 (some .int)) && decide (1 ≤ fr) && decide (13 ≤ lo)
    | .invokestatic ix, 1 :: ws => decide (len = 3) && chkC own ct fr lo ix ws && (match lkC ct ix with | some ci => decide (ci.2.2.2.2.2.2.1 = 0) || decide (ci.2.2.2.2.2.2.1 = 4) | none => false)
    | .invokespecial ix, [0, a1, b1, a2, b2, a3, b3] => decide (len = 3) && isW a1 b1 (.methodLink own ix Lib.objectInit) && isW a2 b2 (.instanceMethod Lib.objectInit) && isW a3 b3 (.code Lib.objectInit ⟨#[0xb1]⟩ 1 none) && decide (1 ≤ fr) && decide (12 ≤ lo)
    | .invokespecial ix, 1 :: k1 :: ws => decide (len = 3) && chkC own ct fr lo ix ws && decide (1 ≤ k1) && decide (k1 < 90) && (match lkC ct ix with | some ci => decide (ci.2.2.2.2.2.2.1 = 2) || decide (ci.2.2.2.2.2.2.1 = 3) | none => false)
    | .ireturn, _ => decide (len = 1) && ((decide (ret = some .int) && !rz) || (decide (ret = some .boolean) && rz))
    | .lreturn, _ => decide (len = 1) && decide (ret = some .long)
    | .areturn, _ => decide (len = 1) && (match ret with | some (.object _) => true | _ => false)
    | .return_, _ => decide (len = 1) && decide (ret = none)
    | .invokestatic _, _ => false
    | .invokespecial _, _ => false
    | .new _, _ => false
    | .newarray _, _ => false
    | .anewarray _, _ => false
    | .putfield _, _ => false
    | .getfield _, _ => false
    | .getstatic _, _ => false
    | .lookupswitch _ _, _ => false
    | .tableswitch _ _ _ _, _ => false
    | .goto _, _ => false
    | .ifCond _ _, _ => false
    | .if_icmp _ _, _ => false
    | .ldc _, _ => false
    | .ldc_w _, _ => false
    | .ldc2_w _, _ => false
    | _, _ => decide (len = 1)
/-- 'new' of an exception, which the rows behind it throw -/
def isThr (e : Ent) : Bool := match e with
  | (_, .new _, _, 0 :: _) => true
  | _ => false
def chain : List Ent → Bool
  | [] => true
  | [_] => true
  | e :: e' :: r => (isThr e || decide (e'.1 = e.1 + e.2.2.1)) && chain (e' :: r)
end CK
