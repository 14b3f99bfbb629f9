/-! A SECOND READING OF THE BYTECODE: a machine of its own over typed values and a memory of two indices (address, place), whose runs are told as propositions ('stp': one instruction; 'vc': as far as the next cut). Part 06 shows that what it says holds of the machine. -/
/-- a value: an int, a long, or a reference with the kind of its cell -/
abbrev TV : Type := Int32 ⊕ (Int64 ⊕ (Nat × Nat))
def tvV : TV → Value
  | .inl x => .int x
  | .inr (.inl x) => .long x
  | .inr (.inr q) => .ref q.2
def tvC : TV → Nat
  | .inr (.inl _) => 2
  | _ => 1
/-- the memory: ints, references, longs by address and place; each address's kind; the heap's size -/
abbrev MM : Type := (Nat → Nat → Int32) × (Nat → Nat → Nat) × (Nat → Nat → Int64) × (Nat → Nat) × Nat
/-- how a call ends: it returns (a value), or throws (1: index, 2: argument, 3: state) -/
abbrev OC : Type := Option TV ⊕ Nat
abbrev SPc : Type := List TV → MM → (OC → MM → Prop) → Prop
/-- pc, instruction, its length, what the tables say of it -/
abbrev Ent : Type := Nat × Instr × Nat × List Nat
abbrev LC : Type := List (Option TV)
abbrev GC : Type := List Ent → LC → List TV → MM → Nat → Nat → Prop
/-- a kind: an object (its class's number, its fields: 0 int (1: boolean), 1 long, 2 null as yet, j + 3 a cell of kind j that far behind it) or an array (0 int, 1 boolean, 2 long, t + 3 references; length; the elements' kind; how far the first lies and how far apart, 0: kept in the memory) -/
abbrev KD : Type := (Nat × List (Nat × Nat)) ⊕ (Nat × Nat × Nat × Nat × Nat)
def up2 {α : Type} (f : Nat → Nat → α) (a j : Nat) (v : α) : Nat → Nat → α := fun b k => if b = a ∧ k = j then v else f b k
def up1 {α : Type} (f : Nat → α) (a : Nat) (v : α) : Nat → α := fun b => if b = a then v else f b
/-- a row of ints copied onto another -/
def cpR (f : Nat → Nat → Int32) (a0 sp a dp n : Nat) : Nat → Nat → Int32 := fun b k => if b = a ∧ dp ≤ k ∧ k < dp + n then f a0 (sp + (k - dp)) else f b k
/-- what a cell at that address would hold, nothing -/
def clr {α : Type} (f : Nat → Nat → α) (a : Nat) (v : α) : Nat → Nat → α := fun b k => if b = a then v else f b k
/-- old rows of ints that nobody writes: the script 90, State.SHIFTS 91, State.MASKS 92: their lengths and what they hold -/
abbrev OT : Type := (Nat → Nat) × (Nat → Nat → Int32)
def goTo : List Ent → Nat → List Ent
  | [], _ => []
  | e :: r, t => if e.1 = t then e :: r else goTo r t
/-- a callee: name, bytes, locals, what it returns, how many values it takes, its room (frames, cells, slots, words), how it is called (0 static, 2 a constructor, 3 a nest mate's constructor, 4 static with a table, 10 and more: virtual, with its class's number), its table, what it does -/
abbrev CI : Type := MethodName × ByteArray × Nat × Option FieldType × Nat × (Nat × Nat × Nat × Nat) × Nat × List (Nat × Nat × Nat × Nat) × SPc
def lkC : List (Nat × CI) → Nat → Option CI
  | [], _ => none
  | q :: r, i => if q.1 = i then some q.2 else lkC r i
def ifP (c : ClassFile.Cond) (x : Int32) : Prop := match c with
  | .eq => x = 0
  | .ne => ¬ x = 0
  | .lt => x < 0
  | .ge => 0 ≤ x
  | .gt => 0 < x
  | .le => x ≤ 0
def icP (c : ClassFile.Cond) (x y : Int32) : Prop := match c with
  | .eq => x = y
  | .ne => ¬ x = y
  | .lt => x < y
  | .ge => y ≤ x
  | .gt => y < x
  | .le => x ≤ y
def getL (lc : LC) (i : Nat) : Option TV := match lc[i]? with
  | some (some v) => some v
  | _ => none
/-- storing: a long that stood half under the place goes -/
def setL (lc : LC) (i : Nat) (v : TV) : LC := match i with
  | 0 => if tvC v = 2 then (lc.set 0 (some v)).set 1 none else lc.set 0 (some v)
  | j + 1 => match getL lc j with
    | some (.inr (.inl _)) => if tvC v = 2 then ((lc.set j none).set (j + 1) (some v)).set (j + 2) none else (lc.set j none).set (j + 1) (some v)
    | _ => if tvC v = 2 then (lc.set (j + 1) (some v)).set (j + 2) none else lc.set (j + 1) (some v)
/-- the room of a call or a new cell -/
def rmP (R : Nat × Nat) (mc ms ce sl : Nat) (P : Prop) : Prop := match mc with
  | 0 => P
  | k + 1 => (ce + (k + 1) ≤ R.1 ∧ sl + ms ≤ R.2) ∧ P
/-- no cell of kind k on a stack, in the locals -/
def nkV (k : Nat) : TV → Bool
  | .inr (.inr q) => ! Nat.beq q.1 k
  | _ => true
def nkS (k : Nat) : List TV → Bool
  | [] => true
  | v :: st => nkV k v && nkS k st
def nkL (k : Nat) : LC → Bool
  | [] => true
  | none :: lc => nkL k lc
  | some v :: lc => nkV k v && nkL k lc
section VC
variable (KT : Nat → KD) (ot : OT) (code : List Ent) (ct : List (Nat × CI)) (hn : List (Nat × Nat × Nat × Nat)) (R : Nat × Nat) (rz : Bool) (z0 : Nat) (xo : Option Nat)
def fldK (k ci f : Nat) : Option (Nat × Nat) := match KT k with
  | .inl (c, fs) => if c = ci then fs[f]? else none
  | .inr _ => none
def arrK (k : Nat) : Option (Nat × Nat × Nat × Nat × Nat) := match KT k with
  | .inl _ => none
  | .inr q => some q
/-- where a throw is caught here: the rows of the table in their order -/
def catR : List (Nat × Nat × Nat × Nat) → Nat → Nat → Option Nat
  | [], _, _ => none
  | (a, b, h, e') :: r, pc, e => if a ≤ pc ∧ pc < b ∧ e' = e then some h else catR r pc e
/-- behind a call -/
def aftC (G : GC) (Rt : OC → MM → Prop) (pc : Nat) (rest : List Ent) (lc : LC) (st : List TV) (ce sl : Nat) : OC → MM → Prop := fun o μ => match o with
  | .inl none => G rest lc st μ ce sl
  | .inl (some v) => G rest lc (v :: st) μ ce sl
  | .inr e => match catR hn pc e with
    | some h => ∀ q : Nat, G (goTo code h) lc [.inr (.inr (94, q))] μ ce sl
    | none => match hn with
      | [] => Rt (.inr e) μ
      | _ => False
/-- a virtual call's receiver is of the class that the callee's row names -/
def rcvK (mode n : Nat) (st : List TV) : Bool := match mode with
  | c + 10 => match st.drop (n - 1) with
    | .inr (.inr (k, _)) :: _ => match KT k with
      | .inl (ci, _) => Nat.beq ci c
      | .inr _ => false
    | _ => false
  | _ => true
/-- a call -/
def calR (G : GC) (Rt : OC → MM → Prop) (ci : CI) (pc : Nat) (rest : List Ent) (lc : LC) (st : List TV) (μ : MM) (ce sl : Nat) : Prop := match ci with
  | (_, _, _, _, n, (_, mc, ms, _), mode, _, sp) =>
    if n ≤ st.length ∧ rcvK KT mode n st = true ∧ ((st.drop n).map tvC).sum ≤ 8 then rmP R mc ms ce sl (sp (st.take n).reverse μ (aftC code hn G Rt pc rest lc (st.drop n) (ce + mc) (sl + ms))) else False
/-- a constructor's call: what lay twice on the stack bears its new kind behind it (given in the tables) -/
def ctoR (G : GC) (Rt : OC → MM → Prop) (ci : CI) (k1 : Nat) (pc : Nat) (rest : List Ent) (lc : LC) (st : List TV) (μ : MM) (ce sl : Nat) : Prop := match ci with
  | (_, _, _, _, n, (_, mc, ms, _), _, _, sp) => match st with
    | .inr (.inr (k, a)) :: .inr (.inr (k', a')) :: st' =>
      if n = 1 ∧ k = k' ∧ k < 90 ∧ nkS k st' = true ∧ nkL k lc = true ∧ ((Value.ref a' :: st'.map tvV).map fun v => v.category).sum ≤ 8 then a' = a ∧ (xo = some a ∨ z0 ≤ a) ∧ rmP R mc ms ce sl (sp [.inr (.inr (k, a))] μ (fun o μ' => match o with
        | .inl none => μ'.2.2.2.1 a = k1 ∧ G rest lc (.inr (.inr (k1, a)) :: st') μ' (ce + mc) (sl + ms)
        | _ => False)) else False
    | _ => False
def swR (G : GC) (lc : LC) (st : List TV) (μ : MM) (ce sl : Nat) (x : Int32) : Int → List Nat → Prop
  | _, [] => True
  | i, t :: ts => (x.toInt = i → G (goTo code t) lc st μ ce sl) ∧ swR G lc st μ ce sl x (i + 1) ts
def luR (G : GC) (lc : LC) (st : List TV) (μ : MM) (ce sl : Nat) (x : Int32) (d : Nat) : List (Int × Int) → List Nat → Prop
  | [], [] => G (goTo code d) lc st μ ce sl
  | q :: qs, t :: ts => (x.toInt = q.1 → G (goTo code t) lc st μ ce sl) ∧ (¬ x.toInt = q.1 → luR G lc st μ ce sl x d qs ts)
  | _, _ => False
/-- one instruction: 'G' what holds at the next, 'Rt' at the method's end -/
def stp (G : GC) (Rt : OC → MM → Prop) (e : Ent) (rest : List Ent) (lc : LC) (st : List TV) (μ : MM) (ce sl : Nat) : Prop := match e with
  | (pc, i, _, an) => match i with
    | .iconst k => G rest lc (.inl (Int32.ofInt k) :: st) μ ce sl
    | .bipush k => G rest lc (.inl (Int32.ofInt k) :: st) μ ce sl
    | .sipush k => G rest lc (.inl (Int32.ofInt k) :: st) μ ce sl
    | .lconst k => G rest lc (.inr (.inl (Int64.ofNat (k : Nat))) :: st) μ ce sl
    | .ldc _ => match an with
      | [_, _, v] => G rest lc (.inl (Int32.ofNat v) :: st) μ ce sl
      | _ => False
    | .ldc_w _ => match an with
      | [_, _, v] => G rest lc (.inl (Int32.ofNat v) :: st) μ ce sl
      | _ => False
    | .ldc2_w _ => match an with
      | [_, _, v] => G rest lc (.inr (.inl (Int64.ofNat v)) :: st) μ ce sl
      | _ => False
    | .iload i => match getL lc i with
      | some (.inl x) => G rest lc (.inl x :: st) μ ce sl
      | _ => False
    | .iload_n i => match getL lc i with
      | some (.inl x) => G rest lc (.inl x :: st) μ ce sl
      | _ => False
    | .lload i => match getL lc i with
      | some (.inr (.inl x)) => G rest lc (.inr (.inl x) :: st) μ ce sl
      | _ => False
    | .lload_n i => match getL lc i with
      | some (.inr (.inl x)) => G rest lc (.inr (.inl x) :: st) μ ce sl
      | _ => False
    | .aload i => match getL lc i with
      | some (.inr (.inr x)) => G rest lc (.inr (.inr x) :: st) μ ce sl
      | _ => False
    | .aload_n i => match getL lc i with
      | some (.inr (.inr x)) => G rest lc (.inr (.inr x) :: st) μ ce sl
      | _ => False
    | .istore i => match st with
      | .inl x :: st => if i < lc.length then G rest (setL lc i (.inl x)) st μ ce sl else False
      | _ => False
    | .istore_n i => match st with
      | .inl x :: st => if (i : Nat) < lc.length then G rest (setL lc i (.inl x)) st μ ce sl else False
      | _ => False
    | .lstore i => match st with
      | .inr (.inl x) :: st => if i + 1 < lc.length then G rest (setL lc i (.inr (.inl x))) st μ ce sl else False
      | _ => False
    | .lstore_n i => match st with
      | .inr (.inl x) :: st => if (i : Nat) + 1 < lc.length then G rest (setL lc i (.inr (.inl x))) st μ ce sl else False
      | _ => False
    | .astore i => match st with
      | .inr (.inr x) :: st => if i < lc.length then G rest (setL lc i (.inr (.inr x))) st μ ce sl else False
      | _ => False
    | .astore_n i => match st with
      | .inr (.inr x) :: st => if (i : Nat) < lc.length then G rest (setL lc i (.inr (.inr x))) st μ ce sl else False
      | _ => False
    | .iinc i k => match getL lc i with
      | some (.inl x) => if i < lc.length then G rest (setL lc i (.inl (x + Int32.ofInt k))) st μ ce sl else False
      | _ => False
    | .iadd => match st with
      | .inl y :: .inl x :: st => G rest lc (.inl (x + y) :: st) μ ce sl
      | _ => False
    | .isub => match st with
      | .inl y :: .inl x :: st => G rest lc (.inl (x - y) :: st) μ ce sl
      | _ => False
    | .imul => match st with
      | .inl y :: .inl x :: st => G rest lc (.inl (x * y) :: st) μ ce sl
      | _ => False
    | .idiv => match st with
      | .inl y :: .inl x :: st => ¬ y = 0 ∧ G rest lc (.inl (x / y) :: st) μ ce sl
      | _ => False
    | .irem => match st with
      | .inl y :: .inl x :: st => ¬ y = 0 ∧ G rest lc (.inl (x % y) :: st) μ ce sl
      | _ => False
    | .ineg => match st with
      | .inl x :: st => G rest lc (.inl (-x) :: st) μ ce sl
      | _ => False
    | .iand => match st with
      | .inl y :: .inl x :: st => G rest lc (.inl (x &&& y) :: st) μ ce sl
      | _ => False
    | .ior => match st with
      | .inl y :: .inl x :: st => G rest lc (.inl (x ||| y) :: st) μ ce sl
      | _ => False
    | .ishl => match st with
      | .inl y :: .inl x :: st => G rest lc (.inl (x <<< (y &&& 31)) :: st) μ ce sl
      | _ => False
    | .ishr => match st with
      | .inl y :: .inl x :: st => G rest lc (.inl (x >>> (y &&& 31)) :: st) μ ce sl
      | _ => False
    | .iushr => match st with
      | .inl y :: .inl x :: st => G rest lc (.inl (x.toUInt32 >>> (y.toUInt32 &&& Int32.toUInt32 31)).toInt32 :: st) μ ce sl
      | _ => False
    | .i2l => match st with
      | .inl x :: st => G rest lc (.inr (.inl x.toInt64) :: st) μ ce sl
      | _ => False
    | .ladd => match st with
      | .inr (.inl y) :: .inr (.inl x) :: st => G rest lc (.inr (.inl (x + y)) :: st) μ ce sl
      | _ => False
    | .lmul => match st with
      | .inr (.inl y) :: .inr (.inl x) :: st => G rest lc (.inr (.inl (x * y)) :: st) μ ce sl
      | _ => False
    | .lcmp => match st with
      | .inr (.inl y) :: .inr (.inl x) :: st => G rest lc (.inl (lg_cmp x y) :: st) μ ce sl
      | _ => False
    | .dup => match st with
      | .inl x :: st => G rest lc (.inl x :: .inl x :: st) μ ce sl
      | .inr (.inr x) :: st => G rest lc (.inr (.inr x) :: .inr (.inr x) :: st) μ ce sl
      | _ => False
    | .dup2 => match st with
      | .inl x :: .inr (.inr y) :: st => G rest lc (.inl x :: .inr (.inr y) :: .inl x :: .inr (.inr y) :: st) μ ce sl
      | _ => False
    | .goto _ => match an with
      | [t] => G (goTo code t) lc st μ ce sl
      | _ => False
    | .ifCond c _ => match st, an with
      | .inl x :: st, [t] => (ifP c x → G (goTo code t) lc st μ ce sl) ∧ (¬ ifP c x → G rest lc st μ ce sl)
      | _, _ => False
    | .if_icmp c _ => match st, an with
      | .inl y :: .inl x :: st, [t] => (icP c x y → G (goTo code t) lc st μ ce sl) ∧ (¬ icP c x y → G rest lc st μ ce sl)
      | _, _ => False
    | .tableswitch _ lo hi _ => match st, an with
      | .inl x :: st, d :: ts => ((x.toInt < lo ∨ hi < x.toInt) → G (goTo code d) lc st μ ce sl) ∧ swR code G lc st μ ce sl x lo ts
      | _, _ => False
    | .lookupswitch _ ps => match st, an with
      | .inl x :: st, d :: ts => luR code G lc st μ ce sl x d ps.toList ts
      | _, _ => False
    | .getstatic _ => match an with
      | [k, _, _] => ∀ a : Nat, G rest lc (.inr (.inr (k, a)) :: st) μ ce sl
      | _ => False
    | .getfield _ => match st, an with
      | .inr (.inr (k, a)) :: st, [ci, f, _, _] => match fldK KT k ci f with
        | some (0, _) => G rest lc (.inl (μ.1 a f) :: st) μ ce sl
        | some (1, _) => G rest lc (.inr (.inl (μ.2.2.1 a f)) :: st) μ ce sl
        | some (j + 3, o) => G rest lc (.inr (.inr (j, a + o)) :: st) μ ce sl
        | _ => False
      | _, _ => False
    | .putfield _ => match st, an with
      | .inl x :: .inr (.inr (k, a)) :: st, [ci, f, _, _] => match fldK KT k ci f with
        | some (0, 0) => G rest lc st (up2 μ.1 a f x, μ.2) ce sl
        | some (0, 1) => (x = 0 ∨ x = 1) ∧ G rest lc st (up2 μ.1 a f x, μ.2) ce sl
        | _ => False
      | .inr (.inl x) :: .inr (.inr (k, a)) :: st, [ci, f, _, _] => match fldK KT k ci f with
        | some (1, _) => G rest lc st (μ.1, μ.2.1, up2 μ.2.2.1 a f x, μ.2.2.2) ce sl
        | _ => False
      | .inr (.inr (kv, b)) :: .inr (.inr (k, a)) :: st, [ci, f, _, _, k1, k0] => match fldK KT k ci f, fldK KT k1 ci f, getL lc 0, st with
        | some (2, _), some (j + 3, o), some (.inr (.inr (k', a'))), [] => if k' = k ∧ k = k0 ∧ kv = j ∧ nkL k lc.tail = true then a' = a ∧ b = a + o ∧ (xo = some a ∨ z0 ≤ a) ∧ G rest (lc.set 0 (some (.inr (.inr (k1, a))))) [] (μ.1, μ.2.1, μ.2.2.1, up1 μ.2.2.2.1 a k1, μ.2.2.2.2) ce sl else False
        | _, _, _, _ => False
      | _, _ => False
    | .arraylength => match st with
      | .inr (.inr (90, _)) :: st => G rest lc (.inl (Int32.ofNat (ot.1 90)) :: st) μ ce sl
      | _ => False
    | .iaload => match st with
      | .inl i :: .inr (.inr (90, _)) :: st => ∃ j : Nat, i = nI j ∧ j < ot.1 90 ∧ G rest lc (.inl (ot.2 90 j) :: st) μ ce sl
      | .inl i :: .inr (.inr (91, _)) :: st => ∃ j : Nat, i = nI j ∧ j < ot.1 91 ∧ G rest lc (.inl (ot.2 91 j) :: st) μ ce sl
      | .inl i :: .inr (.inr (92, _)) :: st => ∃ j : Nat, i = nI j ∧ j < ot.1 92 ∧ G rest lc (.inl (ot.2 92 j) :: st) μ ce sl
      | .inl i :: .inr (.inr (k, a)) :: st => match arrK KT k with
        | some (0, n, _) => ∃ j : Nat, i = nI j ∧ j < n ∧ G rest lc (.inl (μ.1 a j) :: st) μ ce sl
        | _ => False
      | _ => False
    | .aaload => match st with
      | .inl i :: .inr (.inr (k, a)) :: st => match arrK KT k with
        | some (_ + 3, n, ek, _, 0) => ∃ j : Nat, i = nI j ∧ j < n ∧ j < μ.2.1 a n ∧ G rest lc (.inr (.inr (ek, μ.2.1 a j)) :: st) μ ce sl
        | some (_ + 3, n, ek, o, d + 1) => ∃ j : Nat, i = nI j ∧ j < n ∧ j < μ.2.1 a n ∧ G rest lc (.inr (.inr (ek, a + o + (d + 1) * j)) :: st) μ ce sl
        | _ => False
      | _ => False
    | .iastore => match st with
      | .inl x :: .inl i :: .inr (.inr (k, a)) :: st => match arrK KT k with
        | some (0, n, _) => ∃ j : Nat, i = nI j ∧ j < n ∧ G rest lc st (up2 μ.1 a j x, μ.2) ce sl
        | _ => False
      | _ => False
    | .aastore => match st with
      | .inr (.inr (kv, b)) :: .inl i :: .inr (.inr (k, a)) :: st => match arrK KT k with
        | some (_ + 3, n, ek, _, 0) => if kv = ek then ∃ j : Nat, i = nI j ∧ j < n ∧ ((j < μ.2.1 a n ∧ G rest lc st (μ.1, up2 μ.2.1 a j b, μ.2.2) ce sl) ∨ (j = μ.2.1 a n ∧ G rest lc st (μ.1, up2 (up2 μ.2.1 a j b) a n (j + 1), μ.2.2) ce sl)) else False
        | some (_ + 3, n, ek, o, d + 1) => if kv = ek then ∃ j : Nat, i = nI j ∧ j < n ∧ j = μ.2.1 a n ∧ b = a + o + (d + 1) * j ∧ G rest lc st (μ.1, up2 μ.2.1 a n (j + 1), μ.2.2) ce sl else False
        | _ => False
      | _ => False
    | .new _ => match an with
      | [0, e, _] => match st with
        | [] => (ce + 1 ≤ R.1 ∧ sl + 6 ≤ R.2) ∧ ∀ z : Nat, μ.2.2.2.2 ≤ z → Rt (.inr e) (μ.1, μ.2.1, μ.2.2.1, μ.2.2.2.1, z)
        | _ => False
      | [1, k, n, _, _, _, _, _, _] => (ce + 1 ≤ R.1 ∧ sl + n ≤ R.2) ∧ G rest lc (.inr (.inr (k, μ.2.2.2.2)) :: st) (clr μ.1 μ.2.2.2.2 0, μ.2.1, clr μ.2.2.1 μ.2.2.2.2 0, up1 μ.2.2.2.1 μ.2.2.2.2 k, μ.2.2.2.2 + 1) (ce + 1) (sl + n)
      | _ => False
    | .newarray _ => match st, an with
      | .inl x :: st, [k, n, _, _] => x = Int32.ofNat n ∧ (ce + 1 ≤ R.1 ∧ sl + n ≤ R.2) ∧ G rest lc (.inr (.inr (k, μ.2.2.2.2)) :: st) (clr μ.1 μ.2.2.2.2 0, μ.2.1, clr μ.2.2.1 μ.2.2.2.2 0, up1 μ.2.2.2.1 μ.2.2.2.2 k, μ.2.2.2.2 + 1) (ce + 1) (sl + n)
      | _, _ => False
    | .anewarray _ => match st, an with
      | .inl x :: st, [k, n, _, _, _, _] => x = Int32.ofNat n ∧ (ce + 1 ≤ R.1 ∧ sl + n ≤ R.2) ∧ G rest lc (.inr (.inr (k, μ.2.2.2.2)) :: st) (μ.1, up2 μ.2.1 μ.2.2.2.2 n 0, μ.2.2.1, up1 μ.2.2.2.1 μ.2.2.2.2 k, μ.2.2.2.2 + 1) (ce + 1) (sl + n)
      | _, _ => False
    | .invokevirtual ix => match lkC ct ix with
      | some ci => calR KT code hn R G Rt ci pc rest lc st μ ce sl
      | none => False
    | .invokestatic ix => match an with
      | 0 :: _ => match st with
        | .inl n :: .inl dp :: .inr (.inr (k, a)) :: .inl sp :: .inr (.inr (k0, a0)) :: st => match arrK KT k0, arrK KT k with
          | some (0, n0, _), some (0, n1, _) => if (st.map tvC).sum = 0 ∧ k0 < 90 ∧ k < 90 then ∃ i0 i1 m : Nat, sp = nI i0 ∧ dp = nI i1 ∧ n = nI m ∧ i0 + m ≤ n0 ∧ i1 + m ≤ n1 ∧ G rest lc st (cpR μ.1 a0 i0 a i1 m, μ.2) ce sl else False
          | _, _ => False
        | _ => False
      | 2 :: _ => match st with
        | .inl x :: st => if (st.map tvC).sum = 0 then G rest lc (.inl (if 0 ≤ x then x else 0 - x) :: st) μ ce sl else False
        | _ => False
      | 3 :: _ => match st with
        | .inl y :: .inl x :: st => if (st.map tvC).sum = 0 then G rest lc (.inl (if x < y then y else x) :: st) μ ce sl else False
        | _ => False
      | _ => match lkC ct ix with
        | some ci => calR KT code hn R G Rt ci pc rest lc st μ ce sl
        | none => False
    | .invokespecial ix => match an with
      | 0 :: _ => match st with
        | .inr (.inr _) :: st => if (st.map tvC).sum = 0 then G rest lc st μ ce sl else False
        | _ => False
      | _ :: k1 :: _ => match lkC ct ix with
        | some ci => ctoR R z0 xo G Rt ci k1 pc rest lc st μ ce sl
        | none => False
      | _ => False
    | .ireturn => match st with
      | [.inl x] => if rz then (x = 0 ∨ x = 1) ∧ Rt (.inl (some (.inl x))) μ else Rt (.inl (some (.inl x))) μ
      | _ => False
    | .lreturn => match st with
      | [.inr (.inl x)] => Rt (.inl (some (.inr (.inl x)))) μ
      | _ => False
    | .areturn => match st with
      | [.inr (.inr x)] => Rt (.inl (some (.inr (.inr x)))) μ
      | _ => False
    | .return_ => match st with
      | [] => Rt (.inl none) μ
      | _ => False
    | _ => False
/-- as far as the next cut: there 'K' -/
def vc (cut : List Nat) (K : Nat → LC → List TV → MM → Nat → Nat → Prop) (Rt : OC → MM → Prop) : Nat → GC
  | 0 => fun _ _ _ _ _ _ => False
  | n + 1 => fun es lc st μ ce sl => match es with
    | [] => False
    | e :: rest => if cut.contains e.1 then K e.1 lc st μ ce sl else stp KT ot code ct hn R rz z0 xo (vc cut K Rt n) Rt e rest lc st μ ce sl
end VC
