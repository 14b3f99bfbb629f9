/-! WHAT A STATE IS: lists and functions; both programs are held against it. -/
/-- an entry of a packet: 0 kind, 1 entity, 2 baseline, 3 mask, 4 state -/
abbrev EN : Type := Nat → Int32
/-- a packet: 0 number, 1 bytes, 2 when it was sent, 3 when it arrives (0: not, or not any more), 4 flying; its entries -/
abbrev PK : Type := (Nat → Int32) × List EN
/-- a client: its scalars (0 connected, 1 2 center, 3 radius, 4 budget, 5 6 to lose, 7 last number, 8 .. 15 counts: sent, bytes, lost packets, lost acknowledgements, received, broken, given up, entries), acknowledgements on their way (number, arrival), packets, per entity (0 priority, 1 number, 2 state of the baseline), records -/
abbrev CS : Type := (Nat → Int32) × List (Int32 × Int32) × List PK × (Nat → Nat → Int32) × (Nat → List (Int32 × Int32))
abbrev cS (X : CS) : Nat → Int32 := X.1
abbrev cA (X : CS) : List (Int32 × Int32) := X.2.1
abbrev cP (X : CS) : List PK := X.2.2.1
abbrev cB (X : CS) : Nat → Nat → Int32 := X.2.2.2.1
abbrev cR (X : CS) : Nat → List (Int32 × Int32) := X.2.2.2.2
/-- the world: 0 time, 1 delay, 2 interval; per entity 0 state, 1 2 velocity; the clients -/
abbrev WS : Type := (Nat → Int32) × (Nat → Nat → Int32) × (Nat → CS)
abbrev wT (W : WS) : Nat → Int32 := W.1
abbrev wE (W : WS) : Nat → Nat → Int32 := W.2.1
abbrev wC (W : WS) : Nat → CS := W.2.2
/-! how the reference's row holds it -/
/-! what is seen of a state -/
def dstN (n : Nat) (cx cy : Int32) : Int32 := if aI (nI (prt n 0) - cx) ≤ aI (nI (prt n 1) - cy) then aI (nI (prt n 1) - cy) else aI (nI (prt n 0) - cx)
def dstC (X : CS) (s : Int32) : Int32 := dstN (sN s) (cS X 1) (cS X 2)
abbrev inA (X : CS) (s : Int32) : Prop := ¬ s = -1 ∧ dstC X s ≤ cS X 3
def prc (X : CS) (E : Nat → Nat → Int32) (e : Nat) : Nat :=
  if inA X (E e 0) then (if cB X e 2 = -1 then 6 else if cB X e 2 = E e 0 then 0 else 2 + bts (mkN (sN (cB X e 2)) (sN (E e 0)))) else (if cB X e 2 = -1 then 0 else 2)
def lastN (l : List (Int32 × Int32)) : Int32 := match l.getLast? with
  | some q => q.1
  | none => 0
def lastS (l : List (Int32 × Int32)) : Int32 := match l.getLast? with
  | some q => q.2
  | none => -1
def recS (l : List (Int32 × Int32)) (n : Int32) : Int32 := match l.find? (fun q => decide (q.1 = n)) with
  | some q => q.2
  | none => -1
/-- numbers of the entities with a property, below a bound -/
def cntN (P : Nat → Prop) (d : ∀ e, Decidable (P e)) : Nat → Nat
  | 0 => 0
  | n + 1 => cntN P d n + (if P n then 1 else 0)
abbrev stP (X : CS) (E : Nat → Nat → Int32) (e : Nat) : Prop := ¬ lastS (cR X e) = (if inA X (E e 0) then E e 0 else -1)
def staleN (X : CS) (E : Nat → Nat → Int32) : Nat := cntN (stP X E) (fun _ => inferInstance) 16
abbrev fly (p : PK) : Prop := p.1 4 = 1
def flyL (X : CS) : List PK := (cP X).filter fun p => decide (fly p)
