def nxtN (T : Nat → Int32) (B : Nat → Nat → Int32) : Nat → Option Nat
  | 0 => none
  | n + 1 => match nxtN T B n with
    | none => if T n = 0 ∧ 0 < B n 0 then some n else none
    | some f => if T n = 0 ∧ 0 < B n 0 ∧ B f 0 < B n 0 then some n else some f
