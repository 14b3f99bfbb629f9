def kpV (X : CS) (E : Nat → Nat → Int32) (e w : Nat) : Int32 := if w = 0 then cB X e 0 else if w = 1 then cB X e 1 else if w = 2 then iB (¬ cB X e 2 = -1) else if w = 7 then iB (inA X (E e 0)) else if w = 8 then (if E e 0 = -1 then -1 else dstC X (E e 0)) else nI (pz (cB X e 2) (w - 3))
theorem kpV_d (X : CS) (E : Nat → Nat → Int32) (e : Nat) {w : Nat} (h0 : 3 ≤ w) (h7 : w < 7) : kpV X E e w = nI (pz (cB X e 2) (w - 3)) := by
  unfold kpV
  rw [if_neg (by omega), if_neg (by omega), if_neg (by omega), if_neg (by omega), if_neg (by omega)]
def pkV (t : Int32) (p : PK) (w : Nat) : Int32 := if w = 0 then p.1 0 else if w = 1 then p.1 1 else if w = 2 then nI p.2.length else t - p.1 2
def etV (en : EN) (w : Nat) : Int32 := if w = 0 then en 0 else if w = 1 then en 1 else if w = 2 then (if en 0 = 0 then 2 else if en 0 = 1 then 6 else nI (2 + bts (sN (en 3)))) else if w = 3 then en 2 else en 3
/-- an entry as it should be -/
def enOK (en : EN) : Prop := (en 0 = 0 ∨ en 0 = 1 ∨ en 0 = 2) ∧ (∃ e, e < 16 ∧ en 1 = nI e) ∧ (∃ m, m < 16 ∧ en 3 = nI m) ∧ (en 0 = 0 → en 4 = -1) ∧ (¬ en 0 = 0 → ∃ n, n < 524288 ∧ en 4 = nI n)
