theorem swEq {w : Nat} {k : Int} (hw : w < 2 ^ 31) (q : (nI w).toInt = k) : (w : Int) = k := by
  rw [nI_toInt hw] at q
  exact q
theorem swNe {w : Nat} {k : Int} (hw : w < 2 ^ 31) (q : ¬ (nI w).toInt = k) : ¬ (w : Int) = k := by
  rw [nI_toInt hw] at q
  exact q
theorem swOut {w : Nat} {a b : Int} (hw : w < 2 ^ 31) (q : (nI w).toInt < a ∨ b < (nI w).toInt) : (w : Int) < a ∨ b < (w : Int) := by
  rw [nI_toInt hw] at q
  exact q
def cpV (l : List (Int32 × Int32)) (w : Nat) : Int32 := if w = 0 then iB (¬ lastS l = -1) else if w = 5 then lastN l else if w = 6 then nI l.length else nI (pz (lastS l) (w - 1))
theorem cpV_d (l : List (Int32 × Int32)) {w : Nat} (h0 : ¬ w = 0) (h5 : ¬ w = 5) (h6 : ¬ w = 6) : cpV l w = nI (pz (lastS l) (w - 1)) := by
  unfold cpV
  rw [if_neg h0, if_neg h5, if_neg h6]
theorem iB_1 {p : Prop} [Decidable p] (h : p) : iB p = 1 := if_pos h
theorem iB_0 {p : Prop} [Decidable p] (h : ¬ p) : iB p = 0 := if_neg h
theorem sOK_last {l : List (Int32 × Int32)} (h : ∀ q ∈ l, sOK q.2) : sOK (lastS l) := by
  unfold lastS
  cases hq : l.getLast? with
  | none => exact Or.inl rfl
  | some q => exact h q (List.mem_of_getLast? hq)
/-- packets that fly -/
def flyN (l : List PK) : Nat := (l.filter fun p => decide (fly p)).length
def bitP (l : List PK) : Prop := ∀ p ∈ l, p.1 4 = 0 ∨ p.1 4 = 1
theorem at_of_lt {α : Type} {l : List α} {k : Nat} (h : k < l.length) : ∃ q, l[k]? = some q := ⟨_, List.getElem?_eq_getElem h⟩
def cnV (X : CS) (w : Nat) : Int32 := if w = 6 then nI (flyN (cP X)) else if w < 6 then cS X (8 + w) else cS X (8 + w - 1)
theorem cntN_step (P : Nat → Prop) (d : ∀ e, Decidable (P e)) (n : Nat) : nI (cntN P d n) + iB (P n) = nI (cntN P d (n + 1)) := by
  show _ = nI (cntN P d n + (if P n then 1 else 0))
  by_cases h : P n
  · rw [if_pos h, iB_1 h]
    exact nI_add _ 1
  · rw [if_neg h, iB_0 h, Int32.add_zero]
    rfl
theorem sOK_ne {s : Int32} (h : sOK s) (hs : ¬ s = -1) : ∃ n, n < 524288 ∧ s = nI n ∧ sN s = n := by
  obtain ⟨a, b⟩ := sOK_n h hs
  exact ⟨_, a, b, rfl⟩
