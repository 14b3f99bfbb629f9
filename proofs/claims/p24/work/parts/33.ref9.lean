theorem recS_ok {l : List (Int32 × Int32)} (h : ∀ q ∈ l, sOK q.2) (n : Int32) : sOK (recS l n) := by
  unfold recS
  cases hf : l.find? (fun q => decide (q.1 = n)) with
  | none => exact Or.inl rfl
  | some q => exact h q (List.mem_of_find?_eq_some hf)
theorem eN_of {en : EN} {e : Nat} (h : en 1 = nI e) (he : e < 16) : eN en = e := by
  unfold eN
  rw [h]
  exact sN_nI (by omega)
theorem prt2_lt (n : Nat) : prt n 2 < 4 := by simp only [prt]; omega
