theorem last_at {l : List (Int32 × Int32)} {q : Int32 × Int32} (hn : 0 < l.length) (h : l[l.length - 1]? = some q) : lastN l = q.1 ∧ lastS l = q.2 := by
  have e : l.getLast? = some q := by rw [List.getLast?_eq_getElem?]; exact h
  unfold lastN lastS
  rw [e]
  exact ⟨rfl, rfl⟩
theorem nI_sub1 {a b : Nat} (h : b ≤ a) : nI a - nI b = nI (a - b) := by
  have e : nI a = nI (a - b) + nI b := by rw [nI_add]; congr 1; omega
  rw [e]
  exact Int32.add_sub_cancel _ _
theorem recS_none {l : List (Int32 × Int32)} {n : Int32} (h : ∀ (i : Nat) (q : Int32 × Int32), l[i]? = some q → ¬ q.1 = n) : recS l n = -1 := by
  unfold recS
  rw [List.find?_eq_none.mpr fun q hq => by
    obtain ⟨i, hi⟩ := List.getElem?_of_mem hq
    simpa using h i q hi]
