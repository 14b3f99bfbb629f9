/-! THE ORDER of the entities. -/
def bef (B : Nat → Nat → Int32) (x y : Nat) : Prop := B y 0 < B x 0 ∨ (B x 0 = B y 0 ∧ x < y)
theorem ins_mem (B : Nat → Nat → Int32) (e x : Nat) : ∀ l, x ∈ ins B e l ↔ x = e ∨ x ∈ l
  | [] => by simp [ins]
  | y :: l => by
    unfold ins
    split
    · simp
    · rw [List.mem_cons, ins_mem B e x l, List.mem_cons]
      constructor
      · rintro (h | h | h)
        · exact Or.inr (Or.inl h)
        · exact Or.inl h
        · exact Or.inr (Or.inr h)
      · rintro (h | h | h)
        · exact Or.inr (Or.inl h)
        · exact Or.inl h
        · exact Or.inr (Or.inr h)
theorem ordN_mem (B : Nat → Nat → Int32) (x : Nat) : ∀ n, x ∈ ordN B n ↔ x < n ∧ 0 < B x 0
  | 0 => by simp [ordN]
  | n + 1 => by
    unfold ordN
    split
    · next h =>
      rw [ins_mem, ordN_mem B x n]
      constructor
      · rintro (rfl | ⟨h1, h2⟩)
        · exact ⟨by omega, h⟩
        · exact ⟨by omega, h2⟩
      · rintro ⟨h1, h2⟩
        by_cases q : x = n
        · exact Or.inl q
        · exact Or.inr ⟨by omega, h2⟩
    · next h =>
      rw [ordN_mem B x n]
      constructor
      · rintro ⟨h1, h2⟩
        exact ⟨by omega, h2⟩
      · rintro ⟨h1, h2⟩
        refine ⟨?_, h2⟩
        by_cases q : x = n
        · rw [q] at h2
          exact absurd h2 h
        · omega
theorem ins_pw (B : Nat → Nat → Int32) (e : Nat) : ∀ l, l.Pairwise (bef B) → (∀ x ∈ l, x < e) → (ins B e l).Pairwise (bef B)
  | [], _, _ => List.pairwise_singleton _ _
  | y :: l, h, g => by
    obtain ⟨h1, h2⟩ := List.pairwise_cons.mp h
    unfold ins
    split
    · next q =>
      refine List.pairwise_cons.mpr ⟨fun z hz => ?_, h⟩
      rcases List.mem_cons.mp hz with rfl | hz
      · exact Or.inl q
      · rcases h1 z hz with w | ⟨w, _⟩
        · exact Or.inl (Int32.lt_trans w q)
        · rw [w] at q
          exact Or.inl q
    · next q =>
      refine List.pairwise_cons.mpr ⟨fun z hz => ?_, ins_pw B e l h2 fun x hx => g x (List.mem_cons_of_mem _ hx)⟩
      rcases (ins_mem B e z l).mp hz with rfl | hz
      · have q2 : B z 0 ≤ B y 0 := Int32.not_lt.mp q
        by_cases c : B y 0 = B z 0
        · exact Or.inr ⟨c, g y List.mem_cons_self⟩
        · exact Or.inl (Int32.lt_of_le_of_ne q2 fun w => c w.symm)
      · exact h1 z hz
theorem ordN_pw (B : Nat → Nat → Int32) : ∀ n, (ordN B n).Pairwise (bef B)
  | 0 => List.Pairwise.nil
  | n + 1 => by
    unfold ordN
    split
    · exact ins_pw B n _ (ordN_pw B n) fun x hx => ((ordN_mem B x n).mp hx).1
    · exact ordN_pw B n
theorem bef_irr {B : Nat → Nat → Int32} {x : Nat} : ¬ bef B x x := fun h => h.elim (i_irr _) fun q => Nat.lt_irrefl _ q.2
theorem ordN_nd (B : Nat → Nat → Int32) (n : Nat) : (ordN B n).Nodup := (ordN_pw B n).imp fun h q => by
  rw [q] at h
  exact bef_irr h
