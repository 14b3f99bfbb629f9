/-! THE ORDER of the entities. -/
def bef (B : Nat → Nat → Int32) (x y : Nat) : Prop := B y 0 < B x 0 ∨ (B x 0 = B y 0 ∧ x < y)
theorem ins_mem (B : Nat → Nat → Int32) (e x : Nat) : ∀ l, x ∈ ins B e l ↔ x = e ∨ x ∈ l
  | [] => by simp [ins]
  | y :: l => by
    unfold ins
    split
    · simp
    · rw [List.mem_cons, ins_mem B e x l, List.mem_cons]
      constructor
      · rintro (h | h | h)
        · exact Or.inr (Or.inl h)
        · exact Or.inl h
        · exact Or.inr (Or.inr h)
      · rintro (h | h | h)
        · exact Or.inr (Or.inl h)
        · exact Or.inl h
        · exact Or.inr (Or.inr h)
theorem ordN_mem (B : Nat → Nat → Int32) (x : Nat) : ∀ n, x ∈ ordN B n ↔ x < n ∧ 0 < B x 0
  | 0 => by simp [ordN]
  | n + 1 => by
    unfold ordN
    split
    · next h =>
      rw [ins_mem, ordN_mem B x n]
      constructor
      · rintro (rfl | ⟨h1, h2⟩)
        · exact ⟨by omega, h⟩
        · exact ⟨by omega, h2⟩
      · rintro ⟨h1, h2⟩
        by_cases q : x = n
        · exact Or.inl q
        · exact Or.inr ⟨by omega, h2⟩
    · next h =>
      rw [ordN_mem B x n]
      constructor
      · rintro ⟨h1, h2⟩
        exact ⟨by omega, h2⟩
      · rintro ⟨h1, h2⟩
        refine ⟨?_, h2⟩
        by_cases q : x = n
        · rw [q] at h2
          exact absurd h2 h
        · omega
theorem ins_pw (B : Nat → Nat → Int32) (e : Nat) : ∀ l, l.Pairwise (bef B) → (∀ x ∈ l, x < e) → (ins B e l).Pairwise (bef B)
  | [], _, _ => List.pairwise_singleton _ _
  | y :: l, h, g => by
    obtain ⟨h1, h2⟩ := List.pairwise_cons.mp h
    unfold ins
    split
    · next q =>
      refine List.pairwise_cons.mpr ⟨fun z hz => ?_, h⟩
      rcases List.mem_cons.mp hz with rfl | hz
      · exact Or.inl q
      · rcases h1 z hz with w | ⟨w, _⟩
        · exact Or.inl (Int32.lt_trans w q)
        · rw [w] at q
          exact Or.inl q
    · next q =>
      refine List.pairwise_cons.mpr ⟨fun z hz => ?_, ins_pw B e l h2 fun x hx => g x (List.mem_cons_of_mem _ hx)⟩
      rcases (ins_mem B e z l).mp hz with rfl | hz
      · have q2 : B z 0 ≤ B y 0 := Int32.not_lt.mp q
        by_cases c : B y 0 = B z 0
        · exact Or.inr ⟨c, g y List.mem_cons_self⟩
        · exact Or.inl (Int32.lt_of_le_of_ne q2 fun w => c w.symm)
      · exact h1 z hz
theorem ordN_pw (B : Nat → Nat → Int32) : ∀ n, (ordN B n).Pairwise (bef B)
  | 0 => List.Pairwise.nil
  | n + 1 => by
    unfold ordN
    split
    · exact ins_pw B n _ (ordN_pw B n) fun x hx => ((ordN_mem B x n).mp hx).1
    · exact ordN_pw B n
theorem bef_irr {B : Nat → Nat → Int32} {x : Nat} : ¬ bef B x x := fun h => h.elim (i_irr _) fun q => Nat.lt_irrefl _ q.2
theorem ordN_nd (B : Nat → Nat → Int32) (n : Nat) : (ordN B n).Nodup := (ordN_pw B n).imp fun h q => by
  rw [q] at h
  exact bef_irr h
theorem bef_tr {B : Nat → Nat → Int32} {x y z : Nat} (h : bef B x y) (g : bef B y z) : bef B x z := by
  rcases h with h | ⟨h, h2⟩ <;> rcases g with g | ⟨g, g2⟩
  · exact Or.inl (Int32.lt_trans g h)
  · rw [g] at h
    exact Or.inl h
  · rw [← h] at g
    exact Or.inl g
  · exact Or.inr ⟨h.trans g, by omega⟩
/-- what the selection finds -/
def cand (T : Nat → Int32) (B : Nat → Nat → Int32) (e : Nat) : Prop := T e = 0 ∧ 0 < B e 0
theorem nxtN_spec (T : Nat → Int32) (B : Nat → Nat → Int32) : ∀ n, match nxtN T B n with
    | none => ∀ e, e < n → ¬ cand T B e
    | some f => f < n ∧ cand T B f ∧ ∀ e, e < n → cand T B e → ¬ e = f → bef B f e
  | 0 => fun e he => absurd he (Nat.not_lt_zero _)
  | n + 1 => by
    have ih := nxtN_spec T B n
    rw [nxtN]
    cases hq : nxtN T B n with
    | none =>
      rw [hq] at ih
      simp only at ih ⊢
      by_cases c : T n = 0 ∧ 0 < B n 0
      · rw [if_pos c]
        refine ⟨by omega, c, fun e he hc hne => ?_⟩
        by_cases q : e = n
        · exact absurd q hne
        · exact absurd hc (ih e (by omega))
      · rw [if_neg c]
        intro e he
        by_cases q : e = n
        · rw [q]; exact c
        · exact ih e (by omega)
    | some f =>
      rw [hq] at ih
      simp only at ih ⊢
      obtain ⟨h1, h2, h3⟩ := ih
      by_cases c : T n = 0 ∧ 0 < B n 0 ∧ B f 0 < B n 0
      · rw [if_pos c]
        refine ⟨by omega, ⟨c.1, c.2.1⟩, fun e he hc hne => ?_⟩
        by_cases q : e = f
        · rw [q]; exact Or.inl c.2.2
        · rcases h3 e (by omega) hc q with w | ⟨w, _⟩
          · exact Or.inl (Int32.lt_trans w c.2.2)
          · refine Or.inl ?_
            rw [← w]
            exact c.2.2
      · rw [if_neg c]
        refine ⟨by omega, h2, fun e he hc hne => ?_⟩
        by_cases q : e = n
        · subst q
          have q2 : B e 0 ≤ B f 0 := Int32.not_lt.mp fun w => c ⟨hc.1, hc.2, w⟩
          by_cases d : B f 0 = B e 0
          · exact Or.inr ⟨d, h1⟩
          · exact Or.inl (Int32.lt_of_le_of_ne q2 fun w => d w.symm)
        · exact h3 e (by omega) hc hne
/-- with a prefix of the order tried, the next is the order's next -/
theorem nxtN_of {T : Nat → Int32} {B : Nat → Nat → Int32} {l : List Nat} (hp : l.Pairwise (bef B)) (hm : ∀ e, e ∈ l ↔ e < 16 ∧ cand T B e) : nxtN T B 16 = l.head? := by
  have h := nxtN_spec T B 16
  cases l with
  | nil =>
    cases hq : nxtN T B 16 with
    | none => rfl
    | some f =>
      rw [hq] at h
      simp only at h
      exact absurd ((hm f).mpr ⟨h.1, h.2.1⟩) List.not_mem_nil
  | cons x l =>
    obtain ⟨hx1, hx2⟩ := (hm x).mp List.mem_cons_self
    cases hq : nxtN T B 16 with
    | none =>
      rw [hq] at h
      simp only at h
      exact absurd hx2 (h x hx1)
    | some f =>
      rw [hq] at h
      simp only at h
      by_cases q : x = f
      · rw [q]; rfl
      · exfalso
        have a := h.2.2 x hx1 hx2 q
        have hf := (hm f).mpr ⟨h.1, h.2.1⟩
        rcases List.mem_cons.mp hf with w | w
        · exact q w.symm
        · exact bef_irr (bef_tr a ((List.pairwise_cons.mp hp).1 f w))
