def arN (t : Int32) (l : List PK) : Nat := (l.filter fun p => decide (p.1 3 = t)).length
theorem arN_S (t : Int32) {l : List PK} {k : Nat} {p : PK} (h : l[k]? = some p) : arN t (l.take (k + 1)) = arN t (l.take k) + (if p.1 3 = t then 1 else 0) := by
  have ht : l.take (k + 1) = l.take k ++ [p] := by rw [List.take_add_one, h]; rfl
  unfold arN
  rw [ht, List.filter_append, List.length_append]
  congr 1
  by_cases hp : p.1 3 = t
  · rw [if_pos hp]
    have e : ([p] : List PK).filter (fun p => decide (p.1 3 = t)) = [p] := List.filter_cons_of_pos (decide_eq_true hp)
    rw [e]
    rfl
  · rw [if_neg hp]
    have e : ([p] : List PK).filter (fun p => decide (p.1 3 = t)) = [] := List.filter_cons_of_neg (by rw [decide_eq_false hp]; decide)
    rw [e]
    rfl
theorem arN_le (t : Int32) (l : List PK) (k : Nat) : arN t (l.take k) ≤ arN t l := by
  unfold arN
  exact (List.Sublist.filter _ (List.take_sublist k l)).length_le
theorem arrP_S (t d : Int32) {l : List PK} {k : Nat} {p : PK} (h : l[k]? = some p) (X : CS) : arrP t d (l.take (k + 1)) X = if p.1 3 = t then rcvP t d p (arrP t d (l.take k) X) else arrP t d (l.take k) X := by
  have ht : l.take (k + 1) = l.take k ++ [p] := by rw [List.take_add_one, h]; rfl
  unfold arrP
  rw [ht, List.foldl_append]
  rfl
theorem rcvP_A (t d : Int32) (p : PK) (X : CS) : (cA (rcvP t d p X)).length ≤ (cA X).length + 1 := by
  show (cA (ackS t d (p.1 0) (rcvL (p.1 0) p.2 X))).length ≤ _
  unfold ackS
  split
  · show (cA (rcvL (p.1 0) p.2 X)).length ≤ _
    rw [rcvL_A]
    omega
  · show (cA (rcvL (p.1 0) p.2 X) ++ [_]).length ≤ _
    rw [List.length_append, rcvL_A]
    exact Nat.le_refl _
theorem rcvP_RI (t d : Int32) (p : PK) (X : CS) (h : RI X) (hen : ∀ en ∈ p.2, enOK en) : RI (rcvP t d p X) := by
  have := rcvL_RI (p.1 0) p.2 X h hen
  show RI (ackS t d (p.1 0) (rcvL (p.1 0) p.2 X))
  unfold ackS
  split <;> exact this
theorem ackF_setA (n : Int32) (L : List (Int32 × Int32)) : ∀ (l : List PK) (X : CS), ackF n l (setA X L) = setA (ackF n l X) L
  | [], _ => rfl
  | p :: l, X => by
    have e1 : ∀ (l : List EN) (X : CS), setL' n l (setA X L) = setA (setL' n l X) L := fun l => by
      induction l with
      | nil => exact fun _ => rfl
      | cons en l ih =>
        intro X
        show setL' n l (setl n (setA X L) en) = setA (setL' n l (setl n X en)) L
        rw [← ih]
        congr 1
        unfold setl
        split <;> rfl
    show ackF n l (if hit n p then setL' n p.2 (setA X L) else setA X L) = setA (ackF n l (if hit n p then setL' n p.2 X else X)) L
    rw [← ackF_setA n L l]
    congr 1
    split
    · exact e1 _ _
    · rfl
theorem ackF_A (n : Int32) : ∀ (l : List PK) (X : CS), cA (ackF n l X) = cA X := fun l X => by
  have := ackF_setA n (cA X) l X
  have e : setA X (cA X) = X := rfl
  rw [e] at this
  rw [this]
theorem ackN_A (n : Int32) (X : CS) : cA (ackN n X) = cA X := ackF_A n _ _
def eOK (X : CS) : Prop := ∀ p ∈ cP X, ∀ en ∈ p.2, enOK en
theorem zeroF_2 (n : Int32) (p : PK) : (zeroF n p).2 = p.2 := by unfold zeroF; split <;> rfl
theorem zeroA_2 (t : Int32) (p : PK) : (zeroA t p).2 = p.2 := by unfold zeroA; split <;> rfl
theorem zeroO_2 (t lim : Int32) (p : PK) : (zeroO t lim p).2 = p.2 := by unfold zeroO; split <;> rfl
theorem ackN_e (n : Int32) {X : CS} (h : eOK X) : eOK (ackN n X) := fun p hp en he => by
  have hp := (List.mem_filter.mp hp).1
  split at hp
  · obtain ⟨q, hq, rfl⟩ := List.mem_map.mp hp
    rw [zeroF_2] at he
    exact h q hq en he
  · exact h p hp en he
def akA (t : Int32) (l : List (Int32 × Int32)) (X : CS) : CS := l.foldl (fun X a => if a.2 = t then ackN a.1 X else X) X
theorem akA_S (t : Int32) {l : List (Int32 × Int32)} {k : Nat} {q : Int32 × Int32} (h : l[k]? = some q) (X : CS) : akA t (l.take (k + 1)) X = if q.2 = t then ackN q.1 (akA t (l.take k) X) else akA t (l.take k) X := by
  have ht : l.take (k + 1) = l.take k ++ [q] := by rw [List.take_add_one, h]; rfl
  unfold akA
  rw [ht, List.foldl_append]
  rfl
abbrev kpA (t : Int32) (l : List (Int32 × Int32)) : List (Int32 × Int32) := l.filter fun a => decide (¬ a.2 = t)
theorem kpA_S (t : Int32) {l : List (Int32 × Int32)} {k : Nat} {q : Int32 × Int32} (h : l[k]? = some q) : kpA t (l.take (k + 1)) = kpA t (l.take k) ++ (if q.2 = t then [] else [q]) := by
  have ht : l.take (k + 1) = l.take k ++ [q] := by rw [List.take_add_one, h]; rfl
  unfold kpA
  rw [ht, List.filter_append]
  congr 1
  by_cases hp : q.2 = t
  · rw [if_pos hp]
    exact List.filter_cons_of_neg (by simp [hp])
  · rw [if_neg hp]
    exact List.filter_cons_of_pos (by simp [hp])
theorem kpA_le (t : Int32) (l : List (Int32 × Int32)) (k : Nat) : (kpA t (l.take k)).length ≤ k := Nat.le_trans (List.length_filter_le _ _) (by rw [List.length_take]; omega)
