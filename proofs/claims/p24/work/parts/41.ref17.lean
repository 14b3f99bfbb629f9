/-- the list of acknowledgements while it is gone through -/
def goA (t : Int32) (l : List (Int32 × Int32)) (k : Nat) : List (Int32 × Int32) := kpA t (l.take k) ++ l.drop (kpA t (l.take k)).length
theorem goA_len (t : Int32) (l : List (Int32 × Int32)) {k : Nat} (hk : k ≤ l.length) : (goA t l k).length = l.length := by
  have := kpA_le t l k
  unfold goA
  rw [List.length_append, List.length_drop]
  omega
theorem goA_at (t : Int32) {l : List (Int32 × Int32)} {k : Nat} {q : Int32 × Int32} (h : l[k]? = some q) : (goA t l k)[k]? = some q := by
  have := kpA_le t l k
  unfold goA
  rw [List.getElem?_append_right (by omega), List.getElem?_drop]
  rw [← h]
  congr 1
  omega
theorem goA_no (t : Int32) {l : List (Int32 × Int32)} {k : Nat} {q : Int32 × Int32} (h : l[k]? = some q) (hq : q.2 = t) : goA t l (k + 1) = goA t l k := by
  unfold goA
  rw [kpA_S t h, if_pos hq, List.append_nil]
theorem goA_S (t : Int32) {l : List (Int32 × Int32)} {k : Nat} {q : Int32 × Int32} (h : l[k]? = some q) (hq : ¬ q.2 = t) : goA t l (k + 1) = (goA t l k).set (kpA t (l.take k)).length q := by
  have hw := kpA_le t l k
  have hk : k < l.length := (List.getElem?_eq_some_iff.mp h).1
  unfold goA
  rw [kpA_S t h, if_neg hq, List.length_append]
  generalize kpA t (l.take k) = P at hw
  have e : l.drop P.length = l[P.length] :: l.drop (P.length + 1) := List.drop_eq_getElem_cons (by omega)
  rw [e, List.set_append_right _ _ (Nat.le_refl _), Nat.sub_self, List.append_assoc]
  rfl
