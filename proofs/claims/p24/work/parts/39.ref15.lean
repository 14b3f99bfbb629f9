def setL' (n : Int32) (l : List EN) (X : CS) : CS := l.foldl (setl n) X
theorem setL_S (n : Int32) {l : List EN} {k : Nat} {en : EN} (h : l[k]? = some en) (X : CS) : setL' n (l.take (k + 1)) X = setl n (setL' n (l.take k) X) en := by
  have ht : l.take (k + 1) = l.take k ++ [en] := by rw [List.take_add_one, h]; rfl
  unfold setL'
  rw [ht, List.foldl_append]
  rfl
