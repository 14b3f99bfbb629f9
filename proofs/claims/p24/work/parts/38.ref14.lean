def rOK (l : List (Int32 × Int32)) : Prop := l.Pairwise (fun p q => p.1 < q.1) ∧ ∀ q ∈ l, sOK q.2
theorem i_irr (a : Int32) : ¬ a < a := Int32.lt_irrefl
theorem rOK.last {l : List (Int32 × Int32)} (h : rOK l) {q : Int32 × Int32} (hq : q ∈ l) : q.1 ≤ lastN l := by
  obtain ⟨i, hi⟩ := List.getElem?_of_mem hq
  obtain ⟨i1, i2⟩ := List.getElem?_eq_some_iff.mp hi
  obtain ⟨z, hz⟩ := at_of_lt (l := l) (k := l.length - 1) (by omega)
  rw [(last_at (by omega) hz).1]
  obtain ⟨z1, z2⟩ := List.getElem?_eq_some_iff.mp hz
  by_cases c : i = l.length - 1
  · subst c
    rw [i2] at z2
    rw [z2]
    exact Int32.le_refl _
  · have := List.pairwise_iff_getElem.mp h.1 i (l.length - 1) i1 z1 (by omega)
    rw [i2, z2] at this
    exact Int32.le_of_lt this
theorem rOK.add {l : List (Int32 × Int32)} (h : rOK l) {n s : Int32} (hn : lastN l < n) (hs : sOK s) : rOK (addRec l n s) := by
  have hd : rOK (if l.length = 12 then l.drop 1 else l) := by
    split
    · exact ⟨h.1.sublist (List.drop_sublist 1 l), fun q hq => h.2 q (List.mem_of_mem_drop hq)⟩
    · exact h
  have hm : ∀ q ∈ (if l.length = 12 then l.drop 1 else l), q ∈ l := fun q hq => by
    split at hq
    · exact List.mem_of_mem_drop hq
    · exact hq
  unfold addRec
  refine ⟨List.pairwise_append.mpr ⟨hd.1, List.pairwise_singleton _ _, fun p hp q hq => ?_⟩, fun q hq => ?_⟩
  · rw [List.mem_singleton.mp hq]
    exact Int32.lt_of_le_of_lt (h.last (hm p hp)) hn
  · rcases List.mem_append.mp hq with hq | hq
    · exact hd.2 q hq
    · rw [List.mem_singleton.mp hq]
      exact hs
theorem mxN_lt {a b m : Nat} (ha : a < 524288) (hb : b < 524288) : mxN a b m < 524288 := by
  have h0 : ∀ n, prt n 0 < 32 := fun n => by simp only [prt]; omega
  have h1 : ∀ n, prt n 1 < 32 := fun n => by simp only [prt]; omega
  have h2 : ∀ n, prt n 2 < 4 := fun n => by simp only [prt]; omega
  have h3 : ∀ n, n < 524288 → prt n 3 < 128 := fun n hn => by simp only [prt]; omega
  unfold mxN pkN
  have a0 := h0 (if m % 2 = 0 then a else b)
  have a1 := h1 (if m / 2 % 2 = 0 then a else b)
  have a2 := h2 (if m / 4 % 2 = 0 then a else b)
  have a3 := h3 (if m / 8 % 2 = 0 then a else b) (by split <;> assumption)
  omega
def RI (X : CS) : Prop := ∀ e, e < 16 → rOK (cR X e)
theorem up1_ne' {α : Type} (f : Nat → α) {a b : Nat} (v : α) (h : ¬ b = a) : up1 f a v b = f b := by unfold up1; rw [if_neg h]
theorem setR_RI {X : CS} (h : RI X) {e : Nat} {l : List (Int32 × Int32)} (hl : rOK l) : RI (setR X e l) := fun e' he' => by
  show rOK (up1 (cR X) e l e')
  by_cases c : e' = e
  · rw [c, up1_eq]; exact hl
  · rw [up1_ne' _ _ c]; exact h e' he'
theorem rcvE_RI {X : CS} (h : RI X) {en : EN} (hen : enOK en) (n : Int32) : RI (rcvE n X en) := by
  obtain ⟨o1, ⟨e, he, o2⟩, ⟨m, hm, o3⟩, o4, o5⟩ := hen
  have e0 := eN_of o2 he
  unfold rcvE
  rw [e0]
  split
  · exact h
  · next h1 =>
    have h1 := Int32.not_le.mp h1
    split
    · next h2 =>
      split
      · exact h
      · next h3 =>
        obtain ⟨b1, b2, b3, b4⟩ := sOK_ne (recS_ok (h e he).2 (en 2)) h3
        obtain ⟨c1, c2, c3⟩ := o5 (by rw [h2]; decide)
        refine setR_RI h ((h e he).add h1 (Or.inr ⟨_, mxN_lt ?_ ?_, rfl⟩))
        · rw [b4]; exact b2
        · rw [c3, sN_nI c2]; exact c2
    · refine setR_RI h ((h e he).add h1 ?_)
      by_cases q : en 0 = 0
      · exact Or.inl (o4 q)
      · exact Or.inr (o5 q)
theorem rcvE_A (n : Int32) (X : CS) (en : EN) : cA (rcvE n X en) = cA X := by
  unfold rcvE
  split
  · rfl
  · split
    · split <;> rfl
    · rfl
theorem rcvE_P (n : Int32) (X : CS) (en : EN) : cP (rcvE n X en) = cP X := by
  unfold rcvE
  split
  · rfl
  · split
    · split <;> rfl
    · rfl
def rcvL (n : Int32) (l : List EN) (X : CS) : CS := l.foldl (rcvE n) X
theorem rcvL_A (n : Int32) : ∀ (l : List EN) (X : CS), cA (rcvL n l X) = cA X
  | [], _ => rfl
  | en :: l, X => (rcvL_A n l (rcvE n X en)).trans (rcvE_A n X en)
theorem rcvL_P (n : Int32) : ∀ (l : List EN) (X : CS), cP (rcvL n l X) = cP X
  | [], _ => rfl
  | en :: l, X => (rcvL_P n l (rcvE n X en)).trans (rcvE_P n X en)
theorem rcvL_RI (n : Int32) : ∀ (l : List EN) (X : CS), RI X → (∀ en ∈ l, enOK en) → RI (rcvL n l X)
  | [], _, h, _ => h
  | en :: l, X, h, g => rcvL_RI n l (rcvE n X en) (rcvE_RI h (g en List.mem_cons_self) n) fun e he => g e (List.mem_cons_of_mem _ he)
theorem rcvL_S (n : Int32) {l : List EN} {k : Nat} {en : EN} (h : l[k]? = some en) (X : CS) : rcvL n (l.take (k + 1)) X = rcvE n (rcvL n (l.take k) X) en := by
  have ht : l.take (k + 1) = l.take k ++ [en] := by rw [List.take_add_one, h]; rfl
  unfold rcvL
  rw [ht, List.foldl_append]
  rfl
