/-! The heap that a memory tells of, and the machine's rows over it. -/
/-- what is given of a run: where its cells begin, the classes' numbers and slots, the arrays' classes, where the old rows lie -/
abbrev GPT : Type := Nat × va_G × (Nat → ClassId) × (Nat → Nat)
/-- a field's value -/
def fvl (μ : MM) (a k : Nat) (q : Nat × Nat) : Value := match q.1 with
  | 0 => .int (μ.1 a k)
  | 1 => .long (μ.2.2.1 a k)
  | 2 => .null
  | _ + 3 => .ref (a + q.2)
def fvs (μ : MM) (a : Nat) : Nat → List (Nat × Nat) → List Value
  | _, [] => []
  | k, q :: r => fvl μ a k q :: fvs μ a (k + 1) r
/-- an array's references -/
def rfs (μ : MM) (a n o d : Nat) : Nat → Option Nat := fun j => if j < μ.2.1 a n then (if d = 0 then some (μ.2.1 a j) else some (a + o + d * j)) else none
def arv (μ : MM) (a t n o d : Nat) : vp_A := (n, match t with
  | 0 => .inl (μ.1 a)
  | 1 => .inl (μ.1 a)
  | 2 => .inr (.inl (μ.2.2.1 a))
  | _ => .inr (.inr (.inr (.inr (rfs μ a n o d)))))
def FE (g : GPT) (μ : MM) (k a : Nat) : va_E := match KT k with
  | .inl (ci, fs) => .inr (ci, fvs μ a 0 fs)
  | .inr (t, n, _, o, d) => .inl (g.2.2.1 t, arv μ a t n o d)
def HP (g : GPT) (μ : MM) (H : Heap) : Prop := H.size = μ.2.2.2.2 ∧ g.1 ≤ H.size ∧ ∀ a, ¬ μ.2.2.2.1 a = 0 → g.1 ≤ a ∧ va_at g.2.1 vwCl (a, FE g μ (μ.2.2.2.1 a) a) H
/-- the references that the memory holds lead to cells of their kinds -/
def wtK (μ : MM) (a : Nat) (K : KD) : Prop := match K with
  | .inl (_, fs) => ∀ (f j o : Nat), fs[f]? = some (j + 3, o) → μ.2.2.2.1 (a + o) = j ∧ ¬ j = 0
  | .inr (t, n, ek, o, d) => 3 ≤ t → μ.2.1 a n ≤ n ∧ ¬ ek = 0 ∧ ∀ j, j < μ.2.1 a n → μ.2.2.2.1 (if d = 0 then μ.2.1 a j else a + o + d * j) = ek
def WT (μ : MM) : Prop := ∀ a, wtK μ a (KT (μ.2.2.2.1 a))
/-- a value that is what it says -/
def tOK (g : GPT) (μ : MM) : TV → Prop
  | .inr (.inr (k, a)) => (k < 90 → μ.2.2.2.1 a = k ∧ ¬ k = 0) ∧ (90 ≤ k → k < 93 → a = g.2.2.2 k)
  | _ => True
def tOKs (g : GPT) (μ : MM) (st : List TV) : Prop := ∀ v ∈ st, tOK g μ v
def tOKl (g : GPT) (μ : MM) (lc : LC) : Prop := ∀ (i : Nat) (v : TV), lc[i]? = some (some v) → tOK g μ v
theorem tvC_cat (v : TV) : (tvV v).category = tvC v := by
  rcases v with x | x | q <;> rfl
theorem tvC_sum (st : List TV) : ((st.map tvV).map fun v => v.category).sum = (st.map tvC).sum := by
  rw [List.map_map]
  congr 1
  exact List.map_congr_left fun v _ => tvC_cat v
/-! the locals -/
def LH (ls : Array Slot) (nL : Nat) (lc : LC) : Prop := lc.length = nL ∧ ls.size = nL ∧ lv_wf ls ∧ ∀ (i : Nat) (v : TV), lc[i]? = some (some v) → ls[i]? = some (Slot.val (tvV v))
theorem LH.has {ls : Array Slot} {nL : Nat} {lc : LC} (h : LH ls nL lc) (L : List (Nat × TV)) (hL : ∀ q ∈ L, lc[q.1]? = some (some q.2)) : lv_has ls nL (L.map fun q => (q.1, tvV q.2)) := by
  refine ⟨h.2.1, h.2.2.1, fun q hq => ?_⟩
  obtain ⟨r, hr, rfl⟩ := List.mem_map.mp hq
  exact h.2.2.2 _ _ (hL r hr)
theorem getL_at {lc : LC} {i : Nat} {v : TV} (h : getL lc i = some v) : lc[i]? = some (some v) := by
  unfold getL at h
  cases h2 : lc[i]? with
  | none => rw [h2] at h; cases h
  | some o =>
    rw [h2] at h
    cases o with
    | none => cases h
    | some w => cases h; rfl
/-- what stands behind a store -/
theorem setL_at {lc : LC} {i j : Nat} {v w : TV} (h : (setL lc i v)[j]? = some (some w)) : (j = i ∧ w = v) ∨ (¬ j = i ∧ lc[j]? = some (some w) ∧ ¬ (j + 1 = i ∧ tvC w = 2) ∧ (tvC v = 2 → ¬ j = i + 1)) := by
  have s1 : ∀ {l : LC} {a : Nat} {o : Option TV}, (l.set a o)[j]? = some (some w) → (j = a ∧ o = some w) ∨ (¬ j = a ∧ l[j]? = some (some w)) := by
    intro l a o h
    by_cases e : j = a
    · subst e
      rw [List.getElem?_set] at h
      simp only [if_true] at h
      split at h
      · exact Or.inl ⟨rfl, Option.some.inj h⟩
      · cases h
    · rw [List.getElem?_set_ne (Ne.symm e)] at h
      exact Or.inr ⟨e, h⟩
  unfold setL at h
  split at h
  · split at h
    · rename_i hc
      rcases s1 h with ⟨-, e⟩ | ⟨e1, h⟩
      · cases e
      · rcases s1 h with ⟨e, e2⟩ | ⟨e, h⟩
        · exact Or.inl ⟨e, (Option.some.inj e2).symm⟩
        · exact Or.inr ⟨e, h, fun q => by omega, fun _ => e1⟩
    · rename_i hc
      rcases s1 h with ⟨e, e2⟩ | ⟨e, h⟩
      · exact Or.inl ⟨e, (Option.some.inj e2).symm⟩
      · exact Or.inr ⟨e, h, fun q => by omega, fun q => absurd q hc⟩
  · rename_i k
    split at h
    · rename_i x hx
      split at h
      · rename_i hc
        rcases s1 h with ⟨-, e⟩ | ⟨e1, h⟩
        · cases e
        · rcases s1 h with ⟨e, e2⟩ | ⟨e, h⟩
          · exact Or.inl ⟨e, (Option.some.inj e2).symm⟩
          · rcases s1 h with ⟨-, e⟩ | ⟨e3, h⟩
            · cases e
            · exact Or.inr ⟨e, h, fun q => by omega, fun _ => e1⟩
      · rename_i hc
        rcases s1 h with ⟨e, e2⟩ | ⟨e, h⟩
        · exact Or.inl ⟨e, (Option.some.inj e2).symm⟩
        · rcases s1 h with ⟨-, e⟩ | ⟨e3, h⟩
          · cases e
          · exact Or.inr ⟨e, h, fun q => by omega, fun q => absurd q hc⟩
    · rename_i hx
      have key : lc[j]? = some (some w) → ¬ (j + 1 = k + 1 ∧ tvC w = 2) := by
        intro h1 h2
        have e : j = k := by omega
        subst e
        rcases w with x | x | x
        · exact absurd h2.2 (show ¬ (1 : Nat) = 2 by decide)
        · exact hx x (by unfold getL; rw [h1])
        · exact absurd h2.2 (show ¬ (1 : Nat) = 2 by decide)
      split at h
      · rename_i hc
        rcases s1 h with ⟨-, e⟩ | ⟨e1, h⟩
        · cases e
        · rcases s1 h with ⟨e, e2⟩ | ⟨e, h⟩
          · exact Or.inl ⟨e, (Option.some.inj e2).symm⟩
          · exact Or.inr ⟨e, h, key h, fun _ => e1⟩
      · rename_i hc
        rcases s1 h with ⟨e, e2⟩ | ⟨e, h⟩
        · exact Or.inl ⟨e, (Option.some.inj e2).symm⟩
        · exact Or.inr ⟨e, h, key h, fun q => absurd q hc⟩
theorem setL_len (lc : LC) (i : Nat) (v : TV) : (setL lc i v).length = lc.length := by
  unfold setL
  split
  · split <;> simp
  · split
    · split <;> simp
    · split <;> simp
def flL (lc : LC) : List (Nat × TV) := (List.range lc.length).filterMap fun i => (getL lc i).map fun v => (i, v)
theorem flL_mem {lc : LC} {q : Nat × TV} : q ∈ flL lc ↔ lc[q.1]? = some (some q.2) := by
  unfold flL
  rw [List.mem_filterMap]
  constructor
  · rintro ⟨i, -, h⟩
    cases hg : getL lc i with
    | none => rw [hg] at h; cases h
    | some v => rw [hg] at h; cases h; exact getL_at hg
  · intro h
    refine ⟨q.1, List.mem_range.mpr (List.getElem?_eq_some_iff.mp h).1, ?_⟩
    unfold getL
    rw [h]
    rfl
theorem LH.flat {ls : Array Slot} {nL : Nat} {lc : LC} (h : LH ls nL lc) : lv_has ls nL ((flL lc).map fun q => (q.1, tvV q.2)) := h.has _ fun _ hq => flL_mem.mp hq
theorem LH.st1 {ls ls' : Array Slot} {nL : Nat} {lc : LC} {i : Nat} {v : TV} (h : LH ls nL lc) (hc : tvC v = 1) (h' : lv_has ls' nL ((i, tvV v) :: ((flL lc).map fun q => (q.1, tvV q.2)).filter (fun q => !(q.1 == i) && !(q.1 + 1 == i && q.2.category == 2)))) : LH ls' nL (setL lc i v) := by
  refine ⟨(setL_len _ _ _).trans h.1, h'.1, h'.2.1, fun j w hj => ?_⟩
  rcases setL_at hj with ⟨rfl, rfl⟩ | ⟨h1, h2, h3, -⟩
  · exact h'.2.2 _ List.mem_cons_self
  · refine h'.2.2 (j, tvV w) (List.mem_cons_of_mem _ (List.mem_filter.mpr ⟨List.mem_map.mpr ⟨(j, w), flL_mem.mpr h2, rfl⟩, ?_⟩))
    have e1 : (j == i) = false := by simpa using h1
    have e2 : ((tvV w).category == 2) = true → ¬ j + 1 = i := fun q z => h3 ⟨z, by rw [← tvC_cat]; simpa using q⟩
    show (!(j == i) && !(j + 1 == i && (tvV w).category == 2)) = true
    rw [e1]
    cases e3 : (tvV w).category == 2 with
    | false => simp
    | true => simpa using e2 e3
theorem LH.st2 {ls ls' : Array Slot} {nL : Nat} {lc : LC} {i : Nat} {v : TV} (h : LH ls nL lc) (hc : tvC v = 2) (h' : lv_has ls' nL ((i, tvV v) :: ((flL lc).map fun q => (q.1, tvV q.2)).filter (fun q => !(q.1 == i) && (!(q.1 == i + 1) && !(q.1 + 1 == i && q.2.category == 2))))) : LH ls' nL (setL lc i v) := by
  refine ⟨(setL_len _ _ _).trans h.1, h'.1, h'.2.1, fun j w hj => ?_⟩
  rcases setL_at hj with ⟨rfl, rfl⟩ | ⟨h1, h2, h3, h4⟩
  · exact h'.2.2 _ List.mem_cons_self
  · refine h'.2.2 (j, tvV w) (List.mem_cons_of_mem _ (List.mem_filter.mpr ⟨List.mem_map.mpr ⟨(j, w), flL_mem.mpr h2, rfl⟩, ?_⟩))
    have e1 : (j == i) = false := by simpa using h1
    have e4 : (j == i + 1) = false := by simpa using h4 hc
    have e2 : ((tvV w).category == 2) = true → ¬ j + 1 = i := fun q z => h3 ⟨z, by rw [← tvC_cat]; simpa using q⟩
    show (!(j == i) && (!(j == i + 1) && !(j + 1 == i && (tvV w).category == 2))) = true
    rw [e1, e4]
    cases e3 : (tvV w).category == 2 with
    | false => simp
    | true => simpa using e2 e3
theorem tOKl.set {g : GPT} {μ : MM} {lc : LC} {i : Nat} {v : TV} (h : tOKl g μ lc) (hv : tOK g μ v) : tOKl g μ (setL lc i v) := fun j w hj => by
  rcases setL_at hj with ⟨-, rfl⟩ | ⟨-, h2, -⟩
  · exact hv
  · exact h j w h2
