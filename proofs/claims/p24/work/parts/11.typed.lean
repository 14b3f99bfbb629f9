/-! The memory's references stay of their kinds. -/
def okK2 : KD → Bool
  | .inl (_, fs) => fs.all fun q => decide (q.1 < 3) || (decide (q.1 < 24) && decide (3 < q.1))
  | .inr (t, _, ek, _, _) => decide (t < 3) || (decide (ek < 21) && decide (0 < ek))
theorem kd_ok2 : kdL.all okK2 = true := by decide +kernel
theorem KT_ok2 (k : Nat) : okK2 (KT k) = true := by
  unfold KT
  rw [List.getD_eq_getElem?_getD]
  cases h : kdL[k]? with
  | none => decide +kernel
  | some x => exact List.all_eq_true.mp kd_ok2 x (List.mem_of_getElem? h)
theorem kd_len : kdL.length = 54 := by decide +kernel
theorem KT_lt {k : Nat} {ci : Nat} {fs : List (Nat × Nat)} (h : KT k = .inl (ci, fs)) : k < 54 := by
  rcases Nat.lt_or_ge k 54 with q | q
  · exact q
  · unfold KT at h
    rw [List.getD_eq_getElem?_getD, List.getElem?_eq_none (by rw [kd_len]; exact q)] at h
    cases h
theorem KT_rf {k ci f j o : Nat} {fs : List (Nat × Nat)} (h : KT k = .inl (ci, fs)) (hf : fs[f]? = some (j + 3, o)) : j < 21 ∧ 0 < j := by
  have h0 := KT_ok2 k
  rw [h] at h0
  have h1 := List.all_eq_true.mp h0 _ (List.mem_of_getElem? hf)
  simp only [Bool.or_eq_true, Bool.and_eq_true, decide_eq_true_eq] at h1
  omega
theorem KT_re {k t n ek o d : Nat} (h : KT k = .inr (t, n, ek, o, d)) (h3 : 3 ≤ t) : ek < 21 ∧ 0 < ek := by
  have h0 := KT_ok2 k
  rw [h] at h0
  simp only [okK2, Bool.or_eq_true, Bool.and_eq_true, decide_eq_true_eq] at h0
  omega
theorem KT0 : KT 0 = .inr (0, 0, 0, 0, 0) := by decide +kernel
/-- the kinds of the cells that a cell of the memory leads to are less than 21 and not 0: nothing leads to what is new or being made -/
theorem wtK_mono {μ μ' : MM} {b : Nat} {k : Nat} (h : wtK μ b (KT k)) (hr : μ'.2.1 b = μ.2.1 b) (hk : ∀ c, 0 < μ.2.2.2.1 c → μ.2.2.2.1 c < 21 → μ'.2.2.2.1 c = μ.2.2.2.1 c) : wtK μ' b (KT k) := by
  cases hK : KT k with
  | inl q =>
    obtain ⟨ci, fs⟩ := q
    rw [hK] at h
    intro f j o hf
    obtain ⟨h1, h2⟩ := h f j o hf
    obtain ⟨h3, h4⟩ := KT_rf hK hf
    exact ⟨by rw [hk _ (by rw [h1]; exact h4) (by rw [h1]; exact h3)]; exact h1, h2⟩
  | inr q =>
    obtain ⟨t, n, ek, o, d⟩ := q
    rw [hK] at h
    intro h3
    obtain ⟨h1, h2, h4⟩ := h h3
    obtain ⟨e1, e2⟩ := KT_re hK h3
    rw [hr]
    refine ⟨h1, h2, fun j hj => ?_⟩
    have h5 := h4 j hj
    rw [hk _ (by rw [h5]; exact e2) (by rw [h5]; exact e1)]
    exact h5
/-- a new cell: of ints, or with no reference yet -/
theorem WT.new {μ : MM} (h : WT μ) {k : Nat} {f' : Nat → Nat → Int32} {l' : Nat → Nat → Int64} {r' : Nat → Nat → Nat} {z : Nat} (h0 : μ.2.2.2.1 μ.2.2.2.2 = 0) (hr : ∀ b, b ≠ μ.2.2.2.2 → r' b = μ.2.1 b)
    (hk : ∀ ci fs, KT k = .inl (ci, fs) → ∀ q ∈ fs, q.1 < 3) (hk2 : ∀ t n ek o d, KT k = .inr (t, n, ek, o, d) → 3 ≤ t → r' μ.2.2.2.2 n = 0) : WT (f', r', l', up1 μ.2.2.2.1 μ.2.2.2.2 k, z) := by
  have key : ∀ c, 0 < μ.2.2.2.1 c → μ.2.2.2.1 c < 21 → up1 μ.2.2.2.1 μ.2.2.2.2 k c = μ.2.2.2.1 c := by
    intro c h1 _
    refine up1_ne fun e => ?_
    rw [e, h0] at h1
    exact absurd h1 (Nat.lt_irrefl 0)
  intro b
  by_cases e : b = μ.2.2.2.2
  · subst e
    show wtK _ _ (KT (up1 μ.2.2.2.1 μ.2.2.2.2 k μ.2.2.2.2))
    rw [up1_eq]
    cases hK : KT k with
    | inl q =>
      obtain ⟨ci, fs⟩ := q
      intro f j o hf
      have := hk ci fs hK _ (List.mem_of_getElem? hf)
      dsimp only at this
      omega
    | inr q =>
      obtain ⟨t, n, ek, o, d⟩ := q
      intro h3
      have h5 : r' μ.2.2.2.2 n = 0 := hk2 t n ek o d hK h3
      show r' μ.2.2.2.2 n ≤ n ∧ ¬ ek = 0 ∧ ∀ j, j < r' μ.2.2.2.2 n → _
      rw [h5]
      exact ⟨Nat.zero_le _, by have := KT_re hK h3; omega, fun j hj => absurd hj (Nat.not_lt_zero j)⟩
  · show wtK _ _ (KT (up1 μ.2.2.2.1 μ.2.2.2.2 k b))
    rw [up1_ne e]
    exact wtK_mono (h b) (hr b e) key
/-- a reference into a row of references -/
theorem WT.row {μ : MM} (h : WT μ) {a k t n ek o d : Nat} (hk : μ.2.2.2.1 a = k) (hK : KT k = .inr (t + 3, n, ek, o, d)) {r' : Nat → Nat → Nat} (hr : ∀ b, b ≠ a → r' b = μ.2.1 b)
    (hf : r' a n ≤ n ∧ ∀ j, j < r' a n → μ.2.2.2.1 (if d = 0 then r' a j else a + o + d * j) = ek) : WT (μ.1, r', μ.2.2) := by
  intro b
  by_cases e : b = a
  · subst e
    show wtK _ _ (KT (μ.2.2.2.1 b))
    rw [hk, hK]
    intro h3
    exact ⟨hf.1, by have := KT_re hK h3; omega, hf.2⟩
  · exact wtK_mono (h b) (hr b e) (fun _ _ _ => rfl)
/-- a reference into a field of an object that is being made -/
theorem WT.put {μ : MM} (h : WT μ) {a k k1 ci f j o : Nat} {fs : List (Nat × Nat)} (hk : μ.2.2.2.1 a = k) (hraw : 21 ≤ k) (hK : KT k = .inl (ci, fs)) (hK1 : KT k1 = .inl (ci, fs.set f (j + 3, o))) (hj : μ.2.2.2.1 (a + o) = j) : WT (μ.1, μ.2.1, μ.2.2.1, up1 μ.2.2.2.1 a k1, μ.2.2.2.2) := by
  have key : ∀ c, 0 < μ.2.2.2.1 c → μ.2.2.2.1 c < 21 → up1 μ.2.2.2.1 a k1 c = μ.2.2.2.1 c := by
    intro c _ h2
    refine up1_ne fun e => ?_
    rw [e, hk] at h2
    omega
  intro b
  by_cases e : b = a
  · subst e
    show wtK _ _ (KT (up1 μ.2.2.2.1 b k1 b))
    rw [up1_eq, hK1]
    intro f' j' o' hf'
    have hb := h b
    rw [hk, hK] at hb
    by_cases ef : f' = f
    · subst ef
      rw [List.getElem?_set] at hf'
      simp only [if_true] at hf'
      split at hf'
      · have h1 := Option.some.inj hf'
        have h2 : j = j' := by have := congrArg Prod.fst h1; simpa using this
        have h3 : o = o' := congrArg Prod.snd h1
        subst h2; subst h3
        obtain ⟨h4, h5⟩ := KT_rf hK1 (f := f') (j := j) (o := o) (by
          rw [List.getElem?_set]
          rename_i hlt
          simp [hlt])
        refine ⟨?_, by omega⟩
        show up1 μ.2.2.2.1 b k1 (b + o) = j
        rw [key _ (by omega) (by omega)]
        exact hj
      · cases hf'
    · rw [List.getElem?_set_ne (Ne.symm ef)] at hf'
      obtain ⟨h1, h2⟩ := hb f' j' o' hf'
      obtain ⟨h3, h4⟩ := KT_rf hK hf'
      refine ⟨?_, h2⟩
      show up1 μ.2.2.2.1 b k1 (b + o') = j'
      rw [key _ (by omega) (by omega)]
      exact h1
  · show wtK _ _ (KT (up1 μ.2.2.2.1 a k1 b))
    rw [up1_ne e]
    exact wtK_mono (h b) rfl key
theorem tOKs_cons {g : GPT} {μ : MM} {v : TV} {st : List TV} : tOKs g μ (v :: st) ↔ tOK g μ v ∧ tOKs g μ st := List.forall_mem_cons
theorem tOK_i {g : GPT} {μ : MM} {x : Int32} : tOK g μ (.inl x) := trivial
theorem tOK_l {g : GPT} {μ : MM} {x : Int64} : tOK g μ (.inr (.inl x)) := trivial
theorem tOKs_nil {g : GPT} {μ : MM} : tOKs g μ [] := fun _ h => nomatch h
/-- values of other kinds stay what they say where one address gets a new kind -/
theorem tOK.keep {g : GPT} {μ μ' : MM} {v : TV} (h : tOK g μ v) (hm : ∀ b, ¬ μ.2.2.2.1 b = 0 → (∀ k a, v = .inr (.inr (k, a)) → k < 90 → b = a → μ'.2.2.2.1 b = μ.2.2.2.1 b)) : tOK g μ' v := by
  rcases v with x | x | ⟨k, a⟩
  · trivial
  · trivial
  · refine ⟨fun hk => ?_, h.2⟩
    obtain ⟨h1, h2⟩ := h.1 hk
    exact ⟨by rw [hm a (by rw [h1]; exact h2) k a rfl hk rfl]; exact h1, h2⟩
theorem nkS_spec {k : Nat} : ∀ {st : List TV}, nkS k st = true → ∀ v ∈ st, nkV k v = true
  | [], _, _, h => nomatch h
  | w :: st, hs, v, hv => by
    simp only [nkS, Bool.and_eq_true] at hs
    rcases List.mem_cons.mp hv with e | e
    · subst e; exact hs.1
    · exact nkS_spec hs.2 v e
theorem nkL_spec {k : Nat} : ∀ {lc : LC}, nkL k lc = true → ∀ (i : Nat) (v : TV), lc[i]? = some (some v) → nkV k v = true
  | [], _, i, v, h => by simp at h
  | none :: lc, hs, 0, v, h => by simp at h
  | some w :: lc, hs, 0, v, h => by
    simp only [nkL, Bool.and_eq_true] at hs
    rw [List.getElem?_cons_zero] at h
    cases h
    exact hs.1
  | none :: lc, hs, i + 1, v, h => by
    rw [List.getElem?_cons_succ] at h
    exact nkL_spec (lc := lc) hs i v h
  | some w :: lc, hs, i + 1, v, h => by
    simp only [nkL, Bool.and_eq_true] at hs
    rw [List.getElem?_cons_succ] at h
    exact nkL_spec hs.2 i v h
theorem nkV_ne {k a k' : Nat} (h : nkV k (.inr (.inr (k', a))) = true) : k' ≠ k := by
  intro e
  subst e
  simp [nkV] at h
/-- .. where the address was of kind k, and they are of others -/
theorem tOK.other {g : GPT} {μ μ' : MM} {v : TV} {a k : Nat} (h : tOK g μ v) (hk : μ.2.2.2.1 a = k) (hv : nkV k v = true) (hm : ∀ b, ¬ μ.2.2.2.1 b = 0 → b ≠ a → μ'.2.2.2.1 b = μ.2.2.2.1 b) : tOK g μ' v := by
  refine h.keep fun b hb k' a' e hk' eb => ?_
  subst e
  subst eb
  refine hm b hb fun e => ?_
  subst e
  exact nkV_ne hv ((h.1 hk').1.symm.trans hk)
