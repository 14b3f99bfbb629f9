/-! THE REFERENCE: the next by its priority. -/
def nxtN (T : Nat → Int32) (B : Nat → Nat → Int32) : Nat → Option Nat
  | 0 => none
  | n + 1 => match nxtN T B n with
    | none => if T n = 0 ∧ 0 < B n 0 then some n else none
    | some f => if T n = 0 ∧ 0 < B n 0 ∧ B f 0 < B n 0 then some n else some f
theorem nxtN_lt (T : Nat → Int32) (B : Nat → Nat → Int32) : ∀ n f, nxtN T B n = some f → f < n
  | 0, f, h => by cases h
  | n + 1, f, h => by
    have ih := nxtN_lt T B n
    unfold nxtN at h
    cases hq : nxtN T B n with
    | none =>
      rw [hq] at h
      simp only at h
      split at h
      · cases h; omega
      · cases h
    | some f' =>
      rw [hq] at h
      have := ih f' hq
      simp only at h
      split at h
      · cases h; omega
      · cases h; omega
def oV (o : Option Nat) : Int32 := match o with
  | none => -1
  | some n => nI n
def nxL (r i e : Nat) (x : Int32) : LC := [some (.inr (.inr (20, r))), some (.inl (nI i)), some (.inl x), some (.inl (nI e)), none]
def sp_X10_nextByPriority : SPc := fun As μ K => match As with
  | [.inr (.inr (20, r)), .inl c] => ∃ (i : Nat) (X : CS), c = nI i ∧ i < 3 ∧ RC (μ.1 (r + 1)) i X ∧ K (.inl (some (.inl (oV (nxtN (μ.1 (r + 5)) (cB X) 16))))) μ
  | _ => False
def ct_X10_nextByPriority : List (Nat × CI) := [(83, ci_X10_base)]
def ci_X10_nextByPriority : CI := (yX10_nextByPriority, cX10_nextByPriority, 5, some .int, 2, (2, 0, 0, 42), 19, [], sp_X10_nextByPriority)
set_option maxRecDepth 100000 in
theorem ck_X10_nextByPriority : chkM ci_X10_nextByPriority RX10 co_X10_nextByPriority ct_X10_nextByPriority [] false false = true := by decide +kernel
set_option maxHeartbeats 4000000 in
set_option maxRecDepth 100000 in
theorem ms_X10_nextByPriority {g : GPT} {ot : OT} {l : Launch} (hl : l.stackTraces = false) : MS g ot l ci_X10_nextByPriority := by
  refine ms_of hl RX10 co_X10_nextByPriority ct_X10_nextByPriority [] false false [4] 45 ck_X10_nextByPriority (List.forall_mem_cons.mpr ⟨ms_X10_base hl, fun _ h => nomatch h⟩) ?_
  intro As μ K h
  simp only [ci_X10_nextByPriority, sp_X10_nextByPriority] at h
  split at h
  case h_2 => exact h.elim
  rename_i r c
  obtain ⟨i, X, rfl, hi, hX, h⟩ := h
  refine ⟨Nat.le_of_ble_eq_true rfl, fun m pc lc st μ' ce sl => ∃ k, k ≤ 16 ∧ m = 16 - k ∧ pc = 4 ∧ lc = nxL r i k (oV (nxtN (μ.1 (r + 5)) (cB X) k)) ∧ st = [] ∧ μ = μ' ∧ ce = 0 ∧ sl = 0, ?_, ?_⟩
  · exact ⟨16, nxL r i 0 (-1), ⟨rfl, rfl, rfl, rfl, trivial⟩, 0, Nat.zero_le _, rfl, rfl, rfl, rfl, rfl, rfl, rfl⟩
  · rintro m pc lc st μ' ce sl ⟨k, hk, rfl, rfl, rfl, rfl, rfl, rfl, rfl⟩
    refine ⟨fun h1 => ?_, fun h1 => ?_⟩
    · simp only [icP, ifP, iL, iM1] at h1
      try simp only [z_nI] at h1
      try simp only [nI_add, nI_mul] at h1
      first | rw [nI_le_iff (by omega) (by omega)] at h1 | rw [nI_lt_iff (by omega) (by omega)] at h1 | rw [nI_eq_iff (by omega) (by omega)] at h1
      obtain rfl : k = 16 := by omega
      exact h
    · simp only [icP, ifP, iL, iM1] at h1
      try simp only [z_nI] at h1
      try simp only [nI_add, nI_mul] at h1
      first | rw [nI_le_iff (by omega) (by omega)] at h1 | rw [nI_lt_iff (by omega) (by omega)] at h1 | rw [nI_eq_iff (by omega) (by omega)] at h1
      have b0 : ∀ e, e < 16 → μ.1 (r + 1) (51 + 2406 * i + (1958 + 3 * e)) = cB X e 0 := fun e he => hX.2.2.2.1 e he 0 (by omega)
      have bk := b0 k (by omega)
      have fin : ∀ x, x = oV (nxtN (μ.1 (r + 5)) (cB X) (k + 1)) → ∃ n' lc', n' < 16 - k ∧ subL lc' [some (.inr (.inr (20, r))), some (.inl (nI i)), some (.inl x), some (.inl (nI k + Int32.ofInt 1)), some (.inl (μ.1 (r + 1) (51 + 2406 * i + (1958 + 3 * k))))] ∧ (∃ k, k ≤ 16 ∧ n' = 16 - k ∧ 4 = 4 ∧ lc' = nxL r i k (oV (nxtN (μ.1 (r + 5)) (cB X) k)) ∧ ([] : List TV) = [] ∧ μ = μ ∧ 0 = 0 ∧ 0 = 0) := fun x hx =>
        ⟨16 - (k + 1), nxL r i (k + 1) (oV (nxtN (μ.1 (r + 5)) (cB X) (k + 1))), by omega, ⟨rfl, rfl, by rw [hx], inc_tv k, trivial⟩, k + 1, by omega, rfl, rfl, rfl, rfl, rfl, rfl, rfl⟩
      have keep : ¬ (μ.1 (r + 5) k = 0 ∧ 0 < cB X k 0) → oV (nxtN (μ.1 (r + 5)) (cB X) k) = oV (nxtN (μ.1 (r + 5)) (cB X) (k + 1)) := fun q => by
        have e : nxtN (μ.1 (r + 5)) (cB X) (k + 1) = nxtN (μ.1 (r + 5)) (cB X) k := by
          rw [nxtN]
          cases nxtN (μ.1 (r + 5)) (cB X) k with
          | none => exact if_neg q
          | some f => exact if_neg fun z => q ⟨z.1, z.2.1⟩
        rw [e]
      refine ⟨i, k, rfl, rfl, _, rfl, by omega, k, rfl, by omega, fun h2 => fin _ (keep fun q => h2 q.1), fun h2 => ⟨fun h3 => fin _ (keep fun q => ?_), fun h3 => ⟨fun h4 => fin _ ?_, fun h4 => ?_⟩⟩⟩
      · have h3 : μ.1 (r + 1) (51 + 2406 * i + (1958 + 3 * k)) ≤ 0 := h3
        rw [bk] at h3
        exact Int32.not_lt.mpr h3 q.2
      · have h2 : μ.1 (r + 5) k = 0 := Classical.not_not.mp h2
        have h3 : ¬ μ.1 (r + 1) (51 + 2406 * i + (1958 + 3 * k)) ≤ 0 := h3
        rw [bk] at h3
        have h4 : oV (nxtN (μ.1 (r + 5)) (cB X) k) = -1 := h4
        rw [nxtN]
        cases hq : nxtN (μ.1 (r + 5)) (cB X) k with
        | none =>
          show nI k = oV (if μ.1 (r + 5) k = 0 ∧ 0 < cB X k 0 then some k else none)
          rw [if_pos ⟨h2, Int32.not_le.mp h3⟩]
          rfl
        | some f =>
          rw [hq] at h4
          have := nxtN_lt _ _ _ _ hq
          exact absurd h4 (nI_ne_m1 (by omega))
      · have h2 : μ.1 (r + 5) k = 0 := Classical.not_not.mp h2
        have h3 : ¬ μ.1 (r + 1) (51 + 2406 * i + (1958 + 3 * k)) ≤ 0 := h3
        rw [bk] at h3
        have h4 : ¬ oV (nxtN (μ.1 (r + 5)) (cB X) k) = -1 := h4
        cases hq : nxtN (μ.1 (r + 5)) (cB X) k with
        | none => rw [hq] at h4; exact absurd rfl h4
        | some f =>
          have hf := nxtN_lt _ _ _ _ hq
          have bf := b0 f (by omega)
          have e : nxtN (μ.1 (r + 5)) (cB X) (k + 1) = if μ.1 (r + 5) k = 0 ∧ 0 < cB X k 0 ∧ cB X f 0 < cB X k 0 then some k else some f := by
            rw [nxtN, hq]
          refine ⟨i, f, rfl, rfl, _, rfl, by omega, fun h5 => fin _ ?_, fun h5 => fin _ ?_⟩
          · have h5 : μ.1 (r + 1) (51 + 2406 * i + (1958 + 3 * k)) ≤ μ.1 (r + 1) (51 + 2406 * i + (1958 + 3 * f)) := h5
            rw [bk, bf] at h5
            rw [e, if_neg fun z => Int32.not_lt.mpr h5 z.2.2]
          · have h5 : ¬ μ.1 (r + 1) (51 + 2406 * i + (1958 + 3 * k)) ≤ μ.1 (r + 1) (51 + 2406 * i + (1958 + 3 * f)) := h5
            rw [bk, bf] at h5
            rw [e, if_pos ⟨h2, Int32.not_le.mp h3, Int32.not_le.mp h5⟩]
            rfl
