/-! THE REFERENCE reads a client. -/
def sp_X10_weight : SPc := fun As μ K => match As with
  | [.inl k] => ∃ i : Nat, k = nI i ∧ i < 4 ∧ K (.inl (some (.inl (nI (2 ^ i))))) μ
  | _ => False
def ct_X10_weight : List (Nat × CI) := []
def ci_X10_weight : CI := (yX10_weight, cX10_weight, 1, some .int, 1, (0, 0, 0, 0), 0, [], sp_X10_weight)
set_option maxRecDepth 100000 in
theorem ck_X10_weight : chkM ci_X10_weight RX10 co_X10_weight ct_X10_weight [] false false = true := by decide +kernel
set_option maxHeartbeats 4000000 in
set_option maxRecDepth 100000 in
theorem ms_X10_weight {g : GPT} {ot : OT} {l : Launch} (hl : l.stackTraces = false) : MS g ot l ci_X10_weight := by
  refine ms0_of hl RX10 co_X10_weight ct_X10_weight [] false false 9 ck_X10_weight (fun _ h => nomatch h) ?_
  intro As μ K h
  simp only [ci_X10_weight, sp_X10_weight] at h
  split at h
  case h_2 => exact h.elim
  obtain ⟨i, rfl, hi, h⟩ := h
  refine ⟨Nat.le_of_ble_eq_true rfl, ?_⟩
  show K _ _
  rw [shl1 (by omega)]
  exact h
def sp_X10_distance : SPc := fun As μ K => match As with
  | [.inr (.inr (20, r)), .inl c, .inl e] => ∃ (i j n : Nat) (X : CS), c = nI i ∧ e = nI j ∧ i < 3 ∧ j < 16 ∧ RC (μ.1 (r + 1)) i X ∧ μ.1 (r + 1) (3 + 3 * j) = nI n ∧ n < 524288 ∧ K (.inl (some (.inl (dstN n (cS X 1) (cS X 2))))) μ
  | _ => False
def ct_X10_distance : List (Nat × CI) := [(53, ci_X10_stateOf), (41, ci_X10_part), (80, ci_X10_of), (96, ci_X10_size)]
def ci_X10_distance : CI := (yX10_distance, cX10_distance, 5, some .int, 3, (2, 0, 0, 43), 19, [], sp_X10_distance)
set_option maxRecDepth 100000 in
theorem ck_X10_distance : chkM ci_X10_distance RX10 co_X10_distance ct_X10_distance [] false false = true := by decide +kernel
set_option maxHeartbeats 4000000 in
set_option maxRecDepth 100000 in
theorem ms_X10_distance {g : GPT} {ot : OT} {l : Launch} (hl : l.stackTraces = false) : MS g ot l ci_X10_distance := by
  refine ms0_of hl RX10 co_X10_distance ct_X10_distance [] false false 36 ck_X10_distance (List.forall_mem_cons.mpr ⟨ms_X10_stateOf hl, List.forall_mem_cons.mpr ⟨ms_X10_part hl, List.forall_mem_cons.mpr ⟨ms_X10_of hl, List.forall_mem_cons.mpr ⟨ms_X10_size hl, fun _ h => nomatch h⟩⟩⟩⟩) ?_
  intro As μ K h
  simp only [ci_X10_distance, sp_X10_distance] at h
  split at h
  case h_2 => exact h.elim
  rename_i r c e
  obtain ⟨i, j, n, X, rfl, rfl, hi, hj, hX, hs, hn, h⟩ := h
  have s1 := hX.1 1 (by omega)
  have s2 := hX.1 2 (by omega)
  refine ⟨Nat.le_of_ble_eq_true rfl, j, rfl, hj, n, 0, hs, rfl, hn, by omega, i, 1, rfl, rfl, by omega, j, rfl, hj, n, 1, hs, rfl, hn, by omega, i, 2, rfl, rfl, by omega, fun h1 => ?_, fun h1 => ?_⟩
  · have h1 : aI (nI (prt n 0) - μ.1 (r + 1) (51 + 2406 * i + 1)) ≤ aI (nI (prt n 1) - μ.1 (r + 1) (51 + 2406 * i + 2)) := h1
    rw [s1, s2] at h1
    have e : dstN n (cS X 1) (cS X 2) = aI (nI (prt n 1) - cS X 2) := if_pos h1
    rw [e, ← s2] at h
    exact h
  · have h1 : ¬ aI (nI (prt n 0) - μ.1 (r + 1) (51 + 2406 * i + 1)) ≤ aI (nI (prt n 1) - μ.1 (r + 1) (51 + 2406 * i + 2)) := h1
    rw [s1, s2] at h1
    have e : dstN n (cS X 1) (cS X 2) = aI (nI (prt n 0) - cS X 1) := if_neg h1
    rw [e, ← s1] at h
    exact h
def sp_X10_isInArea : SPc := fun As μ K => match As with
  | [.inr (.inr (20, r)), .inl c, .inl e] => ∃ (i j : Nat) (X : CS), c = nI i ∧ e = nI j ∧ i < 3 ∧ j < 16 ∧ RC (μ.1 (r + 1)) i X ∧ sOK (μ.1 (r + 1) (3 + 3 * j)) ∧ K (.inl (some (.inl (iB (inA X (μ.1 (r + 1) (3 + 3 * j))))))) μ
  | _ => False
def ct_X10_isInArea : List (Nat × CI) := [(68, ci_X10_exists), (99, ci_X10_distance), (80, ci_X10_of)]
def ci_X10_isInArea : CI := (yX10_isInArea, cX10_isInArea, 3, some .boolean, 3, (3, 0, 0, 67), 19, [], sp_X10_isInArea)
set_option maxRecDepth 100000 in
theorem ck_X10_isInArea : chkM ci_X10_isInArea RX10 co_X10_isInArea ct_X10_isInArea [] true false = true := by decide +kernel
set_option maxHeartbeats 4000000 in
set_option maxRecDepth 100000 in
theorem ms_X10_isInArea {g : GPT} {ot : OT} {l : Launch} (hl : l.stackTraces = false) : MS g ot l ci_X10_isInArea := by
  refine ms0_of hl RX10 co_X10_isInArea ct_X10_isInArea [] true false 22 ck_X10_isInArea (List.forall_mem_cons.mpr ⟨ms_X10_exists hl, List.forall_mem_cons.mpr ⟨ms_X10_distance hl, List.forall_mem_cons.mpr ⟨ms_X10_of hl, fun _ h => nomatch h⟩⟩⟩) ?_
  intro As μ K h
  simp only [ci_X10_isInArea, sp_X10_isInArea] at h
  split at h
  case h_2 => exact h.elim
  rename_i r c e
  obtain ⟨i, j, X, rfl, rfl, hi, hj, hX, hs, h⟩ := h
  have s3 := hX.1 3 (by omega)
  refine ⟨Nat.le_of_ble_eq_true rfl, j, rfl, hj, fun h1 => ?_, fun h1 => ?_⟩
  · have h1 : iB (¬ μ.1 (r + 1) (3 + 3 * j) = -1) = 0 := h1
    rw [iB_eq0, Classical.not_not] at h1
    have e : iB (inA X (μ.1 (r + 1) (3 + 3 * j))) = 0 := (iB_eq0 _).mpr fun q => q.1 h1
    rw [e] at h
    exact ⟨Or.inl rfl, h⟩
  · have h1 : ¬ iB (¬ μ.1 (r + 1) (3 + 3 * j) = -1) = 0 := h1
    rw [iB_eq0, Classical.not_not] at h1
    obtain ⟨n1, n2⟩ := sOK_n hs h1
    refine ⟨i, j, sN (μ.1 (r + 1) (3 + 3 * j)), X, rfl, rfl, hi, hj, hX, n2, n1, i, 3, rfl, rfl, by omega, fun h2 => ?_, fun h2 => ?_⟩
    · have h2 : μ.1 (r + 1) (51 + 2406 * i + 3) < dstC X (μ.1 (r + 1) (3 + 3 * j)) := h2
      rw [s3] at h2
      have e : iB (inA X (μ.1 (r + 1) (3 + 3 * j))) = 0 := (iB_eq0 _).mpr fun q => Int32.not_le.mpr h2 q.2
      rw [e] at h
      exact ⟨Or.inl rfl, h⟩
    · have h2 : ¬ μ.1 (r + 1) (51 + 2406 * i + 3) < dstC X (μ.1 (r + 1) (3 + 3 * j)) := h2
      rw [s3] at h2
      have e : iB (inA X (μ.1 (r + 1) (3 + 3 * j))) = 1 := if_pos ⟨h1, Int32.not_lt.mp h2⟩
      rw [e] at h
      exact ⟨Or.inr rfl, h⟩
theorem lastN_nil : lastN [] = 0 := rfl
theorem last_at {l : List (Int32 × Int32)} {q : Int32 × Int32} (hn : 0 < l.length) (h : l[l.length - 1]? = some q) : lastN l = q.1 ∧ lastS l = q.2 := by
  have e : l.getLast? = some q := by rw [List.getLast?_eq_getElem?]; exact h
  unfold lastN lastS
  rw [e]
  exact ⟨rfl, rfl⟩
def sp_X10_lastNumber : SPc := fun As μ K => match As with
  | [.inr (.inr (20, r)), .inl c, .inl e] => ∃ (i j : Nat) (l : List (Int32 × Int32)), c = nI i ∧ e = nI j ∧ i < 3 ∧ j < 16 ∧ RR (μ.1 (r + 1)) (51 + 2406 * i + (2006 + 25 * j)) l ∧ K (.inl (some (.inl (lastN l)))) μ
  | _ => False
theorem nI_sub1 {a b : Nat} (h : b ≤ a) : nI a - nI b = nI (a - b) := by
  have e : nI a = nI (a - b) + nI b := by rw [nI_add]; congr 1; omega
  rw [e]
  exact Int32.add_sub_cancel _ _
def ct_X10_lastNumber : List (Nat × CI) := [(105, ci_X10_records)]
def ci_X10_lastNumber : CI := (yX10_lastNumber, cX10_lastNumber, 4, some .int, 3, (2, 0, 0, 42), 19, [], sp_X10_lastNumber)
set_option maxRecDepth 100000 in
theorem ck_X10_lastNumber : chkM ci_X10_lastNumber RX10 co_X10_lastNumber ct_X10_lastNumber [] false false = true := by decide +kernel
set_option maxHeartbeats 4000000 in
set_option maxRecDepth 100000 in
theorem ms_X10_lastNumber {g : GPT} {ot : OT} {l : Launch} (hl : l.stackTraces = false) : MS g ot l ci_X10_lastNumber := by
  refine ms0_of hl RX10 co_X10_lastNumber ct_X10_lastNumber [] false false 30 ck_X10_lastNumber (List.forall_mem_cons.mpr ⟨ms_X10_records hl, fun _ h => nomatch h⟩) ?_
  intro As μ K h
  simp only [ci_X10_lastNumber, sp_X10_lastNumber] at h
  split at h
  case h_2 => exact h.elim
  rename_i r c e
  obtain ⟨i, j, l, rfl, rfl, hi, hj, ⟨a1, a2, a3⟩, h⟩ := h
  refine ⟨Nat.le_of_ble_eq_true rfl, i, j, rfl, rfl, 51 + 2406 * i + (2006 + 25 * j), rfl, by omega, fun h1 => ?_, fun h1 => ?_⟩
  · simp only [ifP, a1, z_nI] at h1
    rw [nI_eq_iff (by omega) (by omega)] at h1
    have hl : 0 < l.length := by omega
    obtain ⟨q, hq⟩ : ∃ q, l[l.length - 1]? = some q := ⟨_, List.getElem?_eq_getElem (by omega)⟩
    obtain ⟨b1, b2⟩ := a3 _ q hq
    rw [(last_at hl hq).1, ← b1] at h
    refine ⟨51 + 2406 * i + (2006 + 25 * j), rfl, by omega, 51 + 2406 * i + (2006 + 25 * j) + 1 + 2 * (l.length - 1), ?_, by omega, h⟩
    show nI (51 + 2406 * i + (2006 + 25 * j)) + Int32.ofInt 2 * μ.1 (r + 1) (51 + 2406 * i + (2006 + 25 * j)) - Int32.ofInt 1 = _
    rw [a1]
    simp only [iL, nI_add, nI_mul]
    rw [nI_sub1 (by omega)]
    congr 1
    omega
  · simp only [ifP, a1, z_nI, Classical.not_not] at h1
    rw [nI_eq_iff (by omega) (by omega)] at h1
    have : l = [] := List.length_eq_zero_iff.mp (by omega)
    subst this
    exact h
def sp_X10_copyState : SPc := fun As μ K => match As with
  | [.inr (.inr (20, r)), .inl c, .inl e] => ∃ (i j : Nat) (l : List (Int32 × Int32)), c = nI i ∧ e = nI j ∧ i < 3 ∧ j < 16 ∧ RR (μ.1 (r + 1)) (51 + 2406 * i + (2006 + 25 * j)) l ∧ K (.inl (some (.inl (lastS l)))) μ
  | _ => False
def ct_X10_copyState : List (Nat × CI) := [(105, ci_X10_records)]
def ci_X10_copyState : CI := (yX10_copyState, cX10_copyState, 4, some .int, 3, (2, 0, 0, 42), 19, [], sp_X10_copyState)
set_option maxRecDepth 100000 in
theorem ck_X10_copyState : chkM ci_X10_copyState RX10 co_X10_copyState ct_X10_copyState [] false false = true := by decide +kernel
set_option maxHeartbeats 4000000 in
set_option maxRecDepth 100000 in
theorem ms_X10_copyState {g : GPT} {ot : OT} {l : Launch} (hl : l.stackTraces = false) : MS g ot l ci_X10_copyState := by
  refine ms0_of hl RX10 co_X10_copyState ct_X10_copyState [] false false 28 ck_X10_copyState (List.forall_mem_cons.mpr ⟨ms_X10_records hl, fun _ h => nomatch h⟩) ?_
  intro As μ K h
  simp only [ci_X10_copyState, sp_X10_copyState] at h
  split at h
  case h_2 => exact h.elim
  rename_i r c e
  obtain ⟨i, j, l, rfl, rfl, hi, hj, ⟨a1, a2, a3⟩, h⟩ := h
  refine ⟨Nat.le_of_ble_eq_true rfl, i, j, rfl, rfl, 51 + 2406 * i + (2006 + 25 * j), rfl, by omega, fun h1 => ?_, fun h1 => ?_⟩
  · simp only [ifP, a1, z_nI] at h1
    rw [nI_eq_iff (by omega) (by omega)] at h1
    have hl : 0 < l.length := by omega
    obtain ⟨q, hq⟩ : ∃ q, l[l.length - 1]? = some q := ⟨_, List.getElem?_eq_getElem (by omega)⟩
    obtain ⟨b1, b2⟩ := a3 _ q hq
    rw [(last_at hl hq).2, ← b2] at h
    refine ⟨51 + 2406 * i + (2006 + 25 * j), rfl, by omega, 51 + 2406 * i + (2006 + 25 * j) + 2 + 2 * (l.length - 1), ?_, by omega, h⟩
    show nI (51 + 2406 * i + (2006 + 25 * j)) + Int32.ofInt 2 * μ.1 (r + 1) (51 + 2406 * i + (2006 + 25 * j)) = _
    rw [a1]
    simp only [iL, nI_add, nI_mul]
    congr 1
    omega
  · simp only [ifP, a1, z_nI, Classical.not_not] at h1
    rw [nI_eq_iff (by omega) (by omega)] at h1
    have : l = [] := List.length_eq_zero_iff.mp (by omega)
    subst this
    exact h
/-- the numbers of the records are apart -/
def apN (l : List (Int32 × Int32)) : Prop := ∀ (i j : Nat) (p q : Int32 × Int32), l[i]? = some p → l[j]? = some q → p.1 = q.1 → i = j
theorem recS_none {l : List (Int32 × Int32)} {n : Int32} (h : ∀ (i : Nat) (q : Int32 × Int32), l[i]? = some q → ¬ q.1 = n) : recS l n = -1 := by
  unfold recS
  rw [List.find?_eq_none.mpr fun q hq => by
    obtain ⟨i, hi⟩ := List.getElem?_of_mem hq
    simpa using h i q hi]
theorem recS_some {l : List (Int32 × Int32)} (hl : apN l) {i : Nat} {q : Int32 × Int32} (hi : l[i]? = some q) : recS l q.1 = q.2 := by
  unfold recS
  cases hf : l.find? (fun z => decide (z.1 = q.1)) with
  | none =>
    have := List.find?_eq_none.mp hf q (List.mem_of_getElem? hi)
    simp at this
  | some z =>
    have h1 : z.1 = q.1 := by simpa using List.find?_some hf
    obtain ⟨j, hj⟩ := List.getElem?_of_mem (List.mem_of_find?_eq_some hf)
    have := hl j i z q hj hi h1
    subst this
    rw [hi] at hj
    cases hj
    rfl
def sp_X10_recordState : SPc := fun As μ K => match As with
  | [.inr (.inr (20, r)), .inl c, .inl e, .inl n] => ∃ (i j : Nat) (l : List (Int32 × Int32)), c = nI i ∧ e = nI j ∧ i < 3 ∧ j < 16 ∧ RR (μ.1 (r + 1)) (51 + 2406 * i + (2006 + 25 * j)) l ∧ apN l ∧ K (.inl (some (.inl (recS l n)))) μ
  | _ => False
def ct_X10_recordState : List (Nat × CI) := [(105, ci_X10_records)]
def ci_X10_recordState : CI := (yX10_recordState, cX10_recordState, 7, some .int, 4, (2, 0, 0, 42), 19, [], sp_X10_recordState)
set_option maxRecDepth 100000 in
theorem ck_X10_recordState : chkM ci_X10_recordState RX10 co_X10_recordState ct_X10_recordState [] false false = true := by decide +kernel
set_option maxHeartbeats 4000000 in
set_option maxRecDepth 100000 in
theorem ms_X10_recordState {g : GPT} {ot : OT} {l : Launch} (hl : l.stackTraces = false) : MS g ot l ci_X10_recordState := by
  refine ms_of hl RX10 co_X10_recordState ct_X10_recordState [] false false [13] 48 ck_X10_recordState (List.forall_mem_cons.mpr ⟨ms_X10_records hl, fun _ h => nomatch h⟩) ?_
  intro As μ K h
  simp only [ci_X10_recordState, sp_X10_recordState] at h
  split at h
  case h_2 => exact h.elim
  rename_i r c e n
  obtain ⟨i, j, l, rfl, rfl, hi, hj, ⟨a1, a2, a3⟩, hap, h⟩ := h
  refine ⟨Nat.le_of_ble_eq_true rfl, fun m pc lc st μ' ce sl => ∃ k, k ≤ l.length ∧ m = l.length - k ∧ pc = 13 ∧ lc = [some (.inr (.inr (20, r))), none, none, some (.inl n), some (.inl (nI (51 + 2406 * i + (2006 + 25 * j)))), some (.inl (recS (l.take k) n)), some (.inl (nI k))] ∧ st = [] ∧ μ = μ' ∧ ce = 0 ∧ sl = 0, ?_, ?_⟩
  · exact ⟨i, j, rfl, rfl, l.length, [some (.inr (.inr (20, r))), none, none, some (.inl n), some (.inl (nI (51 + 2406 * i + (2006 + 25 * j)))), some (.inl (recS (l.take 0) n)), some (.inl (nI 0))], ⟨rfl, rfl, rfl, rfl, rfl, trivial⟩, 0, Nat.zero_le _, rfl, rfl, rfl, rfl, rfl, rfl, rfl⟩
  · rintro m pc lc st μ' ce sl ⟨k, hk, rfl, rfl, rfl, rfl, rfl, rfl, rfl⟩
    refine ⟨51 + 2406 * i + (2006 + 25 * j), rfl, by omega, fun h1 => ?_, fun h1 => ?_⟩
    · simp only [icP, a1] at h1
      rw [nI_le_iff (by omega) (by omega)] at h1
      rw [List.take_of_length_le (by omega)]
      exact h
    · simp only [icP, a1] at h1
      rw [nI_le_iff (by omega) (by omega)] at h1
      obtain ⟨q, hq⟩ : ∃ q, l[k]? = some q := ⟨_, List.getElem?_eq_getElem (by omega)⟩
      obtain ⟨b1, b2⟩ := a3 k q hq
      have ht : l.take (k + 1) = l.take k ++ [q] := by rw [List.take_add_one, hq]; rfl
      refine ⟨51 + 2406 * i + (2006 + 25 * j) + 1 + 2 * k, ?_, by omega, fun h2 => ?_, fun h2 => ?_⟩
      · simp only [iL, nI_add, nI_mul]
      · have h2 : ¬ μ.1 (r + 1) (51 + 2406 * i + (2006 + 25 * j) + 1 + 2 * k) = n := h2
        rw [b1] at h2
        refine ⟨l.length - (k + 1), [some (.inr (.inr (20, r))), none, none, some (.inl n), some (.inl (nI (51 + 2406 * i + (2006 + 25 * j)))), some (.inl (recS (l.take (k + 1)) n)), some (.inl (nI (k + 1)))], by omega, ⟨rfl, rfl, rfl, ?_, inc_tv k, trivial⟩, k + 1, by omega, rfl, rfl, rfl, rfl, rfl, rfl, rfl⟩
        have e : recS (l.take (k + 1)) n = recS (l.take k) n := by
          unfold recS
          rw [ht, List.find?_append]
          have e2 : ([q] : List (Int32 × Int32)).find? (fun q => decide (q.1 = n)) = none := by simp [h2]
          rw [e2, Option.or_none]
        rw [e]
      · simp only [icP, Classical.not_not] at h2
        have h2 : μ.1 (r + 1) (51 + 2406 * i + (2006 + 25 * j) + 1 + 2 * k) = n := h2
        rw [b1] at h2
        refine ⟨51 + 2406 * i + (2006 + 25 * j) + 2 + 2 * k, ?_, by omega, l.length - (k + 1), [some (.inr (.inr (20, r))), none, none, some (.inl n), some (.inl (nI (51 + 2406 * i + (2006 + 25 * j)))), some (.inl (recS (l.take (k + 1)) n)), some (.inl (nI (k + 1)))], by omega, ⟨rfl, rfl, rfl, ?_, inc_tv k, trivial⟩, k + 1, by omega, rfl, rfl, rfl, rfl, rfl, rfl, rfl⟩
        · simp only [iL, nI_add, nI_mul]
        · have hap' : apN (l.take (k + 1)) := fun x y p z hx hy he => by
            have hx' : l[x]? = some p := by
              rw [List.getElem?_take] at hx
              split at hx
              · exact hx
              · cases hx
            have hy' : l[y]? = some z := by
              rw [List.getElem?_take] at hy
              split at hy
              · exact hy
              · cases hy
            exact hap x y p z hx' hy' he
          have e : recS (l.take (k + 1)) n = q.2 := by
            rw [← h2]
            exact recS_some hap' (i := k) (by rw [List.getElem?_take, if_pos (by omega)]; exact hq)
          show (some (.inl (μ.1 (r + 1) (51 + 2406 * i + (2006 + 25 * j) + 2 + 2 * k))) : Option TV) = _
          rw [e, b2]
