/-! THE REFERENCE, the values that it tells. -/
theorem swEq {w : Nat} {k : Int} (hw : w < 2 ^ 31) (q : (nI w).toInt = k) : (w : Int) = k := by
  rw [nI_toInt hw] at q
  exact q
theorem swNe {w : Nat} {k : Int} (hw : w < 2 ^ 31) (q : ¬ (nI w).toInt = k) : ¬ (w : Int) = k := by
  rw [nI_toInt hw] at q
  exact q
theorem swOut {w : Nat} {a b : Int} (hw : w < 2 ^ 31) (q : (nI w).toInt < a ∨ b < (nI w).toInt) : (w : Int) < a ∨ b < (w : Int) := by
  rw [nI_toInt hw] at q
  exact q
def cpV (l : List (Int32 × Int32)) (w : Nat) : Int32 := if w = 0 then iB (¬ lastS l = -1) else if w = 5 then lastN l else if w = 6 then nI l.length else nI (pz (lastS l) (w - 1))
theorem cpV_d (l : List (Int32 × Int32)) {w : Nat} (h0 : ¬ w = 0) (h5 : ¬ w = 5) (h6 : ¬ w = 6) : cpV l w = nI (pz (lastS l) (w - 1)) := by
  unfold cpV
  rw [if_neg h0, if_neg h5, if_neg h6]
theorem iB_1 {p : Prop} [Decidable p] (h : p) : iB p = 1 := if_pos h
theorem iB_0 {p : Prop} [Decidable p] (h : ¬ p) : iB p = 0 := if_neg h
theorem sOK_last {l : List (Int32 × Int32)} (h : ∀ q ∈ l, sOK q.2) : sOK (lastS l) := by
  unfold lastS
  cases hq : l.getLast? with
  | none => exact Or.inl rfl
  | some q => exact h q (List.mem_of_getLast? hq)
def sp_X10_copyValue : SPc := fun As μ K => match As with
  | [.inr (.inr (20, r)), .inl c, .inl e, .inl w'] => ∃ (i j w : Nat) (l : List (Int32 × Int32)), c = nI i ∧ e = nI j ∧ w' = nI w ∧ i < 3 ∧ j < 16 ∧ w < 7 ∧ RR (μ.1 (r + 1)) (51 + 2406 * i + (2006 + 25 * j)) l ∧ (∀ q ∈ l, sOK q.2) ∧ K (.inl (some (.inl (cpV l w)))) μ
  | _ => False
def ct_X10_copyValue : List (Nat × CI) := [(189, ci_X10_copyState), (108, ci_X10_lastNumber), (105, ci_X10_records), (71, ci_X10_partOrZero)]
def ci_X10_copyValue : CI := (yX10_copyValue, cX10_copyValue, 5, some .int, 4, (3, 0, 0, 65), 19, [], sp_X10_copyValue)
set_option maxRecDepth 100000 in
theorem ck_X10_copyValue : chkM ci_X10_copyValue RX10 co_X10_copyValue ct_X10_copyValue [] false false = true := by decide +kernel
set_option maxHeartbeats 4000000 in
set_option maxRecDepth 100000 in
theorem ms_X10_copyValue {g : GPT} {ot : OT} {l : Launch} (hl : l.stackTraces = false) : MS g ot l ci_X10_copyValue := by
  refine ms0_of hl RX10 co_X10_copyValue ct_X10_copyValue [] false false 37 ck_X10_copyValue (List.forall_mem_cons.mpr ⟨ms_X10_copyState hl, List.forall_mem_cons.mpr ⟨ms_X10_lastNumber hl, List.forall_mem_cons.mpr ⟨ms_X10_records hl, List.forall_mem_cons.mpr ⟨ms_X10_partOrZero hl, fun _ h => nomatch h⟩⟩⟩⟩) ?_
  intro As μ K h
  simp only [ci_X10_copyValue, sp_X10_copyValue] at h
  split at h
  case h_2 => exact h.elim
  rename_i r c e w'
  obtain ⟨i, j, w, l, rfl, rfl, rfl, hi, hj, hw, hl, hs, h⟩ := h
  refine ⟨Nat.le_of_ble_eq_true rfl, i, j, l, rfl, rfl, hi, hj, hl, fun q => ?_, fun q => ⟨fun q2 => ?_, fun q2 => ⟨fun q3 => ?_, fun q3 => ?_⟩⟩⟩
  · have q := swEq (by omega) q
    obtain rfl : w = 0 := by omega
    refine ⟨fun h1 => ?_, fun h1 => ?_⟩
    · have e : cpV l 0 = 1 := iB_1 h1
      rw [e] at h
      exact h
    · have e : cpV l 0 = 0 := iB_0 h1
      rw [e] at h
      exact h
  · have q := swEq (by omega) q2
    obtain rfl : w = 5 := by omega
    exact ⟨i, j, l, rfl, rfl, hi, hj, hl, h⟩
  · have q := swEq (by omega) q3
    obtain rfl : w = 6 := by omega
    refine ⟨i, j, rfl, rfl, _, rfl, by omega, ?_⟩
    have e : cpV l 6 = μ.1 (r + 1) (51 + 2406 * i + (2006 + 25 * j)) := hl.1.symm
    rw [e] at h
    exact h
  · have q := swNe (by omega) q
    have q2 := swNe (by omega) q2
    have q3 := swNe (by omega) q3
    rw [cpV_d l (by omega) (by omega) (by omega)] at h
    exact ⟨w - 1, nI_sub1 (b := 1) (by omega), by omega, sOK_last hs, h⟩
/-- packets that fly -/
def flyN (l : List PK) : Nat := (l.filter fun p => decide (fly p)).length
theorem flyN_take {l : List PK} {k : Nat} {p : PK} (h : l[k]? = some p) (hp : p.1 4 = 0 ∨ p.1 4 = 1) : nI (flyN (l.take k)) + p.1 4 = nI (flyN (l.take (k + 1))) := by
  have ht : l.take (k + 1) = l.take k ++ [p] := by rw [List.take_add_one, h]; rfl
  unfold flyN
  rw [ht, List.filter_append, List.length_append]
  rcases hp with hp | hp
  · have e : ([p] : List PK).filter (fun p => decide (fly p)) = [] := by simp [hp]
    rw [e, hp]
    show nI _ + 0 = nI (_ + 0)
    rw [Int32.add_zero]
    rfl
  · have e : ([p] : List PK).filter (fun p => decide (fly p)) = [p] := by simp [fly, hp]
    rw [e, hp]
    exact nI_add _ 1
def bitP (l : List PK) : Prop := ∀ p ∈ l, p.1 4 = 0 ∨ p.1 4 = 1
theorem RC.pk {f : Nat → Int32} {c : Nat} {X : CS} (h : RC f c X) {k : Nat} {p : PK} (hp : (cP X)[k]? = some p) : RP f (51 + 2406 * c + (66 + 86 * k)) p := h.2.2.1.2.2 k p hp
theorem at_of_lt {α : Type} {l : List α} {k : Nat} (h : k < l.length) : ∃ q, l[k]? = some q := ⟨_, List.getElem?_eq_getElem h⟩
def sp_X10_flying : SPc := fun As μ K => match As with
  | [.inr (.inr (20, r)), .inl c] => ∃ (i : Nat) (X : CS), c = nI i ∧ i < 3 ∧ RC (μ.1 (r + 1)) i X ∧ bitP (cP X) ∧ K (.inl (some (.inl (nI (flyN (cP X)))))) μ
  | _ => False
def ct_X10_flying : List (Nat × CI) := [(80, ci_X10_of), (125, ci_X10_packetCell)]
def ci_X10_flying : CI := (yX10_flying, cX10_flying, 4, some .int, 2, (2, 0, 0, 43), 19, [], sp_X10_flying)
set_option maxRecDepth 100000 in
theorem ck_X10_flying : chkM ci_X10_flying RX10 co_X10_flying ct_X10_flying [] false false = true := by decide +kernel
set_option maxHeartbeats 4000000 in
set_option maxRecDepth 100000 in
theorem ms_X10_flying {g : GPT} {ot : OT} {l : Launch} (hl : l.stackTraces = false) : MS g ot l ci_X10_flying := by
  refine ms_of hl RX10 co_X10_flying ct_X10_flying [] false false [4] 31 ck_X10_flying (List.forall_mem_cons.mpr ⟨ms_X10_of hl, List.forall_mem_cons.mpr ⟨ms_X10_packetCell hl, fun _ h => nomatch h⟩⟩) ?_
  intro As μ K h
  simp only [ci_X10_flying, sp_X10_flying] at h
  split at h
  case h_2 => exact h.elim
  rename_i r c
  obtain ⟨i, X, rfl, hi, hX, hb, h⟩ := h
  have hl := hX.2.2.1.1
  have hl2 := hX.2.2.1.2.1
  refine ⟨Nat.le_of_ble_eq_true rfl, fun m pc lc st μ' ce sl => ∃ k, k ≤ (cP X).length ∧ m = (cP X).length - k ∧ pc = 4 ∧ lc = [some (.inr (.inr (20, r))), some (.inl (nI i)), some (.inl (nI (flyN ((cP X).take k)))), some (.inl (nI k))] ∧ st = [] ∧ μ = μ' ∧ ce = 0 ∧ sl = 0, ?_, ?_⟩
  · exact ⟨(cP X).length, [some (.inr (.inr (20, r))), some (.inl (nI i)), some (.inl (nI 0)), some (.inl (nI 0))], ⟨rfl, rfl, rfl, rfl, trivial⟩, 0, Nat.zero_le _, rfl, rfl, rfl, rfl, rfl, rfl, rfl⟩
  · rintro m pc lc st μ' ce sl ⟨k, hk, rfl, rfl, rfl, rfl, rfl, rfl, rfl⟩
    refine ⟨i, 65, rfl, rfl, by omega, fun h1 => ?_, fun h1 => ?_⟩
    · simp only [icP, hl] at h1
      rw [nI_le_iff (by omega) (by omega)] at h1
      rw [List.take_of_length_le (by omega)]
      exact h
    · simp only [icP, hl] at h1
      rw [nI_le_iff (by omega) (by omega)] at h1
      obtain ⟨p, hp⟩ := at_of_lt (l := cP X) (k := k) (by omega)
      have h4 := (hX.pk hp).1 4 (by omega)
      refine ⟨i, k, rfl, rfl, _, nI_add _ 4, by omega, (cP X).length - (k + 1), [some (.inr (.inr (20, r))), some (.inl (nI i)), some (.inl (nI (flyN ((cP X).take (k + 1))))), some (.inl (nI (k + 1)))], by omega, ⟨rfl, rfl, ?_, inc_tv k, trivial⟩, k + 1, by omega, rfl, rfl, rfl, rfl, rfl, rfl, rfl⟩
      show (some (.inl (nI (flyN ((cP X).take k)) + μ.1 (r + 1) (51 + 2406 * i + (66 + 86 * k) + 4))) : Option TV) = _
      rw [h4, flyN_take hp (hb p (List.mem_of_getElem? hp))]
def cnV (X : CS) (w : Nat) : Int32 := if w = 6 then nI (flyN (cP X)) else if w < 6 then cS X (8 + w) else cS X (8 + w - 1)
def sp_X10_countOf : SPc := fun As μ K => match As with
  | [.inr (.inr (20, r)), .inl c, .inl w'] => ∃ (i w : Nat) (X : CS), c = nI i ∧ w' = nI w ∧ i < 3 ∧ w < 9 ∧ RC (μ.1 (r + 1)) i X ∧ bitP (cP X) ∧ K (.inl (some (.inl (cnV X w)))) μ
  | _ => False
def ct_X10_countOf : List (Nat × CI) := [(171, ci_X10_flying), (80, ci_X10_of)]
def ci_X10_countOf : CI := (yX10_countOf, cX10_countOf, 3, some .int, 3, (3, 0, 0, 66), 19, [], sp_X10_countOf)
set_option maxRecDepth 100000 in
theorem ck_X10_countOf : chkM ci_X10_countOf RX10 co_X10_countOf ct_X10_countOf [] false false = true := by decide +kernel
set_option maxHeartbeats 4000000 in
set_option maxRecDepth 100000 in
theorem ms_X10_countOf {g : GPT} {ot : OT} {l : Launch} (hl : l.stackTraces = false) : MS g ot l ci_X10_countOf := by
  refine ms0_of hl RX10 co_X10_countOf ct_X10_countOf [] false false 28 ck_X10_countOf (List.forall_mem_cons.mpr ⟨ms_X10_flying hl, List.forall_mem_cons.mpr ⟨ms_X10_of hl, fun _ h => nomatch h⟩⟩) ?_
  intro As μ K h
  simp only [ci_X10_countOf, sp_X10_countOf] at h
  split at h
  case h_2 => exact h.elim
  rename_i r c w'
  obtain ⟨i, w, X, rfl, rfl, hi, hw, hX, hb, h⟩ := h
  refine ⟨Nat.le_of_ble_eq_true rfl, fun h1 => ⟨fun h2 => ?_, fun h2 => ?_⟩, fun h1 => ?_⟩
  · have h1 : ¬ nI w = nI 6 := h1
    have h2 : nI 6 ≤ nI w := h2
    rw [nI_eq_iff (by omega) (by omega)] at h1
    rw [nI_le_iff (by omega) (by omega)] at h2
    refine ⟨i, 8 + w - 1, rfl, ?_, by omega, ?_⟩
    · show nI 8 + nI w - nI 1 = _
      rw [nI_add, nI_sub1 (by omega)]
    · have e : cnV X w = cS X (8 + w - 1) := by unfold cnV; rw [if_neg (by omega), if_neg (by omega)]
      rw [e, ← hX.1 _ (by omega)] at h
      exact h
  · have h1 : ¬ nI w = nI 6 := h1
    have h2 : ¬ nI 6 ≤ nI w := h2
    rw [nI_eq_iff (by omega) (by omega)] at h1
    rw [nI_le_iff (by omega) (by omega)] at h2
    refine ⟨i, 8 + w, rfl, nI_add 8 w, by omega, ?_⟩
    have e : cnV X w = cS X (8 + w) := by unfold cnV; rw [if_neg (by omega), if_pos (by omega)]
    rw [e, ← hX.1 _ (by omega)] at h
    exact h
  · have h1 : ¬ ¬ nI w = nI 6 := h1
    rw [nI_eq_iff (by omega) (by omega)] at h1
    obtain rfl : w = 6 := by omega
    exact ⟨i, X, rfl, hi, hX, hb, h⟩
theorem cntN_step (P : Nat → Prop) (d : ∀ e, Decidable (P e)) (n : Nat) : nI (cntN P d n) + iB (P n) = nI (cntN P d (n + 1)) := by
  show _ = nI (cntN P d n + (if P n then 1 else 0))
  by_cases h : P n
  · rw [if_pos h, iB_1 h]
    exact nI_add _ 1
  · rw [if_neg h, iB_0 h, Int32.add_zero]
    rfl
def sp_X10_staleOf : SPc := fun As μ K => match As with
  | [.inr (.inr (20, r)), .inl c] => ∃ (i : Nat) (X : CS) (E : Nat → Nat → Int32), c = nI i ∧ i < 3 ∧ RC (μ.1 (r + 1)) i X ∧ (∀ e, e < 16 → μ.1 (r + 1) (3 + 3 * e) = E e 0 ∧ sOK (E e 0)) ∧ K (.inl (some (.inl (nI (staleN X E))))) μ
  | _ => False
def ct_X10_staleOf : List (Nat × CI) := [(189, ci_X10_copyState), (102, ci_X10_isInArea), (53, ci_X10_stateOf)]
def ci_X10_staleOf : CI := (yX10_staleOf, cX10_staleOf, 5, some .int, 2, (4, 0, 0, 89), 19, [], sp_X10_staleOf)
set_option maxRecDepth 100000 in
theorem ck_X10_staleOf : chkM ci_X10_staleOf RX10 co_X10_staleOf ct_X10_staleOf [] false false = true := by decide +kernel
set_option maxHeartbeats 4000000 in
set_option maxRecDepth 100000 in
theorem ms_X10_staleOf {g : GPT} {ot : OT} {l : Launch} (hl : l.stackTraces = false) : MS g ot l ci_X10_staleOf := by
  refine ms_of hl RX10 co_X10_staleOf ct_X10_staleOf [] false false [4] 44 ck_X10_staleOf (List.forall_mem_cons.mpr ⟨ms_X10_copyState hl, List.forall_mem_cons.mpr ⟨ms_X10_isInArea hl, List.forall_mem_cons.mpr ⟨ms_X10_stateOf hl, fun _ h => nomatch h⟩⟩⟩) ?_
  intro As μ K h
  simp only [ci_X10_staleOf, sp_X10_staleOf] at h
  split at h
  case h_2 => exact h.elim
  rename_i r c
  obtain ⟨i, X, E, rfl, hi, hX, hE, h⟩ := h
  refine ⟨Nat.le_of_ble_eq_true rfl, fun m pc lc st μ' ce sl => ∃ k, k ≤ 16 ∧ m = 16 - k ∧ pc = 4 ∧ lc = [some (.inr (.inr (20, r))), some (.inl (nI i)), some (.inl (nI (cntN (stP X E) (fun _ => inferInstance) k))), some (.inl (nI k)), none] ∧ st = [] ∧ μ = μ' ∧ ce = 0 ∧ sl = 0, ?_, ?_⟩
  · exact ⟨16, [some (.inr (.inr (20, r))), some (.inl (nI i)), some (.inl (nI 0)), some (.inl (nI 0)), none], ⟨rfl, rfl, rfl, rfl, trivial⟩, 0, Nat.zero_le _, rfl, rfl, rfl, rfl, rfl, rfl, rfl⟩
  · rintro m pc lc st μ' ce sl ⟨k, hk, rfl, rfl, rfl, rfl, rfl, rfl, rfl⟩
    refine ⟨fun h1 => ?_, fun h1 => ?_⟩
    · simp only [icP, ifP, iL, iM1] at h1
      try simp only [z_nI] at h1
      try simp only [nI_add, nI_mul] at h1
      first | rw [nI_le_iff (by omega) (by omega)] at h1 | rw [nI_lt_iff (by omega) (by omega)] at h1 | rw [nI_eq_iff (by omega) (by omega)] at h1
      obtain rfl : k = 16 := by omega
      exact h
    · simp only [icP, ifP, iL, iM1] at h1
      try simp only [z_nI] at h1
      try simp only [nI_add, nI_mul] at h1
      first | rw [nI_le_iff (by omega) (by omega)] at h1 | rw [nI_lt_iff (by omega) (by omega)] at h1 | rw [nI_eq_iff (by omega) (by omega)] at h1
      obtain ⟨e1, e2⟩ := hE k (by omega)
      have go : ∀ x : Int32, x = iB (stP X E k) → (some (.inl (nI (cntN (stP X E) (fun _ => inferInstance) k) + x)) : Option TV) = some (.inl (nI (cntN (stP X E) (fun _ => inferInstance) (k + 1)))) := fun x hx => by
        rw [hx, cntN_step (stP X E) (fun _ => inferInstance) k]
      have fin : ∀ x : Int32, x = iB (stP X E k) → ∃ n' lc', n' < 16 - k ∧ subL lc' [some (.inr (.inr (20, r))), some (.inl (nI i)), some (.inl (nI (cntN (stP X E) (fun _ => inferInstance) k) + x)), some (.inl (nI k + Int32.ofInt 1)), some (.inl (lastS (cR X k)))] ∧ (∃ k, k ≤ 16 ∧ n' = 16 - k ∧ 4 = 4 ∧ lc' = [some (.inr (.inr (20, r))), some (.inl (nI i)), some (.inl (nI (cntN (stP X E) (fun _ => inferInstance) k))), some (.inl (nI k)), none] ∧ ([] : List TV) = [] ∧ μ = μ ∧ 0 = 0 ∧ 0 = 0) := fun x hx =>
        ⟨16 - (k + 1), [some (.inr (.inr (20, r))), some (.inl (nI i)), some (.inl (nI (cntN (stP X E) (fun _ => inferInstance) (k + 1)))), some (.inl (nI (k + 1))), none], by omega, ⟨rfl, rfl, go x hx, inc_tv k, trivial⟩, k + 1, by omega, rfl, rfl, rfl, rfl, rfl, rfl, rfl⟩
      refine ⟨i, k, cR X k, rfl, rfl, hi, by omega, hX.2.2.2.2 k (by omega), i, k, X, rfl, rfl, hi, by omega, hX, e1 ▸ e2, fun h2 => ?_, fun h2 => ?_⟩
      · have h2 : iB (inA X (μ.1 (r + 1) (3 + 3 * k))) = 0 := h2
        rw [iB_eq0, e1] at h2
        refine ⟨fun h3 => fin 1 ?_, fun h3 => fin 0 ?_⟩
        · have h3 : ¬ lastS (cR X k) = -1 := h3
          exact (iB_1 (by unfold stP; rw [if_neg h2]; exact h3)).symm
        · have h3 : ¬ ¬ lastS (cR X k) = -1 := h3
          exact (iB_0 (by unfold stP; rw [if_neg h2]; exact h3)).symm
      · have h2 : ¬ iB (inA X (μ.1 (r + 1) (3 + 3 * k))) = 0 := h2
        rw [iB_eq0, Classical.not_not, e1] at h2
        refine ⟨k, rfl, by omega, fun h3 => fin 1 ?_, fun h3 => fin 0 ?_⟩
        · have h3 : ¬ lastS (cR X k) = μ.1 (r + 1) (3 + 3 * k) := h3
          rw [e1] at h3
          exact (iB_1 (by unfold stP; rw [if_pos h2]; exact h3)).symm
        · have h3 : ¬ ¬ lastS (cR X k) = μ.1 (r + 1) (3 + 3 * k) := h3
          rw [e1] at h3
          exact (iB_0 (by unfold stP; rw [if_pos h2]; exact h3)).symm
/-- the price of an entry, each number below 16 -/
theorem bts_le : ∀ m, m < 16 → bts m ≤ 4 := by decide +kernel
theorem sOK_ne {s : Int32} (h : sOK s) (hs : ¬ s = -1) : ∃ n, n < 524288 ∧ s = nI n ∧ sN s = n := by
  obtain ⟨a, b⟩ := sOK_n h hs
  exact ⟨_, a, b, rfl⟩
def sp_X10_priceOf : SPc := fun As μ K => match As with
  | [.inr (.inr (20, r)), .inl c, .inl e] => ∃ (i j : Nat) (X : CS) (E : Nat → Nat → Int32), c = nI i ∧ e = nI j ∧ i < 3 ∧ j < 16 ∧ RC (μ.1 (r + 1)) i X ∧ (μ.1 (r + 1) (3 + 3 * j) = E j 0 ∧ sOK (E j 0)) ∧ sOK (cB X j 2) ∧ K (.inl (some (.inl (nI (prc X E j))))) μ
  | _ => False
def ct_X10_priceOf : List (Nat × CI) := [(83, ci_X10_base), (102, ci_X10_isInArea), (53, ci_X10_stateOf), (147, ci_X10_mask), (150, ci_X10_bits)]
def ci_X10_priceOf : CI := (yX10_priceOf, cX10_priceOf, 4, some .int, 3, (4, 0, 0, 89), 19, [], sp_X10_priceOf)
set_option maxRecDepth 100000 in
theorem ck_X10_priceOf : chkM ci_X10_priceOf RX10 co_X10_priceOf ct_X10_priceOf [] false false = true := by decide +kernel
set_option maxHeartbeats 4000000 in
set_option maxRecDepth 100000 in
theorem ms_X10_priceOf {g : GPT} {ot : OT} {l : Launch} (hl : l.stackTraces = false) : MS g ot l ci_X10_priceOf := by
  refine ms0_of hl RX10 co_X10_priceOf ct_X10_priceOf [] false false 47 ck_X10_priceOf (List.forall_mem_cons.mpr ⟨ms_X10_base hl, List.forall_mem_cons.mpr ⟨ms_X10_isInArea hl, List.forall_mem_cons.mpr ⟨ms_X10_stateOf hl, List.forall_mem_cons.mpr ⟨ms_X10_mask hl, List.forall_mem_cons.mpr ⟨ms_X10_bits hl, fun _ h => nomatch h⟩⟩⟩⟩⟩) ?_
  intro As μ K h
  simp only [ci_X10_priceOf, sp_X10_priceOf] at h
  split at h
  case h_2 => exact h.elim
  rename_i r c e
  obtain ⟨i, j, X, E, rfl, rfl, hi, hj, hX, ⟨e1, e2⟩, hb, h⟩ := h
  have b2 : μ.1 (r + 1) (51 + 2406 * i + (1958 + 3 * j) + 2) = cB X j 2 := hX.2.2.2.1 j hj 2 (by omega)
  refine ⟨Nat.le_of_ble_eq_true rfl, i, j, rfl, rfl, _, nI_add _ 2, by omega, i, j, X, rfl, rfl, hi, hj, hX, e1 ▸ e2, fun h1 => ?_, fun h1 => ?_⟩
  · have h1 : ¬ iB (inA X (μ.1 (r + 1) (3 + 3 * j))) = 0 := h1
    rw [iB_eq0, Classical.not_not, e1] at h1
    refine ⟨fun h2 => ⟨j, rfl, hj, fun h3 => ?_, fun h3 => ?_⟩, fun h2 => ?_⟩
    · have h2 : ¬ μ.1 (r + 1) (51 + 2406 * i + (1958 + 3 * j) + 2) = -1 := h2
      have h3 : ¬ μ.1 (r + 1) (51 + 2406 * i + (1958 + 3 * j) + 2) = μ.1 (r + 1) (3 + 3 * j) := h3
      rw [b2] at h2
      rw [b2, e1] at h3
      obtain ⟨n1, n2, n3, n4⟩ := sOK_ne hb h2
      obtain ⟨m1, m2, m3, m4⟩ := sOK_ne e2 h1.1
      have e : prc X E j = 2 + bts (mkN n1 m1) := by
        unfold prc
        rw [if_pos h1, if_neg h2, if_neg h3, n4, m4]
      rw [e] at h
      refine ⟨j, rfl, hj, n1, m1, b2.trans n3, e1.trans m3, n2, m2, _, rfl, mkN_lt _ _, ?_⟩
      show K (.inl (some (.inl (nI 2 + nI (bts (mkN n1 m1)))))) μ
      rw [nI_add]
      exact h
    · have h2 : ¬ μ.1 (r + 1) (51 + 2406 * i + (1958 + 3 * j) + 2) = -1 := h2
      have h3 : ¬ ¬ μ.1 (r + 1) (51 + 2406 * i + (1958 + 3 * j) + 2) = μ.1 (r + 1) (3 + 3 * j) := h3
      rw [b2] at h2
      rw [b2, e1, Classical.not_not] at h3
      have e : prc X E j = 0 := by
        unfold prc
        rw [if_pos h1, if_neg h2, if_pos h3]
      rw [e] at h
      exact h
    · have h2 : ¬ ¬ μ.1 (r + 1) (51 + 2406 * i + (1958 + 3 * j) + 2) = -1 := h2
      rw [b2, Classical.not_not] at h2
      have e : prc X E j = 6 := by
        unfold prc
        rw [if_pos h1, if_pos h2]
      rw [e] at h
      exact h
  · have h1 : ¬ ¬ iB (inA X (μ.1 (r + 1) (3 + 3 * j))) = 0 := h1
    rw [iB_eq0, Classical.not_not, e1] at h1
    refine ⟨fun h2 => ?_, fun h2 => ?_⟩
    · have h2 : ¬ μ.1 (r + 1) (51 + 2406 * i + (1958 + 3 * j) + 2) = -1 := h2
      rw [b2] at h2
      have e : prc X E j = 2 := by
        unfold prc
        rw [if_neg h1, if_neg h2]
      rw [e] at h
      exact h
    · have h2 : ¬ ¬ μ.1 (r + 1) (51 + 2406 * i + (1958 + 3 * j) + 2) = -1 := h2
      rw [b2, Classical.not_not] at h2
      have e : prc X E j = 0 := by
        unfold prc
        rw [if_neg h1, if_pos h2]
      rw [e] at h
      exact h
