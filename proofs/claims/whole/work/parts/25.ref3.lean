/-! THE REFERENCE, its reads. -/
def sp_X10_isEntity : SPc := fun As μ K => match As with
  | [.inl e] => K (.inl (some (.inl (iB (0 ≤ e ∧ e ≤ 15))))) μ
  | _ => False
theorem ret01 {x : Int32} {P : Prop} (h : x = 0 ∨ x = 1) (p : P) : (x = 0 ∨ x = 1) ∧ P := ⟨h, p⟩
def ct_X10_isEntity : List (Nat × CI) := [(49, ci_X10_in)]
def ci_X10_isEntity : CI := (yX10_isEntity, cX10_isEntity, 1, some .boolean, 1, (1, 0, 0, 22), 0, [], sp_X10_isEntity)
set_option maxRecDepth 100000 in
theorem ck_X10_isEntity : chkM ci_X10_isEntity RX10 co_X10_isEntity ct_X10_isEntity [] true false = true := by decide +kernel
set_option maxHeartbeats 4000000 in
set_option maxRecDepth 100000 in
theorem ms_X10_isEntity {g : GPT} {ot : OT} {l : Launch} (hl : l.stackTraces = false) : MS g ot l ci_X10_isEntity := by
  refine ms0_of hl RX10 co_X10_isEntity ct_X10_isEntity [] true false 10 ck_X10_isEntity (List.forall_mem_cons.mpr ⟨ms_X10_in hl, fun _ h => nomatch h⟩) ?_
  intro As μ K h
  simp only [ci_X10_isEntity, sp_X10_isEntity] at h
  split at h
  case h_2 => exact h.elim
  exact ⟨Nat.le_of_ble_eq_true rfl, iB_01 _, h⟩
def sp_X10_isClient : SPc := fun As μ K => match As with
  | [.inl e] => K (.inl (some (.inl (iB (0 ≤ e ∧ e ≤ 2))))) μ
  | _ => False
def ct_X10_isClient : List (Nat × CI) := [(49, ci_X10_in)]
def ci_X10_isClient : CI := (yX10_isClient, cX10_isClient, 1, some .boolean, 1, (1, 0, 0, 22), 0, [], sp_X10_isClient)
set_option maxRecDepth 100000 in
theorem ck_X10_isClient : chkM ci_X10_isClient RX10 co_X10_isClient ct_X10_isClient [] true false = true := by decide +kernel
set_option maxHeartbeats 4000000 in
set_option maxRecDepth 100000 in
theorem ms_X10_isClient {g : GPT} {ot : OT} {l : Launch} (hl : l.stackTraces = false) : MS g ot l ci_X10_isClient := by
  refine ms0_of hl RX10 co_X10_isClient ct_X10_isClient [] true false 10 ck_X10_isClient (List.forall_mem_cons.mpr ⟨ms_X10_in hl, fun _ h => nomatch h⟩) ?_
  intro As μ K h
  simp only [ci_X10_isClient, sp_X10_isClient] at h
  split at h
  case h_2 => exact h.elim
  exact ⟨Nat.le_of_ble_eq_true rfl, iB_01 _, h⟩
def sp_X10_isPosition : SPc := fun As μ K => match As with
  | [.inl x, .inl y] => K (.inl (some (.inl (iB ((0 ≤ x ∧ x ≤ 31) ∧ (0 ≤ y ∧ y ≤ 31)))))) μ
  | _ => False
def ct_X10_isPosition : List (Nat × CI) := [(49, ci_X10_in)]
def ci_X10_isPosition : CI := (yX10_isPosition, cX10_isPosition, 2, some .boolean, 2, (1, 0, 0, 22), 0, [], sp_X10_isPosition)
set_option maxRecDepth 100000 in
theorem ck_X10_isPosition : chkM ci_X10_isPosition RX10 co_X10_isPosition ct_X10_isPosition [] true false = true := by decide +kernel
set_option maxHeartbeats 4000000 in
set_option maxRecDepth 100000 in
theorem ms_X10_isPosition {g : GPT} {ot : OT} {l : Launch} (hl : l.stackTraces = false) : MS g ot l ci_X10_isPosition := by
  refine ms0_of hl RX10 co_X10_isPosition ct_X10_isPosition [] true false 19 ck_X10_isPosition (List.forall_mem_cons.mpr ⟨ms_X10_in hl, fun _ h => nomatch h⟩) ?_
  intro As μ K h
  simp only [ci_X10_isPosition, sp_X10_isPosition] at h
  split at h
  case h_2 => exact h.elim
  rename_i x y
  refine ⟨Nat.le_of_ble_eq_true rfl, fun h1 => ?_, fun h1 => ⟨fun h2 => ?_, fun h2 => ?_⟩⟩
  · have h1 : iB (0 ≤ x ∧ x ≤ 31) = 0 := h1
    rw [iB_eq0] at h1
    have e : iB ((0 ≤ x ∧ x ≤ 31) ∧ (0 ≤ y ∧ y ≤ 31)) = 0 := (iB_eq0 _).mpr fun q => h1 q.1
    rw [e] at h
    exact ⟨Or.inl rfl, h⟩
  · have h2 : iB (0 ≤ y ∧ y ≤ 31) = 0 := h2
    rw [iB_eq0] at h2
    have e : iB ((0 ≤ x ∧ x ≤ 31) ∧ (0 ≤ y ∧ y ≤ 31)) = 0 := (iB_eq0 _).mpr fun q => h2 q.2
    rw [e] at h
    exact ⟨Or.inl rfl, h⟩
  · have h1 : ¬ iB (0 ≤ x ∧ x ≤ 31) = 0 := h1
    have h2 : ¬ iB (0 ≤ y ∧ y ≤ 31) = 0 := h2
    rw [iB_eq0, Classical.not_not] at h1 h2
    have e : iB ((0 ≤ x ∧ x ≤ 31) ∧ (0 ≤ y ∧ y ≤ 31)) = 1 := if_pos ⟨h1, h2⟩
    rw [e] at h
    exact ⟨Or.inr rfl, h⟩
def sp_X10_stateOf : SPc := fun As μ K => match As with
  | [.inr (.inr (20, r)), .inl e] => ∃ i : Nat, e = nI i ∧ i < 16 ∧ K (.inl (some (.inl (μ.1 (r + 1) (3 + 3 * i))))) μ
  | _ => False
def ct_X10_stateOf : List (Nat × CI) := []
def ci_X10_stateOf : CI := (yX10_stateOf, cX10_stateOf, 2, some .int, 2, (0, 0, 0, 0), 19, [], sp_X10_stateOf)
set_option maxRecDepth 100000 in
theorem ck_X10_stateOf : chkM ci_X10_stateOf RX10 co_X10_stateOf ct_X10_stateOf [] false false = true := by decide +kernel
set_option maxHeartbeats 4000000 in
set_option maxRecDepth 100000 in
theorem ms_X10_stateOf {g : GPT} {ot : OT} {l : Launch} (hl : l.stackTraces = false) : MS g ot l ci_X10_stateOf := by
  refine ms0_of hl RX10 co_X10_stateOf ct_X10_stateOf [] false false 14 ck_X10_stateOf (fun _ h => nomatch h) ?_
  intro As μ K h
  simp only [ci_X10_stateOf, sp_X10_stateOf] at h
  split at h
  case h_2 => exact h.elim
  obtain ⟨i, rfl, hi, h⟩ := h
  refine ⟨Nat.le_of_ble_eq_true rfl, 3 + 3 * i, ?_, by omega, h⟩
  simp only [iL, nI_add, nI_mul]
def sp_X10_exists : SPc := fun As μ K => match As with
  | [.inr (.inr (20, r)), .inl e] => ∃ i : Nat, e = nI i ∧ i < 16 ∧ K (.inl (some (.inl (iB (¬ μ.1 (r + 1) (3 + 3 * i) = -1))))) μ
  | _ => False
def ct_X10_exists : List (Nat × CI) := [(53, ci_X10_stateOf)]
def ci_X10_exists : CI := (yX10_exists, cX10_exists, 2, some .boolean, 2, (1, 0, 0, 21), 19, [], sp_X10_exists)
set_option maxRecDepth 100000 in
theorem ck_X10_exists : chkM ci_X10_exists RX10 co_X10_exists ct_X10_exists [] true false = true := by decide +kernel
set_option maxHeartbeats 4000000 in
set_option maxRecDepth 100000 in
theorem ms_X10_exists {g : GPT} {ot : OT} {l : Launch} (hl : l.stackTraces = false) : MS g ot l ci_X10_exists := by
  refine ms0_of hl RX10 co_X10_exists ct_X10_exists [] true false 14 ck_X10_exists (List.forall_mem_cons.mpr ⟨ms_X10_stateOf hl, fun _ h => nomatch h⟩) ?_
  intro As μ K h
  simp only [ci_X10_exists, sp_X10_exists] at h
  split at h
  case h_2 => exact h.elim
  rename_i r e
  obtain ⟨i, rfl, hi, h⟩ := h
  refine ⟨Nat.le_of_ble_eq_true rfl, i, rfl, hi, fun h1 => ?_, fun h1 => ?_⟩
  · have h1 : μ.1 (r + 1) (3 + 3 * i) = -1 := h1
    have e : iB (¬ μ.1 (r + 1) (3 + 3 * i) = -1) = 0 := (iB_eq0 _).mpr fun q => q h1
    rw [e] at h
    exact ⟨Or.inl rfl, h⟩
  · have h1 : ¬ μ.1 (r + 1) (3 + 3 * i) = -1 := h1
    have e : iB (¬ μ.1 (r + 1) (3 + 3 * i) = -1) = 1 := if_pos h1
    rw [e] at h
    exact ⟨Or.inr rfl, h⟩
def sp_X10_base : SPc := fun As μ K => match As with
  | [.inl c, .inl e] => ∃ i j : Nat, c = nI i ∧ e = nI j ∧ K (.inl (some (.inl (nI (51 + 2406 * i + (1958 + 3 * j)))))) μ
  | _ => False
def ct_X10_base : List (Nat × CI) := [(77, ci_X10_cell)]
def ci_X10_base : CI := (yX10_base, cX10_base, 2, some .int, 2, (1, 0, 0, 21), 0, [], sp_X10_base)
set_option maxRecDepth 100000 in
theorem ck_X10_base : chkM ci_X10_base RX10 co_X10_base ct_X10_base [] false false = true := by decide +kernel
set_option maxHeartbeats 4000000 in
set_option maxRecDepth 100000 in
theorem ms_X10_base {g : GPT} {ot : OT} {l : Launch} (hl : l.stackTraces = false) : MS g ot l ci_X10_base := by
  refine ms0_of hl RX10 co_X10_base ct_X10_base [] false false 13 ck_X10_base (List.forall_mem_cons.mpr ⟨ms_X10_cell hl, fun _ h => nomatch h⟩) ?_
  intro As μ K h
  simp only [ci_X10_base, sp_X10_base] at h
  split at h
  case h_2 => exact h.elim
  obtain ⟨i, j, rfl, rfl, h⟩ := h
  refine ⟨Nat.le_of_ble_eq_true rfl, i, 1958 + 3 * j, rfl, ?_, h⟩
  simp only [iL, nI_add, nI_mul]
def sp_X10_records : SPc := fun As μ K => match As with
  | [.inl c, .inl e] => ∃ i j : Nat, c = nI i ∧ e = nI j ∧ K (.inl (some (.inl (nI (51 + 2406 * i + (2006 + 25 * j)))))) μ
  | _ => False
def ct_X10_records : List (Nat × CI) := [(77, ci_X10_cell)]
def ci_X10_records : CI := (yX10_records, cX10_records, 2, some .int, 2, (1, 0, 0, 21), 0, [], sp_X10_records)
set_option maxRecDepth 100000 in
theorem ck_X10_records : chkM ci_X10_records RX10 co_X10_records ct_X10_records [] false false = true := by decide +kernel
set_option maxHeartbeats 4000000 in
set_option maxRecDepth 100000 in
theorem ms_X10_records {g : GPT} {ot : OT} {l : Launch} (hl : l.stackTraces = false) : MS g ot l ci_X10_records := by
  refine ms0_of hl RX10 co_X10_records ct_X10_records [] false false 13 ck_X10_records (List.forall_mem_cons.mpr ⟨ms_X10_cell hl, fun _ h => nomatch h⟩) ?_
  intro As μ K h
  simp only [ci_X10_records, sp_X10_records] at h
  split at h
  case h_2 => exact h.elim
  obtain ⟨i, j, rfl, rfl, h⟩ := h
  refine ⟨Nat.le_of_ble_eq_true rfl, i, 2006 + 25 * j, rfl, ?_, h⟩
  simp only [iL, nI_add, nI_mul]
def sp_X10_packetCell : SPc := fun As μ K => match As with
  | [.inr (.inr (20, r)), .inl c, .inl e] => ∃ i j : Nat, c = nI i ∧ e = nI j ∧ K (.inl (some (.inl (nI (51 + 2406 * i + (66 + 86 * j)))))) μ
  | _ => False
def ct_X10_packetCell : List (Nat × CI) := [(77, ci_X10_cell)]
def ci_X10_packetCell : CI := (yX10_packetCell, cX10_packetCell, 3, some .int, 3, (1, 0, 0, 21), 19, [], sp_X10_packetCell)
set_option maxRecDepth 100000 in
theorem ck_X10_packetCell : chkM ci_X10_packetCell RX10 co_X10_packetCell ct_X10_packetCell [] false false = true := by decide +kernel
set_option maxHeartbeats 4000000 in
set_option maxRecDepth 100000 in
theorem ms_X10_packetCell {g : GPT} {ot : OT} {l : Launch} (hl : l.stackTraces = false) : MS g ot l ci_X10_packetCell := by
  refine ms0_of hl RX10 co_X10_packetCell ct_X10_packetCell [] false false 13 ck_X10_packetCell (List.forall_mem_cons.mpr ⟨ms_X10_cell hl, fun _ h => nomatch h⟩) ?_
  intro As μ K h
  simp only [ci_X10_packetCell, sp_X10_packetCell] at h
  split at h
  case h_2 => exact h.elim
  obtain ⟨i, j, rfl, rfl, h⟩ := h
  refine ⟨Nat.le_of_ble_eq_true rfl, i, 66 + 86 * j, rfl, ?_, h⟩
  simp only [iL, nI_add, nI_mul]
/-- a cell of the reference's row, changed -/
def rW (μ : MM) (r : Nat) (f : Nat → Int32) : MM := (stF μ.1 (r + 1) f, μ.2)
theorem rW_at (μ : MM) (r : Nat) (f : Nat → Int32) : (rW μ r f).1 (r + 1) = f := stF_at _ _ _
theorem rW_rW (μ : MM) (r : Nat) (f g : Nat → Int32) : rW (rW μ r f) r g = rW μ r g := by
  unfold rW
  rw [stF_stF]
theorem rW_self (μ : MM) (r : Nat) : rW μ r (μ.1 (r + 1)) = μ := by
  unfold rW
  rw [stF_self]
theorem up2_rW (μ : MM) (r j : Nat) (x : Int32) : ((up2 μ.1 (r + 1) j x, μ.2) : MM) = rW μ r (upd (μ.1 (r + 1)) j x) := by
  unfold rW
  rw [up2_stF]
def sp_X10_add : SPc := fun As μ K => match As with
  | [.inr (.inr (20, r)), .inl c, .inl w, .inl x] => ∃ i j : Nat, c = nI i ∧ w = nI j ∧ 51 + 2406 * i + j < 7269 ∧ K (.inl none) (rW μ r (upd (μ.1 (r + 1)) (51 + 2406 * i + j) (μ.1 (r + 1) (51 + 2406 * i + j) + x)))
  | _ => False
def ct_X10_add : List (Nat × CI) := [(77, ci_X10_cell)]
def ci_X10_add : CI := (yX10_add, cX10_add, 4, none, 4, (1, 0, 0, 21), 19, [], sp_X10_add)
set_option maxRecDepth 100000 in
theorem ck_X10_add : chkM ci_X10_add RX10 co_X10_add ct_X10_add [] false false = true := by decide +kernel
set_option maxHeartbeats 4000000 in
set_option maxRecDepth 100000 in
theorem ms_X10_add {g : GPT} {ot : OT} {l : Launch} (hl : l.stackTraces = false) : MS g ot l ci_X10_add := by
  refine ms0_of hl RX10 co_X10_add ct_X10_add [] false false 16 ck_X10_add (List.forall_mem_cons.mpr ⟨ms_X10_cell hl, fun _ h => nomatch h⟩) ?_
  intro As μ K h
  simp only [ci_X10_add, sp_X10_add] at h
  split at h
  case h_2 => exact h.elim
  obtain ⟨i, j, rfl, rfl, hb, h⟩ := h
  refine ⟨Nat.le_of_ble_eq_true rfl, i, j, rfl, rfl, 51 + 2406 * i + j, rfl, hb, 51 + 2406 * i + j, rfl, hb, ?_⟩
  rw [← up2_rW] at h
  exact h
def sp_X10_isConnected : SPc := fun As μ K => match As with
  | [.inr (.inr (20, r)), .inl c] => ∃ i : Nat, c = nI i ∧ i < 3 ∧ K (.inl (some (.inl (iB (μ.1 (r + 1) (51 + 2406 * i) = 1))))) μ
  | _ => False
def ct_X10_isConnected : List (Nat × CI) := [(80, ci_X10_of)]
def ci_X10_isConnected : CI := (yX10_isConnected, cX10_isConnected, 2, some .boolean, 2, (2, 0, 0, 43), 19, [], sp_X10_isConnected)
set_option maxRecDepth 100000 in
theorem ck_X10_isConnected : chkM ci_X10_isConnected RX10 co_X10_isConnected ct_X10_isConnected [] true false = true := by decide +kernel
set_option maxHeartbeats 4000000 in
set_option maxRecDepth 100000 in
theorem ms_X10_isConnected {g : GPT} {ot : OT} {l : Launch} (hl : l.stackTraces = false) : MS g ot l ci_X10_isConnected := by
  refine ms0_of hl RX10 co_X10_isConnected ct_X10_isConnected [] true false 15 ck_X10_isConnected (List.forall_mem_cons.mpr ⟨ms_X10_of hl, fun _ h => nomatch h⟩) ?_
  intro As μ K h
  simp only [ci_X10_isConnected, sp_X10_isConnected] at h
  split at h
  case h_2 => exact h.elim
  rename_i r c
  obtain ⟨i, rfl, hi, h⟩ := h
  refine ⟨Nat.le_of_ble_eq_true rfl, i, 0, rfl, rfl, by omega, fun h1 => ?_, fun h1 => ?_⟩
  · have h1 : ¬ μ.1 (r + 1) (51 + 2406 * i) = 1 := h1
    have e : iB (μ.1 (r + 1) (51 + 2406 * i) = 1) = 0 := (iB_eq0 _).mpr h1
    rw [e] at h
    exact ⟨Or.inl rfl, h⟩
  · have h1 : ¬ ¬ μ.1 (r + 1) (51 + 2406 * i) = 1 := h1
    have e : iB (μ.1 (r + 1) (51 + 2406 * i) = 1) = 1 := if_pos (Classical.not_not.mp h1)
    rw [e] at h
    exact ⟨Or.inr rfl, h⟩
def sp_X10_aim : SPc := fun As μ K => match As with
  | [.inr (.inr (20, r)), .inl c, .inl x, .inl y, .inl z] => ∃ i : Nat, c = nI i ∧ i < 3 ∧ K (.inl none) (rW μ r (upd (upd (upd (μ.1 (r + 1)) (51 + 2406 * i + 1) x) (51 + 2406 * i + 2) y) (51 + 2406 * i + 3) z))
  | _ => False
def ct_X10_aim : List (Nat × CI) := [(77, ci_X10_cell)]
def ci_X10_aim : CI := (yX10_aim, cX10_aim, 5, none, 5, (1, 0, 0, 21), 19, [], sp_X10_aim)
set_option maxRecDepth 100000 in
theorem ck_X10_aim : chkM ci_X10_aim RX10 co_X10_aim ct_X10_aim [] false false = true := by decide +kernel
set_option maxHeartbeats 4000000 in
set_option maxRecDepth 100000 in
theorem ms_X10_aim {g : GPT} {ot : OT} {l : Launch} (hl : l.stackTraces = false) : MS g ot l ci_X10_aim := by
  refine ms0_of hl RX10 co_X10_aim ct_X10_aim [] false false 27 ck_X10_aim (List.forall_mem_cons.mpr ⟨ms_X10_cell hl, fun _ h => nomatch h⟩) ?_
  intro As μ K h
  simp only [ci_X10_aim, sp_X10_aim] at h
  split at h
  case h_2 => exact h.elim
  obtain ⟨i, rfl, hi, h⟩ := h
  refine ⟨Nat.le_of_ble_eq_true rfl, i, 1, rfl, rfl, 51 + 2406 * i + 1, rfl, by omega, i, 2, rfl, rfl, 51 + 2406 * i + 2, rfl, by omega, i, 3, rfl, rfl, 51 + 2406 * i + 3, rfl, by omega, ?_⟩
  show K _ _
  simp only [up2_stF, stF_stF, stF_at]
  exact h
/-- a client's cells as at first -/
def clrF (f : Nat → Int32) (c : Nat) : Nat → Int32 := fun k => if 51 + 2406 * c ≤ k ∧ k < 51 + 2406 * c + 2406 then (if ∃ e, e < 16 ∧ k = 51 + 2406 * c + (1958 + 3 * e) + 2 then -1 else 0) else f k
def clrL1 (f : Nat → Int32) (c i : Nat) : Nat → Int32 := fun k => if 51 + 2406 * c ≤ k ∧ k < 51 + 2406 * c + i then 0 else f k
def clrL2 (f : Nat → Int32) (c i : Nat) : Nat → Int32 := fun k => if 51 + 2406 * c ≤ k ∧ k < 51 + 2406 * c + 2406 then (if ∃ e, e < i ∧ k = 51 + 2406 * c + (1958 + 3 * e) + 2 then -1 else 0) else f k
def sp_X10_clear : SPc := fun As μ K => match As with
  | [.inr (.inr (20, r)), .inl c] => ∃ i : Nat, c = nI i ∧ i < 3 ∧ K (.inl none) (rW μ r (clrF (μ.1 (r + 1)) i))
  | _ => False
def ct_X10_clear : List (Nat × CI) := [(77, ci_X10_cell), (83, ci_X10_base)]
def ci_X10_clear : CI := (yX10_clear, cX10_clear, 3, none, 2, (2, 0, 0, 42), 19, [], sp_X10_clear)
set_option maxRecDepth 100000 in
theorem ck_X10_clear : chkM ci_X10_clear RX10 co_X10_clear ct_X10_clear [] false false = true := by decide +kernel
set_option maxHeartbeats 4000000 in
set_option maxRecDepth 100000 in
theorem ms_X10_clear {g : GPT} {ot : OT} {l : Launch} (hl : l.stackTraces = false) : MS g ot l ci_X10_clear := by
  refine ms_of hl RX10 co_X10_clear ct_X10_clear [] false false [2,28] 36 ck_X10_clear (List.forall_mem_cons.mpr ⟨ms_X10_cell hl, List.forall_mem_cons.mpr ⟨ms_X10_base hl, fun _ h => nomatch h⟩⟩) ?_
  intro As μ K h
  simp only [ci_X10_clear, sp_X10_clear] at h
  split at h
  case h_2 => exact h.elim
  rename_i r c0
  obtain ⟨c, rfl, hc, h⟩ := h
  refine ⟨Nat.le_of_ble_eq_true rfl, fun n pc lc st μ' ce sl => (∃ i, i ≤ 2406 ∧ n = 3000 - i ∧ pc = 2 ∧ lc = [some (.inr (.inr (20, r))), some (.inl (nI c)), some (.inl (nI i))] ∧ st = [] ∧ μ' = rW μ r (clrL1 (μ.1 (r + 1)) c i) ∧ ce = 0 ∧ sl = 0) ∨ (∃ i, i ≤ 16 ∧ n = 16 - i ∧ pc = 28 ∧ lc = [some (.inr (.inr (20, r))), some (.inl (nI c)), some (.inl (nI i))] ∧ st = [] ∧ μ' = rW μ r (clrL2 (μ.1 (r + 1)) c i) ∧ ce = 0 ∧ sl = 0), ?_, ?_⟩
  · refine ⟨3000, [some (.inr (.inr (20, r))), some (.inl (nI c)), some (.inl (nI 0))], ⟨rfl, rfl, rfl, trivial⟩, Or.inl ⟨0, Nat.zero_le _, rfl, rfl, rfl, rfl, ?_, rfl, rfl⟩⟩
    have e : clrL1 (μ.1 (r + 1)) c 0 = μ.1 (r + 1) := by
      funext k
      unfold clrL1
      rw [if_neg (by omega)]
    rw [e, rW_self]
  · rintro n pc lc st μ' ce sl (⟨i, hi, rfl, rfl, rfl, rfl, rfl, rfl, rfl⟩ | ⟨i, hi, rfl, rfl, rfl, rfl, rfl, rfl, rfl⟩)
    · refine ⟨fun h1 => ?_, fun h1 => ?_⟩
      · simp only [icP, ifP, iL, iM1] at h1
        try simp only [z_nI] at h1
        try simp only [nI_add, nI_mul] at h1
        first | rw [nI_le_iff (by omega) (by omega)] at h1 | rw [nI_lt_iff (by omega) (by omega)] at h1 | rw [nI_eq_iff (by omega) (by omega)] at h1
        obtain rfl : i = 2406 := by omega
        refine ⟨16, [some (.inr (.inr (20, r))), some (.inl (nI c)), some (.inl (nI 0))], by omega, ⟨rfl, rfl, rfl, trivial⟩, Or.inr ⟨0, Nat.zero_le _, rfl, rfl, rfl, rfl, ?_, rfl, rfl⟩⟩
        rfl
      · simp only [icP, ifP, iL, iM1] at h1
        try simp only [z_nI] at h1
        try simp only [nI_add, nI_mul] at h1
        first | rw [nI_le_iff (by omega) (by omega)] at h1 | rw [nI_lt_iff (by omega) (by omega)] at h1 | rw [nI_eq_iff (by omega) (by omega)] at h1
        refine ⟨c, i, rfl, rfl, 51 + 2406 * c + i, rfl, by omega, 3000 - (i + 1), [some (.inr (.inr (20, r))), some (.inl (nI c)), some (.inl (nI (i + 1)))], by omega, ⟨rfl, rfl, inc_tv i, trivial⟩, Or.inl ⟨i + 1, by omega, rfl, rfl, rfl, rfl, ?_, rfl, rfl⟩⟩
        show ((up2 (rW μ r _).1 (r + 1) _ _, (rW μ r _).2) : MM) = _
        rw [up2_rW, rW_rW, rW_at]
        congr 1
        funext k
        unfold upd clrL1
        by_cases hk : k = 51 + 2406 * c + i
        · rw [if_pos hk, if_pos (by omega)]; rfl
        · rw [if_neg hk]
          by_cases hk2 : 51 + 2406 * c ≤ k ∧ k < 51 + 2406 * c + i
          · rw [if_pos hk2, if_pos (by omega)]
          · rw [if_neg hk2, if_neg (by omega)]
    · refine ⟨fun h1 => ?_, fun h1 => ?_⟩
      · simp only [icP, ifP, iL, iM1] at h1
        try simp only [z_nI] at h1
        try simp only [nI_add, nI_mul] at h1
        first | rw [nI_le_iff (by omega) (by omega)] at h1 | rw [nI_lt_iff (by omega) (by omega)] at h1 | rw [nI_eq_iff (by omega) (by omega)] at h1
        obtain rfl : i = 16 := by omega
        exact h
      · simp only [icP, ifP, iL, iM1] at h1
        try simp only [z_nI] at h1
        try simp only [nI_add, nI_mul] at h1
        first | rw [nI_le_iff (by omega) (by omega)] at h1 | rw [nI_lt_iff (by omega) (by omega)] at h1 | rw [nI_eq_iff (by omega) (by omega)] at h1
        refine ⟨c, i, rfl, rfl, 51 + 2406 * c + (1958 + 3 * i) + 2, ?_, by omega, 16 - (i + 1), [some (.inr (.inr (20, r))), some (.inl (nI c)), some (.inl (nI (i + 1)))], by omega, ⟨rfl, rfl, inc_tv i, trivial⟩, Or.inr ⟨i + 1, by omega, rfl, rfl, rfl, rfl, ?_, rfl, rfl⟩⟩
        · simp only [iL, nI_add]
        · show ((up2 (rW μ r _).1 (r + 1) _ _, (rW μ r _).2) : MM) = _
          rw [up2_rW, rW_rW, rW_at]
          congr 1
          funext k
          unfold upd clrL2
          by_cases hk : k = 51 + 2406 * c + (1958 + 3 * i) + 2
          · rw [if_pos hk, if_pos (by omega), if_pos ⟨i, by omega, hk⟩]; rfl
          · rw [if_neg hk]
            by_cases hk2 : 51 + 2406 * c ≤ k ∧ k < 51 + 2406 * c + 2406
            · rw [if_pos hk2, if_pos hk2]
              congr 1
              refine propext ⟨fun ⟨e, he, hq⟩ => ⟨e, by omega, hq⟩, fun ⟨e, he, hq⟩ => ⟨e, ?_, hq⟩⟩
              by_cases hei : e = i
              · subst hei
                exact absurd hq hk
              · omega
            · rw [if_neg hk2, if_neg hk2]
