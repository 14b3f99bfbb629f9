/-! THE REFERENCE, more values; the digest's parts. -/
def kpV (X : CS) (E : Nat → Nat → Int32) (e w : Nat) : Int32 := if w = 0 then cB X e 0 else if w = 1 then cB X e 1 else if w = 2 then iB (¬ cB X e 2 = -1) else if w = 7 then iB (inA X (E e 0)) else if w = 8 then (if E e 0 = -1 then -1 else dstC X (E e 0)) else nI (pz (cB X e 2) (w - 3))
theorem kpV_d (X : CS) (E : Nat → Nat → Int32) (e : Nat) {w : Nat} (h0 : 3 ≤ w) (h7 : w < 7) : kpV X E e w = nI (pz (cB X e 2) (w - 3)) := by
  unfold kpV
  rw [if_neg (by omega), if_neg (by omega), if_neg (by omega), if_neg (by omega), if_neg (by omega)]
def sp_X10_keptValue : SPc := fun As μ K => match As with
  | [.inr (.inr (20, r)), .inl c, .inl e, .inl w'] => ∃ (i j w : Nat) (X : CS) (E : Nat → Nat → Int32), c = nI i ∧ e = nI j ∧ w' = nI w ∧ i < 3 ∧ j < 16 ∧ w < 9 ∧ RC (μ.1 (r + 1)) i X ∧ (μ.1 (r + 1) (3 + 3 * j) = E j 0 ∧ sOK (E j 0)) ∧ sOK (cB X j 2) ∧ K (.inl (some (.inl (kpV X E j w)))) μ
  | _ => False
def ct_X10_keptValue : List (Nat × CI) := [(83, ci_X10_base), (102, ci_X10_isInArea), (68, ci_X10_exists), (99, ci_X10_distance), (71, ci_X10_partOrZero)]
def ci_X10_keptValue : CI := (yX10_keptValue, cX10_keptValue, 5, some .int, 4, (4, 0, 0, 89), 19, [], sp_X10_keptValue)
set_option maxRecDepth 100000 in
theorem ck_X10_keptValue : chkM ci_X10_keptValue RX10 co_X10_keptValue ct_X10_keptValue [] false false = true := by decide +kernel
set_option maxHeartbeats 4000000 in
set_option maxRecDepth 100000 in
theorem ms_X10_keptValue {g : GPT} {ot : OT} {l : Launch} (hl : l.stackTraces = false) : MS g ot l ci_X10_keptValue := by
  refine ms0_of hl RX10 co_X10_keptValue ct_X10_keptValue [] false false 61 ck_X10_keptValue (List.forall_mem_cons.mpr ⟨ms_X10_base hl, List.forall_mem_cons.mpr ⟨ms_X10_isInArea hl, List.forall_mem_cons.mpr ⟨ms_X10_exists hl, List.forall_mem_cons.mpr ⟨ms_X10_distance hl, List.forall_mem_cons.mpr ⟨ms_X10_partOrZero hl, fun _ h => nomatch h⟩⟩⟩⟩⟩) ?_
  intro As μ K h
  simp only [ci_X10_keptValue, sp_X10_keptValue] at h
  split at h
  case h_2 => exact h.elim
  rename_i r c e w'
  obtain ⟨i, j, w, X, E, rfl, rfl, rfl, hi, hj, hw, hX, ⟨e1, e2⟩, hb, h⟩ := h
  have b0 : μ.1 (r + 1) (51 + 2406 * i + (1958 + 3 * j) + 0) = cB X j 0 := hX.2.2.2.1 j hj 0 (by omega)
  have b1 : μ.1 (r + 1) (51 + 2406 * i + (1958 + 3 * j) + 1) = cB X j 1 := hX.2.2.2.1 j hj 1 (by omega)
  have b2 : μ.1 (r + 1) (51 + 2406 * i + (1958 + 3 * j) + 2) = cB X j 2 := hX.2.2.2.1 j hj 2 (by omega)
  have dfl : 3 ≤ w → w < 7 → K (.inl (some (.inl (nI (pz (μ.1 (r + 1) (51 + 2406 * i + (1958 + 3 * j) + 2)) (w - 3)))))) μ := fun g1 g2 => by
    rw [kpV_d X E j g1 g2, ← b2] at h
    exact h
  have sb : sOK (μ.1 (r + 1) (51 + 2406 * i + (1958 + 3 * j) + 2)) := b2 ▸ hb
  refine ⟨Nat.le_of_ble_eq_true rfl, i, j, rfl, rfl, fun q => ?_, fun q => ?_, fun q => ?_, fun q => ?_, fun q => ?_, fun q => ?_, fun q => ?_, fun q => ?_, fun q => ?_, fun q => ?_, trivial⟩
  · have q := swOut (by omega) q
    exact absurd q (by omega)
  · have q := swEq (by omega) q
    obtain rfl : w = 0 := by omega
    refine ⟨_, nI_add _ 0, by omega, ?_⟩
    have e : kpV X E j 0 = cB X j 0 := rfl
    rw [e, ← b0] at h
    exact h
  · have q := swEq (by omega) q
    obtain rfl : w = 1 := by omega
    refine ⟨_, nI_add _ 1, by omega, ?_⟩
    have e : kpV X E j 1 = cB X j 1 := rfl
    rw [e, ← b1] at h
    exact h
  · have q := swEq (by omega) q
    obtain rfl : w = 2 := by omega
    refine ⟨_, nI_add _ 2, by omega, fun h1 => ?_, fun h1 => ?_⟩
    · have h1 : ¬ μ.1 (r + 1) (51 + 2406 * i + (1958 + 3 * j) + 2) = -1 := h1
      rw [b2] at h1
      have e : kpV X E j 2 = 1 := iB_1 h1
      rw [e] at h
      exact h
    · have h1 : ¬ ¬ μ.1 (r + 1) (51 + 2406 * i + (1958 + 3 * j) + 2) = -1 := h1
      rw [b2] at h1
      have e : kpV X E j 2 = 0 := iB_0 h1
      rw [e] at h
      exact h
  · have q := swEq (by omega) q
    exact ⟨_, nI_add _ 2, by omega, w - 3, nI_sub1 (b := 3) (by omega), by omega, sb, dfl (by omega) (by omega)⟩
  · have q := swEq (by omega) q
    exact ⟨_, nI_add _ 2, by omega, w - 3, nI_sub1 (b := 3) (by omega), by omega, sb, dfl (by omega) (by omega)⟩
  · have q := swEq (by omega) q
    exact ⟨_, nI_add _ 2, by omega, w - 3, nI_sub1 (b := 3) (by omega), by omega, sb, dfl (by omega) (by omega)⟩
  · have q := swEq (by omega) q
    exact ⟨_, nI_add _ 2, by omega, w - 3, nI_sub1 (b := 3) (by omega), by omega, sb, dfl (by omega) (by omega)⟩
  · have q := swEq (by omega) q
    obtain rfl : w = 7 := by omega
    refine ⟨i, j, X, rfl, rfl, hi, hj, hX, e1 ▸ e2, fun h1 => ?_, fun h1 => ?_⟩
    · have h1 : iB (inA X (μ.1 (r + 1) (3 + 3 * j))) = 0 := h1
      rw [iB_eq0, e1] at h1
      have e : kpV X E j 7 = 0 := iB_0 h1
      rw [e] at h
      exact h
    · have h1 : ¬ iB (inA X (μ.1 (r + 1) (3 + 3 * j))) = 0 := h1
      rw [iB_eq0, Classical.not_not, e1] at h1
      have e : kpV X E j 7 = 1 := iB_1 h1
      rw [e] at h
      exact h
  · have q := swEq (by omega) q
    obtain rfl : w = 8 := by omega
    refine ⟨j, rfl, hj, fun h1 => ?_, fun h1 => ?_⟩
    · have h1 : iB (¬ μ.1 (r + 1) (3 + 3 * j) = -1) = 0 := h1
      rw [iB_eq0, e1, Classical.not_not] at h1
      have e : kpV X E j 8 = -1 := if_pos h1
      rw [e] at h
      exact h
    · have h1 : ¬ iB (¬ μ.1 (r + 1) (3 + 3 * j) = -1) = 0 := h1
      rw [iB_eq0, Classical.not_not, e1] at h1
      have e : kpV X E j 8 = dstC X (E j 0) := if_neg h1
      rw [e] at h
      obtain ⟨n1, n2⟩ := sOK_n e2 h1
      exact ⟨i, j, sN (E j 0), X, rfl, rfl, hi, hj, hX, e1.trans n2, n1, h⟩
def pkV (t : Int32) (p : PK) (w : Nat) : Int32 := if w = 0 then p.1 0 else if w = 1 then p.1 1 else if w = 2 then nI p.2.length else t - p.1 2
def sp_X10_packetValue : SPc := fun As μ K => match As with
  | [.inr (.inr (20, r)), .inl a', .inl w'] => ∃ (a w : Nat) (p : PK), a' = nI a ∧ w' = nI w ∧ w < 4 ∧ a + 86 ≤ 7269 ∧ RP (μ.1 (r + 1)) a p ∧ K (.inl (some (.inl (pkV (μ.1 (r + 1) 0) p w)))) μ
  | _ => False
def ct_X10_packetValue : List (Nat × CI) := []
def ci_X10_packetValue : CI := (yX10_packetValue, cX10_packetValue, 3, some .int, 3, (0, 0, 0, 0), 19, [], sp_X10_packetValue)
set_option maxRecDepth 100000 in
theorem ck_X10_packetValue : chkM ci_X10_packetValue RX10 co_X10_packetValue ct_X10_packetValue [] false false = true := by decide +kernel
set_option maxHeartbeats 4000000 in
set_option maxRecDepth 100000 in
theorem ms_X10_packetValue {g : GPT} {ot : OT} {l : Launch} (hl : l.stackTraces = false) : MS g ot l ci_X10_packetValue := by
  refine ms0_of hl RX10 co_X10_packetValue ct_X10_packetValue [] false false 46 ck_X10_packetValue (fun _ h => nomatch h) ?_
  intro As μ K h
  simp only [ci_X10_packetValue, sp_X10_packetValue] at h
  split at h
  case h_2 => exact h.elim
  rename_i r a' w'
  obtain ⟨a, w, p, rfl, rfl, hw, ha, hp, h⟩ := h
  refine ⟨Nat.le_of_ble_eq_true rfl, fun h1 => ⟨fun h2 => ⟨fun h3 => ?_, fun h3 => ?_⟩, fun h2 => ?_⟩, fun h1 => ?_⟩
  · have h1 : ¬ nI w = nI 0 := h1
    have h2 : ¬ nI w = nI 1 := h2
    have h3 : ¬ nI w = nI 2 := h3
    rw [nI_eq_iff (by omega) (by omega)] at h1 h2 h3
    have e : pkV (μ.1 (r + 1) 0) p w = μ.1 (r + 1) 0 - μ.1 (r + 1) (a + 2) := by unfold pkV; rw [if_neg h1, if_neg h2, if_neg h3, hp.1 2 (by omega)]
    rw [e] at h
    exact ⟨0, rfl, by omega, _, nI_add _ 2, by omega, h⟩
  · have h3 : ¬ ¬ nI w = nI 2 := h3
    rw [nI_eq_iff (by omega) (by omega)] at h3
    obtain rfl : w = 2 := by omega
    have e : pkV (μ.1 (r + 1) 0) p 2 = μ.1 (r + 1) (a + 5) := hp.2.1.symm
    rw [e] at h
    exact ⟨_, nI_add _ 5, by omega, h⟩
  · have h2 : ¬ ¬ nI w = nI 1 := h2
    rw [nI_eq_iff (by omega) (by omega)] at h2
    obtain rfl : w = 1 := by omega
    have e : pkV (μ.1 (r + 1) 0) p 1 = μ.1 (r + 1) (a + 1) := (hp.1 1 (by omega)).symm
    rw [e] at h
    exact ⟨_, nI_add _ 1, by omega, h⟩
  · have h1 : ¬ ¬ nI w = nI 0 := h1
    rw [nI_eq_iff (by omega) (by omega)] at h1
    obtain rfl : w = 0 := by omega
    have e : pkV (μ.1 (r + 1) 0) p 0 = μ.1 (r + 1) (a + 0) := (hp.1 0 (by omega)).symm
    rw [e] at h
    exact ⟨_, nI_add _ 0, by omega, h⟩
def etV (en : EN) (w : Nat) : Int32 := if w = 0 then en 0 else if w = 1 then en 1 else if w = 2 then (if en 0 = 0 then 2 else if en 0 = 1 then 6 else nI (2 + bts (sN (en 3)))) else if w = 3 then en 2 else en 3
/-- an entry as it should be -/
def enOK (en : EN) : Prop := (en 0 = 0 ∨ en 0 = 1 ∨ en 0 = 2) ∧ (∃ e, e < 16 ∧ en 1 = nI e) ∧ (∃ m, m < 16 ∧ en 3 = nI m) ∧ (en 0 = 0 → en 4 = -1) ∧ (¬ en 0 = 0 → ∃ n, n < 524288 ∧ en 4 = nI n)
def sp_X10_entryValue : SPc := fun As μ K => match As with
  | [.inr (.inr (20, r)), .inl a', .inl j', .inl w'] => ∃ (a j w : Nat) (p : PK) (en : EN), a' = nI a ∧ j' = nI j ∧ w' = nI w ∧ w < 5 ∧ a + 86 ≤ 7269 ∧ RP (μ.1 (r + 1)) a p ∧ p.2[j]? = some en ∧ enOK en ∧ K (.inl (some (.inl (etV en w)))) μ
  | _ => False
def ct_X10_entryValue : List (Nat × CI) := [(150, ci_X10_bits)]
def ci_X10_entryValue : CI := (yX10_entryValue, cX10_entryValue, 5, some .int, 4, (1, 0, 0, 20), 19, [], sp_X10_entryValue)
set_option maxRecDepth 100000 in
theorem ck_X10_entryValue : chkM ci_X10_entryValue RX10 co_X10_entryValue ct_X10_entryValue [] false false = true := by decide +kernel
set_option maxHeartbeats 4000000 in
set_option maxRecDepth 100000 in
theorem ms_X10_entryValue {g : GPT} {ot : OT} {l : Launch} (hl : l.stackTraces = false) : MS g ot l ci_X10_entryValue := by
  refine ms0_of hl RX10 co_X10_entryValue ct_X10_entryValue [] false false 61 ck_X10_entryValue (List.forall_mem_cons.mpr ⟨ms_X10_bits hl, fun _ h => nomatch h⟩) ?_
  intro As μ K h
  simp only [ci_X10_entryValue, sp_X10_entryValue] at h
  split at h
  case h_2 => exact h.elim
  rename_i r a' j' w'
  obtain ⟨a, j, w, p, en, rfl, rfl, rfl, hw, ha, hp, hj, hen, h⟩ := h
  have hj2 : j < p.2.length := (List.getElem?_eq_some_iff.mp hj).1
  have hl := hp.2.2.1
  have hc := hp.2.2.2 j en hj
  have ix : nI a + Int32.ofInt 6 + Int32.ofInt 5 * nI j = nI (a + 6 + 5 * j) := by simp only [iL, nI_add, nI_mul]
  have c0 : μ.1 (r + 1) (a + 6 + 5 * j) = en 0 := hc 0 (by omega)
  have dfl : w = 0 ∨ w = 1 → ∃ k, nI a + Int32.ofInt 6 + Int32.ofInt 5 * nI j + nI w = nI k ∧ k < 7269 ∧ K (.inl (some (.inl (μ.1 (r + 1) k)))) μ := fun g => by
    refine ⟨a + 6 + 5 * j + w, by rw [ix, nI_add], by omega, ?_⟩
    rw [hc w (by omega)]
    rcases g with rfl | rfl
    · exact h
    · exact h
  refine ⟨Nat.le_of_ble_eq_true rfl, fun q => dfl ?_, fun q => ⟨_, ix, by omega, fun h1 => ⟨_, ix, by omega, fun h2 => ?_, fun h2 => ?_⟩, fun h1 => ?_⟩, fun q => ?_, fun q => ?_, trivial⟩
  · have q := swOut (by omega) q
    omega
  · have q := swEq (by omega) q
    obtain rfl : w = 2 := by omega
    obtain ⟨m, hm, hm2⟩ := hen.2.2.1
    have h1 : ¬ μ.1 (r + 1) (a + 6 + 5 * j) = 0 := h1
    have h2 : ¬ μ.1 (r + 1) (a + 6 + 5 * j) = 1 := h2
    rw [c0] at h1 h2
    have e : etV en 2 = nI (2 + bts m) := by
      show (if en 0 = 0 then 2 else if en 0 = 1 then 6 else nI (2 + bts (sN (en 3)))) = _
      rw [if_neg h1, if_neg h2, hm2, sN_nI (by omega)]
    rw [e, ← nI_add] at h
    exact ⟨a + 6 + 5 * j + 3, by rw [ix]; exact nI_add _ 3, by omega, m, (hc 3 (by omega)).trans hm2, hm, h⟩
  · have q := swEq (by omega) q
    obtain rfl : w = 2 := by omega
    have h1 : ¬ μ.1 (r + 1) (a + 6 + 5 * j) = 0 := h1
    have h2 : ¬ ¬ μ.1 (r + 1) (a + 6 + 5 * j) = 1 := h2
    rw [c0] at h1 h2
    have e : etV en 2 = 6 := by
      show (if en 0 = 0 then 2 else if en 0 = 1 then 6 else nI (2 + bts (sN (en 3)))) = _
      rw [if_neg h1, if_pos (Classical.not_not.mp h2)]
    rw [e] at h
    exact h
  · have q := swEq (by omega) q
    obtain rfl : w = 2 := by omega
    have h1 : ¬ ¬ μ.1 (r + 1) (a + 6 + 5 * j) = 0 := h1
    rw [c0] at h1
    have e : etV en 2 = 2 := by
      show (if en 0 = 0 then 2 else if en 0 = 1 then 6 else nI (2 + bts (sN (en 3)))) = _
      rw [if_pos (Classical.not_not.mp h1)]
    rw [e] at h
    exact h
  · have q := swEq (by omega) q
    obtain rfl : w = 3 := by omega
    have e : etV en 3 = μ.1 (r + 1) (a + 6 + 5 * j + 2) := (hc 2 (by omega)).symm
    rw [e] at h
    exact ⟨_, (by rw [ix]; exact nI_add _ 2), by omega, h⟩
  · have q := swEq (by omega) q
    obtain rfl : w = 4 := by omega
    have e : etV en 4 = μ.1 (r + 1) (a + 6 + 5 * j + 3) := (hc 3 (by omega)).symm
    rw [e] at h
    exact ⟨_, (by rw [ix]; exact nI_add _ 3), by omega, h⟩
