/-! THE REFERENCE, its methods on states and on a client's cells. -/
/-- a state: none, or a number -/
def sOK (s : Int32) : Prop := s = -1 ∨ ∃ n, n < 524288 ∧ s = nI n
def sN (s : Int32) : Nat := s.toNatClampNeg
theorem sN_nI {n : Nat} (h : n < 524288) : sN (nI n) = n := nI_clamp (by omega)
theorem nI_ne_m1 {n : Nat} (h : n < 2 ^ 31) : ¬ nI n = -1 := by
  intro q
  have h1 := nI_toInt h
  rw [q] at h1
  have : (-1 : Int32).toInt = -1 := by decide
  rw [this] at h1
  omega
theorem sOK_n {s : Int32} (h : sOK s) (hs : ¬ s = -1) : sN s < 524288 ∧ s = nI (sN s) := by
  rcases h with h | ⟨n, h1, rfl⟩
  · exact absurd h hs
  · rw [sN_nI h1]
    exact ⟨h1, rfl⟩
def pz (s : Int32) (k : Nat) : Nat := if s = -1 then 0 else prt (sN s) k
def sp_X10_partOrZero : SPc := fun As μ K => match As with
  | [.inl s, .inl w] => ∃ k : Nat, w = nI k ∧ k < 4 ∧ sOK s ∧ K (.inl (some (.inl (nI (pz s k))))) μ
  | _ => False
def ct_X10_partOrZero : List (Nat × CI) := [(41, ci_X10_part)]
def ci_X10_partOrZero : CI := (yX10_partOrZero, cX10_partOrZero, 2, some .int, 2, (1, 0, 0, 21), 0, [], sp_X10_partOrZero)
set_option maxRecDepth 100000 in
theorem ck_X10_partOrZero : chkM ci_X10_partOrZero RX10 co_X10_partOrZero ct_X10_partOrZero [] false false = true := by decide +kernel
set_option maxHeartbeats 4000000 in
set_option maxRecDepth 100000 in
theorem ms_X10_partOrZero {g : GPT} {ot : OT} {l : Launch} (hl : l.stackTraces = false) : MS g ot l ci_X10_partOrZero := by
  refine ms0_of hl RX10 co_X10_partOrZero ct_X10_partOrZero [] false false 14 ck_X10_partOrZero (List.forall_mem_cons.mpr ⟨ms_X10_part hl, fun _ h => nomatch h⟩) ?_
  intro As μ K h
  simp only [ci_X10_partOrZero, sp_X10_partOrZero] at h
  split at h
  case h_2 => exact h.elim
  rename_i s w
  obtain ⟨k, rfl, hk, hs, h⟩ := h
  refine ⟨Nat.le_of_ble_eq_true rfl, fun h1 => ?_, fun h1 => ?_⟩
  · have h1 : ¬ s = -1 := h1
    obtain ⟨h2, h3⟩ := sOK_n hs h1
    refine ⟨sN s, k, h3, rfl, h2, hk, ?_⟩
    have e : pz s k = prt (sN s) k := if_neg h1
    rw [e] at h
    exact h
  · have h1 : ¬ ¬ s = -1 := h1
    have e : pz s k = 0 := if_pos (Classical.not_not.mp h1)
    rw [e] at h
    exact h
/-- the values in which two states differ -/
def mkR (a b : Nat) : Nat → Nat
  | 0 => 0
  | k + 1 => mkR a b k ||| (if prt a k = prt b k then 0 else 2 ^ k)
theorem mkR_lt (a b : Nat) : ∀ k, mkR a b k < 2 ^ k
  | 0 => by simp [mkR]
  | k + 1 => by
    have h := mkR_lt a b k
    unfold mkR
    refine Nat.or_lt_two_pow (Nat.lt_of_lt_of_le h (Nat.pow_le_pow_right (by omega) (Nat.le_succ k))) ?_
    split
    · exact Nat.two_pow_pos _
    · exact Nat.pow_lt_pow_right (by omega) (Nat.lt_succ_self k)
def mkN (a b : Nat) : Nat := mkR a b 4
theorem mkN_lt (a b : Nat) : mkN a b < 16 := mkR_lt a b 4
theorem prt_lt {n : Nat} (h : n < 524288) (k : Nat) : prt n k < 128 := by
  match k with
  | 0 => simp only [prt]; omega
  | 1 => simp only [prt]; omega
  | 2 => simp only [prt]; omega
  | k + 3 => simp only [prt]; omega
theorem nI_or {a b : Nat} (ha : a < 16) (hb : b < 16) : nI a ||| nI b = nI (a ||| b) := by
  have h : ∀ a, a < 16 → ∀ b, b < 16 → nI a ||| nI b = nI (a ||| b) := by decide +kernel
  exact h a ha b hb
theorem shl1 {k : Nat} (h : k < 5) : Int32.ofInt 1 <<< (nI k &&& 31) = nI (2 ^ k) := by
  have h2 : ∀ k, k < 5 → Int32.ofInt 1 <<< (nI k &&& 31) = nI (2 ^ k) := by decide +kernel
  exact h2 k h
def sp_X10_mask : SPc := fun As μ K => match As with
  | [.inl s, .inl t] => ∃ a b : Nat, s = nI a ∧ t = nI b ∧ a < 524288 ∧ b < 524288 ∧ K (.inl (some (.inl (nI (mkN a b))))) μ
  | _ => False
def ct_X10_mask : List (Nat × CI) := [(41, ci_X10_part)]
def ci_X10_mask : CI := (yX10_mask, cX10_mask, 4, some .int, 2, (1, 0, 0, 21), 0, [], sp_X10_mask)
set_option maxRecDepth 100000 in
theorem ck_X10_mask : chkM ci_X10_mask RX10 co_X10_mask ct_X10_mask [] false false = true := by decide +kernel
set_option maxHeartbeats 4000000 in
set_option maxRecDepth 100000 in
theorem ms_X10_mask {g : GPT} {ot : OT} {l : Launch} (hl : l.stackTraces = false) : MS g ot l ci_X10_mask := by
  refine ms_of hl RX10 co_X10_mask ct_X10_mask [] false false [4] 31 ck_X10_mask (List.forall_mem_cons.mpr ⟨ms_X10_part hl, fun _ h => nomatch h⟩) ?_
  intro As μ K h
  simp only [ci_X10_mask, sp_X10_mask] at h
  split at h
  case h_2 => exact h.elim
  obtain ⟨a, b, rfl, rfl, ha, hb, h⟩ := h
  refine ⟨Nat.le_of_ble_eq_true rfl, fun n pc lc st μ' ce sl => ∃ i, i ≤ 4 ∧ n = 4 - i ∧ pc = 4 ∧ lc = [some (.inl (nI a)), some (.inl (nI b)), some (.inl (nI (mkR a b i))), some (.inl (nI i))] ∧ st = [] ∧ μ' = μ ∧ ce = 0 ∧ sl = 0, ?_, ?_⟩
  · exact ⟨4, [some (.inl (nI a)), some (.inl (nI b)), some (.inl (nI 0)), some (.inl (nI 0))], ⟨rfl, rfl, rfl, rfl, trivial⟩, 0, Nat.zero_le _, rfl, rfl, rfl, rfl, rfl, rfl, rfl⟩
  · rintro n pc lc st μ' ce sl ⟨i, hi, rfl, rfl, rfl, rfl, rfl, rfl, rfl⟩
    refine ⟨fun h1 => ?_, fun h1 => ?_⟩
    · simp only [icP, ifP, iL, iM1] at h1
      try simp only [z_nI] at h1
      try simp only [nI_add, nI_mul] at h1
      first | rw [nI_le_iff (by omega) (by omega)] at h1 | rw [nI_lt_iff (by omega) (by omega)] at h1 | rw [nI_eq_iff (by omega) (by omega)] at h1
      obtain rfl : i = 4 := by omega
      exact h
    · simp only [icP, ifP, iL, iM1] at h1
      try simp only [z_nI] at h1
      try simp only [nI_add, nI_mul] at h1
      first | rw [nI_le_iff (by omega) (by omega)] at h1 | rw [nI_lt_iff (by omega) (by omega)] at h1 | rw [nI_eq_iff (by omega) (by omega)] at h1
      have hp := prt_lt ha i
      have hq := prt_lt hb i
      have hl := mkR_lt a b i
      have hl2 : 2 ^ i ≤ 2 ^ 3 := Nat.pow_le_pow_right (by omega) (by omega)
      refine ⟨a, i, rfl, rfl, ha, by omega, b, i, rfl, rfl, hb, by omega, fun h2 => ?_, fun h2 => ?_⟩
      · simp only [icP, ifP, iL, iM1] at h2
        try simp only [z_nI] at h2
        try simp only [nI_add, nI_mul] at h2
        first | rw [nI_le_iff (by omega) (by omega)] at h2 | rw [nI_lt_iff (by omega) (by omega)] at h2 | rw [nI_eq_iff (by omega) (by omega)] at h2
        refine ⟨4 - (i + 1), [some (.inl (nI a)), some (.inl (nI b)), some (.inl (nI (mkR a b (i + 1)))), some (.inl (nI (i + 1)))], by omega, ⟨rfl, rfl, ?_, inc_tv i, trivial⟩, i + 1, by omega, rfl, rfl, rfl, rfl, rfl, rfl, rfl⟩
        show (some (.inl (nI (mkR a b i) ||| (Int32.ofInt 1 <<< (nI i &&& 31)))) : Option TV) = _
        rw [shl1 (by omega), nI_or (by omega) (by omega)]
        simp only [mkR, if_neg h2]
      · simp only [icP, Classical.not_not] at h2
        rw [nI_eq_iff (by omega) (by omega)] at h2
        refine ⟨4 - (i + 1), [some (.inl (nI a)), some (.inl (nI b)), some (.inl (nI (mkR a b (i + 1)))), some (.inl (nI (i + 1)))], by omega, ⟨rfl, rfl, ?_, inc_tv i, trivial⟩, i + 1, by omega, rfl, rfl, rfl, rfl, rfl, rfl, rfl⟩
        show (some (.inl (nI (mkR a b i) ||| nI 0)) : Option TV) = _
        rw [nI_or (by omega) (by omega)]
        simp only [mkR, if_pos h2]
/-- a state with some values of another one -/
def mxN (a b m : Nat) : Nat := pkN (prt (if m % 2 = 0 then a else b) 0) (prt (if m / 2 % 2 = 0 then a else b) 1) (prt (if m / 4 % 2 = 0 then a else b) 2) (prt (if m / 8 % 2 = 0 then a else b) 3)
theorem mbit : ∀ m, m < 16 → ((nI m &&& Int32.ofInt 1 = 0 ↔ m % 2 = 0) ∧ (nI m &&& Int32.ofInt 2 = 0 ↔ m / 2 % 2 = 0) ∧ (nI m &&& Int32.ofInt 4 = 0 ↔ m / 4 % 2 = 0) ∧ (nI m &&& Int32.ofInt 8 = 0 ↔ m / 8 % 2 = 0)) := by decide +kernel
def bts (m : Nat) : Nat := m % 2 + m / 2 % 2 + m / 4 % 2 + m / 8 % 2
def sp_X10_mixed : SPc := fun As μ K => match As with
  | [.inl s, .inl t, .inl w] => ∃ a b m : Nat, s = nI a ∧ t = nI b ∧ w = nI m ∧ a < 524288 ∧ b < 524288 ∧ m < 16 ∧ K (.inl (some (.inl (nI (mxN a b m))))) μ
  | _ => False
theorem ite_k {c : Prop} [Decidable c] {a b : Nat} (hc : c) : (if c then a else b) = a := if_pos hc
def ct_X10_mixed : List (Nat × CI) := [(41, ci_X10_part), (45, ci_X10_packed)]
def ci_X10_mixed : CI := (yX10_mixed, cX10_mixed, 7, some .int, 3, (1, 0, 0, 23), 0, [], sp_X10_mixed)
set_option maxRecDepth 100000 in
theorem ck_X10_mixed : chkM ci_X10_mixed RX10 co_X10_mixed ct_X10_mixed [] false false = true := by decide +kernel
set_option maxHeartbeats 4000000 in
set_option maxRecDepth 100000 in
theorem ms_X10_mixed {g : GPT} {ot : OT} {l : Launch} (hl : l.stackTraces = false) : MS g ot l ci_X10_mixed := by
  refine ms0_of hl RX10 co_X10_mixed ct_X10_mixed [] false false 51 ck_X10_mixed (List.forall_mem_cons.mpr ⟨ms_X10_part hl, List.forall_mem_cons.mpr ⟨ms_X10_packed hl, fun _ h => nomatch h⟩⟩) ?_
  intro As μ K h
  simp only [ci_X10_mixed, sp_X10_mixed] at h
  split at h
  case h_2 => exact h.elim
  obtain ⟨a, b, m, rfl, rfl, rfl, ha, hb, hm, h⟩ := h
  obtain ⟨m1, m2, m3, m4⟩ := mbit m hm
  have go : ∀ x y z w : Nat, x = (if m % 2 = 0 then a else b) → y = (if m / 2 % 2 = 0 then a else b) → z = (if m / 4 % 2 = 0 then a else b) → w = (if m / 8 % 2 = 0 then a else b) → K (.inl (some (.inl (nI (pkN (prt x 0) (prt y 1) (prt z 2) (prt w 3)))))) μ := by
    rintro x y z w rfl rfl rfl rfl
    exact h
  refine ⟨Nat.le_of_ble_eq_true rfl, fun h1 => ?_, fun h1 => ?_⟩
  all_goals
    refine ⟨_, 0, rfl, rfl, by assumption, by omega, fun h2 => ?_, fun h2 => ?_⟩
    all_goals
      refine ⟨_, 1, rfl, rfl, by assumption, by omega, fun h3 => ?_, fun h3 => ?_⟩
      all_goals
        refine ⟨_, 2, rfl, rfl, by assumption, by omega, fun h4 => ?_, fun h4 => ?_⟩
        all_goals
          refine ⟨_, 3, rfl, rfl, by assumption, by omega, _, _, _, _, rfl, rfl, rfl, rfl, ?_⟩
          simp only [ifP] at h1 h2 h3 h4
          rw [m1] at h1
          rw [m2] at h2
          rw [m3] at h3
          rw [m4] at h4
          try simp only [Classical.not_not] at h1
          try simp only [Classical.not_not] at h2
          try simp only [Classical.not_not] at h3
          try simp only [Classical.not_not] at h4
          refine go _ _ _ _ ?_ ?_ ?_ ?_
          · first | exact (if_pos h1).symm | exact (if_neg h1).symm
          · first | exact (if_pos h2).symm | exact (if_neg h2).symm
          · first | exact (if_pos h3).symm | exact (if_neg h3).symm
          · first | exact (if_pos h4).symm | exact (if_neg h4).symm
theorem bts_eq : ∀ m, m < 16 → (nI m &&& Int32.ofInt 1) + (nI m >>> (Int32.ofInt 1 &&& 31) &&& Int32.ofInt 1) + (nI m >>> (Int32.ofInt 2 &&& 31) &&& Int32.ofInt 1) + (nI m >>> (Int32.ofInt 3 &&& 31) &&& Int32.ofInt 1) = nI (bts m) := by decide +kernel
def sp_X10_bits : SPc := fun As μ K => match As with
  | [.inl w] => ∃ m : Nat, w = nI m ∧ m < 16 ∧ K (.inl (some (.inl (nI (bts m))))) μ
  | _ => False
def ct_X10_bits : List (Nat × CI) := []
def ci_X10_bits : CI := (yX10_bits, cX10_bits, 1, some .int, 1, (0, 0, 0, 0), 0, [], sp_X10_bits)
set_option maxRecDepth 100000 in
theorem ck_X10_bits : chkM ci_X10_bits RX10 co_X10_bits ct_X10_bits [] false false = true := by decide +kernel
set_option maxHeartbeats 4000000 in
set_option maxRecDepth 100000 in
theorem ms_X10_bits {g : GPT} {ot : OT} {l : Launch} (hl : l.stackTraces = false) : MS g ot l ci_X10_bits := by
  refine ms0_of hl RX10 co_X10_bits ct_X10_bits [] false false 27 ck_X10_bits (fun _ h => nomatch h) ?_
  intro As μ K h
  simp only [ci_X10_bits, sp_X10_bits] at h
  split at h
  case h_2 => exact h.elim
  obtain ⟨m, rfl, hm, h⟩ := h
  refine ⟨Nat.le_of_ble_eq_true rfl, ?_⟩
  show K _ _
  rw [bts_eq m hm]
  exact h
