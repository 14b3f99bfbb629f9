theorem flyL_at {l : List PK} {k : Nat} {p : PK} (h : l[k]? = some p) (hp : fly p) : (l.filter fun p => decide (fly p))[flyN (l.take k)]? = some p := by
  have e : l = l.take k ++ (p :: l.drop (k + 1)) := by
    obtain ⟨h1, h2⟩ := List.getElem?_eq_some_iff.mp h
    rw [← h2, ← List.drop_eq_getElem_cons h1, List.take_append_drop]
  have e2 : (l.filter fun p => decide (fly p)) = ((l.take k).filter fun p => decide (fly p)) ++ (p :: ((l.drop (k + 1)).filter fun p => decide (fly p))) := by
    conv => lhs; rw [e]
    rw [List.filter_append]
    congr 1
    exact List.filter_cons_of_pos (decide_eq_true hp)
  rw [e2]
  unfold flyN
  rw [List.getElem?_append_right (Nat.le_refl _), Nat.sub_self]
  rfl
theorem flyN_S {l : List PK} {k : Nat} {p : PK} (h : l[k]? = some p) : flyN (l.take (k + 1)) = flyN (l.take k) + (if fly p then 1 else 0) := by
  have ht : l.take (k + 1) = l.take k ++ [p] := by rw [List.take_add_one, h]; rfl
  unfold flyN
  rw [ht, List.filter_append, List.length_append]
  congr 1
  by_cases hp : fly p
  · simp [fly, hp]
  · simp [fly, hp]
theorem sub_sub32 (a b c : Int32) : a - b - c = a - (b + c) := by
  rw [Int32.sub_eq_add_neg, Int32.sub_eq_add_neg, Int32.sub_eq_add_neg, Int32.neg_add, Int32.add_assoc, Int32.sub_eq_add_neg]
theorem sub_eq0 {a b : Int32} (h : a - b = 0) : a = b := by
  have := congrArg (· + b) h
  simpa using this
def sp_X10_flyingCell : SPc := fun As μ K => match As with
  | [.inr (.inr (20, r)), .inl c, .inl x] => ∃ (i : Nat) (X : CS), c = nI i ∧ i < 3 ∧ RC (μ.1 (r + 1)) i X ∧ (∀ (a j : Nat) (p : PK), x = nI j → (flyL X)[j]? = some p → p ∈ cP X → RP (μ.1 (r + 1)) a p → 0 < a → a + 86 ≤ 7269 → K (.inl (some (.inl (nI a)))) μ) ∧ ((∀ j, j < flyN (cP X) → ¬ x = nI j) → K (.inl (some (.inl (-1)))) μ)
  | _ => False
def ct_X10_flyingCell : List (Nat × CI) := [(80, ci_X10_of), (125, ci_X10_packetCell)]
def ci_X10_flyingCell : CI := (yX10_flyingCell, cX10_flyingCell, 6, some .int, 3, (2, 0, 0, 43), 19, [], sp_X10_flyingCell)
set_option maxRecDepth 100000 in
theorem ck_X10_flyingCell : chkM ci_X10_flyingCell RX10 co_X10_flyingCell ct_X10_flyingCell [] false false = true := by decide +kernel
set_option maxHeartbeats 4000000 in
set_option maxRecDepth 100000 in
theorem ms_X10_flyingCell {g : GPT} {ot : OT} {l : Launch} (hl : l.stackTraces = false) : MS g ot l ci_X10_flyingCell := by
  refine ms_of hl RX10 co_X10_flyingCell ct_X10_flyingCell [] false false [5] 37 ck_X10_flyingCell (List.forall_mem_cons.mpr ⟨ms_X10_of hl, List.forall_mem_cons.mpr ⟨ms_X10_packetCell hl, fun _ h => nomatch h⟩⟩) ?_
  intro As μ K h
  simp only [ci_X10_flyingCell, sp_X10_flyingCell] at h
  split at h
  case h_2 => exact h.elim
  rename_i r c x
  obtain ⟨i, X, rfl, hi, hX, hK1, hK2⟩ := h
  have hl := hX.2.2.1.1
  have hl2 := hX.2.2.1.2.1
  refine ⟨Nat.le_of_ble_eq_true rfl, fun m pc lc st μ' ce sl => ∃ k, k ≤ (cP X).length ∧ m = (cP X).length - k ∧ pc = 5 ∧ lc = [some (.inr (.inr (20, r))), some (.inl (nI i)), none, some (.inl (x - nI (flyN ((cP X).take k)))), some (.inl (nI k)), none] ∧ st = [] ∧ μ = μ' ∧ ce = 0 ∧ sl = 0 ∧ ∀ j, j < flyN ((cP X).take k) → ¬ x = nI j, ?_, ?_⟩
  · refine ⟨(cP X).length, [some (.inr (.inr (20, r))), some (.inl (nI i)), none, some (.inl x), some (.inl (nI 0)), none], ⟨rfl, rfl, rfl, rfl, trivial⟩, 0, Nat.zero_le _, rfl, rfl, ?_, rfl, rfl, rfl, rfl, fun j hj => absurd hj (Nat.not_lt_zero _)⟩
    have e : x - nI (flyN ((cP X).take 0)) = x := by show x - 0 = x; exact Int32.sub_zero x
    rw [e]
  · rintro m pc lc st μ' ce sl ⟨k, hk, rfl, rfl, rfl, rfl, rfl, rfl, rfl, hx⟩
    refine ⟨i, 65, rfl, rfl, by omega, fun h1 => ?_, fun h1 => ?_⟩
    · simp only [icP, hl] at h1
      rw [nI_le_iff (by omega) (by omega)] at h1
      rw [List.take_of_length_le (by omega)] at hx
      exact hK2 hx
    · simp only [icP, hl] at h1
      rw [nI_le_iff (by omega) (by omega)] at h1
      obtain ⟨p, hp⟩ := at_of_lt (l := cP X) (k := k) (by omega)
      have hrp := hX.pk hp
      have h4 := hrp.1 4 (by omega)
      have hs := flyN_S hp
      refine ⟨i, k, rfl, rfl, _, nI_add _ 4, by omega, fun h2 => ?_, fun h2 => ⟨fun h3 => ?_, fun h3 => ?_⟩⟩
      · have h2 : ¬ μ.1 (r + 1) (51 + 2406 * i + (66 + 86 * k) + 4) = 1 := h2
        rw [h4] at h2
        rw [if_neg h2] at hs
        refine ⟨(cP X).length - (k + 1), [some (.inr (.inr (20, r))), some (.inl (nI i)), none, some (.inl (x - nI (flyN ((cP X).take (k + 1))))), some (.inl (nI (k + 1))), none], by omega, ⟨rfl, rfl, ?_, inc_tv k, trivial⟩, k + 1, by omega, rfl, rfl, rfl, rfl, rfl, rfl, rfl, ?_⟩
        · rw [hs]; rfl
        · rw [hs]; exact hx
      · have h2 : ¬ ¬ μ.1 (r + 1) (51 + 2406 * i + (66 + 86 * k) + 4) = 1 := h2
        rw [h4, Classical.not_not] at h2
        rw [if_pos h2] at hs
        have h3 : ¬ x - nI (flyN ((cP X).take k)) = 0 := h3
        have h3 : ¬ x = nI (flyN ((cP X).take k)) := fun q => h3 (by rw [q, Int32.sub_self])
        refine ⟨(cP X).length - (k + 1), [some (.inr (.inr (20, r))), some (.inl (nI i)), none, some (.inl (x - nI (flyN ((cP X).take (k + 1))))), some (.inl (nI (k + 1))), none], by omega, ⟨rfl, rfl, ?_, inc_tv k, trivial⟩, k + 1, by omega, rfl, rfl, rfl, rfl, rfl, rfl, rfl, ?_⟩
        · rw [hs]
          have e : x - nI (flyN ((cP X).take k) + 1) = x - nI (flyN ((cP X).take k)) + Int32.ofInt (-1) := by
            rw [nI_succ, ← sub_sub32, iM1]
            exact Int32.sub_eq_add_neg _ _
          rw [e]
        · rw [hs]
          intro j hj
          by_cases hj2 : j = flyN ((cP X).take k)
          · subst hj2; exact h3
          · exact hx j (by omega)
      · have h2 : ¬ ¬ μ.1 (r + 1) (51 + 2406 * i + (66 + 86 * k) + 4) = 1 := h2
        rw [h4, Classical.not_not] at h2
        have h3 : ¬ ¬ x - nI (flyN ((cP X).take k)) = 0 := h3
        have h3 : x = nI (flyN ((cP X).take k)) := sub_eq0 (Classical.not_not.mp h3)
        exact hK1 _ _ p h3 (flyL_at hp h2) (List.mem_of_getElem? hp) hrp (by omega) (by omega)
def enV (E : Nat → Nat → Int32) (e w : Nat) : Int32 := if w = 0 then iB (¬ E e 0 = -1) else if w < 5 then nI (pz (E e 0) (w - 1)) else E e (w - 4)
def sp_X10_entityValue : SPc := fun As μ K => match As with
  | [.inr (.inr (20, r)), .inl e, .inl w'] => ∃ (j w : Nat) (E : Nat → Nat → Int32), e = nI j ∧ w' = nI w ∧ j < 16 ∧ w < 7 ∧ (∀ k, k < 3 → μ.1 (r + 1) (3 + 3 * j + k) = E j k) ∧ sOK (E j 0) ∧ K (.inl (some (.inl (enV E j w)))) μ
  | _ => False
def ct_X10_entityValue : List (Nat × CI) := [(68, ci_X10_exists), (53, ci_X10_stateOf), (71, ci_X10_partOrZero)]
def ci_X10_entityValue : CI := (yX10_entityValue, cX10_entityValue, 3, some .int, 3, (2, 0, 0, 42), 19, [], sp_X10_entityValue)
set_option maxRecDepth 100000 in
theorem ck_X10_entityValue : chkM ci_X10_entityValue RX10 co_X10_entityValue ct_X10_entityValue [] false false = true := by decide +kernel
set_option maxHeartbeats 4000000 in
set_option maxRecDepth 100000 in
theorem ms_X10_entityValue {g : GPT} {ot : OT} {l : Launch} (hl : l.stackTraces = false) : MS g ot l ci_X10_entityValue := by
  refine ms0_of hl RX10 co_X10_entityValue ct_X10_entityValue [] false false 39 ck_X10_entityValue (List.forall_mem_cons.mpr ⟨ms_X10_exists hl, List.forall_mem_cons.mpr ⟨ms_X10_stateOf hl, List.forall_mem_cons.mpr ⟨ms_X10_partOrZero hl, fun _ h => nomatch h⟩⟩⟩) ?_
  intro As μ K h
  simp only [ci_X10_entityValue, sp_X10_entityValue] at h
  split at h
  case h_2 => exact h.elim
  rename_i r e w'
  obtain ⟨j, w, E, rfl, rfl, hj, hw, hE, hs, h⟩ := h
  have e0 : μ.1 (r + 1) (3 + 3 * j) = E j 0 := hE 0 (by omega)
  refine ⟨Nat.le_of_ble_eq_true rfl, fun h1 => ⟨fun h2 => ?_, fun h2 => ?_⟩, fun h1 => ⟨j, rfl, hj, fun h2 => ?_, fun h2 => ?_⟩⟩
  · have h1 : ¬ nI w = nI 0 := h1
    have h2 : nI 5 ≤ nI w := h2
    rw [nI_eq_iff (by omega) (by omega)] at h1
    rw [nI_le_iff (by omega) (by omega)] at h2
    have e : enV E j w = μ.1 (r + 1) (3 + 3 * j + w - 4) := by
      unfold enV
      rw [if_neg h1, if_neg (by omega)]
      have := hE (w - 4) (by omega)
      rw [← this]
      have e3 : 3 + 3 * j + (w - 4) = 3 + 3 * j + w - 4 := by omega
      rw [e3]
    rw [e] at h
    refine ⟨3 + 3 * j + w - 4, ?_, by omega, h⟩
    show nI 3 + nI 3 * nI j + nI w - nI 4 = _
    rw [nI_mul, nI_add, nI_add, nI_sub1 (by omega)]
  · have h1 : ¬ nI w = nI 0 := h1
    have h2 : ¬ nI 5 ≤ nI w := h2
    rw [nI_eq_iff (by omega) (by omega)] at h1
    rw [nI_le_iff (by omega) (by omega)] at h2
    have e : enV E j w = nI (pz (μ.1 (r + 1) (3 + 3 * j)) (w - 1)) := by
      unfold enV
      rw [if_neg h1, if_pos (by omega), e0]
    rw [e] at h
    exact ⟨j, rfl, hj, w - 1, nI_sub1 (b := 1) (by omega), by omega, e0 ▸ hs, h⟩
  · have h1 : ¬ ¬ nI w = nI 0 := h1
    rw [nI_eq_iff (by omega) (by omega)] at h1
    obtain rfl : w = 0 := by omega
    have h2 : iB (¬ μ.1 (r + 1) (3 + 3 * j) = -1) = 0 := h2
    rw [iB_eq0, e0] at h2
    have e : enV E j 0 = 0 := iB_0 h2
    rw [e] at h
    exact h
  · have h1 : ¬ ¬ nI w = nI 0 := h1
    rw [nI_eq_iff (by omega) (by omega)] at h1
    obtain rfl : w = 0 := by omega
    have h2 : ¬ iB (¬ μ.1 (r + 1) (3 + 3 * j) = -1) = 0 := h2
    rw [iB_eq0, Classical.not_not, e0] at h2
    have e : enV E j 0 = 1 := iB_1 h2
    rw [e] at h
    exact h
/-! the digest's parts -/
def hs (h : Int64) (v : Int32) : Int64 := Int64.ofNat 31 * h + v.toInt64
def hsR (F : Nat → Int32) (h : Int64) : Nat → Int64
  | 0 => h
  | n + 1 => hs (hsR F h n) (F n)
def hW (μ : MM) (r : Nat) (h : Int64) : MM := (μ.1, μ.2.1, up2 μ.2.2.1 r 7 h, μ.2.2.2)
theorem hW_at (μ : MM) (r : Nat) (h : Int64) : (hW μ r h).2.2.1 r 7 = h := by simp [hW, up2]
theorem hW_hW (μ : MM) (r : Nat) (h g : Int64) : hW (hW μ r h) r g = hW μ r g := by
  have e : up2 (up2 μ.2.2.1 r 7 h) r 7 g = up2 μ.2.2.1 r 7 g := by
    funext b k
    unfold up2
    by_cases q : b = r ∧ k = 7 <;> simp [q]
  show (μ.1, μ.2.1, up2 (up2 μ.2.2.1 r 7 h) r 7 g, μ.2.2.2) = _
  rw [e]
  rfl
theorem hW_self (μ : MM) (r : Nat) : hW μ r (μ.2.2.1 r 7) = μ := by
  have e : up2 μ.2.2.1 r 7 (μ.2.2.1 r 7) = μ.2.2.1 := by
    funext b k
    unfold up2
    split
    · next q => rw [q.1, q.2]
    · rfl
  show (μ.1, μ.2.1, up2 μ.2.2.1 r 7 (μ.2.2.1 r 7), μ.2.2.2) = μ
  rw [e]
def sp_X10_mix : SPc := fun As μ K => match As with
  | [.inr (.inr (20, r)), .inr (.inl v)] => K (.inl none) (hW μ r (Int64.ofNat 31 * μ.2.2.1 r 7 + v))
  | _ => False
def ct_X10_mix : List (Nat × CI) := []
def ci_X10_mix : CI := (yX10_mix, cX10_mix, 3, none, 2, (0, 0, 0, 0), 19, [], sp_X10_mix)
set_option maxRecDepth 100000 in
theorem ck_X10_mix : chkM ci_X10_mix RX10 co_X10_mix ct_X10_mix [] false false = true := by decide +kernel
set_option maxHeartbeats 4000000 in
set_option maxRecDepth 100000 in
theorem ms_X10_mix {g : GPT} {ot : OT} {l : Launch} (hl : l.stackTraces = false) : MS g ot l ci_X10_mix := by
  refine ms0_of hl RX10 co_X10_mix ct_X10_mix [] false false 14 ck_X10_mix (fun _ h => nomatch h) ?_
  intro As μ K h
  simp only [ci_X10_mix, sp_X10_mix] at h
  split at h
  case h_2 => exact h.elim
  exact ⟨Nat.le_of_ble_eq_true rfl, h⟩
def dgE (X : CS) (E : Nat → Nat → Int32) (e : Nat) (b : Prop) [Decidable b] (h : Int64) : Int64 := if b then hs (hsR (kpV X E e) (hsR (cpV (cR X e)) h 7) 9) (nI (prc X E e)) else hsR (cpV (cR X e)) h 7
def sp_X10_mixEntity : SPc := fun As μ K => match As with
  | [.inr (.inr (20, r)), .inl c, .inl e, .inl b] => ∃ (i j : Nat) (X : CS) (E : Nat → Nat → Int32), c = nI i ∧ e = nI j ∧ i < 3 ∧ j < 16 ∧ RC (μ.1 (r + 1)) i X ∧ (μ.1 (r + 1) (3 + 3 * j) = E j 0 ∧ sOK (E j 0)) ∧ sOK (cB X j 2) ∧ (∀ q ∈ cR X j, sOK q.2) ∧ K (.inl none) (hW μ r (dgE X E j (¬ b = 0) (μ.2.2.1 r 7)))
  | _ => False
def ct_X10_mixEntity : List (Nat × CI) := [(192, ci_X10_copyValue), (222, ci_X10_mix), (195, ci_X10_keptValue), (156, ci_X10_priceOf)]
def ci_X10_mixEntity : CI := (yX10_mixEntity, cX10_mixEntity, 5, none, 4, (5, 0, 0, 113), 19, [], sp_X10_mixEntity)
set_option maxRecDepth 100000 in
theorem ck_X10_mixEntity : chkM ci_X10_mixEntity RX10 co_X10_mixEntity ct_X10_mixEntity [] false false = true := by decide +kernel
set_option maxHeartbeats 4000000 in
set_option maxRecDepth 100000 in
theorem ms_X10_mixEntity {g : GPT} {ot : OT} {l : Launch} (hl : l.stackTraces = false) : MS g ot l ci_X10_mixEntity := by
  refine ms_of hl RX10 co_X10_mixEntity ct_X10_mixEntity [] false false [3,32] 47 ck_X10_mixEntity (List.forall_mem_cons.mpr ⟨ms_X10_copyValue hl, List.forall_mem_cons.mpr ⟨ms_X10_mix hl, List.forall_mem_cons.mpr ⟨ms_X10_keptValue hl, List.forall_mem_cons.mpr ⟨ms_X10_priceOf hl, fun _ h => nomatch h⟩⟩⟩⟩) ?_
  intro As μ K h
  simp only [ci_X10_mixEntity, sp_X10_mixEntity] at h
  split at h
  case h_2 => exact h.elim
  rename_i r c e b
  obtain ⟨i, j, X, E, rfl, rfl, hi, hj, hX, hE, hB, hR, h⟩ := h
  refine ⟨Nat.le_of_ble_eq_true rfl, fun m pc lc st μ' ce sl => (∃ k, k ≤ 7 ∧ m = 20 - k ∧ pc = 3 ∧ lc = [some (.inr (.inr (20, r))), some (.inl (nI i)), some (.inl (nI j)), some (.inl b), some (.inl (nI k))] ∧ st = [] ∧ μ' = hW μ r (hsR (cpV (cR X j)) (μ.2.2.1 r 7) k) ∧ ce = 0 ∧ sl = 0) ∨ (∃ k, k ≤ 9 ∧ (k = 0 ∨ ¬ b = 0) ∧ m = 9 - k ∧ pc = 32 ∧ lc = [some (.inr (.inr (20, r))), some (.inl (nI i)), some (.inl (nI j)), some (.inl b), some (.inl (nI k))] ∧ st = [] ∧ μ' = hW μ r (hsR (kpV X E j) (hsR (cpV (cR X j)) (μ.2.2.1 r 7) 7) k) ∧ ce = 0 ∧ sl = 0), ?_, ?_⟩
  · refine ⟨20, [some (.inr (.inr (20, r))), some (.inl (nI i)), some (.inl (nI j)), some (.inl b), some (.inl (nI 0))], ⟨rfl, rfl, rfl, rfl, rfl, trivial⟩, Or.inl ⟨0, Nat.zero_le _, rfl, rfl, rfl, rfl, ?_, rfl, rfl⟩⟩
    exact (hW_self μ r).symm
  · rintro m pc lc st μ' ce sl (⟨k, hk, rfl, rfl, rfl, rfl, rfl, rfl, rfl⟩ | ⟨k, hk, hkb, rfl, rfl, rfl, rfl, rfl, rfl, rfl⟩)
    · refine ⟨fun h1 => ?_, fun h1 => ?_⟩
      · simp only [icP, ifP, iL, iM1] at h1
        try simp only [z_nI] at h1
        try simp only [nI_add, nI_mul] at h1
        first | rw [nI_le_iff (by omega) (by omega)] at h1 | rw [nI_lt_iff (by omega) (by omega)] at h1 | rw [nI_eq_iff (by omega) (by omega)] at h1
        obtain rfl : k = 7 := by omega
        exact ⟨9, [some (.inr (.inr (20, r))), some (.inl (nI i)), some (.inl (nI j)), some (.inl b), some (.inl (nI 0))], by omega, ⟨rfl, rfl, rfl, rfl, rfl, trivial⟩, Or.inr ⟨0, Nat.zero_le _, Or.inl rfl, rfl, rfl, rfl, rfl, rfl, rfl, rfl⟩⟩
      · simp only [icP, ifP, iL, iM1] at h1
        try simp only [z_nI] at h1
        try simp only [nI_add, nI_mul] at h1
        first | rw [nI_le_iff (by omega) (by omega)] at h1 | rw [nI_lt_iff (by omega) (by omega)] at h1 | rw [nI_eq_iff (by omega) (by omega)] at h1
        refine ⟨i, j, k, cR X j, rfl, rfl, rfl, hi, hj, by omega, hX.2.2.2.2 j hj, hR, 20 - (k + 1), [some (.inr (.inr (20, r))), some (.inl (nI i)), some (.inl (nI j)), some (.inl b), some (.inl (nI (k + 1)))], by omega, ⟨rfl, rfl, rfl, rfl, inc_tv k, trivial⟩, Or.inl ⟨k + 1, by omega, rfl, rfl, rfl, rfl, ?_, rfl, rfl⟩⟩
        rw [hW_hW, hW_at]
        rfl
    · refine ⟨fun h1 => ?_, fun h1 => ⟨fun h2 => ?_, fun h2 => ?_⟩⟩
      · simp only [icP, ifP, iL, iM1] at h1
        try simp only [z_nI] at h1
        try simp only [nI_add, nI_mul] at h1
        first | rw [nI_le_iff (by omega) (by omega)] at h1 | rw [nI_lt_iff (by omega) (by omega)] at h1 | rw [nI_eq_iff (by omega) (by omega)] at h1
        obtain rfl : k = 9 := by omega
        have hb : ¬ b = 0 := hkb.resolve_left (by omega)
        refine ⟨fun h2 => absurd h2 hb, fun h2 => ⟨i, j, X, E, rfl, rfl, hi, hj, hX, hE, hB, ?_⟩⟩
        show K _ (hW (hW μ r _) r (Int64.ofNat 31 * (hW μ r _).2.2.1 r 7 + _))
        rw [hW_hW, hW_at]
        have e : dgE X E j (¬ b = 0) (μ.2.2.1 r 7) = hs (hsR (kpV X E j) (hsR (cpV (cR X j)) (μ.2.2.1 r 7) 7) 9) (nI (prc X E j)) := if_pos hb
        rw [e] at h
        exact h
      · have h2 : b = 0 := h2
        obtain rfl : k = 0 := hkb.resolve_right (fun q => q h2)
        refine ⟨fun h3 => ?_, fun h3 => absurd h2 h3⟩
        have e : dgE X E j (¬ b = 0) (μ.2.2.1 r 7) = hsR (cpV (cR X j)) (μ.2.2.1 r 7) 7 := if_neg (fun q => q h2)
        rw [e] at h
        exact h
      · have h2 : ¬ b = 0 := h2
        simp only [icP, ifP, iL, iM1] at h1
        try simp only [z_nI] at h1
        try simp only [nI_add, nI_mul] at h1
        first | rw [nI_le_iff (by omega) (by omega)] at h1 | rw [nI_lt_iff (by omega) (by omega)] at h1 | rw [nI_eq_iff (by omega) (by omega)] at h1
        refine ⟨i, j, k, X, E, rfl, rfl, rfl, hi, hj, by omega, hX, hE, hB, 9 - (k + 1), [some (.inr (.inr (20, r))), some (.inl (nI i)), some (.inl (nI j)), some (.inl b), some (.inl (nI (k + 1)))], by omega, ⟨rfl, rfl, rfl, rfl, inc_tv k, trivial⟩, Or.inr ⟨k + 1, by omega, Or.inr h2, rfl, rfl, rfl, rfl, ?_, rfl, rfl⟩⟩
        rw [hW_hW, hW_at]
        rfl
def dgL (l : List EN) (h : Int64) : Int64 := l.foldl (fun h en => hsR (etV en) h 5) h
def dgP (t : Int32) (p : PK) (h : Int64) : Int64 := dgL p.2 (hsR (pkV t p) h 4)
theorem dgL_S {l : List EN} {k : Nat} {en : EN} (h : l[k]? = some en) (x : Int64) : dgL (l.take (k + 1)) x = hsR (etV en) (dgL (l.take k) x) 5 := by
  have ht : l.take (k + 1) = l.take k ++ [en] := by rw [List.take_add_one, h]; rfl
  unfold dgL
  rw [ht, List.foldl_append]
  rfl
def sp_X10_mixPacket : SPc := fun As μ K => match As with
  | [.inr (.inr (20, r)), .inl a'] => ∃ (a : Nat) (p : PK), a' = nI a ∧ a + 86 ≤ 7269 ∧ RP (μ.1 (r + 1)) a p ∧ (∀ en ∈ p.2, enOK en) ∧ K (.inl none) (hW μ r (dgP (μ.1 (r + 1) 0) p (μ.2.2.1 r 7)))
  | _ => False
def ct_X10_mixPacket : List (Nat × CI) := [(210, ci_X10_packetValue), (222, ci_X10_mix), (213, ci_X10_entryValue)]
def ci_X10_mixPacket : CI := (yX10_mixPacket, cX10_mixPacket, 4, none, 2, (2, 0, 0, 44), 19, [], sp_X10_mixPacket)
set_option maxRecDepth 100000 in
theorem ck_X10_mixPacket : chkM ci_X10_mixPacket RX10 co_X10_mixPacket ct_X10_mixPacket [] false false = true := by decide +kernel
set_option maxHeartbeats 4000000 in
set_option maxRecDepth 100000 in
theorem ms_X10_mixPacket {g : GPT} {ot : OT} {l : Launch} (hl : l.stackTraces = false) : MS g ot l ci_X10_mixPacket := by
  refine ms_of hl RX10 co_X10_mixPacket ct_X10_mixPacket [] false false [2,26,40] 47 ck_X10_mixPacket (List.forall_mem_cons.mpr ⟨ms_X10_packetValue hl, List.forall_mem_cons.mpr ⟨ms_X10_mix hl, List.forall_mem_cons.mpr ⟨ms_X10_entryValue hl, fun _ h => nomatch h⟩⟩⟩) ?_
  intro As μ K h
  simp only [ci_X10_mixPacket, sp_X10_mixPacket] at h
  split at h
  case h_2 => exact h.elim
  rename_i r a'
  obtain ⟨a, p, rfl, ha, hp, hen, h⟩ := h
  have hl := hp.2.1
  have hl2 := hp.2.2.1
  refine ⟨Nat.le_of_ble_eq_true rfl, fun m pc lc st μ' ce sl => (∃ k, k ≤ 4 ∧ m = 300 - k ∧ pc = 2 ∧ lc = [some (.inr (.inr (20, r))), some (.inl (nI a)), some (.inl (nI k)), none] ∧ st = [] ∧ μ' = hW μ r (hsR (pkV (μ.1 (r + 1) 0) p) (μ.2.2.1 r 7) k) ∧ ce = 0 ∧ sl = 0) ∨ (∃ k, k ≤ p.2.length ∧ m = 200 - 7 * k ∧ pc = 26 ∧ lc = [some (.inr (.inr (20, r))), some (.inl (nI a)), some (.inl (nI k)), none] ∧ st = [] ∧ μ' = hW μ r (dgL (p.2.take k) (hsR (pkV (μ.1 (r + 1) 0) p) (μ.2.2.1 r 7) 4)) ∧ ce = 0 ∧ sl = 0) ∨ (∃ k en z, p.2[k]? = some en ∧ z ≤ 5 ∧ m = 200 - 7 * k - 1 - z ∧ pc = 40 ∧ lc = [some (.inr (.inr (20, r))), some (.inl (nI a)), some (.inl (nI k)), some (.inl (nI z))] ∧ st = [] ∧ μ' = hW μ r (hsR (etV en) (dgL (p.2.take k) (hsR (pkV (μ.1 (r + 1) 0) p) (μ.2.2.1 r 7) 4)) z) ∧ ce = 0 ∧ sl = 0), ?_, ?_⟩
  · refine ⟨300, [some (.inr (.inr (20, r))), some (.inl (nI a)), some (.inl (nI 0)), none], ⟨rfl, rfl, rfl, trivial⟩, Or.inl ⟨0, Nat.zero_le _, rfl, rfl, rfl, rfl, ?_, rfl, rfl⟩⟩
    exact (hW_self μ r).symm
  · rintro m pc lc st μ' ce sl (⟨k, hk, rfl, rfl, rfl, rfl, rfl, rfl, rfl⟩ | ⟨k, hk, rfl, rfl, rfl, rfl, rfl, rfl, rfl⟩ | ⟨k, en, z, hk, hz, rfl, rfl, rfl, rfl, rfl, rfl, rfl⟩)
    · refine ⟨fun h1 => ?_, fun h1 => ?_⟩
      · simp only [icP, ifP, iL, iM1] at h1
        try simp only [z_nI] at h1
        try simp only [nI_add, nI_mul] at h1
        first | rw [nI_le_iff (by omega) (by omega)] at h1 | rw [nI_lt_iff (by omega) (by omega)] at h1 | rw [nI_eq_iff (by omega) (by omega)] at h1
        obtain rfl : k = 4 := by omega
        exact ⟨200, [some (.inr (.inr (20, r))), some (.inl (nI a)), some (.inl (nI 0)), none], by omega, ⟨rfl, rfl, rfl, trivial⟩, Or.inr (Or.inl ⟨0, Nat.zero_le _, rfl, rfl, rfl, rfl, rfl, rfl, rfl⟩)⟩
      · simp only [icP, ifP, iL, iM1] at h1
        try simp only [z_nI] at h1
        try simp only [nI_add, nI_mul] at h1
        first | rw [nI_le_iff (by omega) (by omega)] at h1 | rw [nI_lt_iff (by omega) (by omega)] at h1 | rw [nI_eq_iff (by omega) (by omega)] at h1
        refine ⟨a, k, p, rfl, rfl, by omega, ha, hp, 300 - (k + 1), [some (.inr (.inr (20, r))), some (.inl (nI a)), some (.inl (nI (k + 1))), none], by omega, ⟨rfl, rfl, inc_tv k, trivial⟩, Or.inl ⟨k + 1, by omega, rfl, rfl, rfl, rfl, ?_, rfl, rfl⟩⟩
        rw [hW_hW, hW_at]
        rfl
    · refine ⟨_, nI_add _ 5, by omega, fun h1 => ?_, fun h1 => ?_⟩
      · have h1 : μ.1 (r + 1) (a + 5) ≤ nI k := h1
        rw [hl, nI_le_iff (by omega) (by omega)] at h1
        rw [List.take_of_length_le (by omega)]
        exact h
      · have h1 : ¬ μ.1 (r + 1) (a + 5) ≤ nI k := h1
        rw [hl, nI_le_iff (by omega) (by omega)] at h1
        obtain ⟨en, hk2⟩ := at_of_lt (l := p.2) (k := k) (by omega)
        exact ⟨200 - 7 * k - 1, [some (.inr (.inr (20, r))), some (.inl (nI a)), some (.inl (nI k)), some (.inl (nI 0))], by omega, ⟨rfl, rfl, rfl, rfl, trivial⟩, Or.inr (Or.inr ⟨k, en, 0, hk2, Nat.zero_le _, rfl, rfl, rfl, rfl, rfl, rfl, rfl⟩)⟩
    · have hk2 : k < p.2.length := (List.getElem?_eq_some_iff.mp hk).1
      refine ⟨fun h1 => ?_, fun h1 => ?_⟩
      · simp only [icP, ifP, iL, iM1] at h1
        try simp only [z_nI] at h1
        try simp only [nI_add, nI_mul] at h1
        first | rw [nI_le_iff (by omega) (by omega)] at h1 | rw [nI_lt_iff (by omega) (by omega)] at h1 | rw [nI_eq_iff (by omega) (by omega)] at h1
        obtain rfl : z = 5 := by omega
        refine ⟨200 - 7 * (k + 1), [some (.inr (.inr (20, r))), some (.inl (nI a)), some (.inl (nI (k + 1))), none], by omega, ⟨rfl, rfl, inc_tv k, trivial⟩, Or.inr (Or.inl ⟨k + 1, by omega, rfl, rfl, rfl, rfl, ?_, rfl, rfl⟩)⟩
        rw [dgL_S hk]
      · simp only [icP, ifP, iL, iM1] at h1
        try simp only [z_nI] at h1
        try simp only [nI_add, nI_mul] at h1
        first | rw [nI_le_iff (by omega) (by omega)] at h1 | rw [nI_lt_iff (by omega) (by omega)] at h1 | rw [nI_eq_iff (by omega) (by omega)] at h1
        refine ⟨a, k, z, p, en, rfl, rfl, rfl, by omega, ha, hp, hk, hen en (List.mem_of_getElem? hk), 200 - 7 * k - 1 - (z + 1), [some (.inr (.inr (20, r))), some (.inl (nI a)), some (.inl (nI k)), some (.inl (nI (z + 1)))], by omega, ⟨rfl, rfl, rfl, inc_tv z, trivial⟩, Or.inr (Or.inr ⟨k, en, z + 1, hk, by omega, rfl, rfl, rfl, rfl, ?_, rfl, rfl⟩)⟩
        rw [hW_hW, hW_at]
        rfl
def dgR (F : Nat → Int64 → Int64) (h : Int64) : Nat → Int64
  | 0 => h
  | n + 1 => F n (dgR F h n)
def dgPs (t : Int32) (l : List PK) (h : Int64) : Int64 := l.foldl (fun h p => dgP t p h) h
theorem dgPs_S {l : List PK} {k : Nat} {p : PK} (h : l[k]? = some p) (t : Int32) (x : Int64) : dgPs t (l.take (k + 1)) x = dgP t p (dgPs t (l.take k) x) := by
  have ht : l.take (k + 1) = l.take k ++ [p] := by rw [List.take_add_one, h]; rfl
  unfold dgPs
  rw [ht, List.foldl_append]
  rfl
def dgC1 (X : CS) (b : Prop) [Decidable b] (h : Int64) : Int64 := hsR (cnV X) (Int64.ofNat 31 * h + (if b then 1 else 0)) 9
def dgC2 (X : CS) (E : Nat → Nat → Int32) (b : Prop) [Decidable b] (h : Int64) : Int64 := if b then hs (hsR (fun k => cS X (k + 1)) h 6) (nI (staleN X E)) else h
abbrev cnn (X : CS) : Prop := cS X 0 = 1
def dgC (t : Int32) (X : CS) (E : Nat → Nat → Int32) (h : Int64) : Int64 := dgPs t (flyL X) (dgR (fun e => dgE X E e (cnn X)) (dgC2 X E (cnn X) (dgC1 X (cnn X) h)) 16)
theorem flyL_mem {X : CS} {k : Nat} {p : PK} (h : (flyL X)[k]? = some p) : p ∈ cP X := (List.mem_filter.mp (List.mem_of_getElem? h)).1
def sp_X10_mixClient : SPc := fun As μ K => match As with
  | [.inr (.inr (20, r)), .inl c] => ∃ (i : Nat) (X : CS) (E : Nat → Nat → Int32), c = nI i ∧ i < 3 ∧ RC (μ.1 (r + 1)) i X ∧ bitP (cP X) ∧ (∀ p ∈ cP X, ∀ en ∈ p.2, enOK en) ∧ (∀ e, e < 16 → μ.1 (r + 1) (3 + 3 * e) = E e 0 ∧ sOK (E e 0)) ∧ (∀ e, e < 16 → sOK (cB X e 2) ∧ ∀ q ∈ cR X e, sOK q.2) ∧ K (.inl none) (hW μ r (dgC (μ.1 (r + 1) 0) X E (μ.2.2.1 r 7)))
  | _ => False
theorem iB_ne0 (p : Prop) [Decidable p] : (¬ iB p = 0) ↔ p := by rw [iB_eq0, Classical.not_not]
theorem dgE_iff (X : CS) (E : Nat → Nat → Int32) (e : Nat) (h : Int64) : dgE X E e (¬ iB (cnn X) = 0) h = dgE X E e (cnn X) h := by
  unfold dgE
  by_cases q : cnn X
  · rw [if_pos ((iB_ne0 _).mpr q), if_pos q]
  · rw [if_neg (fun z => q ((iB_ne0 _).mp z)), if_neg q]
def ct_X10_mixClient : List (Nat × CI) := [(89, ci_X10_isConnected), (222, ci_X10_mix), (198, ci_X10_countOf), (80, ci_X10_of), (201, ci_X10_staleOf), (226, ci_X10_mixEntity), (171, ci_X10_flying), (207, ci_X10_flyingCell), (230, ci_X10_mixPacket)]
def ci_X10_mixClient : CI := (yX10_mixClient, cX10_mixClient, 4, none, 2, (6, 0, 0, 137), 19, [], sp_X10_mixClient)
set_option maxRecDepth 100000 in
theorem ck_X10_mixClient : chkM ci_X10_mixClient RX10 co_X10_mixClient ct_X10_mixClient [] false false = true := by decide +kernel
set_option maxHeartbeats 4000000 in
set_option maxRecDepth 100000 in
theorem ms_X10_mixClient {g : GPT} {ot : OT} {l : Launch} (hl : l.stackTraces = false) : MS g ot l ci_X10_mixClient := by
  refine ms_of hl RX10 co_X10_mixClient ct_X10_mixClient [] false false [21,46,89,110] 82 ck_X10_mixClient (List.forall_mem_cons.mpr ⟨ms_X10_isConnected hl, List.forall_mem_cons.mpr ⟨ms_X10_mix hl, List.forall_mem_cons.mpr ⟨ms_X10_countOf hl, List.forall_mem_cons.mpr ⟨ms_X10_of hl, List.forall_mem_cons.mpr ⟨ms_X10_staleOf hl, List.forall_mem_cons.mpr ⟨ms_X10_mixEntity hl, List.forall_mem_cons.mpr ⟨ms_X10_flying hl, List.forall_mem_cons.mpr ⟨ms_X10_flyingCell hl, List.forall_mem_cons.mpr ⟨ms_X10_mixPacket hl, fun _ h => nomatch h⟩⟩⟩⟩⟩⟩⟩⟩⟩) ?_
  intro As μ K h
  simp only [ci_X10_mixClient, sp_X10_mixClient] at h
  split at h
  case h_2 => exact h.elim
  rename_i r c
  obtain ⟨i, X, E, rfl, hi, hX, hbp, hen, hE, hBR, h⟩ := h
  have c0 : μ.1 (r + 1) (51 + 2406 * i) = cS X 0 := hX.1 0 (by omega)
  have fl : flyN (cP X) ≤ 22 := Nat.le_trans (List.length_filter_le _ _) hX.2.2.1.2.1
  have tt : μ.1 (r + 1) 0 = μ.1 (r + 1) 0 := rfl
  refine ⟨Nat.le_of_ble_eq_true rfl, fun m pc lc st μ' ce sl => (∃ k, k ≤ 9 ∧ m = 200 - k ∧ pc = 21 ∧ lc = [some (.inr (.inr (20, r))), some (.inl (nI i)), some (.inl (iB (cnn X))), some (.inl (nI k))] ∧ st = [] ∧ μ' = hW μ r (hsR (cnV X) (Int64.ofNat 31 * μ.2.2.1 r 7 + (if cnn X then 1 else 0)) k) ∧ ce = 0 ∧ sl = 0) ∨
    (∃ k, k ≤ 6 ∧ (k = 0 ∨ cnn X) ∧ m = 100 - k ∧ pc = 46 ∧ lc = [some (.inr (.inr (20, r))), some (.inl (nI i)), some (.inl (iB (cnn X))), some (.inl (nI (k + 1)))] ∧ st = [] ∧ μ' = hW μ r (hsR (fun k => cS X (k + 1)) (dgC1 X (cnn X) (μ.2.2.1 r 7)) k) ∧ ce = 0 ∧ sl = 0) ∨
    (∃ k, k ≤ 16 ∧ m = 80 - k ∧ pc = 89 ∧ lc = [some (.inr (.inr (20, r))), some (.inl (nI i)), some (.inl (iB (cnn X))), some (.inl (nI k))] ∧ st = [] ∧ μ' = hW μ r (dgR (fun e => dgE X E e (cnn X)) (dgC2 X E (cnn X) (dgC1 X (cnn X) (μ.2.2.1 r 7))) k) ∧ ce = 0 ∧ sl = 0) ∨
    (∃ k, k ≤ flyN (cP X) ∧ m = 40 - k ∧ pc = 110 ∧ lc = [some (.inr (.inr (20, r))), some (.inl (nI i)), some (.inl (iB (cnn X))), some (.inl (nI k))] ∧ st = [] ∧ μ' = hW μ r (dgPs (μ.1 (r + 1) 0) ((flyL X).take k) (dgR (fun e => dgE X E e (cnn X)) (dgC2 X E (cnn X) (dgC1 X (cnn X) (μ.2.2.1 r 7))) 16)) ∧ ce = 0 ∧ sl = 0), ?_, ?_⟩
  · refine ⟨i, rfl, hi, fun h1 => ?_, fun h1 => ?_⟩
    · have h1 : iB (μ.1 (r + 1) (51 + 2406 * i) = 1) = 0 := h1
      rw [iB_eq0, c0] at h1
      refine ⟨200, [some (.inr (.inr (20, r))), some (.inl (nI i)), some (.inl (iB (cnn X))), some (.inl (nI 0))], ⟨rfl, rfl, ?_, rfl, trivial⟩, Or.inl ⟨0, Nat.zero_le _, rfl, rfl, rfl, rfl, ?_, rfl, rfl⟩⟩
      · show (some (.inl (iB (μ.1 (r + 1) (51 + 2406 * i) = 1))) : Option TV) = _
        simp only [c0]
      · show _ = hW μ r (Int64.ofNat 31 * μ.2.2.1 r 7 + (if cnn X then 1 else 0))
        rw [if_neg h1]
        rfl
    · have h1 : ¬ iB (μ.1 (r + 1) (51 + 2406 * i) = 1) = 0 := h1
      rw [iB_ne0, c0] at h1
      refine ⟨200, [some (.inr (.inr (20, r))), some (.inl (nI i)), some (.inl (iB (cnn X))), some (.inl (nI 0))], ⟨rfl, rfl, ?_, rfl, trivial⟩, Or.inl ⟨0, Nat.zero_le _, rfl, rfl, rfl, rfl, ?_, rfl, rfl⟩⟩
      · show (some (.inl (iB (μ.1 (r + 1) (51 + 2406 * i) = 1))) : Option TV) = _
        simp only [c0]
      · show _ = hW μ r (Int64.ofNat 31 * μ.2.2.1 r 7 + (if cnn X then 1 else 0))
        rw [if_pos h1]
        rfl
  · rintro m pc lc st μ' ce sl (⟨k, hk, rfl, rfl, rfl, rfl, rfl, rfl, rfl⟩ | ⟨k, hk, hkb, rfl, rfl, rfl, rfl, rfl, rfl, rfl⟩ | ⟨k, hk, rfl, rfl, rfl, rfl, rfl, rfl, rfl⟩ | ⟨k, hk, rfl, rfl, rfl, rfl, rfl, rfl, rfl⟩)
    · refine ⟨fun h1 => ?_, fun h1 => ?_⟩
      · simp only [icP, ifP, iL, iM1] at h1
        try simp only [z_nI] at h1
        try simp only [nI_add, nI_mul] at h1
        first | rw [nI_le_iff (by omega) (by omega)] at h1 | rw [nI_lt_iff (by omega) (by omega)] at h1 | rw [nI_eq_iff (by omega) (by omega)] at h1
        obtain rfl : k = 9 := by omega
        exact ⟨100, [some (.inr (.inr (20, r))), some (.inl (nI i)), some (.inl (iB (cnn X))), some (.inl (nI (0 + 1)))], by omega, ⟨rfl, rfl, rfl, rfl, trivial⟩, Or.inr (Or.inl ⟨0, Nat.zero_le _, Or.inl rfl, rfl, rfl, rfl, rfl, rfl, rfl, rfl⟩)⟩
      · simp only [icP, ifP, iL, iM1] at h1
        try simp only [z_nI] at h1
        try simp only [nI_add, nI_mul] at h1
        first | rw [nI_le_iff (by omega) (by omega)] at h1 | rw [nI_lt_iff (by omega) (by omega)] at h1 | rw [nI_eq_iff (by omega) (by omega)] at h1
        refine ⟨i, k, X, rfl, rfl, hi, by omega, hX, hbp, 200 - (k + 1), [some (.inr (.inr (20, r))), some (.inl (nI i)), some (.inl (iB (cnn X))), some (.inl (nI (k + 1)))], by omega, ⟨rfl, rfl, rfl, inc_tv k, trivial⟩, Or.inl ⟨k + 1, by omega, rfl, rfl, rfl, rfl, ?_, rfl, rfl⟩⟩
        rw [hW_hW, hW_at]
        rfl
    · refine ⟨fun h1 => ?_, fun h1 => ⟨fun h2 => ?_, fun h2 => ?_⟩⟩
      · have h1 : nI 6 < nI (k + 1) := h1
        rw [nI_lt_iff (by omega) (by omega)] at h1
        obtain rfl : k = 6 := by omega
        have hb : cnn X := hkb.resolve_left (by omega)
        refine ⟨fun h2 => absurd hb ((iB_eq0 _).mp h2), fun h2 => ⟨i, X, E, rfl, hi, hX, hE, 80, [some (.inr (.inr (20, r))), some (.inl (nI i)), some (.inl (iB (cnn X))), some (.inl (nI 0))], by omega, ⟨rfl, rfl, rfl, rfl, trivial⟩, Or.inr (Or.inr (Or.inl ⟨0, Nat.zero_le _, rfl, rfl, rfl, rfl, ?_, rfl, rfl⟩))⟩⟩
        rw [hW_hW, hW_at]
        show _ = hW μ r (dgC2 X E (cnn X) (dgC1 X (cnn X) (μ.2.2.1 r 7)))
        have e : dgC2 X E (cnn X) (dgC1 X (cnn X) (μ.2.2.1 r 7)) = hs (hsR (fun k => cS X (k + 1)) (dgC1 X (cnn X) (μ.2.2.1 r 7)) 6) (nI (staleN X E)) := if_pos hb
        rw [e]
        rfl
      · have h2 : ¬ cnn X := (iB_eq0 _).mp h2
        obtain rfl : k = 0 := hkb.resolve_right h2
        refine ⟨fun h3 => ?_, fun h3 => absurd ((iB_ne0 _).mp h3) h2⟩
        refine ⟨80, [some (.inr (.inr (20, r))), some (.inl (nI i)), some (.inl (iB (cnn X))), some (.inl (nI 0))], by omega, ⟨rfl, rfl, rfl, rfl, trivial⟩, Or.inr (Or.inr (Or.inl ⟨0, Nat.zero_le _, rfl, rfl, rfl, rfl, ?_, rfl, rfl⟩))⟩
        show _ = hW μ r (dgC2 X E (cnn X) (dgC1 X (cnn X) (μ.2.2.1 r 7)))
        have e : dgC2 X E (cnn X) (dgC1 X (cnn X) (μ.2.2.1 r 7)) = dgC1 X (cnn X) (μ.2.2.1 r 7) := if_neg h2
        rw [e]
        rfl
      · have h2 : cnn X := (iB_ne0 _).mp h2
        have h1 : ¬ nI 6 < nI (k + 1) := h1
        rw [nI_lt_iff (by omega) (by omega)] at h1
        refine ⟨i, k + 1, rfl, rfl, by omega, 100 - (k + 1), [some (.inr (.inr (20, r))), some (.inl (nI i)), some (.inl (iB (cnn X))), some (.inl (nI (k + 1 + 1)))], by omega, ⟨rfl, rfl, rfl, inc_tv (k + 1), trivial⟩, Or.inr (Or.inl ⟨k + 1, by omega, Or.inr h2, rfl, rfl, rfl, rfl, ?_, rfl, rfl⟩)⟩
        rw [hW_hW, hW_at]
        show hW μ r (Int64.ofNat 31 * _ + (μ.1 (r + 1) (51 + 2406 * i + (k + 1))).toInt64) = hW μ r (Int64.ofNat 31 * _ + (cS X (k + 1)).toInt64)
        rw [hX.1 (k + 1) (by omega)]
    · refine ⟨fun h1 => ?_, fun h1 => ?_⟩
      · simp only [icP, ifP, iL, iM1] at h1
        try simp only [z_nI] at h1
        try simp only [nI_add, nI_mul] at h1
        first | rw [nI_le_iff (by omega) (by omega)] at h1 | rw [nI_lt_iff (by omega) (by omega)] at h1 | rw [nI_eq_iff (by omega) (by omega)] at h1
        obtain rfl : k = 16 := by omega
        exact ⟨40, [some (.inr (.inr (20, r))), some (.inl (nI i)), some (.inl (iB (cnn X))), some (.inl (nI 0))], by omega, ⟨rfl, rfl, rfl, rfl, trivial⟩, Or.inr (Or.inr (Or.inr ⟨0, Nat.zero_le _, rfl, rfl, rfl, rfl, rfl, rfl, rfl⟩))⟩
      · simp only [icP, ifP, iL, iM1] at h1
        try simp only [z_nI] at h1
        try simp only [nI_add, nI_mul] at h1
        first | rw [nI_le_iff (by omega) (by omega)] at h1 | rw [nI_lt_iff (by omega) (by omega)] at h1 | rw [nI_eq_iff (by omega) (by omega)] at h1
        refine ⟨i, k, X, E, rfl, rfl, hi, by omega, hX, hE k (by omega), (hBR k (by omega)).1, (hBR k (by omega)).2, 80 - (k + 1), [some (.inr (.inr (20, r))), some (.inl (nI i)), some (.inl (iB (cnn X))), some (.inl (nI (k + 1)))], by omega, ⟨rfl, rfl, rfl, inc_tv k, trivial⟩, Or.inr (Or.inr (Or.inl ⟨k + 1, by omega, rfl, rfl, rfl, rfl, ?_, rfl, rfl⟩))⟩
        rw [hW_hW, hW_at, dgE_iff]
        rfl
    · refine ⟨i, X, rfl, hi, hX, hbp, fun h1 => ?_, fun h1 => ?_⟩
      · simp only [icP, ifP, iL, iM1] at h1
        try simp only [z_nI] at h1
        try simp only [nI_add, nI_mul] at h1
        first | rw [nI_le_iff (by omega) (by omega)] at h1 | rw [nI_lt_iff (by omega) (by omega)] at h1 | rw [nI_eq_iff (by omega) (by omega)] at h1
        rw [List.take_of_length_le (by show flyN (cP X) ≤ k; omega)]
        exact h
      · simp only [icP, ifP, iL, iM1] at h1
        try simp only [z_nI] at h1
        try simp only [nI_add, nI_mul] at h1
        first | rw [nI_le_iff (by omega) (by omega)] at h1 | rw [nI_lt_iff (by omega) (by omega)] at h1 | rw [nI_eq_iff (by omega) (by omega)] at h1
        refine ⟨i, X, rfl, hi, hX, fun a j p hj hp hpm hrp ha0 ha => ?_, fun hno => absurd rfl (hno k (by omega))⟩
        have hj2 : j < flyN (cP X) := (List.getElem?_eq_some_iff.mp hp).1
        have := nI_inj (by omega) (by omega) hj
        subst this
        refine ⟨a, p, rfl, ha, hrp, hen p hpm, 40 - (k + 1), [some (.inr (.inr (20, r))), some (.inl (nI i)), some (.inl (iB (cnn X))), some (.inl (nI (k + 1)))], by omega, ⟨rfl, rfl, rfl, inc_tv k, trivial⟩, Or.inr (Or.inr (Or.inr ⟨k + 1, by omega, rfl, rfl, rfl, rfl, ?_, rfl, rfl⟩))⟩
        rw [hW_hW, hW_at, dgPs_S hp]
        rfl
