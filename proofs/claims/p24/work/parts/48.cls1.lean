/-! THE CLASS, its states. -/
/-- the old rows State.SHIFTS (91) and State.MASKS (92) -/
def otOK (ot : OT) : Prop := ot.1 91 = 4 ∧ ot.1 92 = 4 ∧ (ot.2 91 0 = 0 ∧ ot.2 91 1 = 5 ∧ ot.2 91 2 = 10 ∧ ot.2 91 3 = 12) ∧ (ot.2 92 0 = 31 ∧ ot.2 92 1 = 31 ∧ ot.2 92 2 = 3 ∧ ot.2 92 3 = 127)
theorem nI_or' (a b : Nat) : nI a ||| nI b = nI (a ||| b) := by
  apply Int32.toBitVec_inj.1
  show BitVec.ofNat 32 a ||| BitVec.ofNat 32 b = BitVec.ofNat 32 (a ||| b)
  apply BitVec.eq_of_getLsbD_eq
  intro i hi
  simp [hi]
theorem or_add (n : Nat) {a : Nat} (b : Nat) (h : a < 2 ^ n) : a ||| b * 2 ^ n = a + b * 2 ^ n := by
  rw [Nat.or_comm, Nat.mul_comm, ← Nat.two_pow_add_eq_or_of_lt h b, Nat.add_comm]
theorem shN (n k : Nat) (s : Int32) (hs : ((s &&& 31).toBitVec.smod 32).toNat = k) (h : n * 2 ^ k < 2 ^ 32) : nI n <<< (s &&& 31) = nI (n * 2 ^ k) := pk_shlN _ k hs h
theorem sh_ot {ot : OT} (hot : otOK ot) {k : Nat} (hk : k < 4) : ((ot.2 91 k &&& 31).toBitVec.smod 32).toNat = (if k = 0 then 0 else if k = 1 then 5 else if k = 2 then 10 else 12) := by
  obtain ⟨_, _, ⟨h0, h1, h2, h3⟩, _⟩ := hot
  match k, hk with
  | 0, _ => rw [h0]; decide +kernel
  | 1, _ => rw [h1]; decide +kernel
  | 2, _ => rw [h2]; decide +kernel
  | 3, _ => rw [h3]; decide +kernel
theorem pk_or {a b c d : Nat} (ha : a < 32) (hb : b < 32) (hc : c < 4) : a ||| b * 2 ^ 5 ||| c * 2 ^ 10 ||| d * 2 ^ 12 = pkN a b c d := by
  rw [or_add 5 b (by omega), or_add 10 c (by omega), or_add 12 d (by omega)]
  unfold pkN
  omega
def sp_X6_of : SPc := fun As μ K => match As with
  | [.inl x, .inl y, .inl k, .inl h] => ∃ a b c d : Nat, x = nI a ∧ y = nI b ∧ k = nI c ∧ h = nI d ∧ a < 32 ∧ b < 32 ∧ c < 4 ∧ d < 128 ∧ K (.inl (some (.inl (nI (pkN a b c d))))) μ
  | _ => False
def ct_X6_of : List (Nat × CI) := []
def ci_X6_of : CI := (yX6_of, cX6_of, 4, some .int, 4, (0, 0, 0, 0), 0, [], sp_X6_of)
set_option maxRecDepth 100000 in
theorem ck_X6_of : chkM ci_X6_of RX6 co_X6_of ct_X6_of [] false false = true := by decide +kernel
set_option maxHeartbeats 4000000 in
set_option maxRecDepth 100000 in
theorem ms_X6_of {g : GPT} {ot : OT} {l : Launch} (hl : l.stackTraces = false) (hot : otOK ot) : MS g ot l ci_X6_of := by
  refine ms0_of hl RX6 co_X6_of ct_X6_of [] false false 29 ck_X6_of (fun _ h => nomatch h) ?_
  intro As μ K h
  simp only [ci_X6_of, sp_X6_of] at h
  split at h
  case h_2 => exact h.elim
  obtain ⟨a, b, c, d, rfl, rfl, rfl, rfl, ha, hb, hc, hd, h⟩ := h
  have l1 := hot.1
  refine ⟨Nat.le_of_ble_eq_true rfl, fun _ => ⟨0, rfl, by omega, fun _ => ⟨1, rfl, by omega, fun _ => ⟨2, rfl, by omega, fun _ => ⟨3, rfl, by omega, ?_⟩⟩⟩⟩⟩
  show K (.inl (some (.inl (nI a <<< (ot.2 91 0 &&& 31) ||| nI b <<< (ot.2 91 1 &&& 31) ||| nI c <<< (ot.2 91 2 &&& 31) ||| nI d <<< (ot.2 91 3 &&& 31))))) μ
  rw [shN a 0 _ (sh_ot hot (by omega)) (by omega), shN b 5 _ (sh_ot hot (by omega)) (by omega), shN c 10 _ (sh_ot hot (by omega)) (by omega), shN d 12 _ (sh_ot hot (by omega)) (by omega), nI_or', nI_or', nI_or', Nat.pow_zero, Nat.mul_one, pk_or ha hb hc]
  exact h
theorem part_ot {ot : OT} (hot : otOK ot) {n k : Nat} (hn : n < 524288) (hk : k < 4) : nI n >>> (ot.2 91 k &&& 31) &&& ot.2 92 k = nI (prt n k) := by
  have hs := sh_ot hot hk
  obtain ⟨_, _, _, ⟨m0, m1, m2, m3⟩⟩ := hot
  match k, hk with
  | 0, _ =>
    rw [pk_shrN (by omega) _ 0 hs, m0, pk_andN (by omega) 5 (by decide +kernel)]
    congr 1
    simp only [prt]
    omega
  | 1, _ =>
    rw [pk_shrN (by omega) _ 5 hs, m1, pk_andN (by omega) 5 (by decide +kernel)]
    congr 1
  | 2, _ =>
    rw [pk_shrN (by omega) _ 10 hs, m2, pk_andN (by omega) 2 (by decide +kernel)]
    congr 1
  | 3, _ =>
    rw [pk_shrN (by omega) _ 12 hs, m3, pk_andN (by omega) 7 (by decide +kernel)]
    congr 1
    simp only [prt]
    omega
theorem part_ot' {ot : OT} (hot : otOK ot) {s : Int32} {k : Nat} (hs : sOK s) (hq : ¬ s = -1) (hk : k < 4) : s >>> (ot.2 91 k &&& 31) &&& ot.2 92 k = nI (pz s k) := by
  obtain ⟨n, n1, n2, n3⟩ := sOK_ne hs hq
  have e : pz s k = prt n k := by unfold pz; rw [if_neg hq, n3]
  rw [e, n2]
  exact part_ot hot n1 hk
def sp_X6_part : SPc := fun As μ K => match As with
  | [.inl s, .inl w] => ∃ k : Nat, w = nI k ∧ k < 4 ∧ sOK s ∧ K (.inl (some (.inl (nI (pz s k))))) μ
  | _ => False
def ct_X6_part : List (Nat × CI) := []
def ci_X6_part : CI := (yX6_part, cX6_part, 2, some .int, 2, (0, 0, 0, 0), 0, [], sp_X6_part)
set_option maxRecDepth 100000 in
theorem ck_X6_part : chkM ci_X6_part RX6 co_X6_part ct_X6_part [] false false = true := by decide +kernel
set_option maxHeartbeats 4000000 in
set_option maxRecDepth 100000 in
theorem ms_X6_part {g : GPT} {ot : OT} {l : Launch} (hl : l.stackTraces = false) (hot : otOK ot) : MS g ot l ci_X6_part := by
  refine ms0_of hl RX6 co_X6_part ct_X6_part [] false false 25 ck_X6_part (fun _ h => nomatch h) ?_
  intro As μ K h
  simp only [ci_X6_part, sp_X6_part] at h
  split at h
  case h_2 => exact h.elim
  rename_i s w
  obtain ⟨k, rfl, hk, hs, h⟩ := h
  have l1 := hot.1
  have l2 := hot.2.1
  refine ⟨Nat.le_of_ble_eq_true rfl, fun h1 => ?_, fun h1 => ⟨fun h2 => ?_, fun h2 => ⟨fun h3 => ?_, fun h3 => ?_⟩⟩⟩
  · have e : pz s k = 0 := if_pos h1
    rw [e] at h
    exact h
  · simp only [icP, ifP, iL, iM1] at h2
    try simp only [z_nI] at h2
    try simp only [nI_add, nI_mul] at h2
    first | rw [nI_le_iff (by omega) (by omega)] at h2 | rw [nI_lt_iff (by omega) (by omega)] at h2 | rw [nI_eq_iff (by omega) (by omega)] at h2
    omega
  · have h1 : ¬ s = -1 := h1
    refine fun _ => ⟨k, rfl, by omega, fun _ => ⟨k, rfl, by omega, ?_⟩⟩
    rw [← part_ot' hot hs h1 hk] at h
    exact h
  · simp only [icP, ifP, iL, iM1] at h3
    try simp only [z_nI] at h3
    try simp only [nI_add, nI_mul] at h3
    first | rw [nI_le_iff (by omega) (by omega)] at h3 | rw [nI_lt_iff (by omega) (by omega)] at h3 | rw [nI_eq_iff (by omega) (by omega)] at h3
    omega
theorem pz_nI {n : Nat} (hn : n < 524288) (k : Nat) : pz (nI n) k = prt n k := by
  unfold pz
  rw [if_neg (nI_ne_m1 (by omega)), sN_nI hn]
theorem sOK_nI {n : Nat} (hn : n < 524288) : sOK (nI n) := Or.inr ⟨n, hn, rfl⟩
def sp_X6_maskOfDifferences : SPc := fun As μ K => match As with
  | [.inl s, .inl t] => ∃ a b : Nat, s = nI a ∧ t = nI b ∧ a < 524288 ∧ b < 524288 ∧ K (.inl (some (.inl (nI (mkN a b))))) μ
  | _ => False
def ct_X6_maskOfDifferences : List (Nat × CI) := [(18, ci_X6_part)]
def ci_X6_maskOfDifferences : CI := (yX6_maskOfDifferences, cX6_maskOfDifferences, 4, some .int, 2, (1, 0, 0, 21), 0, [], sp_X6_maskOfDifferences)
set_option maxRecDepth 100000 in
theorem ck_X6_maskOfDifferences : chkM ci_X6_maskOfDifferences RX6 co_X6_maskOfDifferences ct_X6_maskOfDifferences [] false false = true := by decide +kernel
set_option maxHeartbeats 4000000 in
set_option maxRecDepth 100000 in
theorem ms_X6_maskOfDifferences {g : GPT} {ot : OT} {l : Launch} (hl : l.stackTraces = false) (hot : otOK ot) : MS g ot l ci_X6_maskOfDifferences := by
  refine ms_of hl RX6 co_X6_maskOfDifferences ct_X6_maskOfDifferences [] false false [4] 29 ck_X6_maskOfDifferences (List.forall_mem_cons.mpr ⟨ms_X6_part hl hot, fun _ h => nomatch h⟩) ?_
  intro As μ K h
  simp only [ci_X6_maskOfDifferences, sp_X6_maskOfDifferences] at h
  split at h
  case h_2 => exact h.elim
  obtain ⟨a, b, rfl, rfl, ha, hb, h⟩ := h
  refine ⟨Nat.le_of_ble_eq_true rfl, fun n pc lc st μ' ce sl => ∃ i, i ≤ 4 ∧ n = 4 - i ∧ pc = 4 ∧ lc = [some (.inl (nI a)), some (.inl (nI b)), some (.inl (nI (mkR a b i))), some (.inl (nI i))] ∧ st = [] ∧ μ' = μ ∧ ce = 0 ∧ sl = 0, ?_, ?_⟩
  · exact ⟨4, [some (.inl (nI a)), some (.inl (nI b)), some (.inl (nI 0)), some (.inl (nI 0))], ⟨rfl, rfl, rfl, rfl, trivial⟩, 0, Nat.zero_le _, rfl, rfl, rfl, rfl, rfl, rfl, rfl⟩
  · rintro n pc lc st μ' ce sl ⟨i, hi, rfl, rfl, rfl, rfl, rfl, rfl, rfl⟩
    refine ⟨fun h1 => ?_, fun h1 => ?_⟩
    · simp only [icP, ifP, iL, iM1] at h1
      try simp only [z_nI] at h1
      try simp only [nI_add, nI_mul] at h1
      first | rw [nI_le_iff (by omega) (by omega)] at h1 | rw [nI_lt_iff (by omega) (by omega)] at h1 | rw [nI_eq_iff (by omega) (by omega)] at h1
      obtain rfl : i = 4 := by omega
      exact h
    · simp only [icP, ifP, iL, iM1] at h1
      try simp only [z_nI] at h1
      try simp only [nI_add, nI_mul] at h1
      first | rw [nI_le_iff (by omega) (by omega)] at h1 | rw [nI_lt_iff (by omega) (by omega)] at h1 | rw [nI_eq_iff (by omega) (by omega)] at h1
      have hp := prt_lt ha i
      have hq := prt_lt hb i
      have hl := mkR_lt a b i
      have hl2 : 2 ^ i ≤ 2 ^ 3 := Nat.pow_le_pow_right (by omega) (by omega)
      refine ⟨i, rfl, by omega, sOK_nI ha, i, rfl, by omega, sOK_nI hb, fun h2 => ?_, fun h2 => ?_⟩
      · have h2 : nI (pz (nI a) i) = nI (pz (nI b) i) := h2
        rw [pz_nI ha, pz_nI hb, nI_eq_iff (by omega) (by omega)] at h2
        refine ⟨4 - (i + 1), [some (.inl (nI a)), some (.inl (nI b)), some (.inl (nI (mkR a b (i + 1)))), some (.inl (nI (i + 1)))], by omega, ⟨rfl, rfl, ?_, inc_tv i, trivial⟩, i + 1, by omega, rfl, rfl, rfl, rfl, rfl, rfl, rfl⟩
        simp only [mkR, if_pos h2, Nat.or_zero]
      · have h2 : ¬ nI (pz (nI a) i) = nI (pz (nI b) i) := h2
        rw [pz_nI ha, pz_nI hb, nI_eq_iff (by omega) (by omega)] at h2
        refine ⟨4 - (i + 1), [some (.inl (nI a)), some (.inl (nI b)), some (.inl (nI (mkR a b (i + 1)))), some (.inl (nI (i + 1)))], by omega, ⟨rfl, rfl, ?_, inc_tv i, trivial⟩, i + 1, by omega, rfl, rfl, rfl, rfl, rfl, rfl, rfl⟩
        show (some (.inl (nI (mkR a b i) ||| (Int32.ofInt 1 <<< (nI i &&& 31)))) : Option TV) = _
        rw [shl1 (by omega), nI_or']
        simp only [mkR, if_neg h2]
/-- the state so far -/
def xF (a b m k : Nat) : Nat := prt (if m / 2 ^ k % 2 = 0 then a else b) k
def mxK (a b m : Nat) : Nat → Nat
  | 0 => 0
  | k + 1 => mxK a b m k + xF a b m k * 2 ^ (if k = 0 then 0 else if k = 1 then 5 else if k = 2 then 10 else 12)
theorem mxK_4 (a b m : Nat) : mxK a b m 4 = mxN a b m := by
  have e0 : xF a b m 0 = prt (if m % 2 = 0 then a else b) 0 := by
    unfold xF
    rw [show m / 2 ^ 0 = m by omega]
  have e1 : xF a b m 1 = prt (if m / 2 % 2 = 0 then a else b) 1 := rfl
  have e2 : xF a b m 2 = prt (if m / 4 % 2 = 0 then a else b) 2 := rfl
  have e3 : xF a b m 3 = prt (if m / 8 % 2 = 0 then a else b) 3 := rfl
  unfold mxN pkN
  rw [← e0, ← e1, ← e2, ← e3]
  show 0 + xF a b m 0 * 1 + xF a b m 1 * 32 + xF a b m 2 * 1024 + xF a b m 3 * 4096 = _
  omega
theorem mxK_lt {a b m : Nat} {k : Nat} (hk : k < 4) : mxK a b m k < 2 ^ (if k = 0 then 0 else if k = 1 then 5 else if k = 2 then 10 else 12) := by
  have h0 : xF a b m 0 < 32 := by unfold xF; simp only [prt]; omega
  have h1 : xF a b m 1 < 32 := by unfold xF; simp only [prt]; omega
  have h2 : xF a b m 2 < 4 := by unfold xF; simp only [prt]; omega
  match k, hk with
  | 0, _ => show 0 < 1; omega
  | 1, _ => show 0 + xF a b m 0 * 1 < 32; omega
  | 2, _ => show 0 + xF a b m 0 * 1 + xF a b m 1 * 32 < 1024; omega
  | 3, _ => show 0 + xF a b m 0 * 1 + xF a b m 1 * 32 + xF a b m 2 * 1024 < 4096; omega
theorem mbitK : ∀ m, m < 16 → ∀ k, k < 4 → ((nI m &&& (Int32.ofInt 1 <<< (nI k &&& 31)) = 0) ↔ m / 2 ^ k % 2 = 0) := by decide +kernel
def sp_X6_withParts : SPc := fun As μ K => match As with
  | [.inl s, .inl t, .inl w] => ∃ a b m : Nat, s = nI a ∧ t = nI b ∧ w = nI m ∧ a < 524288 ∧ b < 524288 ∧ m < 16 ∧ K (.inl (some (.inl (nI (mxN a b m))))) μ
  | _ => False
def wpL (a b m k : Nat) : LC := [some (.inl (nI a)), some (.inl (nI b)), some (.inl (nI m)), some (.inl (nI (mxK a b m k))), some (.inl (nI k)), none]
def ct_X6_withParts : List (Nat × CI) := [(18, ci_X6_part)]
def ci_X6_withParts : CI := (yX6_withParts, cX6_withParts, 6, some .int, 3, (1, 0, 0, 21), 0, [], sp_X6_withParts)
set_option maxRecDepth 100000 in
theorem ck_X6_withParts : chkM ci_X6_withParts RX6 co_X6_withParts ct_X6_withParts [] false false = true := by decide +kernel
set_option maxHeartbeats 4000000 in
set_option maxRecDepth 100000 in
theorem ms_X6_withParts {g : GPT} {ot : OT} {l : Launch} (hl : l.stackTraces = false) (hot : otOK ot) : MS g ot l ci_X6_withParts := by
  refine ms_of hl RX6 co_X6_withParts ct_X6_withParts [] false false [5] 36 ck_X6_withParts (List.forall_mem_cons.mpr ⟨ms_X6_part hl hot, fun _ h => nomatch h⟩) ?_
  intro As μ K h
  simp only [ci_X6_withParts, sp_X6_withParts] at h
  split at h
  case h_2 => exact h.elim
  obtain ⟨a, b, m, rfl, rfl, rfl, ha, hb, hm, h⟩ := h
  have l1 := hot.1
  refine ⟨Nat.le_of_ble_eq_true rfl, fun n pc lc st μ' ce sl => ∃ k, k ≤ 4 ∧ n = 4 - k ∧ pc = 5 ∧ lc = wpL a b m k ∧ st = [] ∧ μ' = μ ∧ ce = 0 ∧ sl = 0, ?_, ?_⟩
  · exact ⟨4, wpL a b m 0, ⟨rfl, rfl, rfl, rfl, rfl, trivial⟩, 0, Nat.zero_le _, rfl, rfl, rfl, rfl, rfl, rfl, rfl⟩
  · rintro n pc lc st μ' ce sl ⟨k, hk, rfl, rfl, rfl, rfl, rfl, rfl, rfl⟩
    refine ⟨fun h1 => ?_, fun h1 => ?_⟩
    · simp only [icP, ifP, iL, iM1] at h1
      try simp only [z_nI] at h1
      try simp only [nI_add, nI_mul] at h1
      first | rw [nI_le_iff (by omega) (by omega)] at h1 | rw [nI_lt_iff (by omega) (by omega)] at h1 | rw [nI_eq_iff (by omega) (by omega)] at h1
      obtain rfl : k = 4 := by omega
      rw [← mxK_4] at h
      exact h
    · simp only [icP, ifP, iL, iM1] at h1
      try simp only [z_nI] at h1
      try simp only [nI_add, nI_mul] at h1
      first | rw [nI_le_iff (by omega) (by omega)] at h1 | rw [nI_lt_iff (by omega) (by omega)] at h1 | rw [nI_eq_iff (by omega) (by omega)] at h1
      have fin : ∀ x : Nat, x < 524288 → x = (if m / 2 ^ k % 2 = 0 then a else b) → (some (.inl (nI (mxK a b m k) ||| nI (pz (nI x) k) <<< (ot.2 91 k &&& 31))) : Option TV) = some (.inl (nI (mxK a b m (k + 1)))) := fun x hx he => by
        have hp := prt_lt hx k
        have hsh := sh_ot hot (k := k) (by omega)
        have hp12 : 2 ^ (if k = 0 then 0 else if k = 1 then 5 else if k = 2 then 10 else 12) ≤ 2 ^ 12 := Nat.pow_le_pow_right (by omega) (by split <;> (try split) <;> (try split) <;> omega)
        rw [pz_nI hx, shN _ _ _ hsh (by
          have := Nat.mul_lt_mul_of_lt_of_le hp hp12 (by omega)
          omega), nI_or', or_add _ _ (mxK_lt (by omega)), he]
        rfl
      refine ⟨fun h2 => ?_, fun h2 => ?_⟩
      · have h2 := (mbitK m hm k (by omega)).mp h2
        exact ⟨k, rfl, by omega, sOK_nI ha, fun _ => ⟨k, rfl, by omega, 4 - (k + 1), wpL a b m (k + 1), by omega, ⟨rfl, rfl, rfl, fin a ha (if_pos h2).symm, inc_tv k, trivial⟩, k + 1, by omega, rfl, rfl, rfl, rfl, rfl, rfl, rfl⟩⟩
      · have h2 : ¬ m / 2 ^ k % 2 = 0 := fun q => h2 ((mbitK m hm k (by omega)).mpr q)
        exact ⟨k, rfl, by omega, sOK_nI hb, fun _ => ⟨k, rfl, by omega, 4 - (k + 1), wpL a b m (k + 1), by omega, ⟨rfl, rfl, rfl, fin b hb (if_neg h2).symm, inc_tv k, trivial⟩, k + 1, by omega, rfl, rfl, rfl, rfl, rfl, rfl, rfl⟩⟩
