/-! THE CLASS, its packets: at q (kind 11), entries in the rows q + 1 .. q + 5. -/
def shu (x : Int32) (k : Nat) : Int32 := (x.toUInt32 >>> ((Int32.ofInt k).toUInt32 &&& Int32.toUInt32 31)).toInt32
def bc1 (x : Int32) : Int32 := x - (shu x 1 &&& Int32.ofNat 1431655765)
def bc2 (x : Int32) : Int32 := (x &&& Int32.ofNat 858993459) + (shu x 2 &&& Int32.ofNat 858993459)
def bc3 (x : Int32) : Int32 := x + shu x 4 &&& Int32.ofNat 252645135
def bc4 (x : Int32) : Int32 := x + shu x 8
def bc5 (x : Int32) : Int32 := x + shu x 16
theorem bc_all : ∀ m, m < 16 → bc5 (bc4 (bc3 (bc2 (bc1 (nI m))))) &&& Int32.ofInt 63 = nI (bts m) := by decide +kernel
def sp_J6_bitCount_0f7a4 : SPc := fun As μ K => match As with
  | [.inl v] => ∃ m : Nat, v = nI m ∧ m < 16 ∧ K (.inl (some (.inl (nI (bts m))))) μ
  | _ => False
def ct_J6_bitCount_0f7a4 : List (Nat × CI) := []
def ci_J6_bitCount_0f7a4 : CI := (yJ6_bitCount_0f7a4, cJ6_bitCount_0f7a4, 1, some .int, 1, (0, 0, 0, 0), 0, [], sp_J6_bitCount_0f7a4)
set_option maxRecDepth 100000 in
theorem ck_J6_bitCount_0f7a4 : chkM ci_J6_bitCount_0f7a4 RJ6 co_J6_bitCount_0f7a4 ct_J6_bitCount_0f7a4 [] false false = true := by decide +kernel
set_option maxHeartbeats 4000000 in
set_option maxRecDepth 100000 in
theorem ms_J6_bitCount_0f7a4 {g : GPT} {ot : OT} {l : Launch} (hl : l.stackTraces = false) : MS g ot l ci_J6_bitCount_0f7a4 := by
  refine ms0_of hl RJ6 co_J6_bitCount_0f7a4 ct_J6_bitCount_0f7a4 [] false false 47 ck_J6_bitCount_0f7a4 (fun _ h => nomatch h) ?_
  intro As μ K h
  simp only [ci_J6_bitCount_0f7a4, sp_J6_bitCount_0f7a4] at h
  split at h
  case h_2 => exact h.elim
  rename_i v
  obtain ⟨m, rfl, hm, h⟩ := h
  refine ⟨Nat.le_of_ble_eq_true rfl, ?_⟩
  rw [← bc_all m hm] at h
  exact h
def bysP (k : Int32) (m : Nat) : Int32 := if k = 0 then 2 else nI (2 + bts m)
def sp_X3_bytesFor : SPc := fun As μ K => match As with
  | [.inl k, .inl v] => ∃ m : Nat, v = nI m ∧ m < 16 ∧ K (.inl (some (.inl (bysP k m)))) μ
  | _ => False
def ct_X3_bytesFor : List (Nat × CI) := [(53, ci_J6_bitCount_0f7a4)]
def ci_X3_bytesFor : CI := (yX3_bytesFor, cX3_bytesFor, 2, some .int, 2, (1, 0, 0, 20), 0, [], sp_X3_bytesFor)
set_option maxRecDepth 100000 in
theorem ck_X3_bytesFor : chkM ci_X3_bytesFor RX3 co_X3_bytesFor ct_X3_bytesFor [] false false = true := by decide +kernel
set_option maxHeartbeats 4000000 in
set_option maxRecDepth 100000 in
theorem ms_X3_bytesFor {g : GPT} {ot : OT} {l : Launch} (hl : l.stackTraces = false) : MS g ot l ci_X3_bytesFor := by
  refine ms0_of hl RX3 co_X3_bytesFor ct_X3_bytesFor [] false false 14 ck_X3_bytesFor (List.forall_mem_cons.mpr ⟨ms_J6_bitCount_0f7a4 hl, fun _ h => nomatch h⟩) ?_
  intro As μ K h
  simp only [ci_X3_bytesFor, sp_X3_bytesFor] at h
  split at h
  case h_2 => exact h.elim
  rename_i k v
  obtain ⟨m, rfl, hm, h⟩ := h
  refine ⟨Nat.le_of_ble_eq_true rfl, fun h1 => ⟨m, rfl, hm, ?_⟩, fun h1 => ?_⟩
  · have h1 : ¬ k = 0 := h1
    have e : bysP k m = nI (2 + bts m) := if_neg h1
    rw [e, ← nI_add] at h
    exact h
  · have h1 : ¬ ¬ k = 0 := h1
    have e : bysP k m = 2 := if_pos (Classical.not_not.mp h1)
    rw [e] at h
    exact h
def PC (ar : Bool) (F : Nat → Nat → Int32) (q : Nat) (p : PK) : Prop := F q 0 = p.1 0 ∧ F q 1 = p.1 1 ∧ F q 2 = nI p.2.length ∧ F q 3 = p.1 2 ∧ (ar = true → F q 4 = p.1 3) ∧ p.2.length ≤ 16 ∧ ∀ (i : Nat) (en : EN), p.2[i]? = some en → F (q + 1) i = en 0 ∧ F (q + 2) i = en 1 ∧ F (q + 3) i = en 2 ∧ F (q + 4) i = en 3 ∧ F (q + 5) i = en 4
theorem PC.keep {ar : Bool} {F F' : Nat → Nat → Int32} {q : Nat} {p : PK} (h : PC ar F q p) (hF : ∀ b, q ≤ b → b < q + 6 → F' b = F b) : PC ar F' q p := by
  obtain ⟨h0, h1, h2, h3, h4, h5, h6⟩ := h
  have e := hF q (by omega) (by omega)
  refine ⟨by rw [e]; exact h0, by rw [e]; exact h1, by rw [e]; exact h2, by rw [e]; exact h3, fun z => by rw [e]; exact h4 z, h5, fun i en hi => ?_⟩
  rw [hF _ (by omega) (by omega), hF _ (by omega) (by omega), hF _ (by omega) (by omega), hF _ (by omega) (by omega), hF _ (by omega) (by omega)]
  exact h6 i en hi
theorem PC.loose {ar : Bool} {F : Nat → Nat → Int32} {q : Nat} {p : PK} (h : PC ar F q p) : PC false F q p :=
  ⟨h.1, h.2.1, h.2.2.1, h.2.2.2.1, fun z => absurd z (by decide), h.2.2.2.2.2⟩
/-- the same packet but for what isn't shown -/
def PE (ar : Bool) (p p' : PK) : Prop := p'.1 0 = p.1 0 ∧ p'.1 1 = p.1 1 ∧ p'.1 2 = p.1 2 ∧ (ar = true → p'.1 3 = p.1 3) ∧ p'.2 = p.2
theorem PC.as {ar : Bool} {F : Nat → Nat → Int32} {q : Nat} {p p' : PK} (h : PC ar F q p) (e : PE ar p p') : PC ar F q p' := by
  obtain ⟨h0, h1, h2, h3, h4, h5, h6⟩ := h
  obtain ⟨e0, e1, e2, e3, e4⟩ := e
  exact ⟨by rw [e0]; exact h0, by rw [e1]; exact h1, by rw [e4]; exact h2, by rw [e2]; exact h3, fun z => by rw [e3 z]; exact h4 z, by rw [e4]; exact h5, by rw [e4]; exact h6⟩
def bgP (n t a : Int32) : PK := (fun k => match k with
  | 0 => n
  | 1 => 4
  | 2 => t
  | 3 => a
  | _ => 1, [])
def sp_X3_begin : SPc := fun As μ K => match As with
  | [.inr (.inr (11, q)), .inl n, .inl t, .inl a] => ∀ F', PC true F' q (bgP n t a) → (∀ b, ¬ b = q → F' b = μ.1 b) → K (.inl none) (F', μ.2)
  | _ => False
def ct_X3_begin : List (Nat × CI) := []
def ci_X3_begin : CI := (yX3_begin, cX3_begin, 4, none, 4, (0, 0, 0, 0), 13, [], sp_X3_begin)
set_option maxRecDepth 100000 in
theorem ck_X3_begin : chkM ci_X3_begin RX3 co_X3_begin ct_X3_begin [] false false = true := by decide +kernel
set_option maxHeartbeats 4000000 in
set_option maxRecDepth 100000 in
theorem ms_X3_begin {g : GPT} {ot : OT} {l : Launch} (hl : l.stackTraces = false) : MS g ot l ci_X3_begin := by
  refine ms0_of hl RX3 co_X3_begin ct_X3_begin [] false false 21 ck_X3_begin (fun _ h => nomatch h) ?_
  intro As μ K h
  simp only [ci_X3_begin, sp_X3_begin] at h
  split at h
  case h_2 => exact h.elim
  rename_i q n t a
  refine ⟨Nat.le_of_ble_eq_true rfl, ?_⟩
  refine h _ ⟨?_, ?_, ?_, ?_, fun _ => ?_, Nat.zero_le _, fun i en hi => ?_⟩ fun b hb => ?_
  · dsimp only
    simp (disch := omega) only [u2_nj, u2_eq]
    rfl
  · dsimp only
    simp (disch := omega) only [u2_nj, u2_eq]
    rfl
  · dsimp only
    simp (disch := omega) only [u2_nj, u2_eq]
    rfl
  · dsimp only
    simp (disch := omega) only [u2_nj, u2_eq]
    rfl
  · dsimp only
    simp (disch := omega) only [u2_nj, u2_eq]
    rfl
  · cases hi
  · dsimp only
    simp (disch := omega) only [u2_ne]
def sp_X3_copyFrom : SPc := fun As μ K => match As with
  | [.inr (.inr (11, q)), .inr (.inr (11, q'))] => ∃ (ar : Bool) (p : PK), PC ar μ.1 q' p ∧ (q + 6 ≤ q' ∨ q' + 6 ≤ q) ∧ ∀ F', PC ar F' q p → (∀ b, (b < q ∨ q + 6 ≤ b) → F' b = μ.1 b) → K (.inl none) (F', μ.2)
  | _ => False
def ct_X3_copyFrom : List (Nat × CI) := []
def ci_X3_copyFrom : CI := (yX3_copyFrom, cX3_copyFrom, 2, none, 2, (1, 0, 0, 18), 13, [], sp_X3_copyFrom)
set_option maxRecDepth 100000 in
theorem ck_X3_copyFrom : chkM ci_X3_copyFrom RX3 co_X3_copyFrom ct_X3_copyFrom [] false false = true := by decide +kernel
set_option maxHeartbeats 4000000 in
set_option maxRecDepth 100000 in
theorem ms_X3_copyFrom {g : GPT} {ot : OT} {l : Launch} (hl : l.stackTraces = false) : MS g ot l ci_X3_copyFrom := by
  refine ms0_of hl RX3 co_X3_copyFrom ct_X3_copyFrom [] false false 66 ck_X3_copyFrom (fun _ h => nomatch h) ?_
  intro As μ K h
  simp only [ci_X3_copyFrom, sp_X3_copyFrom] at h
  split at h
  case h_2 => exact h.elim
  rename_i q q'
  obtain ⟨ar, p, ⟨h0, h1, h2, h3, h4, h5, h6⟩, hq, h⟩ := h
  refine ⟨Nat.le_of_ble_eq_true rfl, 0, 0, 16, rfl, rfl, rfl, by omega, by omega, 0, 0, 16, rfl, rfl, rfl, by omega, by omega, 0, 0, 16, rfl, rfl, rfl, by omega, by omega, 0, 0, 16, rfl, rfl, rfl, by omega, by omega, 0, 0, 16, rfl, rfl, rfl, by omega, by omega, ?_⟩
  refine h _ ⟨?_, ?_, ?_, ?_, fun z => ?_, h5, fun i en hi => ?_⟩ fun b hb => ?_
  · dsimp only
    simp (disch := omega) only [cpR_off, u2_nj, u2_eq, u2_ne]
    exact h0
  · dsimp only
    simp (disch := omega) only [cpR_off, u2_nj, u2_eq, u2_ne]
    exact h1
  · dsimp only
    simp (disch := omega) only [cpR_off, u2_nj, u2_eq, u2_ne]
    exact h2
  · dsimp only
    simp (disch := omega) only [cpR_off, u2_nj, u2_eq, u2_ne]
    exact h3
  · dsimp only
    simp (disch := omega) only [cpR_off, u2_nj, u2_eq, u2_ne]
    exact h4 z
  · have hl : i < p.2.length := (List.getElem?_eq_some_iff.mp hi).1
    have hl2 : i < 16 := by omega
    dsimp only
    simp (disch := omega) only [cpR_off, cpR_0, u2_ne]
    exact h6 i en hi
  · dsimp only
    simp (disch := omega) only [cpR_off, u2_ne]
def mkEn (k e b m s : Int32) : EN := fun i => match i with
  | 0 => k
  | 1 => e
  | 2 => b
  | 3 => m
  | _ => s
def sp_X3_add : SPc := fun As μ K => match As with
  | [.inr (.inr (11, q)), .inl k, .inl e, .inl b, .inl m', .inl s] => ∃ (ar : Bool) (p : PK) (m : Nat), PC ar μ.1 q p ∧ p.2.length < 16 ∧ m' = nI m ∧ m < 16 ∧ ∀ F', PC ar F' q (upd p.1 1 (p.1 1 + bysP k m), p.2 ++ [mkEn k e b m' s]) → (∀ b, (b < q ∨ q + 6 ≤ b) → F' b = μ.1 b) → K (.inl none) (F', μ.2)
  | _ => False
def ct_X3_add : List (Nat × CI) := [(49, ci_X3_bytesFor)]
def ci_X3_add : CI := (yX3_add, cX3_add, 6, none, 6, (2, 0, 0, 41), 13, [], sp_X3_add)
set_option maxRecDepth 100000 in
theorem ck_X3_add : chkM ci_X3_add RX3 co_X3_add ct_X3_add [] false false = true := by decide +kernel
set_option maxHeartbeats 4000000 in
set_option maxRecDepth 100000 in
theorem ms_X3_add {g : GPT} {ot : OT} {l : Launch} (hl : l.stackTraces = false) : MS g ot l ci_X3_add := by
  refine ms0_of hl RX3 co_X3_add ct_X3_add [] false false 55 ck_X3_add (List.forall_mem_cons.mpr ⟨ms_X3_bytesFor hl, fun _ h => nomatch h⟩) ?_
  intro As μ K h
  simp only [ci_X3_add, sp_X3_add] at h
  split at h
  case h_2 => exact h.elim
  rename_i q k e b m' s
  obtain ⟨ar, p, m, ⟨h0, h1, h2, h3, h4, h5, h6⟩, hl, rfl, hm, h⟩ := h
  refine ⟨Nat.le_of_ble_eq_true rfl, fun g1 => ⟨p.2.length, h2, hl, p.2.length, ?_, hl, p.2.length, ?_, hl, p.2.length, ?_, hl, p.2.length, ?_, hl, m, rfl, hm, ?_⟩, fun g1 => ?_⟩
  · dsimp only
    simp (disch := omega) only [u2_ne]
    exact h2
  · dsimp only
    simp (disch := omega) only [u2_ne]
    exact h2
  · dsimp only
    simp (disch := omega) only [u2_ne]
    exact h2
  · dsimp only
    simp (disch := omega) only [u2_ne]
    exact h2
  · refine h _ ⟨?_, ?_, ?_, ?_, fun z => ?_, ?_, fun i en hi => ?_⟩ fun b hb => ?_
    · dsimp only
      simp (disch := omega) only [u2_nj, u2_eq, u2_ne, upd_ne]
      exact h0
    · dsimp only
      simp (disch := omega) only [u2_nj, u2_eq, u2_ne, upd_eq]
      rw [h1]
    · dsimp only
      simp (disch := omega) only [u2_nj, u2_eq, u2_ne]
      rw [h2, List.length_append]
      exact nI_add _ 1
    · dsimp only
      simp (disch := omega) only [u2_nj, u2_eq, u2_ne, upd_ne]
      exact h3
    · dsimp only
      simp (disch := omega) only [u2_nj, u2_eq, u2_ne, upd_ne]
      exact h4 z
    · show (p.2 ++ [_]).length ≤ 16
      rw [List.length_append]
      exact hl
    · have hi : (p.2 ++ [mkEn k e b (nI m) s])[i]? = some en := hi
      have hil : i < (p.2 ++ [mkEn k e b (nI m) s]).length := (List.getElem?_eq_some_iff.mp hi).1
      rw [List.length_append] at hil
      have hil : i < p.2.length + 1 := hil
      dsimp only
      by_cases w : i < p.2.length
      · rw [List.getElem?_append_left w] at hi
        simp (disch := omega) only [u2_nj, u2_ne]
        exact h6 i en hi
      · obtain rfl : i = p.2.length := by omega
        rw [List.getElem?_append_right (Nat.le_refl _), Nat.sub_self] at hi
        cases hi
        simp (disch := omega) only [u2_eq, u2_ne]
        exact ⟨rfl, rfl, rfl, rfl, rfl⟩
    · dsimp only
      simp (disch := omega) only [u2_ne]
  · have g1 : ¬ μ.1 q 2 < nI 16 := g1
    rw [h2, nI_lt_iff (by omega) (by omega)] at g1
    omega
def sp_X3_value : SPc := fun As μ K => match As with
  | [.inr (.inr (11, q)), .inl w', .inl t] => ∃ (ar : Bool) (w : Nat) (p : PK), w' = nI w ∧ w < 4 ∧ PC ar μ.1 q p ∧ K (.inl (some (.inl (pkV t p w)))) μ
  | _ => False
def ct_X3_value : List (Nat × CI) := []
def ci_X3_value : CI := (yX3_value, cX3_value, 3, some .int, 3, (0, 0, 0, 0), 13, [], sp_X3_value)
set_option maxRecDepth 100000 in
theorem ck_X3_value : chkM ci_X3_value RX3 co_X3_value ct_X3_value [] false false = true := by decide +kernel
set_option maxHeartbeats 4000000 in
set_option maxRecDepth 100000 in
theorem ms_X3_value {g : GPT} {ot : OT} {l : Launch} (hl : l.stackTraces = false) : MS g ot l ci_X3_value := by
  refine ms0_of hl RX3 co_X3_value ct_X3_value [] false false 21 ck_X3_value (fun _ h => nomatch h) ?_
  intro As μ K h
  simp only [ci_X3_value, sp_X3_value] at h
  split at h
  case h_2 => exact h.elim
  rename_i q w' t
  obtain ⟨ar, w, p, rfl, hw, ⟨h0, h1, h2, h3, h4, h5, h6⟩, h⟩ := h
  refine ⟨Nat.le_of_ble_eq_true rfl, fun g => ?_, fun g => ?_, fun g => ?_, fun g => ?_, trivial⟩
  · have g := swOut (by omega) g
    obtain rfl : w = 3 := by omega
    have e : pkV t p 3 = t - μ.1 q 3 := by rw [h3]; rfl
    rw [e] at h
    exact h
  · have g := swEq (by omega) g
    obtain rfl : w = 0 := by omega
    have e : pkV t p 0 = μ.1 q 0 := h0.symm
    rw [e] at h
    exact h
  · have g := swEq (by omega) g
    obtain rfl : w = 1 := by omega
    have e : pkV t p 1 = μ.1 q 1 := h1.symm
    rw [e] at h
    exact h
  · have g := swEq (by omega) g
    obtain rfl : w = 2 := by omega
    have e : pkV t p 2 = μ.1 q 2 := h2.symm
    rw [e] at h
    exact h
/-- a creation has all four values -/
def enO2 (en : EN) : Prop := en 0 = 1 → en 3 = 15
theorem etV2 {en : EN} {m : Nat} (h1 : enOK en) (h2 : enO2 en) (hm : m < 16) (h3 : en 3 = nI m) : etV en 2 = bysP (en 0) m := by
  have e : etV en 2 = if en 0 = 0 then 2 else if en 0 = 1 then 6 else nI (2 + bts (sN (en 3))) := rfl
  rw [e]
  unfold bysP
  by_cases q : en 0 = 0
  · rw [if_pos q, if_pos q]
  · rw [if_neg q, if_neg q]
    by_cases q2 : en 0 = 1
    · rw [if_pos q2]
      have h4 := h2 q2
      rw [h3] at h4
      have h4 : nI m = nI 15 := h4
      rw [nI_eq_iff (by omega) (by omega)] at h4
      rw [h4]
      rfl
    · rw [if_neg q2, h3, sN_nI (by omega)]
def sp_X3_entryValue : SPc := fun As μ K => match As with
  | [.inr (.inr (11, q)), .inl i', .inl w'] => ∃ (ar : Bool) (i w : Nat) (p : PK) (en : EN), i' = nI i ∧ w' = nI w ∧ w < 5 ∧ PC ar μ.1 q p ∧ p.2[i]? = some en ∧ enOK en ∧ enO2 en ∧ K (.inl (some (.inl (etV en w)))) μ
  | _ => False
def ct_X3_entryValue : List (Nat × CI) := [(49, ci_X3_bytesFor)]
def ci_X3_entryValue : CI := (yX3_entryValue, cX3_entryValue, 3, some .int, 3, (2, 0, 0, 41), 13, [], sp_X3_entryValue)
set_option maxRecDepth 100000 in
theorem ck_X3_entryValue : chkM ci_X3_entryValue RX3 co_X3_entryValue ct_X3_entryValue [] false false = true := by decide +kernel
set_option maxHeartbeats 4000000 in
set_option maxRecDepth 100000 in
theorem ms_X3_entryValue {g : GPT} {ot : OT} {l : Launch} (hl : l.stackTraces = false) : MS g ot l ci_X3_entryValue := by
  refine ms0_of hl RX3 co_X3_entryValue ct_X3_entryValue [] false false 37 ck_X3_entryValue (List.forall_mem_cons.mpr ⟨ms_X3_bytesFor hl, fun _ h => nomatch h⟩) ?_
  intro As μ K h
  simp only [ci_X3_entryValue, sp_X3_entryValue] at h
  split at h
  case h_2 => exact h.elim
  rename_i q i' w'
  obtain ⟨ar, i, w, p, en, rfl, rfl, hw, ⟨h0, h1, h2, h3, h4, h5, h6⟩, hi, he, he2, h⟩ := h
  have hl : i < p.2.length := (List.getElem?_eq_some_iff.mp hi).1
  obtain ⟨e0, e1, e2, e3, e4⟩ := h6 i en hi
  obtain ⟨m, hm, hm2⟩ := he.2.2.1
  refine ⟨Nat.le_of_ble_eq_true rfl, fun g => ⟨i, rfl, by omega, ?_⟩, fun g => ⟨i, rfl, by omega, ?_⟩, fun g => ⟨i, rfl, by omega, ?_⟩, fun g => ⟨i, rfl, by omega, i, rfl, by omega, m, e3.trans hm2, hm, ?_⟩, fun g => ⟨i, rfl, by omega, ?_⟩, trivial⟩
  · have g := swOut (by omega) g
    obtain rfl : w = 4 := by omega
    have e : etV en 4 = μ.1 (q + 4) i := e3.symm
    rw [e] at h
    exact h
  · have g := swEq (by omega) g
    obtain rfl : w = 0 := by omega
    have e : etV en 0 = μ.1 (q + 1) i := e0.symm
    rw [e] at h
    exact h
  · have g := swEq (by omega) g
    obtain rfl : w = 1 := by omega
    have e : etV en 1 = μ.1 (q + 2) i := e1.symm
    rw [e] at h
    exact h
  · have g := swEq (by omega) g
    obtain rfl : w = 2 := by omega
    rw [etV2 he he2 hm hm2, ← e0] at h
    exact h
  · have g := swEq (by omega) g
    obtain rfl : w = 3 := by omega
    have e : etV en 3 = μ.1 (q + 3) i := e2.symm
    rw [e] at h
    exact h
