/-! For the methods without loops; numbers. -/
def noI : Nat → Nat → LC → List TV → MM → Nat → Nat → Prop := fun _ _ _ _ _ _ _ => False
def noK : Nat → LC → List TV → MM → Nat → Nat → Prop := fun pc lc st μ ce sl => ∃ n lc', subL lc' lc ∧ noI n pc lc' st μ ce sl
/-- the entry of a method without loops -/
def VC0 (ot : OT) (ci : CI) (code : List Ent) (ct : List (Nat × CI)) (hn : List (Nat × Nat × Nat × Nat)) (rz : Bool) (fuel : Nat) (As : List TV) (μ : MM) (K : OC → MM → Prop) : Prop :=
  vc KT ot code ct hn (ci.2.2.2.2.2.1.2.1, ci.2.2.2.2.2.1.2.2.1) rz μ.2.2.2.2 (exO ci.2.2.2.2.2.2.1 As) [] noK K fuel code (padL ci.2.2.1 (entL As)) [] μ 0 0
theorem ms0_of {g : GPT} {ot : OT} {l : Launch} (hl : l.stackTraces = false) {ci : CI} (own : String) (code : List Ent) (ct : List (Nat × CI)) (hn : List (Nat × Nat × Nat × Nat)) (rz ini : Bool) (fuel : Nat)
    (hck : chkM ci own code ct hn rz ini = true) (hM : ∀ q ∈ ct, MS g ot l q.2)
    (h : ∀ (As : List TV) (μ : MM) (K : OC → MM → Prop), ci.2.2.2.2.2.2.2.2 As μ K → (entL As).length ≤ ci.2.2.1 ∧ VC0 ot ci code ct hn rz fuel As μ K) : MS g ot l ci :=
  ms_of hl own code ct hn rz ini [] fuel hck hM fun As μ K hs => ⟨(h As μ K hs).1, noI, (h As μ K hs).2, fun _ _ _ _ _ _ _ h => h.elim⟩
theorem iL (n : Nat) : Int32.ofInt (no_index (OfNat.ofNat n : Int)) = nI n := rfl
theorem nI_mul (a b : Nat) : nI a * nI b = nI (a * b) := (Int32.ofNat_mul a b).symm
theorem nI_add1 (a : Nat) : nI a + 1 = nI (a + 1) := (nI_succ a).symm
theorem nI_inj {a b : Nat} (ha : a < 2 ^ 31) (hb : b < 2 ^ 31) (h : nI a = nI b) : a = b := by
  have h1 := nI_toInt ha
  have h2 := nI_toInt hb
  rw [h] at h1
  omega
theorem nI_lt_iff {a b : Nat} (ha : a < 2 ^ 31) (hb : b < 2 ^ 31) : nI a < nI b ↔ a < b := by
  rw [Int32.lt_iff_toInt_lt, nI_toInt ha, nI_toInt hb]
  omega
theorem nI_le_iff {a b : Nat} (ha : a < 2 ^ 31) (hb : b < 2 ^ 31) : nI a ≤ nI b ↔ a ≤ b := by
  rw [Int32.le_iff_toInt_le, nI_toInt ha, nI_toInt hb]
  omega
theorem nI_eq_iff {a b : Nat} (ha : a < 2 ^ 31) (hb : b < 2 ^ 31) : nI a = nI b ↔ a = b := ⟨nI_inj ha hb, fun h => by rw [h]⟩
def sp_X10_cell : SPc := fun As μ K => match As with
  | [.inl c, .inl w] => ∃ i j : Nat, c = nI i ∧ w = nI j ∧ K (.inl (some (.inl (nI (51 + 2406 * i + j))))) μ
  | _ => False
def ct_X10_cell : List (Nat × CI) := []
def ci_X10_cell : CI := (yX10_cell, cX10_cell, 2, some .int, 2, (0, 0, 0, 0), 0, [], sp_X10_cell)
set_option maxRecDepth 100000 in
theorem ck_X10_cell : chkM ci_X10_cell RX10 co_X10_cell ct_X10_cell [] false false = true := by decide +kernel
set_option maxHeartbeats 4000000 in
set_option maxRecDepth 100000 in
theorem ms_X10_cell {g : GPT} {ot : OT} {l : Launch} (hl : l.stackTraces = false) : MS g ot l ci_X10_cell := by
  refine ms0_of hl RX10 co_X10_cell ct_X10_cell [] false false 13 ck_X10_cell (fun _ h => nomatch h) ?_
  intro As μ K h
  simp only [ci_X10_cell, sp_X10_cell] at h
  split at h
  · obtain ⟨i, j, rfl, rfl, h⟩ := h
    refine ⟨Nat.le_of_ble_eq_true rfl, ?_⟩
    show K _ _

    simp only [iL, nI_add, nI_mul]
    exact h
  · exact h.elim
def sp_X10_of : SPc := fun As μ K => match As with
  | [.inr (.inr (20, r)), .inl c, .inl w] => ∃ i j : Nat, c = nI i ∧ w = nI j ∧ 51 + 2406 * i + j < 7269 ∧ K (.inl (some (.inl (μ.1 (r + 1) (51 + 2406 * i + j))))) μ
  | _ => False
def ct_X10_of : List (Nat × CI) := [(77, ci_X10_cell)]
def ci_X10_of : CI := (yX10_of, cX10_of, 3, some .int, 3, (1, 0, 0, 21), 19, [], sp_X10_of)
set_option maxRecDepth 100000 in
theorem ck_X10_of : chkM ci_X10_of RX10 co_X10_of ct_X10_of [] false false = true := by decide +kernel
set_option maxHeartbeats 4000000 in
set_option maxRecDepth 100000 in
theorem ms_X10_of {g : GPT} {ot : OT} {l : Launch} (hl : l.stackTraces = false) : MS g ot l ci_X10_of := by
  refine ms0_of hl RX10 co_X10_of ct_X10_of [] false false 12 ck_X10_of (List.forall_mem_cons.mpr ⟨ms_X10_cell hl, fun _ h => nomatch h⟩) ?_
  intro As μ K h
  simp only [ci_X10_of, sp_X10_of] at h
  split at h
  · rename_i r c w
    obtain ⟨i, j, rfl, rfl, hb, h⟩ := h
    refine ⟨Nat.le_of_ble_eq_true rfl, ?_⟩
    refine ⟨i, j, rfl, rfl, 51 + 2406 * i + j, rfl, hb, ?_⟩
    exact h
  · exact h.elim
