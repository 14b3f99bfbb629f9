/-! THE REFERENCE changes a client: what holds after it is told of the state alone. -/
theorem up2_at (F : Nat → Nat → Int32) (a j k : Nat) (x : Int32) : up2 F a j x a k = upd (F a) j x k := by
  rw [up2_stF, stF_at]
theorem rW_ne (μ : MM) (r : Nat) (f : Nat → Int32) {b : Nat} (h : b ≠ r + 1) : (rW μ r f).1 b = μ.1 b := stF_ne _ _ h
def RU (μ : MM) (r i : Nat) (X' : CS) (K : MM → Prop) : Prop := ∀ f', RC f' i X' → (∀ k, k < 51 + 2406 * i ∨ 51 + 2406 * i + 2406 ≤ k → f' k = μ.1 (r + 1) k) → K (rW μ r f')
theorem addRec_len {l : List (Int32 × Int32)} (n s : Int32) (h : l.length ≤ 12) : (addRec l n s).length ≤ 12 ∧ 0 < (addRec l n s).length := by
  unfold addRec
  by_cases q : l.length = 12
  · rw [if_pos q, List.length_append, List.length_drop]
    simp only [List.length_cons, List.length_nil]
    omega
  · rw [if_neg q, List.length_append]
    simp only [List.length_cons, List.length_nil]
    omega
def sp_X10_addRecord : SPc := fun As μ K => match As with
  | [.inr (.inr (20, r)), .inl c, .inl e, .inl n, .inl s] => ∃ (i j : Nat) (l : List (Int32 × Int32)), c = nI i ∧ e = nI j ∧ i < 3 ∧ j < 16 ∧ RR (μ.1 (r + 1)) (51 + 2406 * i + (2006 + 25 * j)) l ∧ ∀ f', RR f' (51 + 2406 * i + (2006 + 25 * j)) (addRec l n s) → (∀ k, k < 51 + 2406 * i + (2006 + 25 * j) ∨ 51 + 2406 * i + (2006 + 25 * j) + 25 ≤ k → f' k = μ.1 (r + 1) k) → K (.inl none) (rW μ r f')
  | _ => False
/-- the records shifted by one, as far as k -/
def shR (f : Nat → Int32) (a k : Nat) : Nat → Int32 := fun j => if a + 1 ≤ j ∧ j < a + k then f (j + 2) else f j
def ct_X10_addRecord : List (Nat × CI) := [(105, ci_X10_records)]
def ci_X10_addRecord : CI := (yX10_addRecord, cX10_addRecord, 7, none, 5, (2, 0, 0, 42), 19, [], sp_X10_addRecord)
set_option maxRecDepth 100000 in
theorem ck_X10_addRecord : chkM ci_X10_addRecord RX10 co_X10_addRecord ct_X10_addRecord [] false false = true := by decide +kernel
set_option maxHeartbeats 4000000 in
set_option maxRecDepth 100000 in
theorem ms_X10_addRecord {g : GPT} {ot : OT} {l : Launch} (hl : l.stackTraces = false) : MS g ot l ci_X10_addRecord := by
  refine ms_of hl RX10 co_X10_addRecord ct_X10_addRecord [] false false [22,68] 81 ck_X10_addRecord (List.forall_mem_cons.mpr ⟨ms_X10_records hl, fun _ h => nomatch h⟩) ?_
  intro As μ K h
  simp only [ci_X10_addRecord, sp_X10_addRecord] at h
  split at h
  case h_2 => exact h.elim
  rename_i r c e n s
  obtain ⟨i, j, l, rfl, rfl, hi, hj, ⟨l1, l2, l3⟩, h⟩ := h
  generalize ha : 51 + 2406 * i + (2006 + 25 * j) = a at *
  refine ⟨Nat.le_of_ble_eq_true rfl, fun m pc lc st μ' ce sl => (∃ k, 1 ≤ k ∧ k ≤ 23 ∧ m = 100 - k ∧ pc = 22 ∧ l.length = 12 ∧ lc = [some (.inr (.inr (20, r))), none, none, some (.inl n), some (.inl s), some (.inl (nI a)), some (.inl (nI k))] ∧ st = [] ∧ μ' = rW μ r (shR (μ.1 (r + 1)) a k) ∧ ce = 0 ∧ sl = 0) ∨ (∃ f1 q, RR f1 a q ∧ q.length < 12 ∧ q ++ [(n, s)] = addRec l n s ∧ (∀ k, k < a ∨ a + 25 ≤ k → f1 k = μ.1 (r + 1) k) ∧ m = 0 ∧ pc = 68 ∧ lc = [some (.inr (.inr (20, r))), none, none, some (.inl n), some (.inl s), some (.inl (nI a)), none] ∧ st = [] ∧ μ' = rW μ r f1 ∧ ce = 0 ∧ sl = 0), ?_, ?_⟩
  · refine ⟨i, j, rfl, rfl, a, by rw [ha], by omega, fun h1 => ?_, fun h1 => ?_⟩
    · have h1 : ¬ μ.1 (r + 1) a = nI 12 := h1
      rw [l1, nI_eq_iff (by omega) (by omega)] at h1
      refine ⟨0, [some (.inr (.inr (20, r))), none, none, some (.inl n), some (.inl s), some (.inl (nI a)), none], ⟨rfl, rfl, rfl, ?_, trivial⟩, Or.inr ⟨μ.1 (r + 1), l, ⟨l1, l2, l3⟩, by omega, ?_, fun k _ => rfl, rfl, rfl, rfl, rfl, (rW_self μ r).symm, rfl, rfl⟩⟩
      · rw [ha]
      · unfold addRec
        rw [if_neg h1]
    · have h1 : ¬ ¬ μ.1 (r + 1) a = nI 12 := h1
      rw [l1, nI_eq_iff (by omega) (by omega), Classical.not_not] at h1
      refine ⟨100 - 1, [some (.inr (.inr (20, r))), none, none, some (.inl n), some (.inl s), some (.inl (nI a)), some (.inl (nI 1))], ⟨rfl, rfl, rfl, ?_, rfl, trivial⟩, Or.inl ⟨1, by omega, by omega, rfl, rfl, h1, rfl, rfl, ?_, rfl, rfl⟩⟩
      · rw [ha]
      · have e : shR (μ.1 (r + 1)) a 1 = μ.1 (r + 1) := by
          funext z
          unfold shR
          rw [if_neg (by omega)]
        rw [e, rW_self]
  · rintro m pc lc st μ' ce sl (⟨k, hk1, hk, rfl, rfl, hl12, rfl, rfl, rfl, rfl, rfl⟩ | ⟨f1, q, ⟨q1, q2, q3⟩, hq, he, hf, rfl, rfl, rfl, rfl, rfl, rfl, rfl⟩)
    · refine ⟨fun h1 => ?_, fun h1 => ?_⟩
      · simp only [icP, ifP, iL, iM1] at h1
        try simp only [z_nI] at h1
        try simp only [nI_add, nI_mul] at h1
        first | rw [nI_le_iff (by omega) (by omega)] at h1 | rw [nI_lt_iff (by omega) (by omega)] at h1 | rw [nI_eq_iff (by omega) (by omega)] at h1
        obtain rfl : k = 23 := by omega
        have e0 : shR (μ.1 (r + 1)) a 23 a = nI 12 := by
          unfold shR
          rw [if_neg (by omega), l1, hl12]
        refine ⟨a, rfl, by omega, a, rfl, by omega, 0, [some (.inr (.inr (20, r))), none, none, some (.inl n), some (.inl s), some (.inl (nI a)), none], by omega, ⟨rfl, rfl, rfl, rfl, trivial⟩, Or.inr ⟨upd (shR (μ.1 (r + 1)) a 23) a (nI 11), l.drop 1, ⟨?_, ?_, fun z p hz => ?_⟩, ?_, ?_, fun z hz => ?_, rfl, rfl, rfl, rfl, ?_, rfl, rfl⟩⟩
        · rw [upd_eq, List.length_drop, hl12]
        · rw [List.length_drop]; omega
        · have hz2 : z < (l.drop 1).length := (List.getElem?_eq_some_iff.mp hz).1
          rw [List.length_drop] at hz2
          rw [List.getElem?_drop] at hz
          obtain ⟨b1, b2⟩ := l3 _ p hz
          rw [upd_ne _ _ (by omega), upd_ne _ _ (by omega)]
          unfold shR
          rw [if_pos (by omega), if_pos (by omega), ← b1, ← b2]
          have g1 : a + 1 + 2 * z + 2 = a + 1 + 2 * (1 + z) := by omega
          have g2 : a + 2 + 2 * z + 2 = a + 2 + 2 * (1 + z) := by omega
          rw [g1, g2]
          exact ⟨rfl, rfl⟩
        · rw [List.length_drop]; omega
        · unfold addRec
          rw [if_pos hl12]
        · rw [upd_ne _ _ (by omega)]
          unfold shR
          rw [if_neg (by omega)]
        · show ((up2 (rW μ r _).1 (r + 1) a ((rW μ r _).1 (r + 1) a - Int32.ofInt 1), (rW μ r _).2) : MM) = _
          rw [up2_rW, rW_rW, rW_at, e0]
          rfl
      · simp only [icP, ifP, iL, iM1] at h1
        try simp only [z_nI] at h1
        try simp only [nI_add, nI_mul] at h1
        first | rw [nI_le_iff (by omega) (by omega)] at h1 | rw [nI_lt_iff (by omega) (by omega)] at h1 | rw [nI_eq_iff (by omega) (by omega)] at h1
        refine ⟨a + k + 2, ?_, by omega, a + k, nI_add a k, by omega, 100 - (k + 1), [some (.inr (.inr (20, r))), none, none, some (.inl n), some (.inl s), some (.inl (nI a)), some (.inl (nI (k + 1)))], by omega, ⟨rfl, rfl, rfl, rfl, inc_tv k, trivial⟩, Or.inl ⟨k + 1, by omega, by omega, rfl, rfl, hl12, rfl, rfl, ?_, rfl, rfl⟩⟩
        · show nI a + nI k + nI 2 = _
          rw [nI_add, nI_add]
        · show ((up2 (rW μ r _).1 (r + 1) (a + k) ((rW μ r _).1 (r + 1) (a + k + 2)), (rW μ r _).2) : MM) = _
          rw [up2_rW, rW_rW, rW_at]
          congr 1
          funext z
          by_cases hz : z = a + k
          · subst hz
            rw [upd_eq]
            unfold shR
            rw [if_neg (by omega), if_pos (by omega)]
          · rw [upd_ne _ _ hz]
            unfold shR
            by_cases hz2 : a + 1 ≤ z ∧ z < a + k
            · rw [if_pos hz2, if_pos (by omega)]
            · rw [if_neg hz2, if_neg (by omega)]
    · have e0 : (rW μ r f1).1 (r + 1) a = nI q.length := by rw [rW_at]; exact q1
      refine ⟨a, rfl, by omega, a + 1 + 2 * q.length, ?_, by omega, a, rfl, by omega, a + 2 + 2 * q.length, ?_, by omega, a, rfl, by omega, a, rfl, by omega, ?_⟩
      · show nI a + nI 1 + nI 2 * (rW μ r f1).1 (r + 1) a = _
        rw [e0, nI_add, nI_mul, nI_add]
      · show nI a + nI 2 + nI 2 * (up2 (rW μ r f1).1 (r + 1) (a + 1 + 2 * q.length) n) (r + 1) a = _
        rw [up2_at, upd_ne _ _ (by omega), e0, nI_add, nI_mul, nI_add]
      · show K _ (up2 (up2 (up2 (rW μ r f1).1 (r + 1) (a + 1 + 2 * q.length) n) (r + 1) (a + 2 + 2 * q.length) s) (r + 1) a ((up2 (up2 (rW μ r f1).1 (r + 1) (a + 1 + 2 * q.length) n) (r + 1) (a + 2 + 2 * q.length) s) (r + 1) a + Int32.ofInt 1), (rW μ r f1).2)
        have e3 : (up2 (up2 (rW μ r f1).1 (r + 1) (a + 1 + 2 * q.length) n) (r + 1) (a + 2 + 2 * q.length) s) (r + 1) a = nI q.length := by
          rw [up2_at, upd_ne _ _ (by omega), up2_at, upd_ne _ _ (by omega), e0]
        rw [e3]
        simp only [up2_stF, stF_stF, stF_at, rW_at]
        have e4 : nI q.length + Int32.ofInt 1 = nI (q.length + 1) := nI_add _ 1
        rw [e4]
        have e5 := h (upd (upd (upd f1 (a + 1 + 2 * q.length) n) (a + 2 + 2 * q.length) s) a (nI (q.length + 1))) ⟨?_, ?_, fun z p hz => ?_⟩ fun z hz => ?_
        · have e6 : (stF (rW μ r f1).1 (r + 1) (upd (upd (upd f1 (a + 1 + 2 * q.length) n) (a + 2 + 2 * q.length) s) a (nI (q.length + 1))), (rW μ r f1).2) = rW μ r (upd (upd (upd f1 (a + 1 + 2 * q.length) n) (a + 2 + 2 * q.length) s) a (nI (q.length + 1))) := by
            unfold rW
            rw [stF_stF]
          rw [e6]
          exact e5
        · rw [upd_eq, ← he, List.length_append]
          rfl
        · rw [← he, List.length_append]
          show q.length + 1 ≤ 12
          omega
        · rw [← he] at hz
          by_cases hzq : z < q.length
          · rw [List.getElem?_append_left hzq] at hz
            obtain ⟨b1, b2⟩ := q3 z p hz
            rw [upd_ne _ _ (by omega), upd_ne _ _ (by omega), upd_ne _ _ (by omega), upd_ne _ _ (by omega), upd_ne _ _ (by omega), upd_ne _ _ (by omega)]
            exact ⟨b1, b2⟩
          · have hzl : z < (q ++ [(n, s)]).length := (List.getElem?_eq_some_iff.mp hz).1
            rw [List.length_append] at hzl
            have hzl : z < q.length + 1 := hzl
            obtain rfl : z = q.length := by omega
            rw [List.getElem?_append_right (Nat.le_refl _), Nat.sub_self] at hz
            cases hz
            refine ⟨?_, ?_⟩
            · rw [upd_ne _ _ (by omega), upd_ne _ _ (by omega), upd_eq]
            · rw [upd_ne _ _ (by omega), upd_eq]
        · rw [upd_ne _ _ (by omega), upd_ne _ _ (by omega), upd_ne _ _ (by omega)]
          exact hf z hz
