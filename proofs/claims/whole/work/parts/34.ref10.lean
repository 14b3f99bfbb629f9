/-! THE REFERENCE puts an entry; a packet is launched. -/
def putF (f : Nat → Int32) (a : Nat) (en : EN) (k : Nat) : Nat → Int32 := fun z => if a ≤ z ∧ z < a + k then en (z - a) else f z
theorem putF_0 (f : Nat → Int32) (a : Nat) (en : EN) : putF f a en 0 = f := by
  funext z
  unfold putF
  rw [if_neg (by omega)]
theorem putF_S (f : Nat → Int32) (a : Nat) (en : EN) (k : Nat) : upd (putF f a en k) (a + k) (en k) = putF f a en (k + 1) := by
  funext z
  by_cases hz : z = a + k
  · subst hz
    rw [upd_eq]
    unfold putF
    rw [if_pos (by omega)]
    congr 1
    omega
  · rw [upd_ne _ _ hz]
    unfold putF
    by_cases hz2 : a ≤ z ∧ z < a + k
    · rw [if_pos hz2, if_pos (by omega)]
    · rw [if_neg hz2, if_neg (by omega)]
theorem putF_ne (f : Nat → Int32) {a z : Nat} (en : EN) {k : Nat} (h : z < a ∨ a + k ≤ z) : putF f a en k z = f z := by
  unfold putF
  rw [if_neg (by omega)]
theorem putF_at (f : Nat → Int32) (a : Nat) (en : EN) {k j : Nat} (h : j < k) : putF f a en k (a + j) = en j := by
  unfold putF
  rw [if_pos (by omega)]
  congr 1
  omega
def sp_X10_putEntry : SPc := fun As μ K => match As with
  | [.inr (.inr (20, r)), .inl c, .inl a', .inl e] => ∃ (i a j : Nat) (X : CS) (E : Nat → Nat → Int32), c = nI i ∧ a' = nI a ∧ e = nI j ∧ i < 3 ∧ j < 16 ∧ RC (μ.1 (r + 1)) i X ∧ (51 + 2406 * i + 66 ≤ a ∧ a + 5 ≤ 51 + 2406 * i + 1958) ∧ (μ.1 (r + 1) (3 + 3 * j) = E j 0 ∧ sOK (E j 0)) ∧ sOK (cB X j 2) ∧ K (.inl none) (rW μ r (putF (μ.1 (r + 1)) a (mkE X E j) 5))
  | _ => False
theorem mem_put (μ : MM) (r a k : Nat) (en : EN) (x : Int32) (h : x = en k) : ((up2 (rW μ r (putF (μ.1 (r + 1)) a en k)).1 (r + 1) (a + k) x, (rW μ r (putF (μ.1 (r + 1)) a en k)).2) : MM) = rW μ r (putF (μ.1 (r + 1)) a en (k + 1)) := by
  rw [up2_rW, rW_rW, rW_at, h, putF_S]
def peL (r a j i : Nat) (x y : Int32) : LC := [some (.inr (.inr (20, r))), none, some (.inl (nI a)), some (.inl (nI j)), some (.inl (nI (51 + 2406 * i + (1958 + 3 * j)))), some (.inl x), some (.inl y)]
def ct_X10_putEntry : List (Nat × CI) := [(83, ci_X10_base), (102, ci_X10_isInArea), (53, ci_X10_stateOf), (147, ci_X10_mask)]
def ci_X10_putEntry : CI := (yX10_putEntry, cX10_putEntry, 7, none, 4, (4, 0, 0, 89), 19, [], sp_X10_putEntry)
set_option maxRecDepth 100000 in
theorem ck_X10_putEntry : chkM ci_X10_putEntry RX10 co_X10_putEntry ct_X10_putEntry [] false false = true := by decide +kernel
set_option maxHeartbeats 4000000 in
set_option maxRecDepth 100000 in
theorem ms_X10_putEntry {g : GPT} {ot : OT} {l : Launch} (hl : l.stackTraces = false) : MS g ot l ci_X10_putEntry := by
  refine ms_of hl RX10 co_X10_putEntry ct_X10_putEntry [] false false [40,65,74,105,149] 104 ck_X10_putEntry (List.forall_mem_cons.mpr ⟨ms_X10_base hl, List.forall_mem_cons.mpr ⟨ms_X10_isInArea hl, List.forall_mem_cons.mpr ⟨ms_X10_stateOf hl, List.forall_mem_cons.mpr ⟨ms_X10_mask hl, fun _ h => nomatch h⟩⟩⟩⟩) ?_
  intro As μ K h
  simp only [ci_X10_putEntry, sp_X10_putEntry] at h
  split at h
  case h_2 => exact h.elim
  rename_i r c a' e
  obtain ⟨i, a, j, X, E, rfl, rfl, rfl, hi, hj, hX, ⟨ha1, ha2⟩, ⟨e1, e2⟩, hb, h⟩ := h
  have b1 : μ.1 (r + 1) (51 + 2406 * i + (1958 + 3 * j) + 1) = cB X j 1 := hX.2.2.2.1 j hj 1 (by omega)
  have b2 : μ.1 (r + 1) (51 + 2406 * i + (1958 + 3 * j) + 2) = cB X j 2 := hX.2.2.2.1 j hj 2 (by omega)
  have r1 : ∀ k, k ≤ 5 → (rW μ r (putF (μ.1 (r + 1)) a (mkE X E j) k)).1 (r + 1) (51 + 2406 * i + (1958 + 3 * j) + 1) = cB X j 1 := fun k hk => by
    rw [rW_at, putF_ne _ _ (by omega)]
    exact b1
  have r2 : ∀ k, k ≤ 5 → (rW μ r (putF (μ.1 (r + 1)) a (mkE X E j) k)).1 (r + 1) (51 + 2406 * i + (1958 + 3 * j) + 2) = cB X j 2 := fun k hk => by
    rw [rW_at, putF_ne _ _ (by omega)]
    exact b2
  have r3 : ∀ k, k ≤ 5 → (rW μ r (putF (μ.1 (r + 1)) a (mkE X E j) k)).1 (r + 1) (3 + 3 * j) = E j 0 := fun k hk => by
    rw [rW_at, putF_ne _ _ (by omega)]
    exact e1
  refine ⟨Nat.le_of_ble_eq_true rfl, fun m pc lc st μ' ce sl => ∃ k, lc = peL r a j i (iB (inA X (E j 0))) (iB (inA X (E j 0) ∧ cB X j 2 = -1)) ∧ st = [] ∧ μ' = rW μ r (putF (μ.1 (r + 1)) a (mkE X E j) k) ∧ ce = 0 ∧ sl = 0 ∧ ((k = 0 ∧ pc = 40 ∧ m = 5) ∨ (k = 1 ∧ pc = 65 ∧ m = 4) ∨ (k = 2 ∧ pc = 74 ∧ m = 3) ∨ (k = 3 ∧ pc = 105 ∧ m = 2) ∨ (k = 4 ∧ pc = 149 ∧ m = 1)), ?_, ?_⟩
  · have ent : ∀ x, x = iB (inA X (E j 0) ∧ cB X j 2 = -1) → ∃ n lc', subL lc' [some (.inr (.inr (20, r))), some (.inl (nI i)), some (.inl (nI a)), some (.inl (nI j)), some (.inl (nI (51 + 2406 * i + (1958 + 3 * j)))), some (.inl (iB (inA X (μ.1 (r + 1) (3 + 3 * j))))), some (.inl x)] ∧ ∃ k, lc' = peL r a j i (iB (inA X (E j 0))) (iB (inA X (E j 0) ∧ cB X j 2 = -1)) ∧ ([] : List TV) = [] ∧ μ = rW μ r (putF (μ.1 (r + 1)) a (mkE X E j) k) ∧ 0 = 0 ∧ 0 = 0 ∧ ((k = 0 ∧ 40 = 40 ∧ n = 5) ∨ (k = 1 ∧ 40 = 65 ∧ n = 4) ∨ (k = 2 ∧ 40 = 74 ∧ n = 3) ∨ (k = 3 ∧ 40 = 105 ∧ n = 2) ∨ (k = 4 ∧ 40 = 149 ∧ n = 1)) := fun x hx => by
      refine ⟨5, peL r a j i (iB (inA X (E j 0))) (iB (inA X (E j 0) ∧ cB X j 2 = -1)), ⟨rfl, rfl, rfl, rfl, ?_, ?_, trivial⟩, 0, rfl, rfl, ?_, rfl, rfl, Or.inl ⟨rfl, rfl, rfl⟩⟩
      · simp only [e1]
      · rw [hx]
      · rw [putF_0, rW_self]
    refine ⟨i, j, rfl, rfl, i, j, X, rfl, rfl, hi, hj, hX, e1 ▸ e2, fun h1 => ?_, fun h1 => ⟨_, nI_add _ 2, by omega, fun h2 => ?_, fun h2 => ?_⟩⟩
    · have h1 : iB (inA X (μ.1 (r + 1) (3 + 3 * j))) = 0 := h1
      rw [iB_eq0, e1] at h1
      exact ent 0 (iB_0 fun q => h1 q.1).symm
    · have h2 : ¬ μ.1 (r + 1) (51 + 2406 * i + (1958 + 3 * j) + 2) = -1 := h2
      rw [b2] at h2
      exact ent 0 (iB_0 fun q => h2 q.2).symm
    · have h1 : ¬ iB (inA X (μ.1 (r + 1) (3 + 3 * j))) = 0 := h1
      rw [iB_ne0, e1] at h1
      have h2 : ¬ ¬ μ.1 (r + 1) (51 + 2406 * i + (1958 + 3 * j) + 2) = -1 := h2
      rw [b2, Classical.not_not] at h2
      exact ent 1 (iB_1 ⟨h1, h2⟩).symm
  · rintro m pc lc st μ' ce sl ⟨k, rfl, rfl, rfl, rfl, rfl, (⟨rfl, rfl, rfl⟩ | ⟨rfl, rfl, rfl⟩ | ⟨rfl, rfl, rfl⟩ | ⟨rfl, rfl, rfl⟩ | ⟨rfl, rfl, rfl⟩)⟩
    · have go : ∀ x, x = mkE X E j 0 → _ := fun x hx => mem_put μ r a 0 (mkE X E j) x hx
      refine ⟨fun h1 => ⟨fun h2 => ⟨a, rfl, by omega, 4, peL r a j i (iB (inA X (E j 0))) (iB (inA X (E j 0) ∧ cB X j 2 = -1)), by omega, ⟨rfl, rfl, rfl, rfl, rfl, rfl, trivial⟩, 1, rfl, rfl, go 2 ?_, rfl, rfl, Or.inr (Or.inl ⟨rfl, rfl, rfl⟩)⟩, fun h2 => ⟨a, rfl, by omega, 4, peL r a j i (iB (inA X (E j 0))) (iB (inA X (E j 0) ∧ cB X j 2 = -1)), by omega, ⟨rfl, rfl, rfl, rfl, rfl, rfl, trivial⟩, 1, rfl, rfl, go 1 ?_, rfl, rfl, Or.inr (Or.inl ⟨rfl, rfl, rfl⟩)⟩⟩, fun h1 => ⟨a, rfl, by omega, 4, peL r a j i (iB (inA X (E j 0))) (iB (inA X (E j 0) ∧ cB X j 2 = -1)), by omega, ⟨rfl, rfl, rfl, rfl, rfl, rfl, trivial⟩, 1, rfl, rfl, go 0 ?_, rfl, rfl, Or.inr (Or.inl ⟨rfl, rfl, rfl⟩)⟩⟩
      · have h1 : inA X (E j 0) := (iB_ne0 _).mp h1
        have h2 : ¬ (inA X (E j 0) ∧ cB X j 2 = -1) := (iB_eq0 _).mp h2
        show 2 = (if inA X (E j 0) then (if cB X j 2 = -1 then 1 else 2) else 0)
        rw [if_pos h1, if_neg fun q => h2 ⟨h1, q⟩]
      · have h2 : (inA X (E j 0) ∧ cB X j 2 = -1) := (iB_ne0 _).mp h2
        show 1 = (if inA X (E j 0) then (if cB X j 2 = -1 then 1 else 2) else 0)
        rw [if_pos h2.1, if_pos h2.2]
      · have h1 : ¬ inA X (E j 0) := fun q => h1 ((iB_ne0 _).mpr q)
        show 0 = (if inA X (E j 0) then (if cB X j 2 = -1 then 1 else 2) else 0)
        rw [if_neg h1]
    · exact ⟨_, nI_add _ 1, by omega, 3, peL r a j i (iB (inA X (E j 0))) (iB (inA X (E j 0) ∧ cB X j 2 = -1)), by omega, ⟨rfl, rfl, rfl, rfl, rfl, rfl, trivial⟩, 2, rfl, rfl, mem_put μ r a 1 (mkE X E j) _ rfl, rfl, rfl, Or.inr (Or.inr (Or.inl ⟨rfl, rfl, rfl⟩))⟩
    · have go : ∀ x, x = mkE X E j 2 → _ := fun x hx => mem_put μ r a 2 (mkE X E j) x hx
      refine ⟨fun h1 => ⟨_, nI_add _ 2, by omega, 2, peL r a j i (iB (inA X (E j 0))) (iB (inA X (E j 0) ∧ cB X j 2 = -1)), by omega, ⟨rfl, rfl, rfl, rfl, rfl, rfl, trivial⟩, 3, rfl, rfl, go 0 ?_, rfl, rfl, Or.inr (Or.inr (Or.inr (Or.inl ⟨rfl, rfl, rfl⟩)))⟩, fun h1 => ⟨fun h2 => ⟨_, nI_add _ 2, by omega, 2, peL r a j i (iB (inA X (E j 0))) (iB (inA X (E j 0) ∧ cB X j 2 = -1)), by omega, ⟨rfl, rfl, rfl, rfl, rfl, rfl, trivial⟩, 3, rfl, rfl, go 0 ?_, rfl, rfl, Or.inr (Or.inr (Or.inr (Or.inl ⟨rfl, rfl, rfl⟩)))⟩, fun h2 => ⟨_, nI_add _ 1, by omega, _, nI_add _ 2, by omega, 2, peL r a j i (iB (inA X (E j 0))) (iB (inA X (E j 0) ∧ cB X j 2 = -1)), by omega, ⟨rfl, rfl, rfl, rfl, rfl, rfl, trivial⟩, 3, rfl, rfl, go _ ?_, rfl, rfl, Or.inr (Or.inr (Or.inr (Or.inl ⟨rfl, rfl, rfl⟩)))⟩⟩⟩
      · have h1 : ¬ inA X (E j 0) := (iB_eq0 _).mp h1
        show 0 = (if inA X (E j 0) ∧ ¬ cB X j 2 = -1 then cB X j 1 else 0)
        rw [if_neg fun q => h1 q.1]
      · have h2 : (inA X (E j 0) ∧ cB X j 2 = -1) := (iB_ne0 _).mp h2
        show 0 = (if inA X (E j 0) ∧ ¬ cB X j 2 = -1 then cB X j 1 else 0)
        rw [if_neg fun q => q.2 h2.2]
      · have h1 : inA X (E j 0) := (iB_ne0 _).mp h1
        have h2 : ¬ ¬ iB (inA X (E j 0) ∧ cB X j 2 = -1) = 0 := h2
        rw [iB_ne0] at h2
        rw [r1 2 (by omega)]
        show _ = (if inA X (E j 0) ∧ ¬ cB X j 2 = -1 then cB X j 1 else 0)
        rw [if_pos ⟨h1, fun q => h2 ⟨h1, q⟩⟩]
    · have go : ∀ x, x = mkE X E j 3 → _ := fun x hx => mem_put μ r a 3 (mkE X E j) x hx
      refine ⟨fun h1 => ⟨fun h2 => ?_, fun h2 => ⟨_, nI_add _ 3, by omega, 1, peL r a j i (iB (inA X (E j 0))) (iB (inA X (E j 0) ∧ cB X j 2 = -1)), by omega, ⟨rfl, rfl, rfl, rfl, rfl, rfl, trivial⟩, 4, rfl, rfl, go 15 ?_, rfl, rfl, Or.inr (Or.inr (Or.inr (Or.inr ⟨rfl, rfl, rfl⟩)))⟩⟩, fun h1 => ⟨_, nI_add _ 3, by omega, 1, peL r a j i (iB (inA X (E j 0))) (iB (inA X (E j 0) ∧ cB X j 2 = -1)), by omega, ⟨rfl, rfl, rfl, rfl, rfl, rfl, trivial⟩, 4, rfl, rfl, go 0 ?_, rfl, rfl, Or.inr (Or.inr (Or.inr (Or.inr ⟨rfl, rfl, rfl⟩)))⟩⟩
      · have h1 : inA X (E j 0) := (iB_ne0 _).mp h1
        have h2 : ¬ (inA X (E j 0) ∧ cB X j 2 = -1) := (iB_eq0 _).mp h2
        have h3 : ¬ cB X j 2 = -1 := fun q => h2 ⟨h1, q⟩
        obtain ⟨n1, n2, n3, n4⟩ := sOK_ne hb h3
        obtain ⟨m1, m2, m3, m4⟩ := sOK_ne e2 h1.1
        refine ⟨_, nI_add _ 2, by omega, j, rfl, hj, n1, m1, (r2 3 (by omega)).trans n3, (r3 3 (by omega)).trans m3, n2, m2, _, nI_add _ 3, by omega, 1, peL r a j i (iB (inA X (E j 0))) (iB (inA X (E j 0) ∧ cB X j 2 = -1)), by omega, ⟨rfl, rfl, rfl, rfl, rfl, rfl, trivial⟩, 4, rfl, rfl, go _ ?_, rfl, rfl, Or.inr (Or.inr (Or.inr (Or.inr ⟨rfl, rfl, rfl⟩)))⟩
        show _ = (if inA X (E j 0) then (if cB X j 2 = -1 then 15 else nI (mkN (sN (cB X j 2)) (sN (E j 0)))) else 0)
        rw [if_pos h1, if_neg h3, n4, m4]
      · have h2 : (inA X (E j 0) ∧ cB X j 2 = -1) := (iB_ne0 _).mp h2
        show 15 = (if inA X (E j 0) then (if cB X j 2 = -1 then 15 else nI (mkN (sN (cB X j 2)) (sN (E j 0)))) else 0)
        rw [if_pos h2.1, if_pos h2.2]
      · have h1 : ¬ inA X (E j 0) := fun q => h1 ((iB_ne0 _).mpr q)
        show 0 = (if inA X (E j 0) then (if cB X j 2 = -1 then 15 else nI (mkN (sN (cB X j 2)) (sN (E j 0)))) else 0)
        rw [if_neg h1]
    · have go : ∀ x, x = mkE X E j 4 → K (.inl none) (up2 (rW μ r (putF (μ.1 (r + 1)) a (mkE X E j) 4)).1 (r + 1) (a + 4) x, (rW μ r (putF (μ.1 (r + 1)) a (mkE X E j) 4)).2) := fun x hx => by
        rw [mem_put μ r a 4 (mkE X E j) x hx]
        exact h
      refine ⟨fun h1 => ⟨_, nI_add _ 4, by omega, go (-1) ?_⟩, fun h1 => ⟨j, rfl, hj, _, nI_add _ 4, by omega, go _ ?_⟩⟩
      · have h1 : ¬ inA X (E j 0) := (iB_eq0 _).mp h1
        show -1 = (if inA X (E j 0) then E j 0 else -1)
        rw [if_neg h1]
      · have h1 : inA X (E j 0) := (iB_ne0 _).mp h1
        rw [r3 4 (by omega)]
        show _ = (if inA X (E j 0) then E j 0 else -1)
        rw [if_pos h1]
