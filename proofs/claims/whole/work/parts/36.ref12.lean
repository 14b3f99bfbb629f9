/-! THE REFERENCE sweeps its packets. -/
theorem swp_S {l : List PK} {k : Nat} {p : PK} (h : l[k]? = some p) : swp (l.take (k + 1)) = swp (l.take k) ++ (if kpP p then [p] else []) := by
  have ht : l.take (k + 1) = l.take k ++ [p] := by rw [List.take_add_one, h]; rfl
  unfold swp
  rw [ht, List.filter_append]
  congr 1
  by_cases hp : kpP p
  · rw [if_pos hp]
    exact List.filter_cons_of_pos (decide_eq_true hp)
  · rw [if_neg hp]
    exact List.filter_cons_of_neg (by rw [decide_eq_false hp]; decide)
theorem swp_le (l : List PK) (k : Nat) : (swp (l.take k)).length ≤ k := Nat.le_trans (List.length_filter_le _ _) (by rw [List.length_take]; omega)
/-- a slot copied in part -/
def slF (g : Nat → Int32) (t s y : Nat) : Nat → Int32 := fun z => if t ≤ z ∧ z < t + y then g (z - t + s) else g z
theorem slF_S (g : Nat → Int32) {t s y : Nat} (hts : t ≤ s) (hy : y < 86) (h : t = s ∨ t + 86 ≤ s) : upd (slF g t s y) (t + y) (slF g t s y (s + y)) = slF g t s (y + 1) := by
  have e : slF g t s y (s + y) = g (s + y) := by
    unfold slF
    rw [if_neg (by omega)]
  rw [e]
  funext z
  by_cases hz : z = t + y
  · subst hz
    rw [upd_eq]
    unfold slF
    rw [if_pos (by omega)]
    congr 1
    omega
  · rw [upd_ne _ _ hz]
    unfold slF
    by_cases hz2 : t ≤ z ∧ z < t + y
    · rw [if_pos hz2, if_pos (by omega)]
    · rw [if_neg hz2, if_neg (by omega)]
theorem slF_RP {g : Nat → Int32} {t s : Nat} {p : PK} (h : RP g s p) : RP (slF g t s 86) t p := by
  obtain ⟨a1, a2, a3, a4⟩ := h
  have e : ∀ k, k < 86 → slF g t s 86 (t + k) = g (s + k) := fun k hk => by
    unfold slF
    rw [if_pos (by omega)]
    congr 1
    omega
  refine ⟨fun k hk => by rw [e _ (by omega)]; exact a1 k hk, by rw [e _ (by omega)]; exact a2, a3, fun j en hj k hk => ?_⟩
  have hj2 : j < p.2.length := (List.getElem?_eq_some_iff.mp hj).1
  have e2 : t + 6 + 5 * j + k = t + (6 + 5 * j + k) := by omega
  have e3 : s + 6 + 5 * j + k = s + (6 + 5 * j + k) := by omega
  rw [e2, e _ (by omega), ← e3]
  exact a4 j en hj k hk
/-- how far the sweep is -/
def SW (f g : Nat → Int32) (b k : Nat) (l : List PK) : Prop := (∀ z, (z < b + 66 ∨ b + 66 + 86 * k ≤ z) → g z = f z) ∧ ∀ (j : Nat) (p : PK), (swp (l.take k))[j]? = some p → RP g (b + (66 + 86 * j)) p
def swL (r i w k : Nat) : LC := [some (.inr (.inr (20, r))), some (.inl (nI i)), some (.inl (nI w)), some (.inl (nI k)), none, none, none]
def swM (r i w k s t y : Nat) : LC := [some (.inr (.inr (20, r))), some (.inl (nI i)), some (.inl (nI w)), some (.inl (nI k)), some (.inl (nI s)), some (.inl (nI t)), some (.inl (nI y))]
def sp_X10_sweep : SPc := fun As μ K => match As with
  | [.inr (.inr (20, r)), .inl c] => ∃ (i : Nat) (X : CS), c = nI i ∧ i < 3 ∧ RC (μ.1 (r + 1)) i X ∧ RU μ r i (setP X (swp (cP X))) (K (.inl none))
  | _ => False
def ct_X10_sweep : List (Nat × CI) := [(80, ci_X10_of), (125, ci_X10_packetCell), (77, ci_X10_cell)]
def ci_X10_sweep : CI := (yX10_sweep, cX10_sweep, 7, none, 2, (2, 0, 0, 43), 19, [], sp_X10_sweep)
set_option maxRecDepth 100000 in
theorem ck_X10_sweep : chkM ci_X10_sweep RX10 co_X10_sweep ct_X10_sweep [] false false = true := by decide +kernel
set_option maxHeartbeats 4000000 in
set_option maxRecDepth 100000 in
theorem ms_X10_sweep {g : GPT} {ot : OT} {l : Launch} (hl : l.stackTraces = false) : MS g ot l ci_X10_sweep := by
  refine ms_of hl RX10 co_X10_sweep ct_X10_sweep [] false false [4,59] 70 ck_X10_sweep (List.forall_mem_cons.mpr ⟨ms_X10_of hl, List.forall_mem_cons.mpr ⟨ms_X10_packetCell hl, List.forall_mem_cons.mpr ⟨ms_X10_cell hl, fun _ h => nomatch h⟩⟩⟩) ?_
  intro As μ K h
  simp only [ci_X10_sweep, sp_X10_sweep] at h
  split at h
  case h_2 => exact h.elim
  rename_i r c
  obtain ⟨i, X, rfl, hi, hX, h⟩ := h
  have hl := hX.2.2.1.1
  have hl2 := hX.2.2.1.2.1
  refine ⟨Nat.le_of_ble_eq_true rfl, fun m pc lc st μ' ce sl => (∃ k g, k ≤ (cP X).length ∧ m = 200 * ((cP X).length - k) ∧ pc = 4 ∧ lc = swL r i (swp ((cP X).take k)).length k ∧ st = [] ∧ μ' = rW μ r g ∧ SW (μ.1 (r + 1)) g (51 + 2406 * i) k (cP X) ∧ ce = 0 ∧ sl = 0) ∨
    (∃ k g p y, (cP X)[k]? = some p ∧ kpP p ∧ y ≤ 86 ∧ m = 200 * ((cP X).length - k) - 1 - y ∧ pc = 59 ∧ lc = swM r i (swp ((cP X).take k)).length k (51 + 2406 * i + (66 + 86 * k)) (51 + 2406 * i + (66 + 86 * (swp ((cP X).take k)).length)) y ∧ st = [] ∧ μ' = rW μ r (slF g (51 + 2406 * i + (66 + 86 * (swp ((cP X).take k)).length)) (51 + 2406 * i + (66 + 86 * k)) y) ∧ SW (μ.1 (r + 1)) g (51 + 2406 * i) k (cP X) ∧ ce = 0 ∧ sl = 0), ?_, ?_⟩
  · refine ⟨200 * ((cP X).length - 0), swL r i 0 0, ⟨rfl, rfl, rfl, rfl, trivial⟩, Or.inl ⟨0, μ.1 (r + 1), Nat.zero_le _, rfl, rfl, rfl, rfl, (rW_self μ r).symm, ⟨fun z _ => rfl, fun j p hp => ?_⟩, rfl, rfl⟩⟩
    exact absurd hp (by simp [swp])
  · rintro m pc lc st μ' ce sl (⟨k, g, hk, rfl, rfl, rfl, rfl, rfl, ⟨g1, g2⟩, rfl, rfl⟩ | ⟨k, g, p, y, hp, hkp, hy, rfl, rfl, rfl, rfl, rfl, ⟨g1, g2⟩, rfl, rfl⟩)
    · have hw := swp_le (cP X) k
      have c65 : (rW μ r g).1 (r + 1) (51 + 2406 * i + 65) = nI (cP X).length := by rw [rW_at, g1 _ (by omega)]; exact hl
      refine ⟨i, 65, rfl, rfl, by omega, fun h1 => ?_, fun h1 => ?_⟩
      · simp only [icP, c65] at h1
        rw [nI_le_iff (by omega) (by omega)] at h1
        obtain rfl : k = (cP X).length := by omega
        rw [List.take_length] at g2 hw
        refine ⟨i, 65, rfl, rfl, _, rfl, by omega, ?_⟩
        show K _ (up2 (rW μ r g).1 (r + 1) (51 + 2406 * i + 65) (nI (swp ((cP X).take (cP X).length)).length), (rW μ r g).2)
        simp only [up2_stF, stF_rW, rW_at]
        rw [List.take_length]
        obtain ⟨h1, h2, h3, h4, h5⟩ := hX
        refine h _ ⟨RS.keep h1 fun z z1 z2 => ?_, RA.keep h2 fun z z1 z2 => ?_, ⟨?_, ?_, fun j p hp => ?_⟩, RB.keep h4 fun z z1 z2 => ?_, RD.keep h5 fun z z1 z2 => ?_⟩ fun z hz => ?_
        · rw [upd_ne _ _ (by omega), g1 _ (by omega)]
        · rw [upd_ne _ _ (by omega), g1 _ (by omega)]
        · rw [upd_eq]
        · show (swp (cP X)).length ≤ 22
          omega
        · have hj : j < (swp (cP X)).length := (List.getElem?_eq_some_iff.mp hp).1
          exact (g2 j p hp).keep fun z z1 z2 => upd_ne _ _ (by omega)
        · rw [upd_ne _ _ (by omega), g1 _ (by omega)]
        · rw [upd_ne _ _ (by omega), g1 _ (by omega)]
        · rw [upd_ne _ _ (by omega), g1 _ (by omega)]
      · simp only [icP, c65] at h1
        rw [nI_le_iff (by omega) (by omega)] at h1
        obtain ⟨p, hp⟩ := at_of_lt (l := cP X) (k := k) (by omega)
        have hrp : RP g (51 + 2406 * i + (66 + 86 * k)) p := (hX.pk hp).keep fun z z1 z2 => g1 _ (by omega)
        have c4 : (rW μ r g).1 (r + 1) (51 + 2406 * i + (66 + 86 * k) + 4) = p.1 4 := by rw [rW_at]; exact hrp.1 4 (by omega)
        have c3 : (rW μ r g).1 (r + 1) (51 + 2406 * i + (66 + 86 * k) + 3) = p.1 3 := by rw [rW_at]; exact hrp.1 3 (by omega)
        have blk : kpP p → ∃ n' lc', n' < 200 * ((cP X).length - k) ∧ subL lc' (swM r i (swp ((cP X).take k)).length k (51 + 2406 * i + (66 + 86 * k)) (51 + 2406 * i + (66 + 86 * (swp ((cP X).take k)).length)) 0) ∧ (∃ k' g' p' y, (cP X)[k']? = some p' ∧ kpP p' ∧ y ≤ 86 ∧ n' = 200 * ((cP X).length - k') - 1 - y ∧ 59 = 59 ∧ lc' = swM r i (swp ((cP X).take k')).length k' (51 + 2406 * i + (66 + 86 * k')) (51 + 2406 * i + (66 + 86 * (swp ((cP X).take k')).length)) y ∧ ([] : List TV) = [] ∧ rW μ r g = rW μ r (slF g' (51 + 2406 * i + (66 + 86 * (swp ((cP X).take k')).length)) (51 + 2406 * i + (66 + 86 * k')) y) ∧ SW (μ.1 (r + 1)) g' (51 + 2406 * i) k' (cP X) ∧ 0 = 0 ∧ 0 = 0) := fun hkp => by
          refine ⟨200 * ((cP X).length - k) - 1 - 0, swM r i (swp ((cP X).take k)).length k (51 + 2406 * i + (66 + 86 * k)) (51 + 2406 * i + (66 + 86 * (swp ((cP X).take k)).length)) 0, by omega, ⟨rfl, rfl, rfl, rfl, rfl, rfl, rfl, trivial⟩, k, g, p, 0, hp, hkp, by omega, rfl, rfl, rfl, rfl, ?_, ⟨g1, g2⟩, rfl, rfl⟩
          congr 1
          funext z
          unfold slF
          rw [if_neg (by omega)]
        refine ⟨i, k, rfl, rfl, _, nI_add _ 4, by omega, fun h2 => ?_, fun h2 => ⟨_, nI_add _ 3, by omega, fun h3 => ?_, fun h3 => ?_⟩⟩
        · have h2 : (rW μ r g).1 (r + 1) (51 + 2406 * i + (66 + 86 * k) + 4) = 1 := h2
          rw [c4] at h2
          obtain ⟨n', lc', a1, a2, a3⟩ := blk (Or.inl h2)
          exact ⟨i, (swp ((cP X).take k)).length, rfl, rfl, n', lc', a1, a2, Or.inr a3⟩
        · have h2 : ¬ (rW μ r g).1 (r + 1) (51 + 2406 * i + (66 + 86 * k) + 4) = 1 := h2
          have h3 : (rW μ r g).1 (r + 1) (51 + 2406 * i + (66 + 86 * k) + 3) ≤ 0 := h3
          rw [c4] at h2
          rw [c3] at h3
          have hs := swp_S hp
          rw [if_neg (fun q => q.elim h2 (Int32.not_lt.mpr h3)), List.append_nil] at hs
          refine ⟨200 * ((cP X).length - (k + 1)), swL r i (swp ((cP X).take (k + 1))).length (k + 1), by omega, ⟨rfl, rfl, ?_, inc_tv k, trivial⟩, Or.inl ⟨k + 1, g, by omega, rfl, rfl, rfl, rfl, rfl, ⟨fun z hz => g1 z (by omega), ?_⟩, rfl, rfl⟩⟩
          · rw [hs]
          · rw [hs]; exact g2
        · have h3 : ¬ (rW μ r g).1 (r + 1) (51 + 2406 * i + (66 + 86 * k) + 3) ≤ 0 := h3
          rw [c3] at h3
          obtain ⟨n', lc', a1, a2, a3⟩ := blk (Or.inr (Int32.not_le.mp h3))
          exact ⟨i, (swp ((cP X).take k)).length, rfl, rfl, n', lc', a1, a2, Or.inr a3⟩
    · have hw := swp_le (cP X) k
      have hk : k < (cP X).length := (List.getElem?_eq_some_iff.mp hp).1
      refine ⟨fun h1 => ?_, fun h1 => ?_⟩
      · have h1 : nI 86 ≤ nI y := h1
        rw [nI_le_iff (by omega) (by omega)] at h1
        obtain rfl : y = 86 := by omega
        have hs := swp_S hp
        rw [if_pos hkp] at hs
        have hrp : RP g (51 + 2406 * i + (66 + 86 * k)) p := (hX.pk hp).keep fun z z1 z2 => g1 _ (by omega)
        refine ⟨200 * ((cP X).length - (k + 1)), swL r i (swp ((cP X).take (k + 1))).length (k + 1), by omega, ⟨rfl, rfl, ?_, inc_tv k, trivial⟩, Or.inl ⟨k + 1, _, by omega, rfl, rfl, rfl, rfl, rfl, ⟨fun z hz => ?_, fun j q hq => ?_⟩, rfl, rfl⟩⟩
        · rw [hs, List.length_append]
          exact inc_tv _
        · unfold slF
          rw [if_neg (by omega)]
          exact g1 z (by omega)
        · rw [hs] at hq
          by_cases hj : j < (swp ((cP X).take k)).length
          · rw [List.getElem?_append_left hj] at hq
            refine (g2 j q hq).keep fun z z1 z2 => ?_
            unfold slF
            rw [if_neg (by omega)]
          · have hj2 : j < (swp ((cP X).take k) ++ [p]).length := (List.getElem?_eq_some_iff.mp hq).1
            rw [List.length_append] at hj2
            have hj2 : j < (swp ((cP X).take k)).length + 1 := hj2
            obtain rfl : j = (swp ((cP X).take k)).length := by omega
            rw [List.getElem?_append_right (Nat.le_refl _), Nat.sub_self] at hq
            cases hq
            exact slF_RP hrp
      · have h1 : ¬ nI 86 ≤ nI y := h1
        rw [nI_le_iff (by omega) (by omega)] at h1
        refine ⟨_, nI_add _ y, by omega, _, nI_add _ y, by omega, 200 * ((cP X).length - k) - 1 - (y + 1), swM r i (swp ((cP X).take k)).length k (51 + 2406 * i + (66 + 86 * k)) (51 + 2406 * i + (66 + 86 * (swp ((cP X).take k)).length)) (y + 1), by omega, ⟨rfl, rfl, rfl, rfl, rfl, rfl, inc_tv y, trivial⟩, Or.inr ⟨k, g, p, y + 1, hp, hkp, by omega, rfl, rfl, rfl, rfl, ?_, ⟨g1, g2⟩, rfl, rfl⟩⟩
        simp only [up2_stF, stF_rW, rW_at]
        rw [slF_S g (by omega) (by omega) (by omega)]
