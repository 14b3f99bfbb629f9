/-! THE REFERENCE gives packets up. -/
theorem upd_upd (f : Nat → Int32) (k : Nat) (v w : Int32) : upd (upd f k v) k w = upd f k w := by
  funext z
  by_cases hz : z = k
  · subst hz
    rw [upd_eq, upd_eq]
  · rw [upd_ne _ _ hz, upd_ne _ _ hz, upd_ne _ _ hz]
theorem upd_self (f : Nat → Int32) (k : Nat) : upd f k (f k) = f := by
  funext z
  by_cases hz : z = k
  · subst hz
    rw [upd_eq]
  · rw [upd_ne _ _ hz]
/-- a list changed as far as k -/
def mapTo (g : PK → PK) (l : List PK) (k : Nat) : List PK := (l.take k).map g ++ l.drop k
theorem mapTo_0 (g : PK → PK) (l : List PK) : mapTo g l 0 = l := by simp [mapTo]
theorem mapTo_len (g : PK → PK) (l : List PK) (k : Nat) : (mapTo g l k).length = l.length := by
  unfold mapTo
  rw [List.length_append, List.length_map, List.length_take, List.length_drop]
  omega
theorem mapTo_all (g : PK → PK) (l : List PK) {k : Nat} (h : l.length ≤ k) : mapTo g l k = l.map g := by
  unfold mapTo
  rw [List.take_of_length_le h, List.drop_eq_nil_of_le h, List.append_nil]
theorem mapTo_get (g : PK → PK) (l : List PK) {k : Nat} (hk : k ≤ l.length) (j : Nat) : (mapTo g l k)[j]? = if j < k then (l[j]?).map g else l[j]? := by
  unfold mapTo
  have e : ((l.take k).map g).length = k := by rw [List.length_map, List.length_take]; omega
  by_cases hj : j < k
  · rw [if_pos hj, List.getElem?_append_left (by omega), List.getElem?_map, List.getElem?_take, if_pos hj]
  · rw [if_neg hj, List.getElem?_append_right (by omega), List.getElem?_drop, e]
    congr 1
    omega
theorem mapTo_at (g : PK → PK) {l : List PK} {k : Nat} {p : PK} (h : l[k]? = some p) : (mapTo g l k)[k]? = some p := by
  have hk : k < l.length := (List.getElem?_eq_some_iff.mp h).1
  rw [mapTo_get g l (by omega), if_neg (by omega)]
  exact h
theorem mapTo_S (g : PK → PK) {l : List PK} {k : Nat} {p : PK} (h : l[k]? = some p) : mapTo g l (k + 1) = (mapTo g l k).set k (g p) := by
  have hk : k < l.length := (List.getElem?_eq_some_iff.mp h).1
  apply List.ext_getElem?
  intro j
  rw [mapTo_get g l (by omega)]
  by_cases hj : j = k
  · subst hj
    rw [if_pos (by omega), List.getElem?_set_self (by rw [mapTo_len]; exact hk), h]
    rfl
  · rw [List.getElem?_set_ne (by omega), mapTo_get g l (by omega)]
    by_cases hj2 : j < k
    · rw [if_pos hj2, if_pos (by omega)]
    · rw [if_neg hj2, if_neg (by omega)]
theorem mapTo_id (g : PK → PK) {l : List PK} {k : Nat} {p : PK} (h : l[k]? = some p) (hg : g p = p) : mapTo g l (k + 1) = mapTo g l k := by
  rw [mapTo_S g h, hg]
  have hk : k < (mapTo g l k).length := by rw [mapTo_len]; exact (List.getElem?_eq_some_iff.mp h).1
  have e : (mapTo g l k)[k]? = some p := mapTo_at g h
  apply List.ext_getElem?
  intro j
  by_cases hj : j = k
  · subst hj
    rw [List.getElem?_set_self hk, e]
  · rw [List.getElem?_set_ne (by omega)]
theorem oldN_S {t lim : Int32} {l : List PK} {k : Nat} {p : PK} (h : l[k]? = some p) : oldN t lim (l.take (k + 1)) = oldN t lim (l.take k) + (if old t lim p then 1 else 0) := by
  have ht : l.take (k + 1) = l.take k ++ [p] := by rw [List.take_add_one, h]; rfl
  unfold oldN
  rw [ht, List.filter_append, List.length_append]
  congr 1
  by_cases hp : old t lim p
  · rw [if_pos hp]
    have e : ([p] : List PK).filter (fun p => decide (old t lim p)) = [p] := List.filter_cons_of_pos (decide_eq_true hp)
    rw [e]
    rfl
  · rw [if_neg hp]
    have e : ([p] : List PK).filter (fun p => decide (old t lim p)) = [] := List.filter_cons_of_neg (by rw [decide_eq_false hp]; decide)
    rw [e]
    rfl
def givK (t lim : Int32) (X : CS) (k : Nat) : CS := setP (setS X 14 (cS X 14 + nI (oldN t lim ((cP X).take k)))) (mapTo (zeroO t lim) (cP X) k)
def guL (r i k : Nat) : LC := [some (.inr (.inr (20, r))), some (.inl (nI i)), some (.inl (nI k)), none]
def sp_X10_giveUp : SPc := fun As μ K => match As with
  | [.inr (.inr (20, r)), .inl c] => ∃ (i : Nat) (X : CS), c = nI i ∧ i < 3 ∧ RC (μ.1 (r + 1)) i X ∧ RU μ r i (giv (μ.1 (r + 1) 0) (4 * μ.1 (r + 1) 1 + μ.1 (r + 1) 2) X) (K (.inl none))
  | _ => False
def ct_X10_giveUp : List (Nat × CI) := [(80, ci_X10_of), (125, ci_X10_packetCell), (115, ci_X10_add), (134, ci_X10_sweep)]
def ci_X10_giveUp : CI := (yX10_giveUp, cX10_giveUp, 4, none, 2, (3, 0, 0, 69), 19, [], sp_X10_giveUp)
set_option maxRecDepth 100000 in
theorem ck_X10_giveUp : chkM ci_X10_giveUp RX10 co_X10_giveUp ct_X10_giveUp [] false false = true := by decide +kernel
set_option maxHeartbeats 4000000 in
set_option maxRecDepth 100000 in
theorem ms_X10_giveUp {g : GPT} {ot : OT} {l : Launch} (hl : l.stackTraces = false) : MS g ot l ci_X10_giveUp := by
  refine ms_of hl RX10 co_X10_giveUp ct_X10_giveUp [] false false [2] 67 ck_X10_giveUp (List.forall_mem_cons.mpr ⟨ms_X10_of hl, List.forall_mem_cons.mpr ⟨ms_X10_packetCell hl, List.forall_mem_cons.mpr ⟨ms_X10_add hl, List.forall_mem_cons.mpr ⟨ms_X10_sweep hl, fun _ h => nomatch h⟩⟩⟩⟩) ?_
  intro As μ K h
  simp only [ci_X10_giveUp, sp_X10_giveUp] at h
  split at h
  case h_2 => exact h.elim
  rename_i r c
  obtain ⟨i, X, rfl, hi, hX, h⟩ := h
  have hl := hX.2.2.1.1
  have hl2 := hX.2.2.1.2.1
  generalize hlim : 4 * μ.1 (r + 1) 1 + μ.1 (r + 1) 2 = lim at h
  generalize ht : μ.1 (r + 1) 0 = t at h
  refine ⟨Nat.le_of_ble_eq_true rfl, fun m pc lc st μ' ce sl => ∃ k g, k ≤ (cP X).length ∧ m = (cP X).length - k ∧ pc = 2 ∧ lc = guL r i k ∧ st = [] ∧ μ' = rW μ r g ∧ RC g i (givK t lim X k) ∧ (∀ z, z < 51 + 2406 * i ∨ 51 + 2406 * i + 2406 ≤ z → g z = μ.1 (r + 1) z) ∧ ce = 0 ∧ sl = 0, ?_, ?_⟩
  · refine ⟨(cP X).length, guL r i 0, ⟨rfl, rfl, rfl, trivial⟩, 0, μ.1 (r + 1), Nat.zero_le _, rfl, rfl, rfl, rfl, (rW_self μ r).symm, ?_, fun z _ => rfl, rfl, rfl⟩
    have e : givK t lim X 0 = X := by
      unfold givK
      rw [mapTo_0]
      have e2 : cS X 14 + nI (oldN t lim ((cP X).take 0)) = cS X 14 := Int32.add_zero _
      rw [e2]
      show (upd X.1 14 (X.1 14), _) = X
      rw [upd_self]
    rw [e]
    exact hX
  · rintro m pc lc st μ' ce sl ⟨k, g, hk, rfl, rfl, rfl, rfl, rfl, hg, ho, rfl, rfl⟩
    have hgl : g (51 + 2406 * i + 65) = nI (cP X).length := by
      have := hg.2.2.1.1
      have e : (cP (givK t lim X k)).length = (cP X).length := mapTo_len _ _ _
      rw [e] at this
      exact this
    have c65 : (rW μ r g).1 (r + 1) (51 + 2406 * i + 65) = nI (cP X).length := by rw [rW_at]; exact hgl
    refine ⟨i, 65, rfl, rfl, by omega, fun h1 => ?_, fun h1 => ?_⟩
    · simp only [icP, c65] at h1
      rw [nI_le_iff (by omega) (by omega)] at h1
      refine ⟨i, givK t lim X k, rfl, hi, by rw [rW_at]; exact hg, fun f' hf hof => ?_⟩
      rw [rW_rW]
      refine h f' ?_ fun z hz => (hof z hz).trans (by rw [rW_at]; exact ho z hz)
      have e : setP (givK t lim X k) (swp (cP (givK t lim X k))) = giv t lim X := by
        unfold givK giv
        rw [mapTo_all _ _ h1, List.take_of_length_le h1]
      rw [← e]
      exact hf
    · simp only [icP, c65] at h1
      rw [nI_le_iff (by omega) (by omega)] at h1
      obtain ⟨p, hp⟩ := at_of_lt (l := cP X) (k := k) (by omega)
      have hp2 : (cP (givK t lim X k))[k]? = some p := mapTo_at _ hp
      have hrp := hg.pk hp2
      have c4 : (rW μ r g).1 (r + 1) (51 + 2406 * i + (66 + 86 * k) + 4) = p.1 4 := by rw [rW_at]; exact hrp.1 4 (by omega)
      have c2 : (rW μ r g).1 (r + 1) (51 + 2406 * i + (66 + 86 * k) + 2) = p.1 2 := by rw [rW_at]; exact hrp.1 2 (by omega)
      have g0 : (rW μ r g).1 (r + 1) 0 = t := by rw [rW_at, ho 0 (by omega)]; exact ht
      have g1 : (rW μ r g).1 (r + 1) 1 = μ.1 (r + 1) 1 := by rw [rW_at, ho 1 (by omega)]
      have g2 : (rW μ r g).1 (r + 1) 2 = μ.1 (r + 1) 2 := by rw [rW_at, ho 2 (by omega)]
      have no : ¬ old t lim p → givK t lim X (k + 1) = givK t lim X k := fun q => by
        unfold givK
        rw [oldN_S hp, if_neg q, mapTo_id _ hp (by unfold zeroO; rw [if_neg q])]
        rfl
      refine ⟨i, k, rfl, rfl, _, nI_add _ 4, by omega, fun h2 => ?_, fun h2 => ⟨0, rfl, by omega, _, nI_add _ 2, by omega, 1, rfl, by omega, 2, rfl, by omega, fun h3 => ?_, fun h3 => ⟨_, nI_add _ 4, by omega, i, 14, rfl, rfl, by omega, ?_⟩⟩⟩
      · have h2 : ¬ (rW μ r g).1 (r + 1) (51 + 2406 * i + (66 + 86 * k) + 4) = 1 := h2
        rw [c4] at h2
        exact ⟨(cP X).length - (k + 1), guL r i (k + 1), by omega, ⟨rfl, rfl, inc_tv k, trivial⟩, k + 1, g, by omega, rfl, rfl, rfl, rfl, rfl, by rw [no fun q => h2 q.1]; exact hg, ho, rfl, rfl⟩
      · have h3 : (rW μ r g).1 (r + 1) 0 - (rW μ r g).1 (r + 1) (51 + 2406 * i + (66 + 86 * k) + 2) < 4 * (rW μ r g).1 (r + 1) 1 + (rW μ r g).1 (r + 1) 2 := h3
        rw [g0, g1, g2, c2, hlim] at h3
        exact ⟨(cP X).length - (k + 1), guL r i (k + 1), by omega, ⟨rfl, rfl, inc_tv k, trivial⟩, k + 1, g, by omega, rfl, rfl, rfl, rfl, rfl, by rw [no fun q => Int32.not_le.mpr h3 q.2]; exact hg, ho, rfl, rfl⟩
      · have h2 : ¬ ¬ (rW μ r g).1 (r + 1) (51 + 2406 * i + (66 + 86 * k) + 4) = 1 := h2
        rw [c4, Classical.not_not] at h2
        have h3 : ¬ (rW μ r g).1 (r + 1) 0 - (rW μ r g).1 (r + 1) (51 + 2406 * i + (66 + 86 * k) + 2) < 4 * (rW μ r g).1 (r + 1) 1 + (rW μ r g).1 (r + 1) 2 := h3
        rw [g0, g1, g2, c2, hlim] at h3
        have hold : old t lim p := ⟨h2, Int32.not_lt.mp h3⟩
        have hg2 := (hg.PH hp2 (k := 4) (by omega) 0).S (k := 14) (by omega) (cS X 14 + nI (oldN t lim ((cP X).take (k + 1))))
        have e : setS (setP (givK t lim X k) ((cP (givK t lim X k)).set k (upd p.1 4 0, p.2))) 14 (cS X 14 + nI (oldN t lim ((cP X).take (k + 1)))) = givK t lim X (k + 1) := by
          unfold givK
          rw [mapTo_S _ hp]
          show (upd (upd X.1 14 _) 14 _, _, _, _) = (upd X.1 14 _, _, _, _)
          rw [upd_upd]
          have e3 : zeroO t lim p = (upd p.1 4 0, p.2) := if_pos hold
          rw [e3]
        rw [e] at hg2
        refine ⟨(cP X).length - (k + 1), guL r i (k + 1), by omega, ⟨rfl, rfl, inc_tv k, trivial⟩, k + 1, _, by omega, rfl, rfl, rfl, rfl, ?_, hg2, fun z hz => ?_, rfl, rfl⟩
        · simp only [up2_stF, stF_rW, stF_at, rW_rW, rW_at]
          rw [upd_ne (k := 51 + 2406 * i + 14) _ _ (by omega)]
          have e5 : g (51 + 2406 * i + 14) = cS X 14 + nI (oldN t lim ((cP X).take k)) := (hg.1 14 (by omega)).trans (show upd (cS X) 14 _ 14 = _ from upd_eq _ _ _)
          rw [e5, oldN_S hp, if_pos hold, nI_succ, Int32.add_assoc]
          rfl
        · rw [upd_ne _ _ (by omega), upd_ne _ _ (by omega)]
          exact ho z hz
