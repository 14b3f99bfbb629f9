def avL (r i k : Nat) : LC := [some (.inr (.inr (20, r))), some (.inl (nI i)), some (.inl (nI k)), none, none, none]
def avM (r i w n k : Nat) : LC := [some (.inr (.inr (20, r))), some (.inl (nI i)), some (.inl (nI w)), some (.inl (nI n)), some (.inl (nI k)), none]
theorem RC.AS {f : Nat → Int32} {c : Nat} {X : CS} (h : RC f c X) {w : Nat} (hw : w < (cA X).length) (q : Int32 × Int32) : RC (upd (upd f (51 + 2406 * c + (17 + 2 * w)) q.1) (51 + 2406 * c + (17 + 2 * w) + 1) q.2) c (setA X ((cA X).set w q)) := by
  obtain ⟨h1, h2, h3, h4, h5⟩ := h
  have hl := h2.2.1
  have kp : ∀ z, (¬ z = 51 + 2406 * c + (17 + 2 * w) ∧ ¬ z = 51 + 2406 * c + (17 + 2 * w) + 1) → upd (upd f (51 + 2406 * c + (17 + 2 * w)) q.1) (51 + 2406 * c + (17 + 2 * w) + 1) q.2 z = f z := fun z hz => by
    rw [upd_ne _ _ hz.2, upd_ne _ _ hz.1]
  refine ⟨RS.keep h1 fun z z1 z2 => kp z (by omega), ⟨?_, ?_, fun j p hp => ?_⟩, RPL.keep h3 fun z z1 z2 => kp z (by omega), RB.keep h4 fun z z1 z2 => kp z (by omega), RD.keep h5 fun z z1 z2 => kp z (by omega)⟩
  · rw [kp _ (by omega)]
    show _ = nI ((cA X).set w q).length
    rw [List.length_set]
    exact h2.1
  · show ((cA X).set w q).length ≤ 24
    rw [List.length_set]
    exact hl
  · have hp : ((cA X).set w q)[j]? = some p := hp
    by_cases hj : w = j
    · subst hj
      rw [List.getElem?_set_self hw] at hp
      cases hp
      refine ⟨?_, ?_⟩
      · rw [upd_ne _ _ (by omega), upd_eq]
      · rw [upd_eq]
    · rw [List.getElem?_set_ne hj] at hp
      rw [kp _ (by omega), kp _ (by omega)]
      exact h2.2.2 j p hp
/-- the list of acknowledgements while it is gone through -/
def goA (t : Int32) (l : List (Int32 × Int32)) (k : Nat) : List (Int32 × Int32) := kpA t (l.take k) ++ l.drop (kpA t (l.take k)).length
theorem goA_len (t : Int32) (l : List (Int32 × Int32)) {k : Nat} (hk : k ≤ l.length) : (goA t l k).length = l.length := by
  have := kpA_le t l k
  unfold goA
  rw [List.length_append, List.length_drop]
  omega
theorem goA_at (t : Int32) {l : List (Int32 × Int32)} {k : Nat} {q : Int32 × Int32} (h : l[k]? = some q) : (goA t l k)[k]? = some q := by
  have := kpA_le t l k
  unfold goA
  rw [List.getElem?_append_right (by omega), List.getElem?_drop]
  rw [← h]
  congr 1
  omega
theorem goA_no (t : Int32) {l : List (Int32 × Int32)} {k : Nat} {q : Int32 × Int32} (h : l[k]? = some q) (hq : q.2 = t) : goA t l (k + 1) = goA t l k := by
  unfold goA
  rw [kpA_S t h, if_pos hq, List.append_nil]
theorem goA_S (t : Int32) {l : List (Int32 × Int32)} {k : Nat} {q : Int32 × Int32} (h : l[k]? = some q) (hq : ¬ q.2 = t) : goA t l (k + 1) = (goA t l k).set (kpA t (l.take k)).length q := by
  have hw := kpA_le t l k
  have hk : k < l.length := (List.getElem?_eq_some_iff.mp h).1
  unfold goA
  rw [kpA_S t h, if_neg hq, List.length_append]
  generalize kpA t (l.take k) = P at hw
  have e : l.drop P.length = l[P.length] :: l.drop (P.length + 1) := List.drop_eq_getElem_cons (by omega)
  rw [e, List.set_append_right _ _ (Nat.le_refl _), Nat.sub_self, List.append_assoc]
  rfl
def sp_X10_arriveAll : SPc := fun As μ K => match As with
  | [.inr (.inr (20, r)), .inl c] => ∃ (i : Nat) (X : CS), c = nI i ∧ i < 3 ∧ RC (μ.1 (r + 1)) i X ∧ eOK X ∧ RI X ∧ (cA X).length + arN (μ.1 (r + 1) 0) (cP X) ≤ 24 ∧ RU μ r i (arrC (μ.1 (r + 1) 0) (μ.1 (r + 1) 1) X) (K (.inl none))
  | _ => False
def ct_X10_arriveAll : List (Nat × CI) := [(80, ci_X10_of), (125, ci_X10_packetCell), (137, ci_X10_receive), (134, ci_X10_sweep), (77, ci_X10_cell), (141, ci_X10_acknowledge)]
def ci_X10_arriveAll : CI := (yX10_arriveAll, cX10_arriveAll, 6, none, 2, (5, 0, 0, 118), 19, [], sp_X10_arriveAll)
set_option maxRecDepth 100000 in
theorem ck_X10_arriveAll : chkM ci_X10_arriveAll RX10 co_X10_arriveAll ct_X10_arriveAll [] false false = true := by decide +kernel
set_option maxHeartbeats 4000000 in
set_option maxRecDepth 100000 in
theorem ms_X10_arriveAll {g : GPT} {ot : OT} {l : Launch} (hl : l.stackTraces = false) : MS g ot l ci_X10_arriveAll := by
  refine ms_of hl RX10 co_X10_arriveAll ct_X10_arriveAll [] false false [2,65] 118 ck_X10_arriveAll (List.forall_mem_cons.mpr ⟨ms_X10_of hl, List.forall_mem_cons.mpr ⟨ms_X10_packetCell hl, List.forall_mem_cons.mpr ⟨ms_X10_receive hl, List.forall_mem_cons.mpr ⟨ms_X10_sweep hl, List.forall_mem_cons.mpr ⟨ms_X10_cell hl, List.forall_mem_cons.mpr ⟨ms_X10_acknowledge hl, fun _ h => nomatch h⟩⟩⟩⟩⟩⟩) ?_
  intro As μ K h
  simp only [ci_X10_arriveAll, sp_X10_arriveAll] at h
  split at h
  case h_2 => exact h.elim
  rename_i r c
  obtain ⟨i, X, rfl, hi, hX, hE, hI, hA, h⟩ := h
  have hl2 := hX.2.2.1.2.1
  generalize ht : μ.1 (r + 1) 0 = t at h hA
  generalize hd : μ.1 (r + 1) 1 = d at h
  have fr0 : ∀ {g : Nat → Int32}, (∀ z, z < 51 + 2406 * i ∨ 51 + 2406 * i + 2406 ≤ z → g z = μ.1 (r + 1) z) → (rW μ r g).1 (r + 1) 0 = t := fun ho => by rw [rW_at, ho 0 (by omega)]; exact ht
  have fr1 : ∀ {g : Nat → Int32}, (∀ z, z < 51 + 2406 * i ∨ 51 + 2406 * i + 2406 ≤ z → g z = μ.1 (r + 1) z) → (rW μ r g).1 (r + 1) 1 = d := fun ho => by rw [rW_at, ho 1 (by omega)]; exact hd
  have inv : ∀ k, k ≤ (cP X).length → RI (arrP t d ((cP X).take k) X) ∧ (cA (arrP t d ((cP X).take k) X)).length ≤ (cA X).length + arN t ((cP X).take k) := fun k => by
    induction k with
    | zero => exact fun _ => ⟨hI, Nat.le_add_right _ _⟩
    | succ k ih =>
      intro hk
      obtain ⟨i1, i2⟩ := ih (by omega)
      obtain ⟨p, hp⟩ := at_of_lt (l := cP X) (k := k) (by omega)
      rw [arrP_S t d hp, arN_S t hp]
      by_cases q : p.1 3 = t
      · rw [if_pos q, if_pos q]
        have := rcvP_A t d p (arrP t d ((cP X).take k) X)
        exact ⟨rcvP_RI t d p _ i1 (hE p (List.mem_of_getElem? hp)), by omega⟩
      · rw [if_neg q, if_neg q]
        exact ⟨i1, i2⟩
  refine ⟨Nat.le_of_ble_eq_true rfl, fun m pc lc st μ' ce sl => (∃ k g, k ≤ (cP X).length ∧ m = 100 + ((cP X).length - k) ∧ pc = 2 ∧ lc = avL r i k ∧ st = [] ∧ μ' = rW μ r g ∧ RC g i (setP (arrP t d ((cP X).take k) X) (mapTo (zeroA t) (cP X) k)) ∧ (∀ z, z < 51 + 2406 * i ∨ 51 + 2406 * i + 2406 ≤ z → g z = μ.1 (r + 1) z) ∧ ce = 0 ∧ sl = 0) ∨
    (∃ k g, k ≤ (cA (arr1 t d X)).length ∧ m = (cA (arr1 t d X)).length - k ∧ pc = 65 ∧ lc = avM r i (kpA t ((cA (arr1 t d X)).take k)).length (cA (arr1 t d X)).length k ∧ st = [] ∧ μ' = rW μ r g ∧ RC g i (setA (akA t ((cA (arr1 t d X)).take k) (arr1 t d X)) (goA t (cA (arr1 t d X)) k)) ∧ (∀ z, z < 51 + 2406 * i ∨ 51 + 2406 * i + 2406 ≤ z → g z = μ.1 (r + 1) z) ∧ ce = 0 ∧ sl = 0), ?_, ?_⟩
  · refine ⟨100 + ((cP X).length - 0), avL r i 0, ⟨rfl, rfl, rfl, trivial⟩, Or.inl ⟨0, μ.1 (r + 1), Nat.zero_le _, rfl, rfl, rfl, rfl, (rW_self μ r).symm, ?_, fun z _ => rfl, rfl, rfl⟩⟩
    rw [mapTo_0]
    exact hX
  · rintro m pc lc st μ' ce sl (⟨k, g, hk, rfl, rfl, rfl, rfl, rfl, hg, ho, rfl, rfl⟩ | ⟨k, g, hk, rfl, rfl, rfl, rfl, rfl, hg, ho, rfl, rfl⟩)
    · have c65 : (rW μ r g).1 (r + 1) (51 + 2406 * i + 65) = nI (cP X).length := by
        rw [rW_at]
        have := hg.2.2.1.1
        have e : (cP (setP (arrP t d ((cP X).take k) X) (mapTo (zeroA t) (cP X) k))).length = (cP X).length := mapTo_len _ _ _
        rw [e] at this
        exact this
      refine ⟨i, 65, rfl, rfl, by omega, fun h1 => ?_, fun h1 => ?_⟩
      · simp only [icP, c65] at h1
        rw [nI_le_iff (by omega) (by omega)] at h1
        rw [List.take_of_length_le h1, mapTo_all _ _ h1] at hg
        refine ⟨i, _, rfl, hi, by rw [rW_at]; exact hg, fun f' hf hof => ?_⟩
        rw [rW_rW]
        have hf : RC f' i (arr1 t d X) := hf
        have ho' : ∀ z, z < 51 + 2406 * i ∨ 51 + 2406 * i + 2406 ≤ z → f' z = μ.1 (r + 1) z := fun z hz => (hof z hz).trans (by rw [rW_at]; exact ho z hz)
        have s16 : (rW μ r f').1 (r + 1) (51 + 2406 * i + 16) = nI (cA (arr1 t d X)).length := by rw [rW_at]; exact hf.2.1.1
        refine ⟨i, 16, rfl, rfl, by omega, (cA (arr1 t d X)).length - 0, avM r i 0 (cA (arr1 t d X)).length 0, ?_, ⟨rfl, rfl, rfl, ?_, rfl, trivial⟩, Or.inr ⟨0, f', Nat.zero_le _, rfl, rfl, rfl, rfl, rfl, hf, ho', rfl, rfl⟩⟩
        · have := hf.2.1.2.1
          omega
        · rw [s16]
      · simp only [icP, c65] at h1
        rw [nI_le_iff (by omega) (by omega)] at h1
        obtain ⟨p, hp⟩ := at_of_lt (l := cP X) (k := k) (by omega)
        have hp2 : (cP (setP (arrP t d ((cP X).take k) X) (mapTo (zeroA t) (cP X) k)))[k]? = some p := mapTo_at _ hp
        have c3 : (rW μ r g).1 (r + 1) (51 + 2406 * i + (66 + 86 * k) + 3) = p.1 3 := by rw [rW_at]; exact (hg.pk hp2).1 3 (by omega)
        obtain ⟨i1, i2⟩ := inv k hk
        have i3 := arN_le t (cP X) (k + 1)
        have i4 := arN_S t hp
        refine ⟨i, k, rfl, rfl, _, nI_add _ 3, by omega, 0, rfl, by omega, fun h2 => ?_, fun h2 => ⟨i, k, _, p, rfl, rfl, hi, by rw [rW_at]; exact hg, hp2, hE p (List.mem_of_getElem? hp), i1, ?_, fun f' hf hof => ?_⟩⟩
        · have h2 : ¬ (rW μ r g).1 (r + 1) (51 + 2406 * i + (66 + 86 * k) + 3) = (rW μ r g).1 (r + 1) 0 := h2
          rw [c3, fr0 ho] at h2
          refine ⟨100 + ((cP X).length - (k + 1)), avL r i (k + 1), by omega, ⟨rfl, rfl, inc_tv k, trivial⟩, Or.inl ⟨k + 1, g, by omega, rfl, rfl, rfl, rfl, rfl, ?_, ho, rfl, rfl⟩⟩
          rw [arrP_S t d hp, if_neg h2, mapTo_id _ hp (by unfold zeroA; rw [if_neg h2])]
          exact hg
        · have h2 : ¬ ¬ (rW μ r g).1 (r + 1) (51 + 2406 * i + (66 + 86 * k) + 3) = (rW μ r g).1 (r + 1) 0 := h2
          rw [c3, fr0 ho, Classical.not_not] at h2
          rw [if_pos h2] at i4
          show (cA (arrP t d ((cP X).take k) X)).length ≤ 23
          omega
        · have h2 : ¬ ¬ (rW μ r g).1 (r + 1) (51 + 2406 * i + (66 + 86 * k) + 3) = (rW μ r g).1 (r + 1) 0 := h2
          rw [c3, fr0 ho, Classical.not_not] at h2
          rw [rW_rW]
          refine ⟨100 + ((cP X).length - (k + 1)), avL r i (k + 1), by omega, ⟨rfl, rfl, inc_tv k, trivial⟩, Or.inl ⟨k + 1, f', by omega, rfl, rfl, rfl, rfl, rfl, ?_, fun z hz => (hof z hz).trans (by rw [rW_at]; exact ho z hz), rfl, rfl⟩⟩
          rw [fr0 ho, fr1 ho, rcvP_setP] at hf
          rw [arrP_S t d hp, if_pos h2, mapTo_S _ hp]
          have e : zeroA t p = (upd p.1 3 0, p.2) := if_pos h2
          rw [e]
          exact hf
    · have hw := kpA_le t (cA (arr1 t d X)) k
      have hE1 : eOK (arr1 t d X) := fun p hp en he => by
        have hp := (List.mem_filter.mp hp).1
        obtain ⟨q, hq, rfl⟩ := List.mem_map.mp hp
        rw [zeroA_2] at he
        exact hE q hq en he
      have hC : arrC t d X = arr2 t (arr1 t d X) := rfl
      rw [hC] at h
      clear hC inv
      generalize arr1 t d X = Y at *
      have hl24 : (cA Y).length ≤ 24 := by
        have := hg.2.1.2.1
        have e : (cA (setA (akA t ((cA Y).take k) Y) (goA t (cA Y) k))).length = (cA Y).length := goA_len t _ hk
        rw [e] at this
        exact this
      refine ⟨fun h1 => ?_, fun h1 => ?_⟩
      · simp only [icP, ifP, iL, iM1] at h1
        try simp only [z_nI] at h1
        try simp only [nI_add, nI_mul] at h1
        first | rw [nI_le_iff (by omega) (by omega)] at h1 | rw [nI_lt_iff (by omega) (by omega)] at h1 | rw [nI_eq_iff (by omega) (by omega)] at h1
        obtain rfl : k = (cA Y).length := by omega
        refine ⟨i, 16, rfl, rfl, _, rfl, by omega, ?_⟩
        show K _ _
        simp only [up2_rW, rW_rW, rW_at]
        refine h _ ?_ fun z hz => by
          rw [upd_ne _ _ (by omega)]
          exact ho z hz
        obtain ⟨h1, h2, h3, h4, h5⟩ := hg
        rw [List.take_length] at h1 h2 h3 h4 h5 ⊢
        refine ⟨RS.keep h1 fun z z1 z2 => upd_ne _ _ (by omega), ⟨?_, ?_, fun j q hq => ?_⟩, RPL.keep h3 fun z z1 z2 => upd_ne _ _ (by omega), RB.keep h4 fun z z1 z2 => upd_ne _ _ (by omega), RD.keep h5 fun z z1 z2 => upd_ne _ _ (by omega)⟩
        · rw [upd_eq]
          rfl
        · show (kpA t (cA Y)).length ≤ 24
          rw [List.take_length] at hw
          omega
        · have hq : (kpA t (cA Y))[j]? = some q := hq
          have hj : j < (kpA t (cA Y)).length := (List.getElem?_eq_some_iff.mp hq).1
          rw [upd_ne _ _ (by omega), upd_ne _ _ (by omega)]
          refine h2.2.2 j q ?_
          show (goA t (cA Y) (cA Y).length)[j]? = some q
          unfold goA
          rw [List.take_length, List.getElem?_append_left hj]
          exact hq
      · simp only [icP, ifP, iL, iM1] at h1
        try simp only [z_nI] at h1
        try simp only [nI_add, nI_mul] at h1
        first | rw [nI_le_iff (by omega) (by omega)] at h1 | rw [nI_lt_iff (by omega) (by omega)] at h1 | rw [nI_eq_iff (by omega) (by omega)] at h1
        obtain ⟨q, hq⟩ := at_of_lt (l := cA Y) (k := k) (by omega)
        obtain ⟨b1, b2⟩ := hg.2.1.2.2 k q (goA_at t hq)
        have c1 : (rW μ r g).1 (r + 1) (51 + 2406 * i + (17 + 2 * k) + 1) = q.2 := by rw [rW_at]; exact b2
        have c0 : (rW μ r g).1 (r + 1) (51 + 2406 * i + (17 + 2 * k)) = q.1 := by rw [rW_at]; exact b1
        have ix : nI 17 + nI 2 * nI k = nI (17 + 2 * k) := by rw [nI_mul, nI_add]
        have ixw : nI 17 + nI 2 * nI (kpA t ((cA Y).take k)).length = nI (17 + 2 * (kpA t ((cA Y).take k)).length) := by rw [nI_mul, nI_add]
        refine ⟨i, 17 + 2 * k, rfl, ix, _, nI_add _ 1, by omega, 0, rfl, by omega, fun h2 => ?_, fun h2 => ?_⟩
        · have h2 : ¬ (rW μ r g).1 (r + 1) (51 + 2406 * i + (17 + 2 * k) + 1) = (rW μ r g).1 (r + 1) 0 := h2
          rw [c1, fr0 ho] at h2
          have hR := hg.AS (w := (kpA t ((cA Y).take k)).length) (by show _ < (goA t (cA Y) k).length; rw [goA_len t _ hk]; omega) q
          have e : (cA (setA (akA t ((cA Y).take k) Y) (goA t (cA Y) k))).set (kpA t ((cA Y).take k)).length q = goA t (cA Y) (k + 1) := (goA_S t hq h2).symm
          rw [e] at hR
          have e2 : akA t ((cA Y).take (k + 1)) Y = akA t ((cA Y).take k) Y := by rw [akA_S t hq, if_neg h2]
          have e3 : (kpA t ((cA Y).take (k + 1))).length = (kpA t ((cA Y).take k)).length + 1 := by rw [kpA_S t hq, if_neg h2, List.length_append]; rfl
          refine ⟨i, 17 + 2 * (kpA t ((cA Y).take k)).length, rfl, ixw, _, rfl, by omega, _, rfl, by omega, i, 17 + 2 * (kpA t ((cA Y).take k)).length, rfl, ixw, _, nI_add _ 1, by omega, _, nI_add _ 1, by omega, (cA Y).length - (k + 1), avM r i (kpA t ((cA Y).take (k + 1))).length (cA Y).length (k + 1), by omega, ⟨rfl, rfl, ?_, rfl, inc_tv k, trivial⟩, Or.inr ⟨k + 1, _, by omega, rfl, rfl, rfl, rfl, ?_, (by rw [e2]; exact hR), fun z hz => ?_, rfl, rfl⟩⟩
          · rw [e3]
            exact inc_tv _
          · simp only [up2_stF, stF_rW, stF_stF, stF_at, rW_rW, rW_at]
            rw [upd_ne (k := 51 + 2406 * i + (17 + 2 * k) + 1) _ _ (by omega)]
            rw [rW_at] at c0 c1
            rw [c0, c1]
          · rw [upd_ne _ _ (by omega), upd_ne _ _ (by omega)]
            exact ho z hz
        · have h2 : ¬ ¬ (rW μ r g).1 (r + 1) (51 + 2406 * i + (17 + 2 * k) + 1) = (rW μ r g).1 (r + 1) 0 := h2
          rw [c1, fr0 ho, Classical.not_not] at h2
          refine ⟨_, rfl, by omega, i, setA (akA t ((cA Y).take k) Y) (goA t (cA Y) k), rfl, hi, by rw [rW_at]; exact hg, fun p hp en he => akA_e t _ _ hE1 p hp en he, fun f' hf hof => ?_⟩
          rw [rW_rW]
          refine ⟨(cA Y).length - (k + 1), avM r i (kpA t ((cA Y).take (k + 1))).length (cA Y).length (k + 1), by omega, ⟨rfl, rfl, ?_, rfl, inc_tv k, trivial⟩, Or.inr ⟨k + 1, f', by omega, rfl, rfl, rfl, rfl, rfl, ?_, fun z hz => (hof z hz).trans (by rw [rW_at]; exact ho z hz), rfl, rfl⟩⟩
          · rw [kpA_S t hq, if_pos h2, List.append_nil]
          · rw [c0, ackN_setA] at hf
            rw [goA_no t hq h2, akA_S t hq, if_pos h2]
            exact hf
