/-! THE LAW'S WRAPPERS: a call of the class, its answer in the row o, its code. (by program, gen3.py) -/
def WO (R : RS4) (W : WS) (U : List WS) (μ μ' : MM) (x o : Nat) : Prop := ((R.1 = 0 ∧ CXo μ' x R.2.2.1 R.2.2.2 ∧ μ'.2.2.1 o 0 = R.2.1.toInt64) ∨ (¬ R.1 = 0 ∧ CXo μ' x W U)) ∧ (∀ z, (z < x ∨ x + 1959 ≤ z) → μ'.1 z = μ.1 z ∧ μ'.2.1 z = μ.2.1 z) ∧ (∀ b, ¬ b = o → μ'.2.2.1 b = μ.2.2.1 b) ∧ μ'.2.2.2.1 = μ.2.2.2.1 ∧ μ.2.2.2.2 ≤ μ'.2.2.2.2
theorem wo1 {R : RS4} {W : WS} {U : List WS} {μ μ' : MM} {x o : Nat} (h0 : R.1 = 0) (hW : CW μ'.1 μ'.2.1 (x + 1) R.2.2.1) (hU : CU μ'.1 μ'.2.1 (x + 490) R.2.2.2) (hf : FRm μ μ' x (x + 1959)) {v : Int64} (hv : v = R.2.1.toInt64) : WO R W U μ (μ'.1, μ'.2.1, up2 μ'.2.2.1 o 0 v, μ'.2.2.2) x o := by
  refine ⟨Or.inl ⟨h0, ⟨hW, hU⟩, (u2_eq _ _ _ _).trans hv⟩, hf.1, fun b hb => (u2_ne _ _ hb).trans (by rw [hf.2]), ?_, ?_⟩
  · show μ'.2.2.2.1 = _
    rw [hf.2]
  · show _ ≤ μ'.2.2.2.2
    rw [hf.2]
    exact Nat.le_refl _
theorem wo2 {R : RS4} {W : WS} {U : List WS} {μ : MM} {x o z : Nat} (h0 : ¬ R.1 = 0) (hX : CXo μ x W U) (hz : μ.2.2.2.2 ≤ z) : WO R W U μ (μ.1, μ.2.1, μ.2.2.1, μ.2.2.2.1, z) x o := ⟨Or.inr ⟨h0, hX⟩, fun _ _ => ⟨rfl, rfl⟩, fun _ _ => rfl, rfl, hz⟩
theorem oPlace_b (e x y k h : Int32) (W : WS) (U : List WS) : (oPlace e x y k h W U).2.1 = 0 ∨ (oPlace e x y k h W U).2.1 = 1 := by
  unfold oPlace
  split
  · exact Or.inl rfl
  · split
    · exact Or.inl rfl
    · exact iB_01 _
theorem oCon_b (c x y r b : Int32) (W : WS) (U : List WS) : (oCon c x y r b W U).2.1 = 0 ∨ (oCon c x y r b W U).2.1 = 1 := by
  unfold oCon
  split
  · exact Or.inl rfl
  · split
    · exact Or.inl rfl
    · exact iB_01 _
theorem oPlace_c (a0 a1 a2 a3 a4 : Int32) (W : WS) (U : List WS) : (oPlace a0 a1 a2 a3 a4 W U).1 = 0 ∨ (1 ≤ (oPlace a0 a1 a2 a3 a4 W U).1 ∧ (oPlace a0 a1 a2 a3 a4 W U).1 ≤ 2) := by
  unfold oPlace
  split
  · exact Or.inr ⟨Nat.le_of_ble_eq_true rfl, Nat.le_of_ble_eq_true rfl⟩
  · split
    · exact Or.inr ⟨Nat.le_of_ble_eq_true rfl, Nat.le_of_ble_eq_true rfl⟩
    · exact Or.inl rfl
def sp_L_place : SPc := fun As μ K => match As with
  | [.inr (.inr (19, x)), .inl a0, .inl a1, .inl a2, .inl a3, .inl a4, .inr (.inr (7, o))] => ∃ (M : Nat) (W : WS) (U : List WS), WKS M W U ∧ M + 200 < 2 ^ 31 ∧ CXo μ x W U ∧ ∀ μ', WO (oPlace a0 a1 a2 a3 a4 W U) W U μ μ' x o → K (.inl (some (.inl (nI (oPlace a0 a1 a2 a3 a4 W U).1)))) μ'
  | _ => False
def ct_L_place : List (Nat × CI) := [(7, ci_X9_place)]
def ci_L_place : CI := (yL_place, cL_place, 8, some .int, 7, (8, 5, 30, 150), 4, [(0, 23, 26, 13), (0, 23, 30, 15)], sp_L_place)
set_option maxRecDepth 100000 in
theorem ck_L_place : chkM ci_L_place RL co_L_place ct_L_place [(0, 23, 26, 1), (0, 23, 30, 2)] false false = true := by decide +kernel
set_option maxHeartbeats 4000000 in
set_option maxRecDepth 100000 in
theorem ms_L_place {g : GPT} {ot : OT} {l : Launch} (hl : l.stackTraces = false) (hot : otOK ot) : MS g ot l ci_L_place := by
  refine ms0_of hl RL co_L_place ct_L_place [(0, 23, 26, 1), (0, 23, 30, 2)] false false 28 ck_L_place (List.forall_mem_cons.mpr ⟨ms_X9_place hl hot, fun _ h => nomatch h⟩) ?_
  intro As μ K h
  simp only [ci_L_place, sp_L_place] at h
  split at h
  case h_2 => exact h.elim
  rename_i x a0 a1 a2 a3 a4 o
  obtain ⟨M, W, U, hK, hM, hX, h⟩ := h
  refine ⟨Nat.le_of_ble_eq_true rfl, by decide, M, W, U, hK.1, hX, fun h0 μ' hW hU hf => ⟨fun q => ⟨0, rfl, by omega, ?_⟩, fun q => ⟨0, rfl, by omega, ?_⟩⟩, fun h0 => ?_⟩
  · have := h _ (wo1 (o := o) h0 hW hU hf (v := Int64.ofNat 0) (by rw [show (oPlace a0 a1 a2 a3 a4 W U).2.1 = 0 from q]; rfl))
    rw [h0] at this
    exact this
  · have := h _ (wo1 (o := o) h0 hW hU hf (v := Int64.ofNat 1) (by rw [(oPlace_b a0 a1 a2 a3 a4 W U).resolve_left q]; rfl))
    rw [h0] at this
    exact this
  · have hc := (oPlace_c a0 a1 a2 a3 a4 W U).resolve_left h0
    have hw := fun z hz => h _ (wo2 (o := o) (z := z) h0 hX hz)
    generalize (oPlace a0 a1 a2 a3 a4 W U).1 = cd at *
    have : cd = 1 ∨ cd = 2 := by omega
    rcases this with rfl | rfl
    · exact fun z hz q => hw z hz
    · exact fun z hz q => hw z hz
theorem oSetV_c (a0 a1 a2 : Int32) (W : WS) (U : List WS) : (oSetV a0 a1 a2 W U).1 = 0 ∨ (1 ≤ (oSetV a0 a1 a2 W U).1 ∧ (oSetV a0 a1 a2 W U).1 ≤ 3) := by
  unfold oSetV
  split
  · exact Or.inr ⟨Nat.le_of_ble_eq_true rfl, Nat.le_of_ble_eq_true rfl⟩
  · split
    · exact Or.inr ⟨Nat.le_of_ble_eq_true rfl, Nat.le_of_ble_eq_true rfl⟩
    · split
      · exact Or.inr ⟨Nat.le_of_ble_eq_true rfl, Nat.le_of_ble_eq_true rfl⟩
      · exact Or.inl rfl
def sp_L_setVelocity : SPc := fun As μ K => match As with
  | [.inr (.inr (19, x)), .inl a0, .inl a1, .inl a2, .inr (.inr (7, o))] => ∃ (M : Nat) (W : WS) (U : List WS), WKS M W U ∧ M + 200 < 2 ^ 31 ∧ CXo μ x W U ∧ ∀ μ', WO (oSetV a0 a1 a2 W U) W U μ μ' x o → K (.inl (some (.inl (nI (oSetV a0 a1 a2 W U).1)))) μ'
  | _ => False
def ct_L_setVelocity : List (Nat × CI) := [(17, ci_X9_setVelocity)]
def ci_L_setVelocity : CI := (yL_setVelocity, cL_setVelocity, 6, some .int, 5, (8, 4, 24, 148), 4, [(0, 12, 15, 13), (0, 12, 19, 15), (0, 12, 23, 21)], sp_L_setVelocity)
set_option maxRecDepth 100000 in
theorem ck_L_setVelocity : chkM ci_L_setVelocity RL co_L_setVelocity ct_L_setVelocity [(0, 12, 15, 1), (0, 12, 19, 2), (0, 12, 23, 3)] false false = true := by decide +kernel
set_option maxHeartbeats 4000000 in
set_option maxRecDepth 100000 in
theorem ms_L_setVelocity {g : GPT} {ot : OT} {l : Launch} (hl : l.stackTraces = false) : MS g ot l ci_L_setVelocity := by
  refine ms0_of hl RL co_L_setVelocity ct_L_setVelocity [(0, 12, 15, 1), (0, 12, 19, 2), (0, 12, 23, 3)] false false 26 ck_L_setVelocity (List.forall_mem_cons.mpr ⟨ms_X9_setVelocity hl, fun _ h => nomatch h⟩) ?_
  intro As μ K h
  simp only [ci_L_setVelocity, sp_L_setVelocity] at h
  split at h
  case h_2 => exact h.elim
  rename_i x a0 a1 a2 o
  obtain ⟨M, W, U, hK, hM, hX, h⟩ := h
  refine ⟨Nat.le_of_ble_eq_true rfl, by decide, M, W, U, hK.1, hX, fun h0 μ' hW hU hf => ⟨0, rfl, by omega, ?_⟩, fun h0 => ?_⟩
  · have := h _ (wo1 (o := o) h0 hW hU hf (v := (oSetV a0 a1 a2 W U).2.1.toInt64) rfl)
    rw [h0] at this
    exact this
  · have hc := (oSetV_c a0 a1 a2 W U).resolve_left h0
    have hw := fun z hz => h _ (wo2 (o := o) (z := z) h0 hX hz)
    generalize (oSetV a0 a1 a2 W U).1 = cd at *
    have : cd = 1 ∨ cd = 2 ∨ cd = 3 := by omega
    rcases this with rfl | rfl | rfl
    · exact fun z hz q => hw z hz
    · exact fun z hz q => hw z hz
    · exact fun z hz q => hw z hz
theorem oSetH_c (a0 a1 : Int32) (W : WS) (U : List WS) : (oSetH a0 a1 W U).1 = 0 ∨ (1 ≤ (oSetH a0 a1 W U).1 ∧ (oSetH a0 a1 W U).1 ≤ 3) := by
  unfold oSetH
  split
  · exact Or.inr ⟨Nat.le_of_ble_eq_true rfl, Nat.le_of_ble_eq_true rfl⟩
  · split
    · exact Or.inr ⟨Nat.le_of_ble_eq_true rfl, Nat.le_of_ble_eq_true rfl⟩
    · split
      · exact Or.inr ⟨Nat.le_of_ble_eq_true rfl, Nat.le_of_ble_eq_true rfl⟩
      · exact Or.inl rfl
def sp_L_setHealth : SPc := fun As μ K => match As with
  | [.inr (.inr (19, x)), .inl a0, .inl a1, .inr (.inr (7, o))] => ∃ (M : Nat) (W : WS) (U : List WS), WKS M W U ∧ M + 200 < 2 ^ 31 ∧ CXo μ x W U ∧ ∀ μ', WO (oSetH a0 a1 W U) W U μ μ' x o → K (.inl (some (.inl (nI (oSetH a0 a1 W U).1)))) μ'
  | _ => False
def ct_L_setHealth : List (Nat × CI) := [(23, ci_X9_setHealth)]
def ci_L_setHealth : CI := (yL_setHealth, cL_setHealth, 5, some .int, 4, (8, 3, 18, 147), 4, [(0, 10, 13, 13), (0, 10, 17, 15), (0, 10, 21, 21)], sp_L_setHealth)
set_option maxRecDepth 100000 in
theorem ck_L_setHealth : chkM ci_L_setHealth RL co_L_setHealth ct_L_setHealth [(0, 10, 13, 1), (0, 10, 17, 2), (0, 10, 21, 3)] false false = true := by decide +kernel
set_option maxHeartbeats 4000000 in
set_option maxRecDepth 100000 in
theorem ms_L_setHealth {g : GPT} {ot : OT} {l : Launch} (hl : l.stackTraces = false) (hot : otOK ot) : MS g ot l ci_L_setHealth := by
  refine ms0_of hl RL co_L_setHealth ct_L_setHealth [(0, 10, 13, 1), (0, 10, 17, 2), (0, 10, 21, 3)] false false 25 ck_L_setHealth (List.forall_mem_cons.mpr ⟨ms_X9_setHealth hl hot, fun _ h => nomatch h⟩) ?_
  intro As μ K h
  simp only [ci_L_setHealth, sp_L_setHealth] at h
  split at h
  case h_2 => exact h.elim
  rename_i x a0 a1 o
  obtain ⟨M, W, U, hK, hM, hX, h⟩ := h
  refine ⟨Nat.le_of_ble_eq_true rfl, by decide, M, W, U, hK.1, hX, fun h0 μ' hW hU hf => ⟨0, rfl, by omega, ?_⟩, fun h0 => ?_⟩
  · have := h _ (wo1 (o := o) h0 hW hU hf (v := (oSetH a0 a1 W U).2.1.toInt64) rfl)
    rw [h0] at this
    exact this
  · have hc := (oSetH_c a0 a1 W U).resolve_left h0
    have hw := fun z hz => h _ (wo2 (o := o) (z := z) h0 hX hz)
    generalize (oSetH a0 a1 W U).1 = cd at *
    have : cd = 1 ∨ cd = 2 ∨ cd = 3 := by omega
    rcases this with rfl | rfl | rfl
    · exact fun z hz q => hw z hz
    · exact fun z hz q => hw z hz
    · exact fun z hz q => hw z hz
theorem oDel_c (a0 : Int32) (W : WS) (U : List WS) : (oDel a0 W U).1 = 0 ∨ (1 ≤ (oDel a0 W U).1 ∧ (oDel a0 W U).1 ≤ 2) := by
  unfold oDel
  split
  · exact Or.inr ⟨Nat.le_of_ble_eq_true rfl, Nat.le_of_ble_eq_true rfl⟩
  · split
    · exact Or.inr ⟨Nat.le_of_ble_eq_true rfl, Nat.le_of_ble_eq_true rfl⟩
    · exact Or.inl rfl
def sp_L_destroy : SPc := fun As μ K => match As with
  | [.inr (.inr (19, x)), .inl a0, .inr (.inr (7, o))] => ∃ (M : Nat) (W : WS) (U : List WS), WKS M W U ∧ M + 200 < 2 ^ 31 ∧ CXo μ x W U ∧ ∀ μ', WO (oDel a0 W U) W U μ μ' x o → K (.inl (some (.inl (nI (oDel a0 W U).1)))) μ'
  | _ => False
def ct_L_destroy : List (Nat × CI) := [(27, ci_X9_destroy)]
def ci_L_destroy : CI := (yL_destroy, cL_destroy, 4, some .int, 3, (8, 2, 12, 146), 4, [(0, 9, 12, 13), (0, 9, 15, 21)], sp_L_destroy)
set_option maxRecDepth 100000 in
theorem ck_L_destroy : chkM ci_L_destroy RL co_L_destroy ct_L_destroy [(0, 9, 12, 1), (0, 9, 15, 3)] false false = true := by decide +kernel
set_option maxHeartbeats 4000000 in
set_option maxRecDepth 100000 in
theorem ms_L_destroy {g : GPT} {ot : OT} {l : Launch} (hl : l.stackTraces = false) : MS g ot l ci_L_destroy := by
  refine ms0_of hl RL co_L_destroy ct_L_destroy [(0, 9, 12, 1), (0, 9, 15, 3)] false false 21 ck_L_destroy (List.forall_mem_cons.mpr ⟨ms_X9_destroy hl, fun _ h => nomatch h⟩) ?_
  intro As μ K h
  simp only [ci_L_destroy, sp_L_destroy] at h
  split at h
  case h_2 => exact h.elim
  rename_i x a0 o
  obtain ⟨M, W, U, hK, hM, hX, h⟩ := h
  refine ⟨Nat.le_of_ble_eq_true rfl, by decide, M, W, U, hK.1, hX, fun h0 μ' hW hU hf => ⟨0, rfl, by omega, ?_⟩, fun h0 => ?_⟩
  · have := h _ (wo1 (o := o) h0 hW hU hf (v := (oDel a0 W U).2.1.toInt64) rfl)
    rw [h0] at this
    exact this
  · have hc := (oDel_c a0 W U).resolve_left h0
    have hw := fun z hz => h _ (wo2 (o := o) (z := z) h0 hX hz)
    generalize (oDel a0 W U).1 = cd at *
    have : cd = 1 ∨ cd = 2 := by omega
    rcases this with rfl | rfl
    · exact fun z hz q => hw z hz
    · exact fun z hz q => hw z hz
theorem oEnt_c (a0 a1 : Int32) (W : WS) (U : List WS) : (oEnt a0 a1 W U).1 = 0 ∨ (1 ≤ (oEnt a0 a1 W U).1 ∧ (oEnt a0 a1 W U).1 ≤ 2) := by
  unfold oEnt
  split
  · exact Or.inr ⟨Nat.le_of_ble_eq_true rfl, Nat.le_of_ble_eq_true rfl⟩
  · split
    · exact Or.inr ⟨Nat.le_of_ble_eq_true rfl, Nat.le_of_ble_eq_true rfl⟩
    · exact Or.inl rfl
def sp_L_entity : SPc := fun As μ K => match As with
  | [.inr (.inr (19, x)), .inl a0, .inl a1, .inr (.inr (7, o))] => ∃ (M : Nat) (W : WS) (U : List WS), WKS M W U ∧ M + 200 < 2 ^ 31 ∧ CXo μ x W U ∧ ∀ μ', WO (oEnt a0 a1 W U) W U μ μ' x o → K (.inl (some (.inl (nI (oEnt a0 a1 W U).1)))) μ'
  | _ => False
def ct_L_entity : List (Nat × CI) := [(31, ci_X9_entity)]
def ci_L_entity : CI := (yL_entity, cL_entity, 5, some .int, 4, (8, 2, 12, 134), 4, [(0, 10, 13, 13), (0, 10, 17, 15)], sp_L_entity)
set_option maxRecDepth 100000 in
theorem ck_L_entity : chkM ci_L_entity RL co_L_entity ct_L_entity [(0, 10, 13, 1), (0, 10, 17, 2)] false false = true := by decide +kernel
set_option maxHeartbeats 4000000 in
set_option maxRecDepth 100000 in
theorem ms_L_entity {g : GPT} {ot : OT} {l : Launch} (hl : l.stackTraces = false) (hot : otOK ot) : MS g ot l ci_L_entity := by
  refine ms0_of hl RL co_L_entity ct_L_entity [(0, 10, 13, 1), (0, 10, 17, 2)] false false 22 ck_L_entity (List.forall_mem_cons.mpr ⟨ms_X9_entity hl hot, fun _ h => nomatch h⟩) ?_
  intro As μ K h
  simp only [ci_L_entity, sp_L_entity] at h
  split at h
  case h_2 => exact h.elim
  rename_i x a0 a1 o
  obtain ⟨M, W, U, hK, hM, hX, h⟩ := h
  refine ⟨Nat.le_of_ble_eq_true rfl, by decide, M, W, U, hK.1, hX, fun h0 μ' hW hU hf => ⟨0, rfl, by omega, ?_⟩, fun h0 => ?_⟩
  · have := h _ (wo1 (o := o) h0 hW hU hf (v := (oEnt a0 a1 W U).2.1.toInt64) rfl)
    rw [h0] at this
    exact this
  · have hc := (oEnt_c a0 a1 W U).resolve_left h0
    have hw := fun z hz => h _ (wo2 (o := o) (z := z) h0 hX hz)
    generalize (oEnt a0 a1 W U).1 = cd at *
    have : cd = 1 ∨ cd = 2 := by omega
    rcases this with rfl | rfl
    · exact fun z hz q => hw z hz
    · exact fun z hz q => hw z hz
theorem oCon_c (a0 a1 a2 a3 a4 : Int32) (W : WS) (U : List WS) : (oCon a0 a1 a2 a3 a4 W U).1 = 0 ∨ (1 ≤ (oCon a0 a1 a2 a3 a4 W U).1 ∧ (oCon a0 a1 a2 a3 a4 W U).1 ≤ 2) := by
  unfold oCon
  split
  · exact Or.inr ⟨Nat.le_of_ble_eq_true rfl, Nat.le_of_ble_eq_true rfl⟩
  · split
    · exact Or.inr ⟨Nat.le_of_ble_eq_true rfl, Nat.le_of_ble_eq_true rfl⟩
    · exact Or.inl rfl
def sp_L_connect : SPc := fun As μ K => match As with
  | [.inr (.inr (19, x)), .inl a0, .inl a1, .inl a2, .inl a3, .inl a4, .inr (.inr (7, o))] => ∃ (M : Nat) (W : WS) (U : List WS), WKS M W U ∧ M + 200 < 2 ^ 31 ∧ CXo μ x W U ∧ ∀ μ', WO (oCon a0 a1 a2 a3 a4 W U) W U μ μ' x o → K (.inl (some (.inl (nI (oCon a0 a1 a2 a3 a4 W U).1)))) μ'
  | _ => False
def ct_L_connect : List (Nat × CI) := [(34, ci_X9_connect)]
def ci_L_connect : CI := (yL_connect, cL_connect, 8, some .int, 7, (8, 5, 30, 152), 4, [(0, 23, 26, 13), (0, 23, 30, 15)], sp_L_connect)
set_option maxRecDepth 100000 in
theorem ck_L_connect : chkM ci_L_connect RL co_L_connect ct_L_connect [(0, 23, 26, 1), (0, 23, 30, 2)] false false = true := by decide +kernel
set_option maxHeartbeats 4000000 in
set_option maxRecDepth 100000 in
theorem ms_L_connect {g : GPT} {ot : OT} {l : Launch} (hl : l.stackTraces = false) : MS g ot l ci_L_connect := by
  refine ms0_of hl RL co_L_connect ct_L_connect [(0, 23, 26, 1), (0, 23, 30, 2)] false false 28 ck_L_connect (List.forall_mem_cons.mpr ⟨ms_X9_connect hl, fun _ h => nomatch h⟩) ?_
  intro As μ K h
  simp only [ci_L_connect, sp_L_connect] at h
  split at h
  case h_2 => exact h.elim
  rename_i x a0 a1 a2 a3 a4 o
  obtain ⟨M, W, U, hK, hM, hX, h⟩ := h
  refine ⟨Nat.le_of_ble_eq_true rfl, by decide, M, W, U, hK.1, hX, fun h0 μ' hW hU hf => ⟨fun q => ⟨0, rfl, by omega, ?_⟩, fun q => ⟨0, rfl, by omega, ?_⟩⟩, fun h0 => ?_⟩
  · have := h _ (wo1 (o := o) h0 hW hU hf (v := Int64.ofNat 0) (by rw [show (oCon a0 a1 a2 a3 a4 W U).2.1 = 0 from q]; rfl))
    rw [h0] at this
    exact this
  · have := h _ (wo1 (o := o) h0 hW hU hf (v := Int64.ofNat 1) (by rw [(oCon_b a0 a1 a2 a3 a4 W U).resolve_left q]; rfl))
    rw [h0] at this
    exact this
  · have hc := (oCon_c a0 a1 a2 a3 a4 W U).resolve_left h0
    have hw := fun z hz => h _ (wo2 (o := o) (z := z) h0 hX hz)
    generalize (oCon a0 a1 a2 a3 a4 W U).1 = cd at *
    have : cd = 1 ∨ cd = 2 := by omega
    rcases this with rfl | rfl
    · exact fun z hz q => hw z hz
    · exact fun z hz q => hw z hz
theorem oLook_c (a0 a1 a2 a3 : Int32) (W : WS) (U : List WS) : (oLook a0 a1 a2 a3 W U).1 = 0 ∨ (1 ≤ (oLook a0 a1 a2 a3 W U).1 ∧ (oLook a0 a1 a2 a3 W U).1 ≤ 3) := by
  unfold oLook
  split
  · exact Or.inr ⟨Nat.le_of_ble_eq_true rfl, Nat.le_of_ble_eq_true rfl⟩
  · split
    · exact Or.inr ⟨Nat.le_of_ble_eq_true rfl, Nat.le_of_ble_eq_true rfl⟩
    · split
      · exact Or.inr ⟨Nat.le_of_ble_eq_true rfl, Nat.le_of_ble_eq_true rfl⟩
      · exact Or.inl rfl
def sp_L_look : SPc := fun As μ K => match As with
  | [.inr (.inr (19, x)), .inl a0, .inl a1, .inl a2, .inl a3, .inr (.inr (7, o))] => ∃ (M : Nat) (W : WS) (U : List WS), WKS M W U ∧ M + 200 < 2 ^ 31 ∧ CXo μ x W U ∧ ∀ μ', WO (oLook a0 a1 a2 a3 W U) W U μ μ' x o → K (.inl (some (.inl (nI (oLook a0 a1 a2 a3 W U).1)))) μ'
  | _ => False
def ct_L_look : List (Nat × CI) := [(37, ci_X9_look)]
def ci_L_look : CI := (yL_look, cL_look, 7, some .int, 6, (8, 5, 30, 150), 4, [(0, 14, 17, 13), (0, 14, 21, 15), (0, 14, 25, 21)], sp_L_look)
set_option maxRecDepth 100000 in
theorem ck_L_look : chkM ci_L_look RL co_L_look ct_L_look [(0, 14, 17, 1), (0, 14, 21, 2), (0, 14, 25, 3)] false false = true := by decide +kernel
set_option maxHeartbeats 4000000 in
set_option maxRecDepth 100000 in
theorem ms_L_look {g : GPT} {ot : OT} {l : Launch} (hl : l.stackTraces = false) (hot : otOK ot) : MS g ot l ci_L_look := by
  refine ms0_of hl RL co_L_look ct_L_look [(0, 14, 17, 1), (0, 14, 21, 2), (0, 14, 25, 3)] false false 27 ck_L_look (List.forall_mem_cons.mpr ⟨ms_X9_look hl hot, fun _ h => nomatch h⟩) ?_
  intro As μ K h
  simp only [ci_L_look, sp_L_look] at h
  split at h
  case h_2 => exact h.elim
  rename_i x a0 a1 a2 a3 o
  obtain ⟨M, W, U, hK, hM, hX, h⟩ := h
  refine ⟨Nat.le_of_ble_eq_true rfl, by decide, M, W, U, hK.1, hX, fun h0 μ' hW hU hf => ⟨0, rfl, by omega, ?_⟩, fun h0 => ?_⟩
  · have := h _ (wo1 (o := o) h0 hW hU hf (v := (oLook a0 a1 a2 a3 W U).2.1.toInt64) rfl)
    rw [h0] at this
    exact this
  · have hc := (oLook_c a0 a1 a2 a3 W U).resolve_left h0
    have hw := fun z hz => h _ (wo2 (o := o) (z := z) h0 hX hz)
    generalize (oLook a0 a1 a2 a3 W U).1 = cd at *
    have : cd = 1 ∨ cd = 2 ∨ cd = 3 := by omega
    rcases this with rfl | rfl | rfl
    · exact fun z hz q => hw z hz
    · exact fun z hz q => hw z hz
    · exact fun z hz q => hw z hz
theorem oDis_c (a0 : Int32) (W : WS) (U : List WS) : (oDis a0 W U).1 = 0 ∨ (1 ≤ (oDis a0 W U).1 ∧ (oDis a0 W U).1 ≤ 2) := by
  unfold oDis
  split
  · exact Or.inr ⟨Nat.le_of_ble_eq_true rfl, Nat.le_of_ble_eq_true rfl⟩
  · split
    · exact Or.inr ⟨Nat.le_of_ble_eq_true rfl, Nat.le_of_ble_eq_true rfl⟩
    · exact Or.inl rfl
def sp_L_disconnect : SPc := fun As μ K => match As with
  | [.inr (.inr (19, x)), .inl a0, .inr (.inr (7, o))] => ∃ (M : Nat) (W : WS) (U : List WS), WKS M W U ∧ M + 200 < 2 ^ 31 ∧ CXo μ x W U ∧ ∀ μ', WO (oDis a0 W U) W U μ μ' x o → K (.inl (some (.inl (nI (oDis a0 W U).1)))) μ'
  | _ => False
def ct_L_disconnect : List (Nat × CI) := [(41, ci_X9_disconnect)]
def ci_L_disconnect : CI := (yL_disconnect, cL_disconnect, 4, some .int, 3, (8, 2, 12, 148), 4, [(0, 9, 12, 13), (0, 9, 15, 21)], sp_L_disconnect)
set_option maxRecDepth 100000 in
theorem ck_L_disconnect : chkM ci_L_disconnect RL co_L_disconnect ct_L_disconnect [(0, 9, 12, 1), (0, 9, 15, 3)] false false = true := by decide +kernel
set_option maxHeartbeats 4000000 in
set_option maxRecDepth 100000 in
theorem ms_L_disconnect {g : GPT} {ot : OT} {l : Launch} (hl : l.stackTraces = false) : MS g ot l ci_L_disconnect := by
  refine ms0_of hl RL co_L_disconnect ct_L_disconnect [(0, 9, 12, 1), (0, 9, 15, 3)] false false 21 ck_L_disconnect (List.forall_mem_cons.mpr ⟨ms_X9_disconnect hl, fun _ h => nomatch h⟩) ?_
  intro As μ K h
  simp only [ci_L_disconnect, sp_L_disconnect] at h
  split at h
  case h_2 => exact h.elim
  rename_i x a0 o
  obtain ⟨M, W, U, hK, hM, hX, h⟩ := h
  refine ⟨Nat.le_of_ble_eq_true rfl, by decide, M, W, U, hK.1, hX, fun h0 μ' hW hU hf => ⟨0, rfl, by omega, ?_⟩, fun h0 => ?_⟩
  · have := h _ (wo1 (o := o) h0 hW hU hf (v := (oDis a0 W U).2.1.toInt64) rfl)
    rw [h0] at this
    exact this
  · have hc := (oDis_c a0 W U).resolve_left h0
    have hw := fun z hz => h _ (wo2 (o := o) (z := z) h0 hX hz)
    generalize (oDis a0 W U).1 = cd at *
    have : cd = 1 ∨ cd = 2 := by omega
    rcases this with rfl | rfl
    · exact fun z hz q => hw z hz
    · exact fun z hz q => hw z hz
theorem oTimes_c (a0 a1 : Int32) (W : WS) (U : List WS) : (oTimes a0 a1 W U).1 = 0 ∨ (1 ≤ (oTimes a0 a1 W U).1 ∧ (oTimes a0 a1 W U).1 ≤ 1) := by
  unfold oTimes
  split
  · exact Or.inr ⟨Nat.le_of_ble_eq_true rfl, Nat.le_of_ble_eq_true rfl⟩
  · exact Or.inl rfl
def sp_L_setTimes : SPc := fun As μ K => match As with
  | [.inr (.inr (19, x)), .inl a0, .inl a1, .inr (.inr (7, o))] => ∃ (M : Nat) (W : WS) (U : List WS), WKS M W U ∧ M + 200 < 2 ^ 31 ∧ CXo μ x W U ∧ ∀ μ', WO (oTimes a0 a1 W U) W U μ μ' x o → K (.inl (some (.inl (nI (oTimes a0 a1 W U).1)))) μ'
  | _ => False
def ct_L_setTimes : List (Nat × CI) := [(44, ci_X9_setTimes)]
def ci_L_setTimes : CI := (yL_setTimes, cL_setTimes, 5, some .int, 4, (8, 2, 12, 148), 4, [(0, 10, 13, 15)], sp_L_setTimes)
set_option maxRecDepth 100000 in
theorem ck_L_setTimes : chkM ci_L_setTimes RL co_L_setTimes ct_L_setTimes [(0, 10, 13, 2)] false false = true := by decide +kernel
set_option maxHeartbeats 4000000 in
set_option maxRecDepth 100000 in
theorem ms_L_setTimes {g : GPT} {ot : OT} {l : Launch} (hl : l.stackTraces = false) : MS g ot l ci_L_setTimes := by
  refine ms0_of hl RL co_L_setTimes ct_L_setTimes [(0, 10, 13, 2)] false false 19 ck_L_setTimes (List.forall_mem_cons.mpr ⟨ms_X9_setTimes hl, fun _ h => nomatch h⟩) ?_
  intro As μ K h
  simp only [ci_L_setTimes, sp_L_setTimes] at h
  split at h
  case h_2 => exact h.elim
  rename_i x a0 a1 o
  obtain ⟨M, W, U, hK, hM, hX, h⟩ := h
  refine ⟨Nat.le_of_ble_eq_true rfl, by decide, M, W, U, hK.1, hX, fun h0 μ' hW hU hf => ⟨0, rfl, by omega, ?_⟩, fun h0 => ?_⟩
  · have := h _ (wo1 (o := o) h0 hW hU hf (v := (oTimes a0 a1 W U).2.1.toInt64) rfl)
    rw [h0] at this
    exact this
  · have hc := (oTimes_c a0 a1 W U).resolve_left h0
    have hw := fun z hz => h _ (wo2 (o := o) (z := z) h0 hX hz)
    generalize (oTimes a0 a1 W U).1 = cd at *
    have : cd = 1 := by omega
    rcases this with rfl
    · exact fun z hz q => hw z hz
theorem oLose_c (a0 a1 a2 : Int32) (W : WS) (U : List WS) : (oLose a0 a1 a2 W U).1 = 0 ∨ (1 ≤ (oLose a0 a1 a2 W U).1 ∧ (oLose a0 a1 a2 W U).1 ≤ 3) := by
  unfold oLose
  split
  · exact Or.inr ⟨Nat.le_of_ble_eq_true rfl, Nat.le_of_ble_eq_true rfl⟩
  · split
    · exact Or.inr ⟨Nat.le_of_ble_eq_true rfl, Nat.le_of_ble_eq_true rfl⟩
    · split
      · exact Or.inr ⟨Nat.le_of_ble_eq_true rfl, Nat.le_of_ble_eq_true rfl⟩
      · exact Or.inl rfl
def sp_L_lose : SPc := fun As μ K => match As with
  | [.inr (.inr (19, x)), .inl a0, .inl a1, .inl a2, .inr (.inr (7, o))] => ∃ (M : Nat) (W : WS) (U : List WS), WKS M W U ∧ M + 200 < 2 ^ 31 ∧ CXo μ x W U ∧ ∀ μ', WO (oLose a0 a1 a2 W U) W U μ μ' x o → K (.inl (some (.inl (nI (oLose a0 a1 a2 W U).1)))) μ'
  | _ => False
def ct_L_lose : List (Nat × CI) := [(47, ci_X9_lose)]
def ci_L_lose : CI := (yL_lose, cL_lose, 6, some .int, 5, (8, 4, 24, 150), 4, [(0, 12, 15, 13), (0, 12, 19, 15), (0, 12, 23, 21)], sp_L_lose)
set_option maxRecDepth 100000 in
theorem ck_L_lose : chkM ci_L_lose RL co_L_lose ct_L_lose [(0, 12, 15, 1), (0, 12, 19, 2), (0, 12, 23, 3)] false false = true := by decide +kernel
set_option maxHeartbeats 4000000 in
set_option maxRecDepth 100000 in
theorem ms_L_lose {g : GPT} {ot : OT} {l : Launch} (hl : l.stackTraces = false) : MS g ot l ci_L_lose := by
  refine ms0_of hl RL co_L_lose ct_L_lose [(0, 12, 15, 1), (0, 12, 19, 2), (0, 12, 23, 3)] false false 26 ck_L_lose (List.forall_mem_cons.mpr ⟨ms_X9_lose hl, fun _ h => nomatch h⟩) ?_
  intro As μ K h
  simp only [ci_L_lose, sp_L_lose] at h
  split at h
  case h_2 => exact h.elim
  rename_i x a0 a1 a2 o
  obtain ⟨M, W, U, hK, hM, hX, h⟩ := h
  refine ⟨Nat.le_of_ble_eq_true rfl, by decide, M, W, U, hK.1, hX, fun h0 μ' hW hU hf => ⟨0, rfl, by omega, ?_⟩, fun h0 => ?_⟩
  · have := h _ (wo1 (o := o) h0 hW hU hf (v := (oLose a0 a1 a2 W U).2.1.toInt64) rfl)
    rw [h0] at this
    exact this
  · have hc := (oLose_c a0 a1 a2 W U).resolve_left h0
    have hw := fun z hz => h _ (wo2 (o := o) (z := z) h0 hX hz)
    generalize (oLose a0 a1 a2 W U).1 = cd at *
    have : cd = 1 ∨ cd = 2 ∨ cd = 3 := by omega
    rcases this with rfl | rfl | rfl
    · exact fun z hz q => hw z hz
    · exact fun z hz q => hw z hz
    · exact fun z hz q => hw z hz
theorem oTick_c (a0 : Int32) (W : WS) (U : List WS) : (oTick a0 W U).1 = 0 ∨ (1 ≤ (oTick a0 W U).1 ∧ (oTick a0 W U).1 ≤ 1) := by
  unfold oTick
  split
  · exact Or.inr ⟨Nat.le_of_ble_eq_true rfl, Nat.le_of_ble_eq_true rfl⟩
  · exact Or.inl rfl
def sp_L_tick : SPc := fun As μ K => match As with
  | [.inr (.inr (19, x)), .inl a0, .inr (.inr (7, o))] => ∃ (M : Nat) (W : WS) (U : List WS), WKS M W U ∧ M + 200 < 2 ^ 31 ∧ CXo μ x W U ∧ ∀ μ', WO (oTick a0 W U) W U μ μ' x o → K (.inl (some (.inl (nI (oTick a0 W U).1)))) μ'
  | _ => False
def ct_L_tick : List (Nat × CI) := [(50, ci_X9_tick)]
def ci_L_tick : CI := (yL_tick, cL_tick, 4, some .int, 3, (8, 1, 6, 180), 4, [(0, 9, 12, 15)], sp_L_tick)
set_option maxRecDepth 100000 in
theorem ck_L_tick : chkM ci_L_tick RL co_L_tick ct_L_tick [(0, 9, 12, 2)] false false = true := by decide +kernel
set_option maxHeartbeats 4000000 in
set_option maxRecDepth 100000 in
theorem ms_L_tick {g : GPT} {ot : OT} {l : Launch} (hl : l.stackTraces = false) (hot : otOK ot) : MS g ot l ci_L_tick := by
  refine ms0_of hl RL co_L_tick ct_L_tick [(0, 9, 12, 2)] false false 18 ck_L_tick (List.forall_mem_cons.mpr ⟨ms_X9_tick hl hot, fun _ h => nomatch h⟩) ?_
  intro As μ K h
  simp only [ci_L_tick, sp_L_tick] at h
  split at h
  case h_2 => exact h.elim
  rename_i x a0 o
  obtain ⟨M, W, U, hK, hM, hX, h⟩ := h
  refine ⟨Nat.le_of_ble_eq_true rfl, by decide, M, W, U, hK.1, hX, kTk hK.1 hM, fun h0 μ' hW hU hf => ⟨0, rfl, by omega, ?_⟩, fun h0 => ?_⟩
  · have := h _ (wo1 (o := o) h0 hW hU hf (v := (oTick a0 W U).2.1.toInt64) rfl)
    rw [h0] at this
    exact this
  · have hc := (oTick_c a0 W U).resolve_left h0
    have hw := fun z hz => h _ (wo2 (o := o) (z := z) h0 hX hz)
    generalize (oTick a0 W U).1 = cd at *
    have : cd = 1 := by omega
    rcases this with rfl
    · exact fun z hz q => hw z hz
theorem oCopy_c (a0 a1 a2 : Int32) (W : WS) (U : List WS) : (oCopy a0 a1 a2 W U).1 = 0 ∨ (1 ≤ (oCopy a0 a1 a2 W U).1 ∧ (oCopy a0 a1 a2 W U).1 ≤ 2) := by
  unfold oCopy
  split
  · exact Or.inr ⟨Nat.le_of_ble_eq_true rfl, Nat.le_of_ble_eq_true rfl⟩
  · split
    · exact Or.inr ⟨Nat.le_of_ble_eq_true rfl, Nat.le_of_ble_eq_true rfl⟩
    · exact Or.inl rfl
def sp_L_copy : SPc := fun As μ K => match As with
  | [.inr (.inr (19, x)), .inl a0, .inl a1, .inl a2, .inr (.inr (7, o))] => ∃ (M : Nat) (W : WS) (U : List WS), WKS M W U ∧ M + 200 < 2 ^ 31 ∧ CXo μ x W U ∧ ∀ μ', WO (oCopy a0 a1 a2 W U) W U μ μ' x o → K (.inl (some (.inl (nI (oCopy a0 a1 a2 W U).1)))) μ'
  | _ => False
def ct_L_copy : List (Nat × CI) := [(53, ci_X9_copy)]
def ci_L_copy : CI := (yL_copy, cL_copy, 6, some .int, 5, (8, 3, 18, 136), 4, [(0, 12, 15, 13), (0, 12, 19, 15)], sp_L_copy)
set_option maxRecDepth 100000 in
theorem ck_L_copy : chkM ci_L_copy RL co_L_copy ct_L_copy [(0, 12, 15, 1), (0, 12, 19, 2)] false false = true := by decide +kernel
set_option maxHeartbeats 4000000 in
set_option maxRecDepth 100000 in
theorem ms_L_copy {g : GPT} {ot : OT} {l : Launch} (hl : l.stackTraces = false) (hot : otOK ot) : MS g ot l ci_L_copy := by
  refine ms0_of hl RL co_L_copy ct_L_copy [(0, 12, 15, 1), (0, 12, 19, 2)] false false 23 ck_L_copy (List.forall_mem_cons.mpr ⟨ms_X9_copy hl hot, fun _ h => nomatch h⟩) ?_
  intro As μ K h
  simp only [ci_L_copy, sp_L_copy] at h
  split at h
  case h_2 => exact h.elim
  rename_i x a0 a1 a2 o
  obtain ⟨M, W, U, hK, hM, hX, h⟩ := h
  refine ⟨Nat.le_of_ble_eq_true rfl, by decide, M, W, U, hK.1, hX, fun h0 μ' hW hU hf => ⟨0, rfl, by omega, ?_⟩, fun h0 => ?_⟩
  · have := h _ (wo1 (o := o) h0 hW hU hf (v := (oCopy a0 a1 a2 W U).2.1.toInt64) rfl)
    rw [h0] at this
    exact this
  · have hc := (oCopy_c a0 a1 a2 W U).resolve_left h0
    have hw := fun z hz => h _ (wo2 (o := o) (z := z) h0 hX hz)
    generalize (oCopy a0 a1 a2 W U).1 = cd at *
    have : cd = 1 ∨ cd = 2 := by omega
    rcases this with rfl | rfl
    · exact fun z hz q => hw z hz
    · exact fun z hz q => hw z hz
theorem oKept_c (a0 a1 a2 : Int32) (W : WS) (U : List WS) : (oKept a0 a1 a2 W U).1 = 0 ∨ (1 ≤ (oKept a0 a1 a2 W U).1 ∧ (oKept a0 a1 a2 W U).1 ≤ 3) := by
  unfold oKept
  split
  · exact Or.inr ⟨Nat.le_of_ble_eq_true rfl, Nat.le_of_ble_eq_true rfl⟩
  · split
    · exact Or.inr ⟨Nat.le_of_ble_eq_true rfl, Nat.le_of_ble_eq_true rfl⟩
    · split
      · exact Or.inr ⟨Nat.le_of_ble_eq_true rfl, Nat.le_of_ble_eq_true rfl⟩
      · exact Or.inl rfl
def sp_L_kept : SPc := fun As μ K => match As with
  | [.inr (.inr (19, x)), .inl a0, .inl a1, .inl a2, .inr (.inr (7, o))] => ∃ (M : Nat) (W : WS) (U : List WS), WKS M W U ∧ M + 200 < 2 ^ 31 ∧ CXo μ x W U ∧ ∀ μ', WO (oKept a0 a1 a2 W U) W U μ μ' x o → K (.inl (some (.inl (nI (oKept a0 a1 a2 W U).1)))) μ'
  | _ => False
def ct_L_kept : List (Nat × CI) := [(56, ci_X9_kept)]
def ci_L_kept : CI := (yL_kept, cL_kept, 6, some .int, 5, (8, 4, 24, 136), 4, [(0, 12, 15, 13), (0, 12, 19, 15), (0, 12, 23, 21)], sp_L_kept)
set_option maxRecDepth 100000 in
theorem ck_L_kept : chkM ci_L_kept RL co_L_kept ct_L_kept [(0, 12, 15, 1), (0, 12, 19, 2), (0, 12, 23, 3)] false false = true := by decide +kernel
set_option maxHeartbeats 4000000 in
set_option maxRecDepth 100000 in
theorem ms_L_kept {g : GPT} {ot : OT} {l : Launch} (hl : l.stackTraces = false) (hot : otOK ot) : MS g ot l ci_L_kept := by
  refine ms0_of hl RL co_L_kept ct_L_kept [(0, 12, 15, 1), (0, 12, 19, 2), (0, 12, 23, 3)] false false 26 ck_L_kept (List.forall_mem_cons.mpr ⟨ms_X9_kept hl hot, fun _ h => nomatch h⟩) ?_
  intro As μ K h
  simp only [ci_L_kept, sp_L_kept] at h
  split at h
  case h_2 => exact h.elim
  rename_i x a0 a1 a2 o
  obtain ⟨M, W, U, hK, hM, hX, h⟩ := h
  refine ⟨Nat.le_of_ble_eq_true rfl, by decide, M, W, U, hK.1, hX, fun h0 μ' hW hU hf => ⟨0, rfl, by omega, ?_⟩, fun h0 => ?_⟩
  · have := h _ (wo1 (o := o) h0 hW hU hf (v := (oKept a0 a1 a2 W U).2.1.toInt64) rfl)
    rw [h0] at this
    exact this
  · have hc := (oKept_c a0 a1 a2 W U).resolve_left h0
    have hw := fun z hz => h _ (wo2 (o := o) (z := z) h0 hX hz)
    generalize (oKept a0 a1 a2 W U).1 = cd at *
    have : cd = 1 ∨ cd = 2 ∨ cd = 3 := by omega
    rcases this with rfl | rfl | rfl
    · exact fun z hz q => hw z hz
    · exact fun z hz q => hw z hz
    · exact fun z hz q => hw z hz
theorem oCnt_c (a0 a1 : Int32) (W : WS) (U : List WS) : (oCnt a0 a1 W U).1 = 0 ∨ (1 ≤ (oCnt a0 a1 W U).1 ∧ (oCnt a0 a1 W U).1 ≤ 2) := by
  unfold oCnt
  split
  · exact Or.inr ⟨Nat.le_of_ble_eq_true rfl, Nat.le_of_ble_eq_true rfl⟩
  · split
    · exact Or.inr ⟨Nat.le_of_ble_eq_true rfl, Nat.le_of_ble_eq_true rfl⟩
    · exact Or.inl rfl
def sp_L_count : SPc := fun As μ K => match As with
  | [.inr (.inr (19, x)), .inl a0, .inl a1, .inr (.inr (7, o))] => ∃ (M : Nat) (W : WS) (U : List WS), WKS M W U ∧ M + 200 < 2 ^ 31 ∧ CXo μ x W U ∧ ∀ μ', WO (oCnt a0 a1 W U) W U μ μ' x o → K (.inl (some (.inl (nI (oCnt a0 a1 W U).1)))) μ'
  | _ => False
def ct_L_count : List (Nat × CI) := [(59, ci_X9_count)]
def ci_L_count : CI := (yL_count, cL_count, 5, some .int, 4, (8, 2, 12, 135), 4, [(0, 10, 13, 13), (0, 10, 17, 15)], sp_L_count)
set_option maxRecDepth 100000 in
theorem ck_L_count : chkM ci_L_count RL co_L_count ct_L_count [(0, 10, 13, 1), (0, 10, 17, 2)] false false = true := by decide +kernel
set_option maxHeartbeats 4000000 in
set_option maxRecDepth 100000 in
theorem ms_L_count {g : GPT} {ot : OT} {l : Launch} (hl : l.stackTraces = false) : MS g ot l ci_L_count := by
  refine ms0_of hl RL co_L_count ct_L_count [(0, 10, 13, 1), (0, 10, 17, 2)] false false 22 ck_L_count (List.forall_mem_cons.mpr ⟨ms_X9_count hl, fun _ h => nomatch h⟩) ?_
  intro As μ K h
  simp only [ci_L_count, sp_L_count] at h
  split at h
  case h_2 => exact h.elim
  rename_i x a0 a1 o
  obtain ⟨M, W, U, hK, hM, hX, h⟩ := h
  refine ⟨Nat.le_of_ble_eq_true rfl, by decide, M, W, U, hK.1, hX, fun h0 μ' hW hU hf => ⟨0, rfl, by omega, ?_⟩, fun h0 => ?_⟩
  · have := h _ (wo1 (o := o) h0 hW hU hf (v := (oCnt a0 a1 W U).2.1.toInt64) rfl)
    rw [h0] at this
    exact this
  · have hc := (oCnt_c a0 a1 W U).resolve_left h0
    have hw := fun z hz => h _ (wo2 (o := o) (z := z) h0 hX hz)
    generalize (oCnt a0 a1 W U).1 = cd at *
    have : cd = 1 ∨ cd = 2 := by omega
    rcases this with rfl | rfl
    · exact fun z hz q => hw z hz
    · exact fun z hz q => hw z hz
theorem oStale_c (a0 : Int32) (W : WS) (U : List WS) : (oStale a0 W U).1 = 0 ∨ (1 ≤ (oStale a0 W U).1 ∧ (oStale a0 W U).1 ≤ 2) := by
  unfold oStale
  split
  · exact Or.inr ⟨Nat.le_of_ble_eq_true rfl, Nat.le_of_ble_eq_true rfl⟩
  · split
    · exact Or.inr ⟨Nat.le_of_ble_eq_true rfl, Nat.le_of_ble_eq_true rfl⟩
    · exact Or.inl rfl
def sp_L_stale : SPc := fun As μ K => match As with
  | [.inr (.inr (19, x)), .inl a0, .inr (.inr (7, o))] => ∃ (M : Nat) (W : WS) (U : List WS), WKS M W U ∧ M + 200 < 2 ^ 31 ∧ CXo μ x W U ∧ ∀ μ', WO (oStale a0 W U) W U μ μ' x o → K (.inl (some (.inl (nI (oStale a0 W U).1)))) μ'
  | _ => False
def ct_L_stale : List (Nat × CI) := [(62, ci_X9_stale)]
def ci_L_stale : CI := (yL_stale, cL_stale, 4, some .int, 3, (8, 2, 12, 133), 4, [(0, 9, 12, 13), (0, 9, 15, 21)], sp_L_stale)
set_option maxRecDepth 100000 in
theorem ck_L_stale : chkM ci_L_stale RL co_L_stale ct_L_stale [(0, 9, 12, 1), (0, 9, 15, 3)] false false = true := by decide +kernel
set_option maxHeartbeats 4000000 in
set_option maxRecDepth 100000 in
theorem ms_L_stale {g : GPT} {ot : OT} {l : Launch} (hl : l.stackTraces = false) (hot : otOK ot) : MS g ot l ci_L_stale := by
  refine ms0_of hl RL co_L_stale ct_L_stale [(0, 9, 12, 1), (0, 9, 15, 3)] false false 21 ck_L_stale (List.forall_mem_cons.mpr ⟨ms_X9_stale hl hot, fun _ h => nomatch h⟩) ?_
  intro As μ K h
  simp only [ci_L_stale, sp_L_stale] at h
  split at h
  case h_2 => exact h.elim
  rename_i x a0 o
  obtain ⟨M, W, U, hK, hM, hX, h⟩ := h
  refine ⟨Nat.le_of_ble_eq_true rfl, by decide, M, W, U, hK.1, hX, fun h0 μ' hW hU hf => ⟨0, rfl, by omega, ?_⟩, fun h0 => ?_⟩
  · have := h _ (wo1 (o := o) h0 hW hU hf (v := (oStale a0 W U).2.1.toInt64) rfl)
    rw [h0] at this
    exact this
  · have hc := (oStale_c a0 W U).resolve_left h0
    have hw := fun z hz => h _ (wo2 (o := o) (z := z) h0 hX hz)
    generalize (oStale a0 W U).1 = cd at *
    have : cd = 1 ∨ cd = 2 := by omega
    rcases this with rfl | rfl
    · exact fun z hz q => hw z hz
    · exact fun z hz q => hw z hz
theorem oPkt_c (a0 a1 a2 : Int32) (W : WS) (U : List WS) : (oPkt a0 a1 a2 W U).1 = 0 ∨ (1 ≤ (oPkt a0 a1 a2 W U).1 ∧ (oPkt a0 a1 a2 W U).1 ≤ 2) := by
  unfold oPkt
  split
  · exact Or.inr ⟨Nat.le_of_ble_eq_true rfl, Nat.le_of_ble_eq_true rfl⟩
  · split
    · exact Or.inr ⟨Nat.le_of_ble_eq_true rfl, Nat.le_of_ble_eq_true rfl⟩
    · split
      · exact Or.inr ⟨Nat.le_of_ble_eq_true rfl, Nat.le_of_ble_eq_true rfl⟩
      · exact Or.inl rfl
def sp_L_packet : SPc := fun As μ K => match As with
  | [.inr (.inr (19, x)), .inl a0, .inl a1, .inl a2, .inr (.inr (7, o))] => ∃ (M : Nat) (W : WS) (U : List WS), WKS M W U ∧ M + 200 < 2 ^ 31 ∧ CXo μ x W U ∧ ∀ μ', WO (oPkt a0 a1 a2 W U) W U μ μ' x o → K (.inl (some (.inl (nI (oPkt a0 a1 a2 W U).1)))) μ'
  | _ => False
def ct_L_packet : List (Nat × CI) := [(65, ci_X9_packet)]
def ci_L_packet : CI := (yL_packet, cL_packet, 6, some .int, 5, (8, 3, 18, 136), 4, [(0, 12, 15, 13), (0, 12, 19, 15)], sp_L_packet)
set_option maxRecDepth 100000 in
theorem ck_L_packet : chkM ci_L_packet RL co_L_packet ct_L_packet [(0, 12, 15, 1), (0, 12, 19, 2)] false false = true := by decide +kernel
set_option maxHeartbeats 4000000 in
set_option maxRecDepth 100000 in
theorem ms_L_packet {g : GPT} {ot : OT} {l : Launch} (hl : l.stackTraces = false) : MS g ot l ci_L_packet := by
  refine ms0_of hl RL co_L_packet ct_L_packet [(0, 12, 15, 1), (0, 12, 19, 2)] false false 23 ck_L_packet (List.forall_mem_cons.mpr ⟨ms_X9_packet hl, fun _ h => nomatch h⟩) ?_
  intro As μ K h
  simp only [ci_L_packet, sp_L_packet] at h
  split at h
  case h_2 => exact h.elim
  rename_i x a0 a1 a2 o
  obtain ⟨M, W, U, hK, hM, hX, h⟩ := h
  refine ⟨Nat.le_of_ble_eq_true rfl, by decide, M, W, U, hK.1, hX, fun h0 μ' hW hU hf => ⟨0, rfl, by omega, ?_⟩, fun h0 => ?_⟩
  · have := h _ (wo1 (o := o) h0 hW hU hf (v := (oPkt a0 a1 a2 W U).2.1.toInt64) rfl)
    rw [h0] at this
    exact this
  · have hc := (oPkt_c a0 a1 a2 W U).resolve_left h0
    have hw := fun z hz => h _ (wo2 (o := o) (z := z) h0 hX hz)
    generalize (oPkt a0 a1 a2 W U).1 = cd at *
    have : cd = 1 ∨ cd = 2 := by omega
    rcases this with rfl | rfl
    · exact fun z hz q => hw z hz
    · exact fun z hz q => hw z hz
theorem oEntry_c (a0 a1 a2 a3 : Int32) (W : WS) (U : List WS) : (oEntry a0 a1 a2 a3 W U).1 = 0 ∨ (1 ≤ (oEntry a0 a1 a2 a3 W U).1 ∧ (oEntry a0 a1 a2 a3 W U).1 ≤ 2) := by
  by_cases C : isC a0
  · cases hq : flyA (wC W (sN a0)) a1 with
    | none => rw [oEntry_n C hq]; exact Or.inr ⟨Nat.le_of_ble_eq_true rfl, Nat.le_of_ble_eq_true rfl⟩
    | some p =>
      cases he : entA p a2 with
      | none => rw [oEntry_e C hq he]; exact Or.inr ⟨Nat.le_of_ble_eq_true rfl, Nat.le_of_ble_eq_true rfl⟩
      | some en =>
        by_cases P : inR 0 4 a3
        · rw [oEntry_0 C hq he P]; exact Or.inl rfl
        · rw [oEntry_r C hq he P]; exact Or.inr ⟨Nat.le_of_ble_eq_true rfl, Nat.le_of_ble_eq_true rfl⟩
  · rw [oEntry_1 C]; exact Or.inr ⟨Nat.le_of_ble_eq_true rfl, Nat.le_of_ble_eq_true rfl⟩
def sp_L_entry : SPc := fun As μ K => match As with
  | [.inr (.inr (19, x)), .inl a0, .inl a1, .inl a2, .inl a3, .inr (.inr (7, o))] => ∃ (M : Nat) (W : WS) (U : List WS), WKS M W U ∧ M + 200 < 2 ^ 31 ∧ CXo μ x W U ∧ ∀ μ', WO (oEntry a0 a1 a2 a3 W U) W U μ μ' x o → K (.inl (some (.inl (nI (oEntry a0 a1 a2 a3 W U).1)))) μ'
  | _ => False
def ct_L_entry : List (Nat × CI) := [(68, ci_X9_entry)]
def ci_L_entry : CI := (yL_entry, cL_entry, 7, some .int, 6, (8, 4, 24, 137), 4, [(0, 14, 17, 13), (0, 14, 21, 15)], sp_L_entry)
set_option maxRecDepth 100000 in
theorem ck_L_entry : chkM ci_L_entry RL co_L_entry ct_L_entry [(0, 14, 17, 1), (0, 14, 21, 2)] false false = true := by decide +kernel
set_option maxHeartbeats 4000000 in
set_option maxRecDepth 100000 in
theorem ms_L_entry {g : GPT} {ot : OT} {l : Launch} (hl : l.stackTraces = false) : MS g ot l ci_L_entry := by
  refine ms0_of hl RL co_L_entry ct_L_entry [(0, 14, 17, 1), (0, 14, 21, 2)] false false 24 ck_L_entry (List.forall_mem_cons.mpr ⟨ms_X9_entry hl, fun _ h => nomatch h⟩) ?_
  intro As μ K h
  simp only [ci_L_entry, sp_L_entry] at h
  split at h
  case h_2 => exact h.elim
  rename_i x a0 a1 a2 a3 o
  obtain ⟨M, W, U, hK, hM, hX, h⟩ := h
  refine ⟨Nat.le_of_ble_eq_true rfl, by decide, M, W, U, hK.1, hX, fun h0 μ' hW hU hf => ⟨0, rfl, by omega, ?_⟩, fun h0 => ?_⟩
  · have := h _ (wo1 (o := o) h0 hW hU hf (v := (oEntry a0 a1 a2 a3 W U).2.1.toInt64) rfl)
    rw [h0] at this
    exact this
  · have hc := (oEntry_c a0 a1 a2 a3 W U).resolve_left h0
    have hw := fun z hz => h _ (wo2 (o := o) (z := z) h0 hX hz)
    generalize (oEntry a0 a1 a2 a3 W U).1 = cd at *
    have : cd = 1 ∨ cd = 2 := by omega
    rcases this with rfl | rfl
    · exact fun z hz q => hw z hz
    · exact fun z hz q => hw z hz
theorem oPrice_c (a0 a1 : Int32) (W : WS) (U : List WS) : (oPrice a0 a1 W U).1 = 0 ∨ (1 ≤ (oPrice a0 a1 W U).1 ∧ (oPrice a0 a1 W U).1 ≤ 2) := by
  unfold oPrice
  split
  · exact Or.inr ⟨Nat.le_of_ble_eq_true rfl, Nat.le_of_ble_eq_true rfl⟩
  · split
    · exact Or.inr ⟨Nat.le_of_ble_eq_true rfl, Nat.le_of_ble_eq_true rfl⟩
    · exact Or.inl rfl
def sp_L_price : SPc := fun As μ K => match As with
  | [.inr (.inr (19, x)), .inl a0, .inl a1, .inr (.inr (7, o))] => ∃ (M : Nat) (W : WS) (U : List WS), WKS M W U ∧ M + 200 < 2 ^ 31 ∧ CXo μ x W U ∧ ∀ μ', WO (oPrice a0 a1 W U) W U μ μ' x o → K (.inl (some (.inl (nI (oPrice a0 a1 W U).1)))) μ'
  | _ => False
def ct_L_price : List (Nat × CI) := [(71, ci_X9_price)]
def ci_L_price : CI := (yL_price, cL_price, 5, some .int, 4, (8, 3, 18, 134), 4, [(0, 10, 13, 13), (0, 10, 17, 21)], sp_L_price)
set_option maxRecDepth 100000 in
theorem ck_L_price : chkM ci_L_price RL co_L_price ct_L_price [(0, 10, 13, 1), (0, 10, 17, 3)] false false = true := by decide +kernel
set_option maxHeartbeats 4000000 in
set_option maxRecDepth 100000 in
theorem ms_L_price {g : GPT} {ot : OT} {l : Launch} (hl : l.stackTraces = false) (hot : otOK ot) : MS g ot l ci_L_price := by
  refine ms0_of hl RL co_L_price ct_L_price [(0, 10, 13, 1), (0, 10, 17, 3)] false false 22 ck_L_price (List.forall_mem_cons.mpr ⟨ms_X9_price hl hot, fun _ h => nomatch h⟩) ?_
  intro As μ K h
  simp only [ci_L_price, sp_L_price] at h
  split at h
  case h_2 => exact h.elim
  rename_i x a0 a1 o
  obtain ⟨M, W, U, hK, hM, hX, h⟩ := h
  refine ⟨Nat.le_of_ble_eq_true rfl, by decide, M, W, U, hK.1, hX, fun h0 μ' hW hU hf => ⟨0, rfl, by omega, ?_⟩, fun h0 => ?_⟩
  · have := h _ (wo1 (o := o) h0 hW hU hf (v := (oPrice a0 a1 W U).2.1.toInt64) rfl)
    rw [h0] at this
    exact this
  · have hc := (oPrice_c a0 a1 W U).resolve_left h0
    have hw := fun z hz => h _ (wo2 (o := o) (z := z) h0 hX hz)
    generalize (oPrice a0 a1 W U).1 = cd at *
    have : cd = 1 ∨ cd = 2 := by omega
    rcases this with rfl | rfl
    · exact fun z hz q => hw z hz
    · exact fun z hz q => hw z hz
theorem oUndo_c (W : WS) (U : List WS) : (oUndo W U).1 = 0 ∨ (1 ≤ (oUndo W U).1 ∧ (oUndo W U).1 ≤ 1) := by
  cases U with
  | nil => exact Or.inr ⟨Nat.le_of_ble_eq_true rfl, Nat.le_of_ble_eq_true rfl⟩
  | cons V U' => exact Or.inl rfl
def sp_L_undo : SPc := fun As μ K => match As with
  | [.inr (.inr (19, x)), .inr (.inr (7, o))] => ∃ (M : Nat) (W : WS) (U : List WS), WKS M W U ∧ M + 200 < 2 ^ 31 ∧ CXo μ x W U ∧ ∀ μ', WO (oUndo W U) W U μ μ' x o → K (.inl (some (.inl (nI (oUndo W U).1)))) μ'
  | _ => False
def ct_L_undo : List (Nat × CI) := [(74, ci_X9_undo)]
def ci_L_undo : CI := (yL_undo, cL_undo, 3, some .int, 2, (7, 1, 6, 145), 4, [(0, 8, 11, 21)], sp_L_undo)
set_option maxRecDepth 100000 in
theorem ck_L_undo : chkM ci_L_undo RL co_L_undo ct_L_undo [(0, 8, 11, 3)] false false = true := by decide +kernel
set_option maxHeartbeats 4000000 in
set_option maxRecDepth 100000 in
theorem ms_L_undo {g : GPT} {ot : OT} {l : Launch} (hl : l.stackTraces = false) : MS g ot l ci_L_undo := by
  refine ms0_of hl RL co_L_undo ct_L_undo [(0, 8, 11, 3)] false false 17 ck_L_undo (List.forall_mem_cons.mpr ⟨ms_X9_undo hl, fun _ h => nomatch h⟩) ?_
  intro As μ K h
  simp only [ci_L_undo, sp_L_undo] at h
  split at h
  case h_2 => exact h.elim
  rename_i x o
  obtain ⟨M, W, U, hK, hM, hX, h⟩ := h
  refine ⟨Nat.le_of_ble_eq_true rfl, by decide, M, W, U, hK.2, hX, fun h0 μ' hW hU hf => ⟨0, rfl, by omega, ?_⟩, fun h0 => ?_⟩
  · have := h _ (wo1 (o := o) h0 hW hU hf (v := (oUndo W U).2.1.toInt64) rfl)
    rw [h0] at this
    exact this
  · have hc := (oUndo_c W U).resolve_left h0
    have hw := fun z hz => h _ (wo2 (o := o) (z := z) h0 hX hz)
    generalize (oUndo W U).1 = cd at *
    have : cd = 1 := by omega
    rcases this with rfl
    · exact fun z hz q => hw z hz
