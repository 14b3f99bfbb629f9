/-! THE LAW'S WRAPPERS: a call of the class; its answer, or what stands for a throw. (by program, gen3.py) -/
def exV : Nat → Int32 := fun k => match k with
  | 1 => Int32.ofInt (-903)
  | 2 => Int32.ofInt (-901)
  | _ => Int32.ofInt (-902)
def ansR (ex : Nat → Nat) (R : RS4) : Int32 := if R.1 = 0 then R.2.1 else exV (ex R.1)
theorem ansR_0 {ex : Nat → Nat} {R : RS4} (h : R.1 = 0) : ansR ex R = R.2.1 := if_pos h
theorem ansR_n {ex : Nat → Nat} {R : RS4} (h : ¬ R.1 = 0) : ansR ex R = exV (ex R.1) := if_neg h
def hzM (μ : MM) (z : Nat) : MM := (μ.1, μ.2.1, μ.2.2.1, μ.2.2.2.1, z)
def FRq (μ μ' : MM) (x : Nat) : Prop := (∀ z, (z < x ∨ x + 1959 ≤ z) → μ'.1 z = μ.1 z ∧ μ'.2.1 z = μ.2.1 z) ∧ μ'.2.2.1 = μ.2.2.1 ∧ μ'.2.2.2.1 = μ.2.2.2.1 ∧ μ.2.2.2.2 ≤ μ'.2.2.2.2
theorem FRq.refl (μ : MM) (x : Nat) : FRq μ μ x := ⟨fun _ _ => ⟨rfl, rfl⟩, rfl, rfl, Nat.le_refl _⟩
theorem FRq.trans {μ μ' μ'' : MM} {x : Nat} (h : FRq μ μ' x) (g : FRq μ' μ'' x) : FRq μ μ'' x := ⟨fun z hz => ⟨(g.1 z hz).1.trans (h.1 z hz).1, (g.1 z hz).2.trans (h.1 z hz).2⟩, g.2.1.trans h.2.1, g.2.2.1.trans h.2.2.1, Nat.le_trans h.2.2.2 g.2.2.2⟩
theorem FRq.of {μ μ' : MM} {x : Nat} (h : FRm μ μ' x (x + 1959)) : FRq μ μ' x := ⟨h.1, by rw [h.2], by rw [h.2], by rw [h.2]; exact Nat.le_refl _⟩
theorem FRq.z {μ : MM} {x z : Nat} (hz : μ.2.2.2.2 ≤ z) : FRq μ (hzM μ z) x := ⟨fun _ _ => ⟨rfl, rfl⟩, rfl, rfl, hz⟩
theorem oPlace_b (e x y k h : Int32) (W : WS) (U : List WS) : (oPlace e x y k h W U).2.1 = 0 ∨ (oPlace e x y k h W U).2.1 = 1 := by
  unfold oPlace
  split
  · exact Or.inl rfl
  · split
    · exact Or.inl rfl
    · exact iB_01 _
theorem oCon_b (c x y r b : Int32) (W : WS) (U : List WS) : (oCon c x y r b W U).2.1 = 0 ∨ (oCon c x y r b W U).2.1 = 1 := by
  unfold oCon
  split
  · exact Or.inl rfl
  · split
    · exact Or.inl rfl
    · exact iB_01 _
theorem oPlace_c (a0 a1 a2 a3 a4 : Int32) (W : WS) (U : List WS) : (oPlace a0 a1 a2 a3 a4 W U).1 = 0 ∨ (1 ≤ (oPlace a0 a1 a2 a3 a4 W U).1 ∧ (oPlace a0 a1 a2 a3 a4 W U).1 ≤ 2) := by
  unfold oPlace
  split
  · exact Or.inr ⟨Nat.le_of_ble_eq_true rfl, Nat.le_of_ble_eq_true rfl⟩
  · split
    · exact Or.inr ⟨Nat.le_of_ble_eq_true rfl, Nat.le_of_ble_eq_true rfl⟩
    · exact Or.inl rfl
theorem oPlace_st (a0 a1 a2 a3 a4 : Int32) (W : WS) (U : List WS) : ¬ (oPlace a0 a1 a2 a3 a4 W U).1 = 0 → (oPlace a0 a1 a2 a3 a4 W U).2.2 = (W, U) := by
  unfold oPlace
  split
  · exact fun _ => rfl
  · split
    · exact fun _ => rfl
    · exact fun w => (w rfl).elim
def sp_L_place : SPc := fun As μ K => match As with
  | [.inr (.inr (19, x)), .inl a0, .inl a1, .inl a2, .inl a3, .inl a4] => ∃ (M : Nat) (W : WS) (U : List WS), WKS M W U ∧ M + 200 < 2 ^ 31 ∧ CXo μ x W U ∧ ∀ μ', CXo μ' x (oPlace a0 a1 a2 a3 a4 W U).2.2.1 (oPlace a0 a1 a2 a3 a4 W U).2.2.2 → FRq μ μ' x → K (.inl (some (.inl (ansR xc0 (oPlace a0 a1 a2 a3 a4 W U))))) μ'
  | _ => False
def ct_L_place : List (Nat × CI) := [(9, ci_X9_place)]
def ci_L_place : CI := (yL_place, cL_place, 7, some .int, 6, (8, 5, 30, 150), 4, [(0, 19, 20, 15), (0, 19, 26, 17)], sp_L_place)
set_option maxRecDepth 100000 in
theorem ck_L_place : chkM ci_L_place RL co_L_place ct_L_place [(0, 19, 20, 1), (0, 19, 26, 2)] false false = true := by decide +kernel
set_option maxHeartbeats 4000000 in
set_option maxRecDepth 100000 in
theorem ms_L_place {g : GPT} {ot : OT} {l : Launch} (hl : l.stackTraces = false) (hot : otOK ot) : MS g ot l ci_L_place := by
  refine ms0_of hl RL co_L_place ct_L_place [(0, 19, 20, 1), (0, 19, 26, 2)] false false 23 ck_L_place (List.forall_mem_cons.mpr ⟨ms_X9_place hl hot, fun _ h => nomatch h⟩) ?_
  intro As μ K h
  simp only [ci_L_place, sp_L_place] at h
  split at h
  case h_2 => exact h.elim
  rename_i x a0 a1 a2 a3 a4
  obtain ⟨M, W, U, hK, hM, hX, h⟩ := h
  refine ⟨Nat.le_of_ble_eq_true rfl, by decide, M, W, U, hK.1, hX, fun h0 μ' hW hU hf => ⟨fun q => ?_, fun q => ?_⟩, fun h0 => ?_⟩
  · have := h μ' ⟨hW, hU⟩ (FRq.of hf)
    rw [ansR_0 h0, show (oPlace a0 a1 a2 a3 a4 W U).2.1 = 0 from q] at this
    exact this
  · have := h μ' ⟨hW, hU⟩ (FRq.of hf)
    rw [ansR_0 h0, (oPlace_b a0 a1 a2 a3 a4 W U).resolve_left q] at this
    exact this
  · have hc := (oPlace_c a0 a1 a2 a3 a4 W U).resolve_left h0
    have hw := fun z (hz : μ.2.2.2.2 ≤ z) => h (hzM μ z) (by rw [oPlace_st a0 a1 a2 a3 a4 W U h0]; exact hX) (FRq.z hz)
    rw [ansR_n h0] at hw
    generalize (oPlace a0 a1 a2 a3 a4 W U).1 = cd at *
    have : cd = 1 ∨ cd = 2 := by omega
    rcases this with rfl | rfl
    · exact fun z hz q => hw z hz
    · exact fun z hz q => hw z hz
theorem oSetV_c (a0 a1 a2 : Int32) (W : WS) (U : List WS) : (oSetV a0 a1 a2 W U).1 = 0 ∨ (1 ≤ (oSetV a0 a1 a2 W U).1 ∧ (oSetV a0 a1 a2 W U).1 ≤ 3) := by
  unfold oSetV
  split
  · exact Or.inr ⟨Nat.le_of_ble_eq_true rfl, Nat.le_of_ble_eq_true rfl⟩
  · split
    · exact Or.inr ⟨Nat.le_of_ble_eq_true rfl, Nat.le_of_ble_eq_true rfl⟩
    · split
      · exact Or.inr ⟨Nat.le_of_ble_eq_true rfl, Nat.le_of_ble_eq_true rfl⟩
      · exact Or.inl rfl
theorem oSetV_st (a0 a1 a2 : Int32) (W : WS) (U : List WS) : ¬ (oSetV a0 a1 a2 W U).1 = 0 → (oSetV a0 a1 a2 W U).2.2 = (W, U) := by
  unfold oSetV
  split
  · exact fun _ => rfl
  · split
    · exact fun _ => rfl
    · split
      · exact fun _ => rfl
      · exact fun w => (w rfl).elim
def sp_L_setVelocity : SPc := fun As μ K => match As with
  | [.inr (.inr (19, x)), .inl a0, .inl a1, .inl a2] => ∃ (M : Nat) (W : WS) (U : List WS), WKS M W U ∧ M + 200 < 2 ^ 31 ∧ CXo μ x W U ∧ ∀ μ', CXo μ' x (oSetV a0 a1 a2 W U).2.2.1 (oSetV a0 a1 a2 W U).2.2.2 → FRq μ μ' x → K (.inl (some (.inl (ansR xc0 (oSetV a0 a1 a2 W U))))) μ'
  | _ => False
def ct_L_setVelocity : List (Nat × CI) := [(19, ci_X9_setVelocity)]
def ci_L_setVelocity : CI := (yL_setVelocity, cL_setVelocity, 5, some .int, 4, (8, 4, 24, 148), 4, [(0, 7, 8, 15), (0, 7, 14, 17), (0, 7, 20, 23)], sp_L_setVelocity)
set_option maxRecDepth 100000 in
theorem ck_L_setVelocity : chkM ci_L_setVelocity RL co_L_setVelocity ct_L_setVelocity [(0, 7, 8, 1), (0, 7, 14, 2), (0, 7, 20, 3)] false false = true := by decide +kernel
set_option maxHeartbeats 4000000 in
set_option maxRecDepth 100000 in
theorem ms_L_setVelocity {g : GPT} {ot : OT} {l : Launch} (hl : l.stackTraces = false) : MS g ot l ci_L_setVelocity := by
  refine ms0_of hl RL co_L_setVelocity ct_L_setVelocity [(0, 7, 8, 1), (0, 7, 14, 2), (0, 7, 20, 3)] false false 20 ck_L_setVelocity (List.forall_mem_cons.mpr ⟨ms_X9_setVelocity hl, fun _ h => nomatch h⟩) ?_
  intro As μ K h
  simp only [ci_L_setVelocity, sp_L_setVelocity] at h
  split at h
  case h_2 => exact h.elim
  rename_i x a0 a1 a2
  obtain ⟨M, W, U, hK, hM, hX, h⟩ := h
  refine ⟨Nat.le_of_ble_eq_true rfl, by decide, M, W, U, hK.1, hX, fun h0 μ' hW hU hf => ?_, fun h0 => ?_⟩
  · have := h μ' ⟨hW, hU⟩ (FRq.of hf)
    rw [ansR_0 h0] at this
    exact this
  · have hc := (oSetV_c a0 a1 a2 W U).resolve_left h0
    have hw := fun z (hz : μ.2.2.2.2 ≤ z) => h (hzM μ z) (by rw [oSetV_st a0 a1 a2 W U h0]; exact hX) (FRq.z hz)
    rw [ansR_n h0] at hw
    generalize (oSetV a0 a1 a2 W U).1 = cd at *
    have : cd = 1 ∨ cd = 2 ∨ cd = 3 := by omega
    rcases this with rfl | rfl | rfl
    · exact fun z hz q => hw z hz
    · exact fun z hz q => hw z hz
    · exact fun z hz q => hw z hz
theorem oSetH_c (a0 a1 : Int32) (W : WS) (U : List WS) : (oSetH a0 a1 W U).1 = 0 ∨ (1 ≤ (oSetH a0 a1 W U).1 ∧ (oSetH a0 a1 W U).1 ≤ 3) := by
  unfold oSetH
  split
  · exact Or.inr ⟨Nat.le_of_ble_eq_true rfl, Nat.le_of_ble_eq_true rfl⟩
  · split
    · exact Or.inr ⟨Nat.le_of_ble_eq_true rfl, Nat.le_of_ble_eq_true rfl⟩
    · split
      · exact Or.inr ⟨Nat.le_of_ble_eq_true rfl, Nat.le_of_ble_eq_true rfl⟩
      · exact Or.inl rfl
theorem oSetH_st (a0 a1 : Int32) (W : WS) (U : List WS) : ¬ (oSetH a0 a1 W U).1 = 0 → (oSetH a0 a1 W U).2.2 = (W, U) := by
  unfold oSetH
  split
  · exact fun _ => rfl
  · split
    · exact fun _ => rfl
    · split
      · exact fun _ => rfl
      · exact fun w => (w rfl).elim
def sp_L_setHealth : SPc := fun As μ K => match As with
  | [.inr (.inr (19, x)), .inl a0, .inl a1] => ∃ (M : Nat) (W : WS) (U : List WS), WKS M W U ∧ M + 200 < 2 ^ 31 ∧ CXo μ x W U ∧ ∀ μ', CXo μ' x (oSetH a0 a1 W U).2.2.1 (oSetH a0 a1 W U).2.2.2 → FRq μ μ' x → K (.inl (some (.inl (ansR xc0 (oSetH a0 a1 W U))))) μ'
  | _ => False
def ct_L_setHealth : List (Nat × CI) := [(25, ci_X9_setHealth)]
def ci_L_setHealth : CI := (yL_setHealth, cL_setHealth, 4, some .int, 3, (8, 3, 18, 147), 4, [(0, 6, 7, 15), (0, 6, 12, 17), (0, 6, 17, 23)], sp_L_setHealth)
set_option maxRecDepth 100000 in
theorem ck_L_setHealth : chkM ci_L_setHealth RL co_L_setHealth ct_L_setHealth [(0, 6, 7, 1), (0, 6, 12, 2), (0, 6, 17, 3)] false false = true := by decide +kernel
set_option maxHeartbeats 4000000 in
set_option maxRecDepth 100000 in
theorem ms_L_setHealth {g : GPT} {ot : OT} {l : Launch} (hl : l.stackTraces = false) (hot : otOK ot) : MS g ot l ci_L_setHealth := by
  refine ms0_of hl RL co_L_setHealth ct_L_setHealth [(0, 6, 7, 1), (0, 6, 12, 2), (0, 6, 17, 3)] false false 19 ck_L_setHealth (List.forall_mem_cons.mpr ⟨ms_X9_setHealth hl hot, fun _ h => nomatch h⟩) ?_
  intro As μ K h
  simp only [ci_L_setHealth, sp_L_setHealth] at h
  split at h
  case h_2 => exact h.elim
  rename_i x a0 a1
  obtain ⟨M, W, U, hK, hM, hX, h⟩ := h
  refine ⟨Nat.le_of_ble_eq_true rfl, by decide, M, W, U, hK.1, hX, fun h0 μ' hW hU hf => ?_, fun h0 => ?_⟩
  · have := h μ' ⟨hW, hU⟩ (FRq.of hf)
    rw [ansR_0 h0] at this
    exact this
  · have hc := (oSetH_c a0 a1 W U).resolve_left h0
    have hw := fun z (hz : μ.2.2.2.2 ≤ z) => h (hzM μ z) (by rw [oSetH_st a0 a1 W U h0]; exact hX) (FRq.z hz)
    rw [ansR_n h0] at hw
    generalize (oSetH a0 a1 W U).1 = cd at *
    have : cd = 1 ∨ cd = 2 ∨ cd = 3 := by omega
    rcases this with rfl | rfl | rfl
    · exact fun z hz q => hw z hz
    · exact fun z hz q => hw z hz
    · exact fun z hz q => hw z hz
theorem oDel_c (a0 : Int32) (W : WS) (U : List WS) : (oDel a0 W U).1 = 0 ∨ (1 ≤ (oDel a0 W U).1 ∧ (oDel a0 W U).1 ≤ 2) := by
  unfold oDel
  split
  · exact Or.inr ⟨Nat.le_of_ble_eq_true rfl, Nat.le_of_ble_eq_true rfl⟩
  · split
    · exact Or.inr ⟨Nat.le_of_ble_eq_true rfl, Nat.le_of_ble_eq_true rfl⟩
    · exact Or.inl rfl
theorem oDel_st (a0 : Int32) (W : WS) (U : List WS) : ¬ (oDel a0 W U).1 = 0 → (oDel a0 W U).2.2 = (W, U) := by
  unfold oDel
  split
  · exact fun _ => rfl
  · split
    · exact fun _ => rfl
    · exact fun w => (w rfl).elim
def sp_L_destroy : SPc := fun As μ K => match As with
  | [.inr (.inr (19, x)), .inl a0] => ∃ (M : Nat) (W : WS) (U : List WS), WKS M W U ∧ M + 200 < 2 ^ 31 ∧ CXo μ x W U ∧ ∀ μ', CXo μ' x (oDel a0 W U).2.2.1 (oDel a0 W U).2.2.2 → FRq μ μ' x → K (.inl (some (.inl (ansR xc3 (oDel a0 W U))))) μ'
  | _ => False
def ct_L_destroy : List (Nat × CI) := [(29, ci_X9_destroy)]
def ci_L_destroy : CI := (yL_destroy, cL_destroy, 3, some .int, 2, (8, 2, 12, 146), 4, [(0, 5, 6, 15), (0, 5, 11, 23)], sp_L_destroy)
set_option maxRecDepth 100000 in
theorem ck_L_destroy : chkM ci_L_destroy RL co_L_destroy ct_L_destroy [(0, 5, 6, 1), (0, 5, 11, 3)] false false = true := by decide +kernel
set_option maxHeartbeats 4000000 in
set_option maxRecDepth 100000 in
theorem ms_L_destroy {g : GPT} {ot : OT} {l : Launch} (hl : l.stackTraces = false) : MS g ot l ci_L_destroy := by
  refine ms0_of hl RL co_L_destroy ct_L_destroy [(0, 5, 6, 1), (0, 5, 11, 3)] false false 15 ck_L_destroy (List.forall_mem_cons.mpr ⟨ms_X9_destroy hl, fun _ h => nomatch h⟩) ?_
  intro As μ K h
  simp only [ci_L_destroy, sp_L_destroy] at h
  split at h
  case h_2 => exact h.elim
  rename_i x a0
  obtain ⟨M, W, U, hK, hM, hX, h⟩ := h
  refine ⟨Nat.le_of_ble_eq_true rfl, by decide, M, W, U, hK.1, hX, fun h0 μ' hW hU hf => ?_, fun h0 => ?_⟩
  · have := h μ' ⟨hW, hU⟩ (FRq.of hf)
    rw [ansR_0 h0] at this
    exact this
  · have hc := (oDel_c a0 W U).resolve_left h0
    have hw := fun z (hz : μ.2.2.2.2 ≤ z) => h (hzM μ z) (by rw [oDel_st a0 W U h0]; exact hX) (FRq.z hz)
    rw [ansR_n h0] at hw
    generalize (oDel a0 W U).1 = cd at *
    have : cd = 1 ∨ cd = 2 := by omega
    rcases this with rfl | rfl
    · exact fun z hz q => hw z hz
    · exact fun z hz q => hw z hz
theorem oEnt_c (a0 a1 : Int32) (W : WS) (U : List WS) : (oEnt a0 a1 W U).1 = 0 ∨ (1 ≤ (oEnt a0 a1 W U).1 ∧ (oEnt a0 a1 W U).1 ≤ 2) := by
  unfold oEnt
  split
  · exact Or.inr ⟨Nat.le_of_ble_eq_true rfl, Nat.le_of_ble_eq_true rfl⟩
  · split
    · exact Or.inr ⟨Nat.le_of_ble_eq_true rfl, Nat.le_of_ble_eq_true rfl⟩
    · exact Or.inl rfl
theorem oEnt_st (a0 a1 : Int32) (W : WS) (U : List WS) : (oEnt a0 a1 W U).2.2 = (W, U) := by
  unfold oEnt
  split
  · exact rfl
  · split
    · exact rfl
    · exact rfl
def sp_L_entity : SPc := fun As μ K => match As with
  | [.inr (.inr (19, x)), .inl a0, .inl a1] => ∃ (M : Nat) (W : WS) (U : List WS), WKS M W U ∧ M + 200 < 2 ^ 31 ∧ CXo μ x W U ∧ ∀ μ', CXo μ' x W U → FRq μ μ' x → K (.inl (some (.inl (ansR xc0 (oEnt a0 a1 W U))))) μ'
  | _ => False
def ct_L_entity : List (Nat × CI) := [(33, ci_X9_entity)]
def ci_L_entity : CI := (yL_entity, cL_entity, 4, some .int, 3, (8, 2, 12, 134), 4, [(0, 6, 7, 15), (0, 6, 12, 17)], sp_L_entity)
set_option maxRecDepth 100000 in
theorem ck_L_entity : chkM ci_L_entity RL co_L_entity ct_L_entity [(0, 6, 7, 1), (0, 6, 12, 2)] false false = true := by decide +kernel
set_option maxHeartbeats 4000000 in
set_option maxRecDepth 100000 in
theorem ms_L_entity {g : GPT} {ot : OT} {l : Launch} (hl : l.stackTraces = false) (hot : otOK ot) : MS g ot l ci_L_entity := by
  refine ms0_of hl RL co_L_entity ct_L_entity [(0, 6, 7, 1), (0, 6, 12, 2)] false false 16 ck_L_entity (List.forall_mem_cons.mpr ⟨ms_X9_entity hl hot, fun _ h => nomatch h⟩) ?_
  intro As μ K h
  simp only [ci_L_entity, sp_L_entity] at h
  split at h
  case h_2 => exact h.elim
  rename_i x a0 a1
  obtain ⟨M, W, U, hK, hM, hX, h⟩ := h
  refine ⟨Nat.le_of_ble_eq_true rfl, by decide, M, W, U, hK.1, hX, fun h0 μ' hW hU hf => ?_, fun h0 => ?_⟩
  · have := h μ' ⟨by have := oEnt_st a0 a1 W U; rw [this] at hW; exact hW, by have := oEnt_st a0 a1 W U; rw [this] at hU; exact hU⟩ (FRq.of hf)
    rw [ansR_0 h0] at this
    exact this
  · have hc := (oEnt_c a0 a1 W U).resolve_left h0
    have hw := fun z (hz : μ.2.2.2.2 ≤ z) => h (hzM μ z) hX (FRq.z hz)
    rw [ansR_n h0] at hw
    generalize (oEnt a0 a1 W U).1 = cd at *
    have : cd = 1 ∨ cd = 2 := by omega
    rcases this with rfl | rfl
    · exact fun z hz q => hw z hz
    · exact fun z hz q => hw z hz
theorem oCon_c (a0 a1 a2 a3 a4 : Int32) (W : WS) (U : List WS) : (oCon a0 a1 a2 a3 a4 W U).1 = 0 ∨ (1 ≤ (oCon a0 a1 a2 a3 a4 W U).1 ∧ (oCon a0 a1 a2 a3 a4 W U).1 ≤ 2) := by
  unfold oCon
  split
  · exact Or.inr ⟨Nat.le_of_ble_eq_true rfl, Nat.le_of_ble_eq_true rfl⟩
  · split
    · exact Or.inr ⟨Nat.le_of_ble_eq_true rfl, Nat.le_of_ble_eq_true rfl⟩
    · exact Or.inl rfl
theorem oCon_st (a0 a1 a2 a3 a4 : Int32) (W : WS) (U : List WS) : ¬ (oCon a0 a1 a2 a3 a4 W U).1 = 0 → (oCon a0 a1 a2 a3 a4 W U).2.2 = (W, U) := by
  unfold oCon
  split
  · exact fun _ => rfl
  · split
    · exact fun _ => rfl
    · exact fun w => (w rfl).elim
def sp_L_connect : SPc := fun As μ K => match As with
  | [.inr (.inr (19, x)), .inl a0, .inl a1, .inl a2, .inl a3, .inl a4] => ∃ (M : Nat) (W : WS) (U : List WS), WKS M W U ∧ M + 200 < 2 ^ 31 ∧ CXo μ x W U ∧ ∀ μ', CXo μ' x (oCon a0 a1 a2 a3 a4 W U).2.2.1 (oCon a0 a1 a2 a3 a4 W U).2.2.2 → FRq μ μ' x → K (.inl (some (.inl (ansR xc0 (oCon a0 a1 a2 a3 a4 W U))))) μ'
  | _ => False
def ct_L_connect : List (Nat × CI) := [(36, ci_X9_connect)]
def ci_L_connect : CI := (yL_connect, cL_connect, 7, some .int, 6, (8, 5, 30, 152), 4, [(0, 19, 20, 15), (0, 19, 26, 17)], sp_L_connect)
set_option maxRecDepth 100000 in
theorem ck_L_connect : chkM ci_L_connect RL co_L_connect ct_L_connect [(0, 19, 20, 1), (0, 19, 26, 2)] false false = true := by decide +kernel
set_option maxHeartbeats 4000000 in
set_option maxRecDepth 100000 in
theorem ms_L_connect {g : GPT} {ot : OT} {l : Launch} (hl : l.stackTraces = false) : MS g ot l ci_L_connect := by
  refine ms0_of hl RL co_L_connect ct_L_connect [(0, 19, 20, 1), (0, 19, 26, 2)] false false 23 ck_L_connect (List.forall_mem_cons.mpr ⟨ms_X9_connect hl, fun _ h => nomatch h⟩) ?_
  intro As μ K h
  simp only [ci_L_connect, sp_L_connect] at h
  split at h
  case h_2 => exact h.elim
  rename_i x a0 a1 a2 a3 a4
  obtain ⟨M, W, U, hK, hM, hX, h⟩ := h
  refine ⟨Nat.le_of_ble_eq_true rfl, by decide, M, W, U, hK.1, hX, fun h0 μ' hW hU hf => ⟨fun q => ?_, fun q => ?_⟩, fun h0 => ?_⟩
  · have := h μ' ⟨hW, hU⟩ (FRq.of hf)
    rw [ansR_0 h0, show (oCon a0 a1 a2 a3 a4 W U).2.1 = 0 from q] at this
    exact this
  · have := h μ' ⟨hW, hU⟩ (FRq.of hf)
    rw [ansR_0 h0, (oCon_b a0 a1 a2 a3 a4 W U).resolve_left q] at this
    exact this
  · have hc := (oCon_c a0 a1 a2 a3 a4 W U).resolve_left h0
    have hw := fun z (hz : μ.2.2.2.2 ≤ z) => h (hzM μ z) (by rw [oCon_st a0 a1 a2 a3 a4 W U h0]; exact hX) (FRq.z hz)
    rw [ansR_n h0] at hw
    generalize (oCon a0 a1 a2 a3 a4 W U).1 = cd at *
    have : cd = 1 ∨ cd = 2 := by omega
    rcases this with rfl | rfl
    · exact fun z hz q => hw z hz
    · exact fun z hz q => hw z hz
theorem oLook_c (a0 a1 a2 a3 : Int32) (W : WS) (U : List WS) : (oLook a0 a1 a2 a3 W U).1 = 0 ∨ (1 ≤ (oLook a0 a1 a2 a3 W U).1 ∧ (oLook a0 a1 a2 a3 W U).1 ≤ 3) := by
  unfold oLook
  split
  · exact Or.inr ⟨Nat.le_of_ble_eq_true rfl, Nat.le_of_ble_eq_true rfl⟩
  · split
    · exact Or.inr ⟨Nat.le_of_ble_eq_true rfl, Nat.le_of_ble_eq_true rfl⟩
    · split
      · exact Or.inr ⟨Nat.le_of_ble_eq_true rfl, Nat.le_of_ble_eq_true rfl⟩
      · exact Or.inl rfl
theorem oLook_st (a0 a1 a2 a3 : Int32) (W : WS) (U : List WS) : ¬ (oLook a0 a1 a2 a3 W U).1 = 0 → (oLook a0 a1 a2 a3 W U).2.2 = (W, U) := by
  unfold oLook
  split
  · exact fun _ => rfl
  · split
    · exact fun _ => rfl
    · split
      · exact fun _ => rfl
      · exact fun w => (w rfl).elim
def sp_L_look : SPc := fun As μ K => match As with
  | [.inr (.inr (19, x)), .inl a0, .inl a1, .inl a2, .inl a3] => ∃ (M : Nat) (W : WS) (U : List WS), WKS M W U ∧ M + 200 < 2 ^ 31 ∧ CXo μ x W U ∧ ∀ μ', CXo μ' x (oLook a0 a1 a2 a3 W U).2.2.1 (oLook a0 a1 a2 a3 W U).2.2.2 → FRq μ μ' x → K (.inl (some (.inl (ansR xc0 (oLook a0 a1 a2 a3 W U))))) μ'
  | _ => False
def ct_L_look : List (Nat × CI) := [(39, ci_X9_look)]
def ci_L_look : CI := (yL_look, cL_look, 6, some .int, 5, (8, 5, 30, 150), 4, [(0, 9, 10, 15), (0, 9, 16, 17), (0, 9, 22, 23)], sp_L_look)
set_option maxRecDepth 100000 in
theorem ck_L_look : chkM ci_L_look RL co_L_look ct_L_look [(0, 9, 10, 1), (0, 9, 16, 2), (0, 9, 22, 3)] false false = true := by decide +kernel
set_option maxHeartbeats 4000000 in
set_option maxRecDepth 100000 in
theorem ms_L_look {g : GPT} {ot : OT} {l : Launch} (hl : l.stackTraces = false) (hot : otOK ot) : MS g ot l ci_L_look := by
  refine ms0_of hl RL co_L_look ct_L_look [(0, 9, 10, 1), (0, 9, 16, 2), (0, 9, 22, 3)] false false 21 ck_L_look (List.forall_mem_cons.mpr ⟨ms_X9_look hl hot, fun _ h => nomatch h⟩) ?_
  intro As μ K h
  simp only [ci_L_look, sp_L_look] at h
  split at h
  case h_2 => exact h.elim
  rename_i x a0 a1 a2 a3
  obtain ⟨M, W, U, hK, hM, hX, h⟩ := h
  refine ⟨Nat.le_of_ble_eq_true rfl, by decide, M, W, U, hK.1, hX, fun h0 μ' hW hU hf => ?_, fun h0 => ?_⟩
  · have := h μ' ⟨hW, hU⟩ (FRq.of hf)
    rw [ansR_0 h0] at this
    exact this
  · have hc := (oLook_c a0 a1 a2 a3 W U).resolve_left h0
    have hw := fun z (hz : μ.2.2.2.2 ≤ z) => h (hzM μ z) (by rw [oLook_st a0 a1 a2 a3 W U h0]; exact hX) (FRq.z hz)
    rw [ansR_n h0] at hw
    generalize (oLook a0 a1 a2 a3 W U).1 = cd at *
    have : cd = 1 ∨ cd = 2 ∨ cd = 3 := by omega
    rcases this with rfl | rfl | rfl
    · exact fun z hz q => hw z hz
    · exact fun z hz q => hw z hz
    · exact fun z hz q => hw z hz
theorem oDis_c (a0 : Int32) (W : WS) (U : List WS) : (oDis a0 W U).1 = 0 ∨ (1 ≤ (oDis a0 W U).1 ∧ (oDis a0 W U).1 ≤ 2) := by
  unfold oDis
  split
  · exact Or.inr ⟨Nat.le_of_ble_eq_true rfl, Nat.le_of_ble_eq_true rfl⟩
  · split
    · exact Or.inr ⟨Nat.le_of_ble_eq_true rfl, Nat.le_of_ble_eq_true rfl⟩
    · exact Or.inl rfl
theorem oDis_st (a0 : Int32) (W : WS) (U : List WS) : ¬ (oDis a0 W U).1 = 0 → (oDis a0 W U).2.2 = (W, U) := by
  unfold oDis
  split
  · exact fun _ => rfl
  · split
    · exact fun _ => rfl
    · exact fun w => (w rfl).elim
def sp_L_disconnect : SPc := fun As μ K => match As with
  | [.inr (.inr (19, x)), .inl a0] => ∃ (M : Nat) (W : WS) (U : List WS), WKS M W U ∧ M + 200 < 2 ^ 31 ∧ CXo μ x W U ∧ ∀ μ', CXo μ' x (oDis a0 W U).2.2.1 (oDis a0 W U).2.2.2 → FRq μ μ' x → K (.inl (some (.inl (ansR xc3 (oDis a0 W U))))) μ'
  | _ => False
def ct_L_disconnect : List (Nat × CI) := [(43, ci_X9_disconnect)]
def ci_L_disconnect : CI := (yL_disconnect, cL_disconnect, 3, some .int, 2, (8, 2, 12, 148), 4, [(0, 5, 6, 15), (0, 5, 11, 23)], sp_L_disconnect)
set_option maxRecDepth 100000 in
theorem ck_L_disconnect : chkM ci_L_disconnect RL co_L_disconnect ct_L_disconnect [(0, 5, 6, 1), (0, 5, 11, 3)] false false = true := by decide +kernel
set_option maxHeartbeats 4000000 in
set_option maxRecDepth 100000 in
theorem ms_L_disconnect {g : GPT} {ot : OT} {l : Launch} (hl : l.stackTraces = false) : MS g ot l ci_L_disconnect := by
  refine ms0_of hl RL co_L_disconnect ct_L_disconnect [(0, 5, 6, 1), (0, 5, 11, 3)] false false 15 ck_L_disconnect (List.forall_mem_cons.mpr ⟨ms_X9_disconnect hl, fun _ h => nomatch h⟩) ?_
  intro As μ K h
  simp only [ci_L_disconnect, sp_L_disconnect] at h
  split at h
  case h_2 => exact h.elim
  rename_i x a0
  obtain ⟨M, W, U, hK, hM, hX, h⟩ := h
  refine ⟨Nat.le_of_ble_eq_true rfl, by decide, M, W, U, hK.1, hX, fun h0 μ' hW hU hf => ?_, fun h0 => ?_⟩
  · have := h μ' ⟨hW, hU⟩ (FRq.of hf)
    rw [ansR_0 h0] at this
    exact this
  · have hc := (oDis_c a0 W U).resolve_left h0
    have hw := fun z (hz : μ.2.2.2.2 ≤ z) => h (hzM μ z) (by rw [oDis_st a0 W U h0]; exact hX) (FRq.z hz)
    rw [ansR_n h0] at hw
    generalize (oDis a0 W U).1 = cd at *
    have : cd = 1 ∨ cd = 2 := by omega
    rcases this with rfl | rfl
    · exact fun z hz q => hw z hz
    · exact fun z hz q => hw z hz
theorem oTimes_c (a0 a1 : Int32) (W : WS) (U : List WS) : (oTimes a0 a1 W U).1 = 0 ∨ (1 ≤ (oTimes a0 a1 W U).1 ∧ (oTimes a0 a1 W U).1 ≤ 1) := by
  unfold oTimes
  split
  · exact Or.inr ⟨Nat.le_of_ble_eq_true rfl, Nat.le_of_ble_eq_true rfl⟩
  · exact Or.inl rfl
theorem oTimes_st (a0 a1 : Int32) (W : WS) (U : List WS) : ¬ (oTimes a0 a1 W U).1 = 0 → (oTimes a0 a1 W U).2.2 = (W, U) := by
  unfold oTimes
  split
  · exact fun _ => rfl
  · exact fun w => (w rfl).elim
def sp_L_setTimes : SPc := fun As μ K => match As with
  | [.inr (.inr (19, x)), .inl a0, .inl a1] => ∃ (M : Nat) (W : WS) (U : List WS), WKS M W U ∧ M + 200 < 2 ^ 31 ∧ CXo μ x W U ∧ ∀ μ', CXo μ' x (oTimes a0 a1 W U).2.2.1 (oTimes a0 a1 W U).2.2.2 → FRq μ μ' x → K (.inl (some (.inl (ansR xc2 (oTimes a0 a1 W U))))) μ'
  | _ => False
def ct_L_setTimes : List (Nat × CI) := [(46, ci_X9_setTimes)]
def ci_L_setTimes : CI := (yL_setTimes, cL_setTimes, 4, some .int, 3, (8, 2, 12, 148), 4, [(0, 6, 7, 17)], sp_L_setTimes)
set_option maxRecDepth 100000 in
theorem ck_L_setTimes : chkM ci_L_setTimes RL co_L_setTimes ct_L_setTimes [(0, 6, 7, 2)] false false = true := by decide +kernel
set_option maxHeartbeats 4000000 in
set_option maxRecDepth 100000 in
theorem ms_L_setTimes {g : GPT} {ot : OT} {l : Launch} (hl : l.stackTraces = false) : MS g ot l ci_L_setTimes := by
  refine ms0_of hl RL co_L_setTimes ct_L_setTimes [(0, 6, 7, 2)] false false 13 ck_L_setTimes (List.forall_mem_cons.mpr ⟨ms_X9_setTimes hl, fun _ h => nomatch h⟩) ?_
  intro As μ K h
  simp only [ci_L_setTimes, sp_L_setTimes] at h
  split at h
  case h_2 => exact h.elim
  rename_i x a0 a1
  obtain ⟨M, W, U, hK, hM, hX, h⟩ := h
  refine ⟨Nat.le_of_ble_eq_true rfl, by decide, M, W, U, hK.1, hX, fun h0 μ' hW hU hf => ?_, fun h0 => ?_⟩
  · have := h μ' ⟨hW, hU⟩ (FRq.of hf)
    rw [ansR_0 h0] at this
    exact this
  · have hc := (oTimes_c a0 a1 W U).resolve_left h0
    have hw := fun z (hz : μ.2.2.2.2 ≤ z) => h (hzM μ z) (by rw [oTimes_st a0 a1 W U h0]; exact hX) (FRq.z hz)
    rw [ansR_n h0] at hw
    generalize (oTimes a0 a1 W U).1 = cd at *
    have : cd = 1 := by omega
    rcases this with rfl
    · exact fun z hz q => hw z hz
theorem oLose_c (a0 a1 a2 : Int32) (W : WS) (U : List WS) : (oLose a0 a1 a2 W U).1 = 0 ∨ (1 ≤ (oLose a0 a1 a2 W U).1 ∧ (oLose a0 a1 a2 W U).1 ≤ 3) := by
  unfold oLose
  split
  · exact Or.inr ⟨Nat.le_of_ble_eq_true rfl, Nat.le_of_ble_eq_true rfl⟩
  · split
    · exact Or.inr ⟨Nat.le_of_ble_eq_true rfl, Nat.le_of_ble_eq_true rfl⟩
    · split
      · exact Or.inr ⟨Nat.le_of_ble_eq_true rfl, Nat.le_of_ble_eq_true rfl⟩
      · exact Or.inl rfl
theorem oLose_st (a0 a1 a2 : Int32) (W : WS) (U : List WS) : ¬ (oLose a0 a1 a2 W U).1 = 0 → (oLose a0 a1 a2 W U).2.2 = (W, U) := by
  unfold oLose
  split
  · exact fun _ => rfl
  · split
    · exact fun _ => rfl
    · split
      · exact fun _ => rfl
      · exact fun w => (w rfl).elim
def sp_L_lose : SPc := fun As μ K => match As with
  | [.inr (.inr (19, x)), .inl a0, .inl a1, .inl a2] => ∃ (M : Nat) (W : WS) (U : List WS), WKS M W U ∧ M + 200 < 2 ^ 31 ∧ CXo μ x W U ∧ ∀ μ', CXo μ' x (oLose a0 a1 a2 W U).2.2.1 (oLose a0 a1 a2 W U).2.2.2 → FRq μ μ' x → K (.inl (some (.inl (ansR xc0 (oLose a0 a1 a2 W U))))) μ'
  | _ => False
def ct_L_lose : List (Nat × CI) := [(49, ci_X9_lose)]
def ci_L_lose : CI := (yL_lose, cL_lose, 5, some .int, 4, (8, 4, 24, 150), 4, [(0, 7, 8, 15), (0, 7, 14, 17), (0, 7, 20, 23)], sp_L_lose)
set_option maxRecDepth 100000 in
theorem ck_L_lose : chkM ci_L_lose RL co_L_lose ct_L_lose [(0, 7, 8, 1), (0, 7, 14, 2), (0, 7, 20, 3)] false false = true := by decide +kernel
set_option maxHeartbeats 4000000 in
set_option maxRecDepth 100000 in
theorem ms_L_lose {g : GPT} {ot : OT} {l : Launch} (hl : l.stackTraces = false) : MS g ot l ci_L_lose := by
  refine ms0_of hl RL co_L_lose ct_L_lose [(0, 7, 8, 1), (0, 7, 14, 2), (0, 7, 20, 3)] false false 20 ck_L_lose (List.forall_mem_cons.mpr ⟨ms_X9_lose hl, fun _ h => nomatch h⟩) ?_
  intro As μ K h
  simp only [ci_L_lose, sp_L_lose] at h
  split at h
  case h_2 => exact h.elim
  rename_i x a0 a1 a2
  obtain ⟨M, W, U, hK, hM, hX, h⟩ := h
  refine ⟨Nat.le_of_ble_eq_true rfl, by decide, M, W, U, hK.1, hX, fun h0 μ' hW hU hf => ?_, fun h0 => ?_⟩
  · have := h μ' ⟨hW, hU⟩ (FRq.of hf)
    rw [ansR_0 h0] at this
    exact this
  · have hc := (oLose_c a0 a1 a2 W U).resolve_left h0
    have hw := fun z (hz : μ.2.2.2.2 ≤ z) => h (hzM μ z) (by rw [oLose_st a0 a1 a2 W U h0]; exact hX) (FRq.z hz)
    rw [ansR_n h0] at hw
    generalize (oLose a0 a1 a2 W U).1 = cd at *
    have : cd = 1 ∨ cd = 2 ∨ cd = 3 := by omega
    rcases this with rfl | rfl | rfl
    · exact fun z hz q => hw z hz
    · exact fun z hz q => hw z hz
    · exact fun z hz q => hw z hz
theorem oTick_c (a0 : Int32) (W : WS) (U : List WS) : (oTick a0 W U).1 = 0 ∨ (1 ≤ (oTick a0 W U).1 ∧ (oTick a0 W U).1 ≤ 1) := by
  unfold oTick
  split
  · exact Or.inr ⟨Nat.le_of_ble_eq_true rfl, Nat.le_of_ble_eq_true rfl⟩
  · exact Or.inl rfl
theorem oTick_st (a0 : Int32) (W : WS) (U : List WS) : ¬ (oTick a0 W U).1 = 0 → (oTick a0 W U).2.2 = (W, U) := by
  unfold oTick
  split
  · exact fun _ => rfl
  · exact fun w => (w rfl).elim
def sp_L_tick : SPc := fun As μ K => match As with
  | [.inr (.inr (19, x)), .inl a0] => ∃ (M : Nat) (W : WS) (U : List WS), WKS M W U ∧ M + 200 < 2 ^ 31 ∧ CXo μ x W U ∧ ∀ μ', CXo μ' x (oTick a0 W U).2.2.1 (oTick a0 W U).2.2.2 → FRq μ μ' x → K (.inl (some (.inl (ansR xc2 (oTick a0 W U))))) μ'
  | _ => False
def ct_L_tick : List (Nat × CI) := [(52, ci_X9_tick)]
def ci_L_tick : CI := (yL_tick, cL_tick, 3, some .int, 2, (8, 1, 6, 180), 4, [(0, 5, 6, 17)], sp_L_tick)
set_option maxRecDepth 100000 in
theorem ck_L_tick : chkM ci_L_tick RL co_L_tick ct_L_tick [(0, 5, 6, 2)] false false = true := by decide +kernel
set_option maxHeartbeats 4000000 in
set_option maxRecDepth 100000 in
theorem ms_L_tick {g : GPT} {ot : OT} {l : Launch} (hl : l.stackTraces = false) (hot : otOK ot) : MS g ot l ci_L_tick := by
  refine ms0_of hl RL co_L_tick ct_L_tick [(0, 5, 6, 2)] false false 12 ck_L_tick (List.forall_mem_cons.mpr ⟨ms_X9_tick hl hot, fun _ h => nomatch h⟩) ?_
  intro As μ K h
  simp only [ci_L_tick, sp_L_tick] at h
  split at h
  case h_2 => exact h.elim
  rename_i x a0
  obtain ⟨M, W, U, hK, hM, hX, h⟩ := h
  refine ⟨Nat.le_of_ble_eq_true rfl, by decide, M, W, U, hK.1, hX, fun j hj => kTk hK.1 hM j hj, fun h0 μ' hW hU hf => ?_, fun h0 => ?_⟩
  · have := h μ' ⟨hW, hU⟩ (FRq.of hf)
    rw [ansR_0 h0] at this
    exact this
  · have hc := (oTick_c a0 W U).resolve_left h0
    have hw := fun z (hz : μ.2.2.2.2 ≤ z) => h (hzM μ z) (by rw [oTick_st a0 W U h0]; exact hX) (FRq.z hz)
    rw [ansR_n h0] at hw
    generalize (oTick a0 W U).1 = cd at *
    have : cd = 1 := by omega
    rcases this with rfl
    · exact fun z hz q => hw z hz
theorem oCopy_c (a0 a1 a2 : Int32) (W : WS) (U : List WS) : (oCopy a0 a1 a2 W U).1 = 0 ∨ (1 ≤ (oCopy a0 a1 a2 W U).1 ∧ (oCopy a0 a1 a2 W U).1 ≤ 2) := by
  unfold oCopy
  split
  · exact Or.inr ⟨Nat.le_of_ble_eq_true rfl, Nat.le_of_ble_eq_true rfl⟩
  · split
    · exact Or.inr ⟨Nat.le_of_ble_eq_true rfl, Nat.le_of_ble_eq_true rfl⟩
    · exact Or.inl rfl
theorem oCopy_st (a0 a1 a2 : Int32) (W : WS) (U : List WS) : (oCopy a0 a1 a2 W U).2.2 = (W, U) := by
  unfold oCopy
  split
  · exact rfl
  · split
    · exact rfl
    · exact rfl
def sp_L_copy : SPc := fun As μ K => match As with
  | [.inr (.inr (19, x)), .inl a0, .inl a1, .inl a2] => ∃ (M : Nat) (W : WS) (U : List WS), WKS M W U ∧ M + 200 < 2 ^ 31 ∧ CXo μ x W U ∧ ∀ μ', CXo μ' x W U → FRq μ μ' x → K (.inl (some (.inl (ansR xc0 (oCopy a0 a1 a2 W U))))) μ'
  | _ => False
def ct_L_copy : List (Nat × CI) := [(55, ci_X9_copy)]
def ci_L_copy : CI := (yL_copy, cL_copy, 5, some .int, 4, (8, 3, 18, 136), 4, [(0, 7, 8, 15), (0, 7, 14, 17)], sp_L_copy)
set_option maxRecDepth 100000 in
theorem ck_L_copy : chkM ci_L_copy RL co_L_copy ct_L_copy [(0, 7, 8, 1), (0, 7, 14, 2)] false false = true := by decide +kernel
set_option maxHeartbeats 4000000 in
set_option maxRecDepth 100000 in
theorem ms_L_copy {g : GPT} {ot : OT} {l : Launch} (hl : l.stackTraces = false) (hot : otOK ot) : MS g ot l ci_L_copy := by
  refine ms0_of hl RL co_L_copy ct_L_copy [(0, 7, 8, 1), (0, 7, 14, 2)] false false 17 ck_L_copy (List.forall_mem_cons.mpr ⟨ms_X9_copy hl hot, fun _ h => nomatch h⟩) ?_
  intro As μ K h
  simp only [ci_L_copy, sp_L_copy] at h
  split at h
  case h_2 => exact h.elim
  rename_i x a0 a1 a2
  obtain ⟨M, W, U, hK, hM, hX, h⟩ := h
  refine ⟨Nat.le_of_ble_eq_true rfl, by decide, M, W, U, hK.1, hX, fun h0 μ' hW hU hf => ?_, fun h0 => ?_⟩
  · have := h μ' ⟨by have := oCopy_st a0 a1 a2 W U; rw [this] at hW; exact hW, by have := oCopy_st a0 a1 a2 W U; rw [this] at hU; exact hU⟩ (FRq.of hf)
    rw [ansR_0 h0] at this
    exact this
  · have hc := (oCopy_c a0 a1 a2 W U).resolve_left h0
    have hw := fun z (hz : μ.2.2.2.2 ≤ z) => h (hzM μ z) hX (FRq.z hz)
    rw [ansR_n h0] at hw
    generalize (oCopy a0 a1 a2 W U).1 = cd at *
    have : cd = 1 ∨ cd = 2 := by omega
    rcases this with rfl | rfl
    · exact fun z hz q => hw z hz
    · exact fun z hz q => hw z hz
theorem oKept_c (a0 a1 a2 : Int32) (W : WS) (U : List WS) : (oKept a0 a1 a2 W U).1 = 0 ∨ (1 ≤ (oKept a0 a1 a2 W U).1 ∧ (oKept a0 a1 a2 W U).1 ≤ 3) := by
  unfold oKept
  split
  · exact Or.inr ⟨Nat.le_of_ble_eq_true rfl, Nat.le_of_ble_eq_true rfl⟩
  · split
    · exact Or.inr ⟨Nat.le_of_ble_eq_true rfl, Nat.le_of_ble_eq_true rfl⟩
    · split
      · exact Or.inr ⟨Nat.le_of_ble_eq_true rfl, Nat.le_of_ble_eq_true rfl⟩
      · exact Or.inl rfl
theorem oKept_st (a0 a1 a2 : Int32) (W : WS) (U : List WS) : (oKept a0 a1 a2 W U).2.2 = (W, U) := by
  unfold oKept
  split
  · exact rfl
  · split
    · exact rfl
    · split
      · exact rfl
      · exact rfl
def sp_L_kept : SPc := fun As μ K => match As with
  | [.inr (.inr (19, x)), .inl a0, .inl a1, .inl a2] => ∃ (M : Nat) (W : WS) (U : List WS), WKS M W U ∧ M + 200 < 2 ^ 31 ∧ CXo μ x W U ∧ ∀ μ', CXo μ' x W U → FRq μ μ' x → K (.inl (some (.inl (ansR xc0 (oKept a0 a1 a2 W U))))) μ'
  | _ => False
def ct_L_kept : List (Nat × CI) := [(58, ci_X9_kept)]
def ci_L_kept : CI := (yL_kept, cL_kept, 5, some .int, 4, (8, 4, 24, 136), 4, [(0, 7, 8, 15), (0, 7, 14, 17), (0, 7, 20, 23)], sp_L_kept)
set_option maxRecDepth 100000 in
theorem ck_L_kept : chkM ci_L_kept RL co_L_kept ct_L_kept [(0, 7, 8, 1), (0, 7, 14, 2), (0, 7, 20, 3)] false false = true := by decide +kernel
set_option maxHeartbeats 4000000 in
set_option maxRecDepth 100000 in
theorem ms_L_kept {g : GPT} {ot : OT} {l : Launch} (hl : l.stackTraces = false) (hot : otOK ot) : MS g ot l ci_L_kept := by
  refine ms0_of hl RL co_L_kept ct_L_kept [(0, 7, 8, 1), (0, 7, 14, 2), (0, 7, 20, 3)] false false 20 ck_L_kept (List.forall_mem_cons.mpr ⟨ms_X9_kept hl hot, fun _ h => nomatch h⟩) ?_
  intro As μ K h
  simp only [ci_L_kept, sp_L_kept] at h
  split at h
  case h_2 => exact h.elim
  rename_i x a0 a1 a2
  obtain ⟨M, W, U, hK, hM, hX, h⟩ := h
  refine ⟨Nat.le_of_ble_eq_true rfl, by decide, M, W, U, hK.1, hX, fun h0 μ' hW hU hf => ?_, fun h0 => ?_⟩
  · have := h μ' ⟨by have := oKept_st a0 a1 a2 W U; rw [this] at hW; exact hW, by have := oKept_st a0 a1 a2 W U; rw [this] at hU; exact hU⟩ (FRq.of hf)
    rw [ansR_0 h0] at this
    exact this
  · have hc := (oKept_c a0 a1 a2 W U).resolve_left h0
    have hw := fun z (hz : μ.2.2.2.2 ≤ z) => h (hzM μ z) hX (FRq.z hz)
    rw [ansR_n h0] at hw
    generalize (oKept a0 a1 a2 W U).1 = cd at *
    have : cd = 1 ∨ cd = 2 ∨ cd = 3 := by omega
    rcases this with rfl | rfl | rfl
    · exact fun z hz q => hw z hz
    · exact fun z hz q => hw z hz
    · exact fun z hz q => hw z hz
theorem oCnt_c (a0 a1 : Int32) (W : WS) (U : List WS) : (oCnt a0 a1 W U).1 = 0 ∨ (1 ≤ (oCnt a0 a1 W U).1 ∧ (oCnt a0 a1 W U).1 ≤ 2) := by
  unfold oCnt
  split
  · exact Or.inr ⟨Nat.le_of_ble_eq_true rfl, Nat.le_of_ble_eq_true rfl⟩
  · split
    · exact Or.inr ⟨Nat.le_of_ble_eq_true rfl, Nat.le_of_ble_eq_true rfl⟩
    · exact Or.inl rfl
theorem oCnt_st (a0 a1 : Int32) (W : WS) (U : List WS) : (oCnt a0 a1 W U).2.2 = (W, U) := by
  unfold oCnt
  split
  · exact rfl
  · split
    · exact rfl
    · exact rfl
def sp_L_count : SPc := fun As μ K => match As with
  | [.inr (.inr (19, x)), .inl a0, .inl a1] => ∃ (M : Nat) (W : WS) (U : List WS), WKS M W U ∧ M + 200 < 2 ^ 31 ∧ CXo μ x W U ∧ ∀ μ', CXo μ' x W U → FRq μ μ' x → K (.inl (some (.inl (ansR xc0 (oCnt a0 a1 W U))))) μ'
  | _ => False
def ct_L_count : List (Nat × CI) := [(61, ci_X9_count)]
def ci_L_count : CI := (yL_count, cL_count, 4, some .int, 3, (8, 2, 12, 135), 4, [(0, 6, 7, 15), (0, 6, 12, 17)], sp_L_count)
set_option maxRecDepth 100000 in
theorem ck_L_count : chkM ci_L_count RL co_L_count ct_L_count [(0, 6, 7, 1), (0, 6, 12, 2)] false false = true := by decide +kernel
set_option maxHeartbeats 4000000 in
set_option maxRecDepth 100000 in
theorem ms_L_count {g : GPT} {ot : OT} {l : Launch} (hl : l.stackTraces = false) : MS g ot l ci_L_count := by
  refine ms0_of hl RL co_L_count ct_L_count [(0, 6, 7, 1), (0, 6, 12, 2)] false false 16 ck_L_count (List.forall_mem_cons.mpr ⟨ms_X9_count hl, fun _ h => nomatch h⟩) ?_
  intro As μ K h
  simp only [ci_L_count, sp_L_count] at h
  split at h
  case h_2 => exact h.elim
  rename_i x a0 a1
  obtain ⟨M, W, U, hK, hM, hX, h⟩ := h
  refine ⟨Nat.le_of_ble_eq_true rfl, by decide, M, W, U, hK.1, hX, fun h0 μ' hW hU hf => ?_, fun h0 => ?_⟩
  · have := h μ' ⟨by have := oCnt_st a0 a1 W U; rw [this] at hW; exact hW, by have := oCnt_st a0 a1 W U; rw [this] at hU; exact hU⟩ (FRq.of hf)
    rw [ansR_0 h0] at this
    exact this
  · have hc := (oCnt_c a0 a1 W U).resolve_left h0
    have hw := fun z (hz : μ.2.2.2.2 ≤ z) => h (hzM μ z) hX (FRq.z hz)
    rw [ansR_n h0] at hw
    generalize (oCnt a0 a1 W U).1 = cd at *
    have : cd = 1 ∨ cd = 2 := by omega
    rcases this with rfl | rfl
    · exact fun z hz q => hw z hz
    · exact fun z hz q => hw z hz
theorem oStale_c (a0 : Int32) (W : WS) (U : List WS) : (oStale a0 W U).1 = 0 ∨ (1 ≤ (oStale a0 W U).1 ∧ (oStale a0 W U).1 ≤ 2) := by
  unfold oStale
  split
  · exact Or.inr ⟨Nat.le_of_ble_eq_true rfl, Nat.le_of_ble_eq_true rfl⟩
  · split
    · exact Or.inr ⟨Nat.le_of_ble_eq_true rfl, Nat.le_of_ble_eq_true rfl⟩
    · exact Or.inl rfl
theorem oStale_st (a0 : Int32) (W : WS) (U : List WS) : (oStale a0 W U).2.2 = (W, U) := by
  unfold oStale
  split
  · exact rfl
  · split
    · exact rfl
    · exact rfl
def sp_L_stale : SPc := fun As μ K => match As with
  | [.inr (.inr (19, x)), .inl a0] => ∃ (M : Nat) (W : WS) (U : List WS), WKS M W U ∧ M + 200 < 2 ^ 31 ∧ CXo μ x W U ∧ ∀ μ', CXo μ' x W U → FRq μ μ' x → K (.inl (some (.inl (ansR xc3 (oStale a0 W U))))) μ'
  | _ => False
def ct_L_stale : List (Nat × CI) := [(64, ci_X9_stale)]
def ci_L_stale : CI := (yL_stale, cL_stale, 3, some .int, 2, (8, 2, 12, 133), 4, [(0, 5, 6, 15), (0, 5, 11, 23)], sp_L_stale)
set_option maxRecDepth 100000 in
theorem ck_L_stale : chkM ci_L_stale RL co_L_stale ct_L_stale [(0, 5, 6, 1), (0, 5, 11, 3)] false false = true := by decide +kernel
set_option maxHeartbeats 4000000 in
set_option maxRecDepth 100000 in
theorem ms_L_stale {g : GPT} {ot : OT} {l : Launch} (hl : l.stackTraces = false) (hot : otOK ot) : MS g ot l ci_L_stale := by
  refine ms0_of hl RL co_L_stale ct_L_stale [(0, 5, 6, 1), (0, 5, 11, 3)] false false 15 ck_L_stale (List.forall_mem_cons.mpr ⟨ms_X9_stale hl hot, fun _ h => nomatch h⟩) ?_
  intro As μ K h
  simp only [ci_L_stale, sp_L_stale] at h
  split at h
  case h_2 => exact h.elim
  rename_i x a0
  obtain ⟨M, W, U, hK, hM, hX, h⟩ := h
  refine ⟨Nat.le_of_ble_eq_true rfl, by decide, M, W, U, hK.1, hX, fun h0 μ' hW hU hf => ?_, fun h0 => ?_⟩
  · have := h μ' ⟨by have := oStale_st a0 W U; rw [this] at hW; exact hW, by have := oStale_st a0 W U; rw [this] at hU; exact hU⟩ (FRq.of hf)
    rw [ansR_0 h0] at this
    exact this
  · have hc := (oStale_c a0 W U).resolve_left h0
    have hw := fun z (hz : μ.2.2.2.2 ≤ z) => h (hzM μ z) hX (FRq.z hz)
    rw [ansR_n h0] at hw
    generalize (oStale a0 W U).1 = cd at *
    have : cd = 1 ∨ cd = 2 := by omega
    rcases this with rfl | rfl
    · exact fun z hz q => hw z hz
    · exact fun z hz q => hw z hz
theorem oPkt_c (a0 a1 a2 : Int32) (W : WS) (U : List WS) : (oPkt a0 a1 a2 W U).1 = 0 ∨ (1 ≤ (oPkt a0 a1 a2 W U).1 ∧ (oPkt a0 a1 a2 W U).1 ≤ 2) := by
  unfold oPkt
  split
  · exact Or.inr ⟨Nat.le_of_ble_eq_true rfl, Nat.le_of_ble_eq_true rfl⟩
  · split
    · exact Or.inr ⟨Nat.le_of_ble_eq_true rfl, Nat.le_of_ble_eq_true rfl⟩
    · split
      · exact Or.inr ⟨Nat.le_of_ble_eq_true rfl, Nat.le_of_ble_eq_true rfl⟩
      · exact Or.inl rfl
theorem oPkt_st (a0 a1 a2 : Int32) (W : WS) (U : List WS) : (oPkt a0 a1 a2 W U).2.2 = (W, U) := by
  unfold oPkt
  split
  · exact rfl
  · split
    · exact rfl
    · split
      · exact rfl
      · exact rfl
def sp_L_packet : SPc := fun As μ K => match As with
  | [.inr (.inr (19, x)), .inl a0, .inl a1, .inl a2] => ∃ (M : Nat) (W : WS) (U : List WS), WKS M W U ∧ M + 200 < 2 ^ 31 ∧ CXo μ x W U ∧ ∀ μ', CXo μ' x W U → FRq μ μ' x → K (.inl (some (.inl (ansR xc0 (oPkt a0 a1 a2 W U))))) μ'
  | _ => False
def ct_L_packet : List (Nat × CI) := [(67, ci_X9_packet)]
def ci_L_packet : CI := (yL_packet, cL_packet, 5, some .int, 4, (8, 3, 18, 136), 4, [(0, 7, 8, 15), (0, 7, 14, 17)], sp_L_packet)
set_option maxRecDepth 100000 in
theorem ck_L_packet : chkM ci_L_packet RL co_L_packet ct_L_packet [(0, 7, 8, 1), (0, 7, 14, 2)] false false = true := by decide +kernel
set_option maxHeartbeats 4000000 in
set_option maxRecDepth 100000 in
theorem ms_L_packet {g : GPT} {ot : OT} {l : Launch} (hl : l.stackTraces = false) : MS g ot l ci_L_packet := by
  refine ms0_of hl RL co_L_packet ct_L_packet [(0, 7, 8, 1), (0, 7, 14, 2)] false false 17 ck_L_packet (List.forall_mem_cons.mpr ⟨ms_X9_packet hl, fun _ h => nomatch h⟩) ?_
  intro As μ K h
  simp only [ci_L_packet, sp_L_packet] at h
  split at h
  case h_2 => exact h.elim
  rename_i x a0 a1 a2
  obtain ⟨M, W, U, hK, hM, hX, h⟩ := h
  refine ⟨Nat.le_of_ble_eq_true rfl, by decide, M, W, U, hK.1, hX, fun h0 μ' hW hU hf => ?_, fun h0 => ?_⟩
  · have := h μ' ⟨by have := oPkt_st a0 a1 a2 W U; rw [this] at hW; exact hW, by have := oPkt_st a0 a1 a2 W U; rw [this] at hU; exact hU⟩ (FRq.of hf)
    rw [ansR_0 h0] at this
    exact this
  · have hc := (oPkt_c a0 a1 a2 W U).resolve_left h0
    have hw := fun z (hz : μ.2.2.2.2 ≤ z) => h (hzM μ z) hX (FRq.z hz)
    rw [ansR_n h0] at hw
    generalize (oPkt a0 a1 a2 W U).1 = cd at *
    have : cd = 1 ∨ cd = 2 := by omega
    rcases this with rfl | rfl
    · exact fun z hz q => hw z hz
    · exact fun z hz q => hw z hz
theorem oEntry_c (a0 a1 a2 a3 : Int32) (W : WS) (U : List WS) : (oEntry a0 a1 a2 a3 W U).1 = 0 ∨ (1 ≤ (oEntry a0 a1 a2 a3 W U).1 ∧ (oEntry a0 a1 a2 a3 W U).1 ≤ 2) := by
  by_cases C : isC a0
  · cases hq : flyA (wC W (sN a0)) a1 with
    | none => rw [oEntry_n C hq]; exact Or.inr ⟨Nat.le_of_ble_eq_true rfl, Nat.le_of_ble_eq_true rfl⟩
    | some p =>
      cases he : entA p a2 with
      | none => rw [oEntry_e C hq he]; exact Or.inr ⟨Nat.le_of_ble_eq_true rfl, Nat.le_of_ble_eq_true rfl⟩
      | some en =>
        by_cases P : inR 0 4 a3
        · rw [oEntry_0 C hq he P]; exact Or.inl rfl
        · rw [oEntry_r C hq he P]; exact Or.inr ⟨Nat.le_of_ble_eq_true rfl, Nat.le_of_ble_eq_true rfl⟩
  · rw [oEntry_1 C]; exact Or.inr ⟨Nat.le_of_ble_eq_true rfl, Nat.le_of_ble_eq_true rfl⟩
theorem oEntry_st (a0 a1 a2 a3 : Int32) (W : WS) (U : List WS) : (oEntry a0 a1 a2 a3 W U).2.2 = (W, U) := by
  by_cases C : isC a0
  · cases hq : flyA (wC W (sN a0)) a1 with
    | none => rw [oEntry_n C hq]
    | some p =>
      cases he : entA p a2 with
      | none => rw [oEntry_e C hq he]
      | some en =>
        by_cases P : inR 0 4 a3
        · rw [oEntry_0 C hq he P]
        · rw [oEntry_r C hq he P]
  · rw [oEntry_1 C]
def sp_L_entry : SPc := fun As μ K => match As with
  | [.inr (.inr (19, x)), .inl a0, .inl a1, .inl a2, .inl a3] => ∃ (M : Nat) (W : WS) (U : List WS), WKS M W U ∧ M + 200 < 2 ^ 31 ∧ CXo μ x W U ∧ ∀ μ', CXo μ' x W U → FRq μ μ' x → K (.inl (some (.inl (ansR xc0 (oEntry a0 a1 a2 a3 W U))))) μ'
  | _ => False
def ct_L_entry : List (Nat × CI) := [(70, ci_X9_entry)]
def ci_L_entry : CI := (yL_entry, cL_entry, 6, some .int, 5, (8, 4, 24, 137), 4, [(0, 9, 10, 15), (0, 9, 16, 17)], sp_L_entry)
set_option maxRecDepth 100000 in
theorem ck_L_entry : chkM ci_L_entry RL co_L_entry ct_L_entry [(0, 9, 10, 1), (0, 9, 16, 2)] false false = true := by decide +kernel
set_option maxHeartbeats 4000000 in
set_option maxRecDepth 100000 in
theorem ms_L_entry {g : GPT} {ot : OT} {l : Launch} (hl : l.stackTraces = false) : MS g ot l ci_L_entry := by
  refine ms0_of hl RL co_L_entry ct_L_entry [(0, 9, 10, 1), (0, 9, 16, 2)] false false 18 ck_L_entry (List.forall_mem_cons.mpr ⟨ms_X9_entry hl, fun _ h => nomatch h⟩) ?_
  intro As μ K h
  simp only [ci_L_entry, sp_L_entry] at h
  split at h
  case h_2 => exact h.elim
  rename_i x a0 a1 a2 a3
  obtain ⟨M, W, U, hK, hM, hX, h⟩ := h
  refine ⟨Nat.le_of_ble_eq_true rfl, by decide, M, W, U, hK.1, hX, fun h0 μ' hW hU hf => ?_, fun h0 => ?_⟩
  · have := h μ' ⟨by have := oEntry_st a0 a1 a2 a3 W U; rw [this] at hW; exact hW, by have := oEntry_st a0 a1 a2 a3 W U; rw [this] at hU; exact hU⟩ (FRq.of hf)
    rw [ansR_0 h0] at this
    exact this
  · have hc := (oEntry_c a0 a1 a2 a3 W U).resolve_left h0
    have hw := fun z (hz : μ.2.2.2.2 ≤ z) => h (hzM μ z) hX (FRq.z hz)
    rw [ansR_n h0] at hw
    generalize (oEntry a0 a1 a2 a3 W U).1 = cd at *
    have : cd = 1 ∨ cd = 2 := by omega
    rcases this with rfl | rfl
    · exact fun z hz q => hw z hz
    · exact fun z hz q => hw z hz
theorem oPrice_c (a0 a1 : Int32) (W : WS) (U : List WS) : (oPrice a0 a1 W U).1 = 0 ∨ (1 ≤ (oPrice a0 a1 W U).1 ∧ (oPrice a0 a1 W U).1 ≤ 2) := by
  unfold oPrice
  split
  · exact Or.inr ⟨Nat.le_of_ble_eq_true rfl, Nat.le_of_ble_eq_true rfl⟩
  · split
    · exact Or.inr ⟨Nat.le_of_ble_eq_true rfl, Nat.le_of_ble_eq_true rfl⟩
    · exact Or.inl rfl
theorem oPrice_st (a0 a1 : Int32) (W : WS) (U : List WS) : (oPrice a0 a1 W U).2.2 = (W, U) := by
  unfold oPrice
  split
  · exact rfl
  · split
    · exact rfl
    · exact rfl
def sp_L_price : SPc := fun As μ K => match As with
  | [.inr (.inr (19, x)), .inl a0, .inl a1] => ∃ (M : Nat) (W : WS) (U : List WS), WKS M W U ∧ M + 200 < 2 ^ 31 ∧ CXo μ x W U ∧ ∀ μ', CXo μ' x W U → FRq μ μ' x → K (.inl (some (.inl (ansR xc3 (oPrice a0 a1 W U))))) μ'
  | _ => False
def ct_L_price : List (Nat × CI) := [(73, ci_X9_price)]
def ci_L_price : CI := (yL_price, cL_price, 4, some .int, 3, (8, 3, 18, 134), 4, [(0, 6, 7, 15), (0, 6, 12, 23)], sp_L_price)
set_option maxRecDepth 100000 in
theorem ck_L_price : chkM ci_L_price RL co_L_price ct_L_price [(0, 6, 7, 1), (0, 6, 12, 3)] false false = true := by decide +kernel
set_option maxHeartbeats 4000000 in
set_option maxRecDepth 100000 in
theorem ms_L_price {g : GPT} {ot : OT} {l : Launch} (hl : l.stackTraces = false) (hot : otOK ot) : MS g ot l ci_L_price := by
  refine ms0_of hl RL co_L_price ct_L_price [(0, 6, 7, 1), (0, 6, 12, 3)] false false 16 ck_L_price (List.forall_mem_cons.mpr ⟨ms_X9_price hl hot, fun _ h => nomatch h⟩) ?_
  intro As μ K h
  simp only [ci_L_price, sp_L_price] at h
  split at h
  case h_2 => exact h.elim
  rename_i x a0 a1
  obtain ⟨M, W, U, hK, hM, hX, h⟩ := h
  refine ⟨Nat.le_of_ble_eq_true rfl, by decide, M, W, U, hK.1, hX, fun h0 μ' hW hU hf => ?_, fun h0 => ?_⟩
  · have := h μ' ⟨by have := oPrice_st a0 a1 W U; rw [this] at hW; exact hW, by have := oPrice_st a0 a1 W U; rw [this] at hU; exact hU⟩ (FRq.of hf)
    rw [ansR_0 h0] at this
    exact this
  · have hc := (oPrice_c a0 a1 W U).resolve_left h0
    have hw := fun z (hz : μ.2.2.2.2 ≤ z) => h (hzM μ z) hX (FRq.z hz)
    rw [ansR_n h0] at hw
    generalize (oPrice a0 a1 W U).1 = cd at *
    have : cd = 1 ∨ cd = 2 := by omega
    rcases this with rfl | rfl
    · exact fun z hz q => hw z hz
    · exact fun z hz q => hw z hz
theorem oUndo_c (W : WS) (U : List WS) : (oUndo W U).1 = 0 ∨ (1 ≤ (oUndo W U).1 ∧ (oUndo W U).1 ≤ 1) := by
  cases U with
  | nil => exact Or.inr ⟨Nat.le_of_ble_eq_true rfl, Nat.le_of_ble_eq_true rfl⟩
  | cons V U' => exact Or.inl rfl
theorem oUndo_st (W : WS) (U : List WS) : ¬ (oUndo W U).1 = 0 → (oUndo W U).2.2 = (W, U) := by
  cases U with
  | nil => exact fun _ => rfl
  | cons V U' => exact fun w => (w rfl).elim
def sp_L_undo : SPc := fun As μ K => match As with
  | [.inr (.inr (19, x))] => ∃ (M : Nat) (W : WS) (U : List WS), WKS M W U ∧ M + 200 < 2 ^ 31 ∧ CXo μ x W U ∧ ∀ μ', CXo μ' x (oUndo W U).2.2.1 (oUndo W U).2.2.2 → FRq μ μ' x → K (.inl (some (.inl (ansR xcU (oUndo W U))))) μ'
  | _ => False
def ct_L_undo : List (Nat × CI) := [(76, ci_X9_undo)]
def ci_L_undo : CI := (yL_undo, cL_undo, 2, some .int, 1, (7, 1, 6, 145), 4, [(0, 4, 5, 23)], sp_L_undo)
set_option maxRecDepth 100000 in
theorem ck_L_undo : chkM ci_L_undo RL co_L_undo ct_L_undo [(0, 4, 5, 3)] false false = true := by decide +kernel
set_option maxHeartbeats 4000000 in
set_option maxRecDepth 100000 in
theorem ms_L_undo {g : GPT} {ot : OT} {l : Launch} (hl : l.stackTraces = false) : MS g ot l ci_L_undo := by
  refine ms0_of hl RL co_L_undo ct_L_undo [(0, 4, 5, 3)] false false 11 ck_L_undo (List.forall_mem_cons.mpr ⟨ms_X9_undo hl, fun _ h => nomatch h⟩) ?_
  intro As μ K h
  simp only [ci_L_undo, sp_L_undo] at h
  split at h
  case h_2 => exact h.elim
  rename_i x
  obtain ⟨M, W, U, hK, hM, hX, h⟩ := h
  refine ⟨Nat.le_of_ble_eq_true rfl, by decide, M, W, U, hK.2, hX, fun h0 μ' hW hU hf => ?_, fun h0 => ?_⟩
  · have := h μ' ⟨hW, hU⟩ (FRq.of hf)
    rw [ansR_0 h0] at this
    exact this
  · have hc := (oUndo_c W U).resolve_left h0
    have hw := fun z (hz : μ.2.2.2.2 ≤ z) => h (hzM μ z) (by rw [oUndo_st W U h0]; exact hX) (FRq.z hz)
    rw [ansR_n h0] at hw
    generalize (oUndo W U).1 = cd at *
    have : cd = 1 := by omega
    rcases this with rfl
    · exact fun z hz q => hw z hz
