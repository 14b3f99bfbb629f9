/-! THE LAW: refuses. (by program, gen5.py) -/
theorem lc_self (v : Int64) : lg_cmp v v = 0 := by
  unfold lg_cmp
  rw [if_neg fun w : v > v => absurd w (by simp), if_pos rfl]
def sp_L_refuses : SPc := fun As μ K => match As with
  | [.inr (.inr (19, x))] => ∃ (M : Nat) (W : WS) (U : List WS), WKS M W U ∧ M + 200 < 2 ^ 31 ∧ CXo μ x W U ∧ ∀ μ', CXo μ' x W U → FRq μ μ' x → K (.inl (some (.inl 1))) μ'
  | _ => False
theorem rf_0 (W : WS) (U : List WS) : (oPlace (Int32.ofInt 0) (Int32.ofInt 0) (Int32.ofInt 32) (Int32.ofInt 0) (Int32.ofInt 0) W U) = (2, 0, W, U) := (if_neg (by decide)).trans (if_pos (by decide))
theorem ra_0 (W : WS) (U : List WS) : ansR xc0 (oPlace (Int32.ofInt 0) (Int32.ofInt 0) (Int32.ofInt 32) (Int32.ofInt 0) (Int32.ofInt 0) W U) = (Int32.ofInt (-901)) := by
  rw [rf_0, ansR_n (show ¬ (2 : Nat) = 0 by decide)]
  rfl
theorem rf_1 (W : WS) (U : List WS) : (oSetV (Int32.ofInt 16) (Int32.ofInt 9) (Int32.ofInt 9) W U) = (1, 0, W, U) := if_pos (by decide)
theorem ra_1 (W : WS) (U : List WS) : ansR xc0 (oSetV (Int32.ofInt 16) (Int32.ofInt 9) (Int32.ofInt 9) W U) = (Int32.ofInt (-903)) := by
  rw [rf_1, ansR_n (show ¬ (1 : Nat) = 0 by decide)]
  rfl
theorem rf_2 (W : WS) (U : List WS) : (oSetH (Int32.ofInt 0) (Int32.ofInt (-1)) W U) = (2, 0, W, U) := (if_neg (by decide)).trans (if_pos (by decide))
theorem ra_2 (W : WS) (U : List WS) : ansR xc0 (oSetH (Int32.ofInt 0) (Int32.ofInt (-1)) W U) = (Int32.ofInt (-901)) := by
  rw [rf_2, ansR_n (show ¬ (2 : Nat) = 0 by decide)]
  rfl
theorem rf_3 (W : WS) (U : List WS) : (oDel (Int32.ofInt (-1)) W U) = (1, 0, W, U) := if_pos (by decide)
theorem ra_3 (W : WS) (U : List WS) : ansR xc3 (oDel (Int32.ofInt (-1)) W U) = (Int32.ofInt (-903)) := by
  rw [rf_3, ansR_n (show ¬ (1 : Nat) = 0 by decide)]
  rfl
theorem rf_4 (W : WS) (U : List WS) : (oEnt (Int32.ofInt 16) (Int32.ofInt 0) W U) = (1, 0, W, U) := if_pos (by decide)
theorem ra_4 (W : WS) (U : List WS) : ansR xc0 (oEnt (Int32.ofInt 16) (Int32.ofInt 0) W U) = (Int32.ofInt (-903)) := by
  rw [rf_4, ansR_n (show ¬ (1 : Nat) = 0 by decide)]
  rfl
theorem rf_5 (W : WS) (U : List WS) : (oCon (Int32.ofInt 0) (Int32.ofInt 0) (Int32.ofInt 0) (Int32.ofInt 1) (Int32.ofInt 11) W U) = (2, 0, W, U) := (if_neg (by decide)).trans (if_pos (by decide))
theorem ra_5 (W : WS) (U : List WS) : ansR xc0 (oCon (Int32.ofInt 0) (Int32.ofInt 0) (Int32.ofInt 0) (Int32.ofInt 1) (Int32.ofInt 11) W U) = (Int32.ofInt (-901)) := by
  rw [rf_5, ansR_n (show ¬ (2 : Nat) = 0 by decide)]
  rfl
theorem rf_6 (W : WS) (U : List WS) : (oLook (Int32.ofInt 3) (Int32.ofInt 0) (Int32.ofInt 0) (Int32.ofInt 1) W U) = (1, 0, W, U) := if_pos (by decide)
theorem ra_6 (W : WS) (U : List WS) : ansR xc0 (oLook (Int32.ofInt 3) (Int32.ofInt 0) (Int32.ofInt 0) (Int32.ofInt 1) W U) = (Int32.ofInt (-903)) := by
  rw [rf_6, ansR_n (show ¬ (1 : Nat) = 0 by decide)]
  rfl
theorem rf_7 (W : WS) (U : List WS) : (oLook (Int32.ofInt 0) (Int32.ofInt 0) (Int32.ofInt 0) (Int32.ofInt 0) W U) = (2, 0, W, U) := (if_neg (by decide)).trans (if_pos (by decide))
theorem ra_7 (W : WS) (U : List WS) : ansR xc0 (oLook (Int32.ofInt 0) (Int32.ofInt 0) (Int32.ofInt 0) (Int32.ofInt 0) W U) = (Int32.ofInt (-901)) := by
  rw [rf_7, ansR_n (show ¬ (2 : Nat) = 0 by decide)]
  rfl
theorem rf_8 (W : WS) (U : List WS) : (oDis (Int32.ofInt (-1)) W U) = (1, 0, W, U) := if_pos (by decide)
theorem ra_8 (W : WS) (U : List WS) : ansR xc3 (oDis (Int32.ofInt (-1)) W U) = (Int32.ofInt (-903)) := by
  rw [rf_8, ansR_n (show ¬ (1 : Nat) = 0 by decide)]
  rfl
theorem rf_10 (W : WS) (U : List WS) : (oTimes (Int32.ofInt 0) (Int32.ofInt 1) W U) = (1, 0, W, U) := if_pos (by decide)
theorem ra_10 (W : WS) (U : List WS) : ansR xc2 (oTimes (Int32.ofInt 0) (Int32.ofInt 1) W U) = (Int32.ofInt (-901)) := by
  rw [rf_10, ansR_n (show ¬ (1 : Nat) = 0 by decide)]
  rfl
theorem rf_11 (W : WS) (U : List WS) : (oTimes (Int32.ofInt 1) (Int32.ofInt 11) W U) = (1, 0, W, U) := if_pos (by decide)
theorem ra_11 (W : WS) (U : List WS) : ansR xc2 (oTimes (Int32.ofInt 1) (Int32.ofInt 11) W U) = (Int32.ofInt (-901)) := by
  rw [rf_11, ansR_n (show ¬ (1 : Nat) = 0 by decide)]
  rfl
theorem rf_12 (W : WS) (U : List WS) : (oLose (Int32.ofInt 3) (Int32.ofInt 99) (Int32.ofInt 0) W U) = (1, 0, W, U) := if_pos (by decide)
theorem ra_12 (W : WS) (U : List WS) : ansR xc0 (oLose (Int32.ofInt 3) (Int32.ofInt 99) (Int32.ofInt 0) W U) = (Int32.ofInt (-903)) := by
  rw [rf_12, ansR_n (show ¬ (1 : Nat) = 0 by decide)]
  rfl
theorem rf_13 (W : WS) (U : List WS) : (oLose (Int32.ofInt 0) (Int32.ofInt 51) (Int32.ofInt 0) W U) = (2, 0, W, U) := (if_neg (by decide)).trans (if_pos (by decide))
theorem ra_13 (W : WS) (U : List WS) : ansR xc0 (oLose (Int32.ofInt 0) (Int32.ofInt 51) (Int32.ofInt 0) W U) = (Int32.ofInt (-901)) := by
  rw [rf_13, ansR_n (show ¬ (2 : Nat) = 0 by decide)]
  rfl
theorem rf_14 (W : WS) (U : List WS) : (oTick (Int32.ofInt 51) W U) = (1, 0, W, U) := if_pos (by decide)
theorem ra_14 (W : WS) (U : List WS) : ansR xc2 (oTick (Int32.ofInt 51) W U) = (Int32.ofInt (-901)) := by
  rw [rf_14, ansR_n (show ¬ (1 : Nat) = 0 by decide)]
  rfl
theorem rf_15 (W : WS) (U : List WS) : (oCopy (Int32.ofInt 0) (Int32.ofInt 0) (Int32.ofInt 7) W U) = (2, 0, W, U) := (if_neg (by decide)).trans (if_pos (by decide))
theorem ra_15 (W : WS) (U : List WS) : ansR xc0 (oCopy (Int32.ofInt 0) (Int32.ofInt 0) (Int32.ofInt 7) W U) = (Int32.ofInt (-901)) := by
  rw [rf_15, ansR_n (show ¬ (2 : Nat) = 0 by decide)]
  rfl
theorem rf_16 (W : WS) (U : List WS) : (oKept (Int32.ofInt 0) (Int32.ofInt 16) (Int32.ofInt 9) W U) = (1, 0, W, U) := if_pos (by decide)
theorem ra_16 (W : WS) (U : List WS) : ansR xc0 (oKept (Int32.ofInt 0) (Int32.ofInt 16) (Int32.ofInt 9) W U) = (Int32.ofInt (-903)) := by
  rw [rf_16, ansR_n (show ¬ (1 : Nat) = 0 by decide)]
  rfl
theorem rf_17 (W : WS) (U : List WS) : (oKept (Int32.ofInt 0) (Int32.ofInt 0) (Int32.ofInt 9) W U) = (2, 0, W, U) := (if_neg (by decide)).trans (if_pos (by decide))
theorem ra_17 (W : WS) (U : List WS) : ansR xc0 (oKept (Int32.ofInt 0) (Int32.ofInt 0) (Int32.ofInt 9) W U) = (Int32.ofInt (-901)) := by
  rw [rf_17, ansR_n (show ¬ (2 : Nat) = 0 by decide)]
  rfl
theorem rf_18 (W : WS) (U : List WS) : (oCnt (Int32.ofInt 3) (Int32.ofInt 0) W U) = (1, 0, W, U) := if_pos (by decide)
theorem ra_18 (W : WS) (U : List WS) : ansR xc0 (oCnt (Int32.ofInt 3) (Int32.ofInt 0) W U) = (Int32.ofInt (-903)) := by
  rw [rf_18, ansR_n (show ¬ (1 : Nat) = 0 by decide)]
  rfl
theorem rf_19 (W : WS) (U : List WS) : (oStale (Int32.ofInt 3) W U) = (1, 0, W, U) := if_pos (by decide)
theorem ra_19 (W : WS) (U : List WS) : ansR xc3 (oStale (Int32.ofInt 3) W U) = (Int32.ofInt (-903)) := by
  rw [rf_19, ansR_n (show ¬ (1 : Nat) = 0 by decide)]
  rfl
theorem rf_20 (W : WS) (U : List WS) : (oPkt (Int32.ofInt 3) (Int32.ofInt 0) (Int32.ofInt 9) W U) = (1, 0, W, U) := if_pos (by decide)
theorem ra_20 (W : WS) (U : List WS) : ansR xc0 (oPkt (Int32.ofInt 3) (Int32.ofInt 0) (Int32.ofInt 9) W U) = (Int32.ofInt (-903)) := by
  rw [rf_20, ansR_n (show ¬ (1 : Nat) = 0 by decide)]
  rfl
theorem rf_21 (W : WS) (U : List WS) : (oPrice (Int32.ofInt 0) (Int32.ofInt 16) W U) = (1, 0, W, U) := if_pos (by decide)
theorem ra_21 (W : WS) (U : List WS) : ansR xc3 (oPrice (Int32.ofInt 0) (Int32.ofInt 16) W U) = (Int32.ofInt (-903)) := by
  rw [rf_21, ansR_n (show ¬ (1 : Nat) = 0 by decide)]
  rfl
def ct_L_refuses : List (Nat × CI) := [(130, ci_X9_digest), (109, ci_L_place), (112, ci_L_setVelocity), (114, ci_L_setHealth), (116, ci_L_destroy), (80, ci_L_entity), (120, ci_L_connect), (118, ci_L_look), (124, ci_L_disconnect), (126, ci_L_setTimes), (122, ci_L_lose), (128, ci_L_tick), (88, ci_L_copy), (85, ci_L_kept), (90, ci_L_count), (103, ci_L_stale), (92, ci_L_packet), (101, ci_L_price)]
def ci_L_refuses : CI := (yL_refuses, cL_refuses, 4, some .boolean, 1, (9, 67, 402, 202), 0, [], sp_L_refuses)
set_option maxRecDepth 100000 in
theorem ck_L_refuses : chkM ci_L_refuses RL co_L_refuses ct_L_refuses [] true false = true := by decide +kernel
set_option maxHeartbeats 4000000 in
set_option maxRecDepth 100000 in
theorem ms_L_refuses {g : GPT} {ot : OT} {l : Launch} (hl : l.stackTraces = false) (hot : otOK ot) : MS g ot l ci_L_refuses := by
  refine ms0_of hl RL co_L_refuses ct_L_refuses [] true false 168 ck_L_refuses (List.forall_mem_cons.mpr ⟨ms_X9_digest hl hot, List.forall_mem_cons.mpr ⟨ms_L_place hl hot, List.forall_mem_cons.mpr ⟨ms_L_setVelocity hl, List.forall_mem_cons.mpr ⟨ms_L_setHealth hl hot, List.forall_mem_cons.mpr ⟨ms_L_destroy hl, List.forall_mem_cons.mpr ⟨ms_L_entity hl hot, List.forall_mem_cons.mpr ⟨ms_L_connect hl, List.forall_mem_cons.mpr ⟨ms_L_look hl hot, List.forall_mem_cons.mpr ⟨ms_L_disconnect hl, List.forall_mem_cons.mpr ⟨ms_L_setTimes hl, List.forall_mem_cons.mpr ⟨ms_L_lose hl, List.forall_mem_cons.mpr ⟨ms_L_tick hl hot, List.forall_mem_cons.mpr ⟨ms_L_copy hl hot, List.forall_mem_cons.mpr ⟨ms_L_kept hl hot, List.forall_mem_cons.mpr ⟨ms_L_count hl, List.forall_mem_cons.mpr ⟨ms_L_stale hl hot, List.forall_mem_cons.mpr ⟨ms_L_packet hl, List.forall_mem_cons.mpr ⟨ms_L_price hl hot, fun _ h => nomatch h⟩⟩⟩⟩⟩⟩⟩⟩⟩⟩⟩⟩⟩⟩⟩⟩⟩⟩) ?_
  intro As μ K h
  simp only [ci_L_refuses, sp_L_refuses] at h
  split at h
  case h_2 => exact h.elim
  rename_i x
  obtain ⟨M, W, U, hK, hM, hX0, h⟩ := h
  have hF0 := FRq.refl μ x
  refine ⟨Nat.le_of_ble_eq_true rfl, M, W, U, hK.1, hX0, ?_⟩
  refine ⟨⟨by decide, by decide⟩, M, W, U, hK, hM, hX0, fun μ1 hX1 hG1 => ⟨fun w => (w (ra_0 W U)).elim, fun _ => ?_⟩⟩
  have hX1 : CXo μ1 x (oPlace (Int32.ofInt 0) (Int32.ofInt 0) (Int32.ofInt 32) (Int32.ofInt 0) (Int32.ofInt 0) W U).2.2.1 (oPlace (Int32.ofInt 0) (Int32.ofInt 0) (Int32.ofInt 32) (Int32.ofInt 0) (Int32.ofInt 0) W U).2.2.2 := hX1
  rw [rf_0] at hX1
  have hF1 := hF0.trans hG1
  refine ⟨⟨by decide, by decide⟩, M, W, U, hK, hM, hX1, fun μ2 hX2 hG2 => ⟨fun w => (w (ra_1 W U)).elim, fun _ => ?_⟩⟩
  have hX2 : CXo μ2 x (oSetV (Int32.ofInt 16) (Int32.ofInt 9) (Int32.ofInt 9) W U).2.2.1 (oSetV (Int32.ofInt 16) (Int32.ofInt 9) (Int32.ofInt 9) W U).2.2.2 := hX2
  rw [rf_1] at hX2
  have hF2 := hF1.trans hG2
  refine ⟨⟨by decide, by decide⟩, M, W, U, hK, hM, hX2, fun μ3 hX3 hG3 => ⟨fun w => (w (ra_2 W U)).elim, fun _ => ?_⟩⟩
  have hX3 : CXo μ3 x (oSetH (Int32.ofInt 0) (Int32.ofInt (-1)) W U).2.2.1 (oSetH (Int32.ofInt 0) (Int32.ofInt (-1)) W U).2.2.2 := hX3
  rw [rf_2] at hX3
  have hF3 := hF2.trans hG3
  refine ⟨⟨by decide, by decide⟩, M, W, U, hK, hM, hX3, fun μ4 hX4 hG4 => ⟨fun w => (w (ra_3 W U)).elim, fun _ => ?_⟩⟩
  have hX4 : CXo μ4 x (oDel (Int32.ofInt (-1)) W U).2.2.1 (oDel (Int32.ofInt (-1)) W U).2.2.2 := hX4
  rw [rf_3] at hX4
  have hF4 := hF3.trans hG4
  refine ⟨⟨by decide, by decide⟩, M, W, U, hK, hM, hX4, fun μ5 hX5 hG5 => ⟨fun w => (w (ra_4 W U)).elim, fun _ => ?_⟩⟩
  have hF5 := hF4.trans hG5
  refine ⟨⟨by decide, by decide⟩, M, W, U, hK, hM, hX5, fun μ6 hX6 hG6 => ⟨fun w => (w (ra_5 W U)).elim, fun _ => ?_⟩⟩
  have hX6 : CXo μ6 x (oCon (Int32.ofInt 0) (Int32.ofInt 0) (Int32.ofInt 0) (Int32.ofInt 1) (Int32.ofInt 11) W U).2.2.1 (oCon (Int32.ofInt 0) (Int32.ofInt 0) (Int32.ofInt 0) (Int32.ofInt 1) (Int32.ofInt 11) W U).2.2.2 := hX6
  rw [rf_5] at hX6
  have hF6 := hF5.trans hG6
  refine ⟨⟨by decide, by decide⟩, M, W, U, hK, hM, hX6, fun μ7 hX7 hG7 => ⟨fun w => (w (ra_6 W U)).elim, fun _ => ?_⟩⟩
  have hX7 : CXo μ7 x (oLook (Int32.ofInt 3) (Int32.ofInt 0) (Int32.ofInt 0) (Int32.ofInt 1) W U).2.2.1 (oLook (Int32.ofInt 3) (Int32.ofInt 0) (Int32.ofInt 0) (Int32.ofInt 1) W U).2.2.2 := hX7
  rw [rf_6] at hX7
  have hF7 := hF6.trans hG7
  refine ⟨⟨by decide, by decide⟩, M, W, U, hK, hM, hX7, fun μ8 hX8 hG8 => ⟨fun w => (w (ra_7 W U)).elim, fun _ => ?_⟩⟩
  have hX8 : CXo μ8 x (oLook (Int32.ofInt 0) (Int32.ofInt 0) (Int32.ofInt 0) (Int32.ofInt 0) W U).2.2.1 (oLook (Int32.ofInt 0) (Int32.ofInt 0) (Int32.ofInt 0) (Int32.ofInt 0) W U).2.2.2 := hX8
  rw [rf_7] at hX8
  have hF8 := hF7.trans hG8
  refine ⟨⟨by decide, by decide⟩, M, W, U, hK, hM, hX8, fun μ9 hX9 hG9 => ⟨fun w => (w (ra_8 W U)).elim, fun _ => ?_⟩⟩
  have hX9 : CXo μ9 x (oDis (Int32.ofInt (-1)) W U).2.2.1 (oDis (Int32.ofInt (-1)) W U).2.2.2 := hX9
  rw [rf_8] at hX9
  have hF9 := hF8.trans hG9
  refine ⟨fun w => absurd (show (1 : Int32) = 0 from w) (by decide), fun _ => ?_⟩
  refine ⟨⟨by decide, by decide⟩, M, W, U, hK, hM, hX9, fun μ10 hX10 hG10 => ⟨fun w => (w (ra_10 W U)).elim, fun _ => ?_⟩⟩
  have hX10 : CXo μ10 x (oTimes (Int32.ofInt 0) (Int32.ofInt 1) W U).2.2.1 (oTimes (Int32.ofInt 0) (Int32.ofInt 1) W U).2.2.2 := hX10
  rw [rf_10] at hX10
  have hF10 := hF9.trans hG10
  refine ⟨⟨by decide, by decide⟩, M, W, U, hK, hM, hX10, fun μ11 hX11 hG11 => ⟨fun w => (w (ra_11 W U)).elim, fun _ => ?_⟩⟩
  have hX11 : CXo μ11 x (oTimes (Int32.ofInt 1) (Int32.ofInt 11) W U).2.2.1 (oTimes (Int32.ofInt 1) (Int32.ofInt 11) W U).2.2.2 := hX11
  rw [rf_11] at hX11
  have hF11 := hF10.trans hG11
  refine ⟨⟨by decide, by decide⟩, M, W, U, hK, hM, hX11, fun μ12 hX12 hG12 => ⟨fun w => (w (ra_12 W U)).elim, fun _ => ?_⟩⟩
  have hX12 : CXo μ12 x (oLose (Int32.ofInt 3) (Int32.ofInt 99) (Int32.ofInt 0) W U).2.2.1 (oLose (Int32.ofInt 3) (Int32.ofInt 99) (Int32.ofInt 0) W U).2.2.2 := hX12
  rw [rf_12] at hX12
  have hF12 := hF11.trans hG12
  refine ⟨⟨by decide, by decide⟩, M, W, U, hK, hM, hX12, fun μ13 hX13 hG13 => ⟨fun w => (w (ra_13 W U)).elim, fun _ => ?_⟩⟩
  have hX13 : CXo μ13 x (oLose (Int32.ofInt 0) (Int32.ofInt 51) (Int32.ofInt 0) W U).2.2.1 (oLose (Int32.ofInt 0) (Int32.ofInt 51) (Int32.ofInt 0) W U).2.2.2 := hX13
  rw [rf_13] at hX13
  have hF13 := hF12.trans hG13
  refine ⟨⟨by decide, by decide⟩, M, W, U, hK, hM, hX13, fun μ14 hX14 hG14 => ⟨fun w => (w (ra_14 W U)).elim, fun _ => ?_⟩⟩
  have hX14 : CXo μ14 x (oTick (Int32.ofInt 51) W U).2.2.1 (oTick (Int32.ofInt 51) W U).2.2.2 := hX14
  rw [rf_14] at hX14
  have hF14 := hF13.trans hG14
  refine ⟨⟨by decide, by decide⟩, M, W, U, hK, hM, hX14, fun μ15 hX15 hG15 => ⟨fun w => (w (ra_15 W U)).elim, fun _ => ?_⟩⟩
  have hF15 := hF14.trans hG15
  refine ⟨⟨by decide, by decide⟩, M, W, U, hK, hM, hX15, fun μ16 hX16 hG16 => ⟨fun w => (w (ra_16 W U)).elim, fun _ => ?_⟩⟩
  have hF16 := hF15.trans hG16
  refine ⟨⟨by decide, by decide⟩, M, W, U, hK, hM, hX16, fun μ17 hX17 hG17 => ⟨fun w => (w (ra_17 W U)).elim, fun _ => ?_⟩⟩
  have hF17 := hF16.trans hG17
  refine ⟨⟨by decide, by decide⟩, M, W, U, hK, hM, hX17, fun μ18 hX18 hG18 => ⟨fun w => (w (ra_18 W U)).elim, fun _ => ?_⟩⟩
  have hF18 := hF17.trans hG18
  refine ⟨⟨by decide, by decide⟩, M, W, U, hK, hM, hX18, fun μ19 hX19 hG19 => ⟨fun w => (w (ra_19 W U)).elim, fun _ => ?_⟩⟩
  have hF19 := hF18.trans hG19
  refine ⟨⟨by decide, by decide⟩, M, W, U, hK, hM, hX19, fun μ20 hX20 hG20 => ⟨fun w => (w (ra_20 W U)).elim, fun _ => ?_⟩⟩
  have hF20 := hF19.trans hG20
  refine ⟨⟨by decide, by decide⟩, M, W, U, hK, hM, hX20, fun μ21 hX21 hG21 => ⟨fun w => (w (ra_21 W U)).elim, fun _ => ?_⟩⟩
  have hF21 := hF20.trans hG21
  refine ⟨fun w => absurd (show (1 : Int32) = 0 from w) (by decide), fun _ => ⟨M, W, U, hK.1, hX21, ⟨fun w => (w (lc_self _)).elim, fun _ => ⟨Or.inr rfl, h μ21 hX21 hF21⟩⟩⟩⟩
