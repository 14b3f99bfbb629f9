/-! THE REFERENCE, its public methods on entities. -/
def sp_X10_setVelocity : SPc := fun As μ K => match As with
  | [.inr (.inr (20, r)), .inl e, .inl x, .inl y] => ∃ (W : WS) (U : List WS), REF μ r W U ∧ refK (oSetV e x y W U) μ r W U K
  | _ => False
def ct_X10_setVelocity : List (Nat × CI) := [(57, ci_X10_isEntity), (49, ci_X10_in), (68, ci_X10_exists), (65, ci_X10_keep)]
def ci_X10_setVelocity : CI := (yX10_setVelocity, cX10_setVelocity, 6, some .int, 4, (2, 0, 0, 42), 19, [], sp_X10_setVelocity)
set_option maxRecDepth 100000 in
theorem ck_X10_setVelocity : chkM ci_X10_setVelocity RX10 co_X10_setVelocity ct_X10_setVelocity [] false false = true := by decide +kernel
set_option maxHeartbeats 4000000 in
set_option maxRecDepth 100000 in
theorem ms_X10_setVelocity {g : GPT} {ot : OT} {l : Launch} (hl : l.stackTraces = false) : MS g ot l ci_X10_setVelocity := by
  refine ms_of hl RX10 co_X10_setVelocity ct_X10_setVelocity [] false false [49] 80 ck_X10_setVelocity (List.forall_mem_cons.mpr ⟨ms_X10_isEntity hl, List.forall_mem_cons.mpr ⟨ms_X10_in hl, List.forall_mem_cons.mpr ⟨ms_X10_exists hl, List.forall_mem_cons.mpr ⟨ms_X10_keep hl, fun _ h => nomatch h⟩⟩⟩⟩) ?_
  intro As μ K h
  simp only [ci_X10_setVelocity, sp_X10_setVelocity] at h
  split at h
  case h_2 => exact h.elim
  rename_i r e x y
  obtain ⟨W, U, hR, h⟩ := h
  have e0 : ∀ j, j < 16 → μ.1 (r + 1) (3 + 3 * j) = wE W j 0 := fun j hj => hR.1.2.1 j hj 0 (by omega)
  refine ⟨Nat.le_of_ble_eq_true rfl, fun m pc lc st μ' ce sl => m = 0 ∧ pc = 49 ∧ lc = [some (.inr (.inr (20, r))), some (.inl e), some (.inl x), some (.inl y), none, none] ∧ joinP (oSetV e x y W U) (isE e ∧ (inR (-3) 3 x ∧ inR (-3) 3 y) ∧ ¬ wE W (sN e) 0 = -1) W U st r ∧ μ = μ' ∧ ce = 0 ∧ sl = 0, ?_, ?_⟩
  · refine ⟨fun q => ⟨fun q2 => ?_, fun q2 => ⟨fun q3 => ?_, fun q3 => ?_⟩⟩, fun q => ?_⟩
    · exact ⟨0, [some (.inr (.inr (20, r))), some (.inl e), some (.inl x), some (.inl y), none, none], ⟨rfl, rfl, rfl, rfl, trivial⟩, rfl, rfl, rfl, Or.inr ⟨2, by omega, by omega, oSetV_2 _ _ _ W U (nn (iB_y q)) (fun w => iB_n q2 w.1), rfl⟩, rfl, rfl, rfl⟩
    · obtain ⟨j, hj, rfl, sj⟩ := e_nat (iB_y q)
      have E0 := e0 j hj
      refine ⟨j, rfl, hj, fun q4 => ?_, fun q4 => ?_⟩
      · have q4 : iB (¬ μ.1 (r + 1) (3 + 3 * j) = -1) = 0 := q4
        rw [iB_eq0, E0, Classical.not_not, ← sj] at q4
        exact ⟨0, [some (.inr (.inr (20, r))), some (.inl (nI j)), some (.inl x), some (.inl y), none, none], ⟨rfl, rfl, rfl, rfl, trivial⟩, rfl, rfl, rfl, Or.inr ⟨3, by omega, by omega, oSetV_3 _ _ _ W U (nn (iB_y q)) (nn ⟨iB_y q2, iB_y q3⟩) q4, rfl⟩, rfl, rfl, rfl⟩
      · have q4 : ¬ iB (¬ μ.1 (r + 1) (3 + 3 * j) = -1) = 0 := q4
        rw [iB_ne0, E0, ← sj] at q4
        exact ⟨0, [some (.inr (.inr (20, r))), some (.inl (nI j)), some (.inl x), some (.inl y), none, none], ⟨rfl, rfl, rfl, rfl, trivial⟩, rfl, rfl, rfl, Or.inl ⟨⟨iB_y q, ⟨iB_y q2, iB_y q3⟩, q4⟩, rfl⟩, rfl, rfl, rfl⟩
    · exact ⟨0, [some (.inr (.inr (20, r))), some (.inl e), some (.inl x), some (.inl y), none, none], ⟨rfl, rfl, rfl, rfl, trivial⟩, rfl, rfl, rfl, Or.inr ⟨2, by omega, by omega, oSetV_2 _ _ _ W U (nn (iB_y q)) (fun w => iB_nn q3 w.2), rfl⟩, rfl, rfl, rfl⟩
    · exact ⟨0, [some (.inr (.inr (20, r))), some (.inl e), some (.inl x), some (.inl y), none, none], ⟨rfl, rfl, rfl, rfl, trivial⟩, rfl, rfl, rfl, Or.inr ⟨1, by omega, by omega, oSetV_1 _ _ _ W U (iB_nn q), rfl⟩, rfl, rfl, rfl⟩
  · rintro m pc lc st μ' ce sl ⟨rfl, rfl, rfl, (⟨⟨E, P, P2⟩, rfl⟩ | ⟨cd, d1, d2, d3, rfl⟩), rfl, rfl, rfl⟩
    · obtain ⟨j, hj, rfl, sj⟩ := e_nat E
      have ex := oSetV_0 (nI j) x y W U (nn E) (nn P) P2
      rw [sj] at ex
      rw [ex] at h
      have ix : nI 3 + nI 3 * nI j = nI (3 + 3 * j) := by simp only [nI_mul, nI_add]
      have i1 : nI 3 + nI 3 * nI j + nI 1 = nI (3 + 3 * j + 1) := by rw [ix, nI_add]
      have i2 : nI 3 + nI 3 * nI j + nI 2 = nI (3 + 3 * j + 2) := by rw [ix, nI_add]
      refine ⟨fun q => ⟨W, U, hR.cod (nI 0), fun ν hν h5 hr1 hf => ⟨3 + 3 * j + 1, i1, by omega, 3 + 3 * j + 2, i2, by omega, 3 + 3 * j + 1, i1, by omega, 3 + 3 * j + 2, i2, by omega, ?_⟩⟩, fun q => absurd (cod5 μ r (nI 0)) q⟩
      have v1 : ν.1 (r + 1) (3 + 3 * j + 1) = wE W j 1 := hν.1.2.1 j hj 1 (by omega)
      have v2 : ν.1 (r + 1) (3 + 3 * j + 2) = wE W j 2 := hν.1.2.1 j hj 2 (by omega)
      show K (.inl (some (.inl (10 * (ν.1 (r + 1) (3 + 3 * j + 1) + 3) + ν.1 (r + 1) (3 + 3 * j + 2) + 3)))) (up2 (up2 ν.1 (r + 1) (3 + 3 * j + 1) x) (r + 1) (3 + 3 * j + 2) y, ν.2)
      rw [v1, v2, Int32.add_assoc]
      simp only [up2_stF, stF_stF, stF_at]
      exact h.1 rfl (rW ν r (upd (upd (ν.1 (r + 1)) (3 + 3 * j + 1) x) (3 + 3 * j + 2) y)) (hν.w (RW.setE (k := 2) (RW.setE (k := 1) hν.1 hj (by omega) x) hj (by omega) y)) (by rw [rW_ne _ _ _ (by omega)]; exact h5.trans (cod5 _ _ _)) ((codM_f μ r (nI 0)).trans (hf.trans (rW_f _ _ _)))
    · exact ⟨fun q => (cd_ne d1 d2 ((cod5 μ r (nI cd)).symm.trans q)).elim, fun _ => refF h hR d3 d1⟩
def sp_X10_setHealth : SPc := fun As μ K => match As with
  | [.inr (.inr (20, r)), .inl e, .inl x] => ∃ (M : Nat) (W : WS) (U : List WS), WOK M W ∧ REF μ r W U ∧ refK (oSetH e x W U) μ r W U K
  | _ => False
def ct_X10_setHealth : List (Nat × CI) := [(57, ci_X10_isEntity), (49, ci_X10_in), (68, ci_X10_exists), (65, ci_X10_keep), (53, ci_X10_stateOf), (41, ci_X10_part), (45, ci_X10_packed)]
def ci_X10_setHealth : CI := (yX10_setHealth, cX10_setHealth, 4, some .int, 3, (2, 0, 0, 42), 19, [], sp_X10_setHealth)
set_option maxRecDepth 100000 in
theorem ck_X10_setHealth : chkM ci_X10_setHealth RX10 co_X10_setHealth ct_X10_setHealth [] false false = true := by decide +kernel
set_option maxHeartbeats 4000000 in
set_option maxRecDepth 100000 in
theorem ms_X10_setHealth {g : GPT} {ot : OT} {l : Launch} (hl : l.stackTraces = false) : MS g ot l ci_X10_setHealth := by
  refine ms_of hl RX10 co_X10_setHealth ct_X10_setHealth [] false false [39] 60 ck_X10_setHealth (List.forall_mem_cons.mpr ⟨ms_X10_isEntity hl, List.forall_mem_cons.mpr ⟨ms_X10_in hl, List.forall_mem_cons.mpr ⟨ms_X10_exists hl, List.forall_mem_cons.mpr ⟨ms_X10_keep hl, List.forall_mem_cons.mpr ⟨ms_X10_stateOf hl, List.forall_mem_cons.mpr ⟨ms_X10_part hl, List.forall_mem_cons.mpr ⟨ms_X10_packed hl, fun _ h => nomatch h⟩⟩⟩⟩⟩⟩⟩) ?_
  intro As μ K h
  simp only [ci_X10_setHealth, sp_X10_setHealth] at h
  split at h
  case h_2 => exact h.elim
  rename_i r e x
  obtain ⟨M, W, U, hM, hR, h⟩ := h
  have e0 : ∀ j, j < 16 → μ.1 (r + 1) (3 + 3 * j) = wE W j 0 := fun j hj => hR.1.2.1 j hj 0 (by omega)
  refine ⟨Nat.le_of_ble_eq_true rfl, fun m pc lc st μ' ce sl => m = 0 ∧ pc = 39 ∧ lc = [some (.inr (.inr (20, r))), some (.inl e), some (.inl x), none] ∧ joinP (oSetH e x W U) (isE e ∧ inR 0 100 x ∧ ¬ wE W (sN e) 0 = -1) W U st r ∧ μ = μ' ∧ ce = 0 ∧ sl = 0, ?_, ?_⟩
  · refine ⟨fun q => ⟨fun q3 => ?_, fun q3 => ?_⟩, fun q => ?_⟩
    · obtain ⟨j, hj, rfl, sj⟩ := e_nat (iB_y q)
      have E0 := e0 j hj
      refine ⟨j, rfl, hj, fun q4 => ?_, fun q4 => ?_⟩
      · have q4 : iB (¬ μ.1 (r + 1) (3 + 3 * j) = -1) = 0 := q4
        rw [iB_eq0, E0, Classical.not_not, ← sj] at q4
        exact ⟨0, [some (.inr (.inr (20, r))), some (.inl (nI j)), some (.inl x), none], ⟨rfl, rfl, rfl, trivial⟩, rfl, rfl, rfl, Or.inr ⟨3, by omega, by omega, oSetH_3 _ _ W U (nn (iB_y q)) (nn (iB_y q3)) q4, rfl⟩, rfl, rfl, rfl⟩
      · have q4 : ¬ iB (¬ μ.1 (r + 1) (3 + 3 * j) = -1) = 0 := q4
        rw [iB_ne0, E0, ← sj] at q4
        exact ⟨0, [some (.inr (.inr (20, r))), some (.inl (nI j)), some (.inl x), none], ⟨rfl, rfl, rfl, trivial⟩, rfl, rfl, rfl, Or.inl ⟨⟨iB_y q, iB_y q3, q4⟩, rfl⟩, rfl, rfl, rfl⟩
    · exact ⟨0, [some (.inr (.inr (20, r))), some (.inl e), some (.inl x), none], ⟨rfl, rfl, rfl, trivial⟩, rfl, rfl, rfl, Or.inr ⟨2, by omega, by omega, oSetH_2 _ _ W U (nn (iB_y q)) (iB_nn q3), rfl⟩, rfl, rfl, rfl⟩
    · exact ⟨0, [some (.inr (.inr (20, r))), some (.inl e), some (.inl x), none], ⟨rfl, rfl, rfl, trivial⟩, rfl, rfl, rfl, Or.inr ⟨1, by omega, by omega, oSetH_1 _ _ W U (iB_nn q), rfl⟩, rfl, rfl, rfl⟩
  · rintro m pc lc st μ' ce sl ⟨rfl, rfl, rfl, (⟨⟨E, P, P2⟩, rfl⟩ | ⟨cd, d1, d2, d3, rfl⟩), rfl, rfl, rfl⟩
    · obtain ⟨j, hj, rfl, sj⟩ := e_nat E
      obtain ⟨d, hd, rfl, sd⟩ := r_nat (n := 100) (by omega) P
      have ex := oSetH_0 (nI j) (nI d) W U (nn E) (nn P) P2
      rw [sj] at P2
      obtain ⟨n, n1, n2, n3⟩ := sOK_ne (hM.1 j hj).1 P2
      rw [sj, sd, n3] at ex
      rw [ex] at h
      have ix : nI 3 + nI 3 * nI j = nI (3 + 3 * j) := by simp only [nI_mul, nI_add]
      refine ⟨fun q => ⟨W, U, hR.cod (nI 0), fun ν hν h5 hr1 hf => ?_⟩, fun q => absurd (cod5 μ r (nI 0)) q⟩
      have v0 : ν.1 (r + 1) (3 + 3 * j) = nI n := (hν.1.2.1 j hj 0 (by omega)).trans n2
      refine ⟨j, rfl, hj, n, 0, v0, rfl, n1, by omega, n, 1, v0, rfl, n1, by omega, n, 2, v0, rfl, n1, by omega, _, _, _, d, rfl, rfl, rfl, rfl, 3 + 3 * j, ix, by omega, n, 3, v0, rfl, n1, by omega, ?_⟩
      show K (.inl (some (.inl (nI (prt n 3))))) (up2 ν.1 (r + 1) (3 + 3 * j) (nI (pkN (prt n 0) (prt n 1) (prt n 2) d)), ν.2)
      rw [up2_rW]
      exact h.1 rfl _ (hν.w (RW.setE (k := 0) hν.1 hj (by omega) _)) (by rw [rW_ne _ _ _ (by omega)]; exact h5.trans (cod5 _ _ _)) ((codM_f μ r (nI 0)).trans (hf.trans (rW_f _ _ _)))
    · exact ⟨fun q => (cd_ne d1 d2 ((cod5 μ r (nI cd)).symm.trans q)).elim, fun _ => refF h hR d3 d1⟩
def sp_X10_destroy : SPc := fun As μ K => match As with
  | [.inr (.inr (20, r)), .inl e] => ∃ (W : WS) (U : List WS), REF μ r W U ∧ refK (oDel e W U) μ r W U K
  | _ => False
def rdL (r c k : Nat) : LC := [some (.inr (.inr (20, r))), none, some (.inl (nI c)), some (.inl (nI k))]
def ct_X10_destroy : List (Nat × CI) := [(57, ci_X10_isEntity), (68, ci_X10_exists), (65, ci_X10_keep)]
def ci_X10_destroy : CI := (yX10_destroy, cX10_destroy, 4, some .int, 2, (2, 0, 0, 42), 19, [], sp_X10_destroy)
set_option maxRecDepth 100000 in
theorem ck_X10_destroy : chkM ci_X10_destroy RX10 co_X10_destroy ct_X10_destroy [] false false = true := by decide +kernel
set_option maxHeartbeats 4000000 in
set_option maxRecDepth 100000 in
theorem ms_X10_destroy {g : GPT} {ot : OT} {l : Launch} (hl : l.stackTraces = false) : MS g ot l ci_X10_destroy := by
  refine ms_of hl RX10 co_X10_destroy ct_X10_destroy [] false false [25,82] 78 ck_X10_destroy (List.forall_mem_cons.mpr ⟨ms_X10_isEntity hl, List.forall_mem_cons.mpr ⟨ms_X10_exists hl, List.forall_mem_cons.mpr ⟨ms_X10_keep hl, fun _ h => nomatch h⟩⟩⟩) ?_
  intro As μ K h
  simp only [ci_X10_destroy, sp_X10_destroy] at h
  split at h
  case h_2 => exact h.elim
  rename_i r e
  obtain ⟨W, U, hR, h⟩ := h
  have e0 : ∀ j, j < 16 → μ.1 (r + 1) (3 + 3 * j) = wE W j 0 := fun j hj => hR.1.2.1 j hj 0 (by omega)
  refine ⟨Nat.le_of_ble_eq_true rfl, fun m pc lc st μ' ce sl => (m = 100 ∧ pc = 25 ∧ lc = [some (.inr (.inr (20, r))), some (.inl e), none, none] ∧ joinP (oDel e W U) (isE e ∧ ¬ wE W (sN e) 0 = -1) W U st r ∧ μ = μ' ∧ ce = 0 ∧ sl = 0) ∨ (∃ k, k ≤ 16 ∧ m = 16 - k ∧ pc = 82 ∧ (oDel e W U).1 = 0 ∧ (oDel e W U).2.1 = nI (livN (wE (delE W (sN e))) 16) ∧ (oDel e W U).2.2 = (delE W (sN e), pushU W U) ∧ REF μ' r (delE W (sN e)) (pushU W U) ∧ μ'.1 r 5 = 0 ∧ FRM μ μ' r ∧ lc = rdL r (livN (wE (delE W (sN e))) k) k ∧ st = [] ∧ ce = 0 ∧ sl = 0), ?_, ?_⟩
  · refine ⟨fun q => ?_, fun q => ?_⟩
    · obtain ⟨j, hj, rfl, sj⟩ := e_nat (iB_y q)
      have E0 := e0 j hj
      refine ⟨j, rfl, hj, fun q4 => ?_, fun q4 => ?_⟩
      · have q4 : iB (¬ μ.1 (r + 1) (3 + 3 * j) = -1) = 0 := q4
        rw [iB_eq0, E0, Classical.not_not, ← sj] at q4
        exact ⟨100, [some (.inr (.inr (20, r))), some (.inl (nI j)), none, none], ⟨rfl, rfl, trivial⟩, Or.inl ⟨rfl, rfl, rfl, Or.inr ⟨2, by omega, by omega, oDel_2 _ W U (nn (iB_y q)) q4, rfl⟩, rfl, rfl, rfl⟩⟩
      · have q4 : ¬ iB (¬ μ.1 (r + 1) (3 + 3 * j) = -1) = 0 := q4
        rw [iB_ne0, E0, ← sj] at q4
        exact ⟨100, [some (.inr (.inr (20, r))), some (.inl (nI j)), none, none], ⟨rfl, rfl, trivial⟩, Or.inl ⟨rfl, rfl, rfl, Or.inl ⟨⟨iB_y q, q4⟩, rfl⟩, rfl, rfl, rfl⟩⟩
    · exact ⟨100, [some (.inr (.inr (20, r))), some (.inl e), none, none], ⟨rfl, rfl, trivial⟩, Or.inl ⟨rfl, rfl, rfl, Or.inr ⟨1, by omega, by omega, oDel_1 _ W U (iB_nn q), rfl⟩, rfl, rfl, rfl⟩⟩
  · rintro m pc lc st μ' ce sl (⟨rfl, rfl, rfl, (⟨⟨E, P⟩, rfl⟩ | ⟨cd, d1, d2, d3, rfl⟩), rfl, rfl, rfl⟩ | ⟨k, hk, rfl, rfl, o1, o2, o3, hν, h5, hf, rfl, rfl, rfl, rfl⟩)
    · obtain ⟨j, hj, rfl, sj⟩ := e_nat E
      have ex := oDel_0 (nI j) W U (nn E) P
      have ix : nI 3 + nI 3 * nI j = nI (3 + 3 * j) := by simp only [nI_mul, nI_add]
      have i1 : nI 3 + nI 3 * nI j + nI 1 = nI (3 + 3 * j + 1) := by rw [ix, nI_add]
      have i2 : nI 3 + nI 3 * nI j + nI 2 = nI (3 + 3 * j + 2) := by rw [ix, nI_add]
      refine ⟨fun q => ⟨W, U, hR.cod (nI 0), fun ν hν h5 hr1 hf => ⟨3 + 3 * j, ix, by omega, 3 + 3 * j + 1, i1, by omega, 3 + 3 * j + 2, i2, by omega, 16, rdL r 0 0, by omega, ⟨rfl, rfl, rfl, trivial⟩, Or.inr ⟨0, Nat.zero_le _, rfl, rfl, by rw [ex], by rw [ex], by rw [ex], ?_, ?_, ?_, rfl, rfl, rfl, rfl⟩⟩⟩, fun q => absurd (cod5 μ r (nI 0)) q⟩
      · have e3 : ((up2 (up2 (up2 ν.1 (r + 1) (3 + 3 * j) (Int32.ofInt (-1))) (r + 1) (3 + 3 * j + 1) (Int32.ofInt 0)) (r + 1) (3 + 3 * j + 2) (Int32.ofInt 0), ν.2) : MM) = rW ν r (upd (upd (upd (ν.1 (r + 1)) (3 + 3 * j) (-1)) (3 + 3 * j + 1) 0) (3 + 3 * j + 2) 0) := by
          simp only [up2_stF, stF_stF, stF_at]
          rfl
        show REF (up2 (up2 (up2 ν.1 (r + 1) (3 + 3 * j) (Int32.ofInt (-1))) (r + 1) (3 + 3 * j + 1) (Int32.ofInt 0)) (r + 1) (3 + 3 * j + 2) (Int32.ofInt 0), ν.2) r _ _
        rw [e3, sj]
        exact hν.w (RW.setE (k := 2) (RW.setE (k := 1) (RW.setE (k := 0) hν.1 hj (by omega) (-1)) hj (by omega) 0) hj (by omega) 0)
      · dsimp only
        rw [u2_ne _ _ (by omega), u2_ne _ _ (by omega), u2_ne _ _ (by omega)]
        exact h5.trans (cod5 _ _ _)
      · refine (codM_f μ r (nI 0)).trans (hf.trans ⟨fun b hb => ?_, rfl, fun _ _ => rfl, rfl⟩)
        dsimp only
        rw [u2_ne _ _ (by omega), u2_ne _ _ (by omega), u2_ne _ _ (by omega)]
    · exact ⟨fun q => (cd_ne d1 d2 ((cod5 μ r (nI cd)).symm.trans q)).elim, fun _ => refF h hR d3 d1⟩
    · refine ⟨fun q => ?_, fun q => ?_⟩
      · simp only [icP, ifP, iL, iM1] at q
        try simp only [z_nI] at q
        try simp only [nI_add, nI_mul] at q
        first | rw [nI_le_iff (by omega) (by omega)] at q | rw [nI_lt_iff (by omega) (by omega)] at q | rw [nI_eq_iff (by omega) (by omega)] at q
        obtain rfl : k = 16 := by omega
        have := h.1 o1 μ' (by rw [o3]; exact hν) h5 hf
        rw [o2] at this
        exact this
      · simp only [icP, ifP, iL, iM1] at q
        try simp only [z_nI] at q
        try simp only [nI_add, nI_mul] at q
        first | rw [nI_le_iff (by omega) (by omega)] at q | rw [nI_lt_iff (by omega) (by omega)] at q | rw [nI_eq_iff (by omega) (by omega)] at q
        have v0 : μ'.1 (r + 1) (3 + 3 * k) = wE (delE W (sN e)) k 0 := hν.1.2.1 k (by omega) 0 (by omega)
        have fin : ∀ x : Int32, x = iB (¬ wE (delE W (sN e)) k 0 = -1) → (some (.inl (nI (livN (wE (delE W (sN e))) k) + x)) : Option TV) = some (.inl (nI (livN (wE (delE W (sN e))) (k + 1)))) := fun x hx => by rw [hx, livN_S]
        refine ⟨k, rfl, by omega, fun q2 => ⟨16 - (k + 1), rdL r (livN (wE (delE W (sN e))) (k + 1)) (k + 1), by omega, ⟨rfl, fin 0 ?_, inc_tv k, trivial⟩, Or.inr ⟨k + 1, by omega, rfl, rfl, o1, o2, o3, hν, h5, hf, rfl, rfl, rfl, rfl⟩⟩, fun q2 => ⟨16 - (k + 1), rdL r (livN (wE (delE W (sN e))) (k + 1)) (k + 1), by omega, ⟨rfl, fin 1 ?_, inc_tv k, trivial⟩, Or.inr ⟨k + 1, by omega, rfl, rfl, o1, o2, o3, hν, h5, hf, rfl, rfl, rfl, rfl⟩⟩⟩
        · have q2 := iB_n q2
          rw [v0] at q2
          exact (iB_0 q2).symm
        · have q2 := iB_y q2
          rw [v0] at q2
          exact (iB_1 q2).symm
def sp_X10_entity : SPc := fun As μ K => match As with
  | [.inr (.inr (20, r)), .inl e, .inl x] => ∃ (M : Nat) (W : WS) (U : List WS), WOK M W ∧ REF μ r W U ∧ refK (oEnt e x W U) μ r W U K
  | _ => False
def ct_X10_entity : List (Nat × CI) := [(57, ci_X10_isEntity), (49, ci_X10_in), (74, ci_X10_entityValue)]
def ci_X10_entity : CI := (yX10_entity, cX10_entity, 3, some .int, 3, (3, 0, 0, 64), 19, [], sp_X10_entity)
set_option maxRecDepth 100000 in
theorem ck_X10_entity : chkM ci_X10_entity RX10 co_X10_entity ct_X10_entity [] false false = true := by decide +kernel
set_option maxHeartbeats 4000000 in
set_option maxRecDepth 100000 in
theorem ms_X10_entity {g : GPT} {ot : OT} {l : Launch} (hl : l.stackTraces = false) : MS g ot l ci_X10_entity := by
  refine ms_of hl RX10 co_X10_entity ct_X10_entity [] false false [27] 30 ck_X10_entity (List.forall_mem_cons.mpr ⟨ms_X10_isEntity hl, List.forall_mem_cons.mpr ⟨ms_X10_in hl, List.forall_mem_cons.mpr ⟨ms_X10_entityValue hl, fun _ h => nomatch h⟩⟩⟩) ?_
  intro As μ K h
  simp only [ci_X10_entity, sp_X10_entity] at h
  split at h
  case h_2 => exact h.elim
  rename_i r e x
  obtain ⟨M, W, U, hM, hR, h⟩ := h
  refine ⟨Nat.le_of_ble_eq_true rfl, fun m pc lc st μ' ce sl => m = 0 ∧ pc = 27 ∧ lc = [some (.inr (.inr (20, r))), some (.inl e), some (.inl x)] ∧ joinP (oEnt e x W U) (isE e ∧ inR 0 6 x) W U st r ∧ μ = μ' ∧ ce = 0 ∧ sl = 0, ?_, ?_⟩
  · refine ⟨fun q => ⟨fun q3 => ?_, fun q3 => ?_⟩, fun q => ?_⟩
    · exact ⟨0, [some (.inr (.inr (20, r))), some (.inl e), some (.inl x)], ⟨rfl, rfl, rfl, trivial⟩, rfl, rfl, rfl, Or.inl ⟨⟨iB_y q, iB_y q3⟩, rfl⟩, rfl, rfl, rfl⟩
    · exact ⟨0, [some (.inr (.inr (20, r))), some (.inl e), some (.inl x)], ⟨rfl, rfl, rfl, trivial⟩, rfl, rfl, rfl, Or.inr ⟨2, by omega, by omega, oEnt_2 _ _ W U (nn (iB_y q)) (iB_nn q3), rfl⟩, rfl, rfl, rfl⟩
    · exact ⟨0, [some (.inr (.inr (20, r))), some (.inl e), some (.inl x)], ⟨rfl, rfl, rfl, trivial⟩, rfl, rfl, rfl, Or.inr ⟨1, by omega, by omega, oEnt_1 _ _ W U (iB_nn q), rfl⟩, rfl, rfl, rfl⟩
  · rintro m pc lc st μ' ce sl ⟨rfl, rfl, rfl, (⟨⟨E, P⟩, rfl⟩ | ⟨cd, d1, d2, d3, rfl⟩), rfl, rfl, rfl⟩
    · obtain ⟨j, hj, rfl, sj⟩ := e_nat E
      obtain ⟨d, hd, rfl, sd⟩ := r_nat (n := 6) (by omega) P
      have ex := oEnt_0 (nI j) (nI d) W U (nn E) (nn P)
      rw [sj, sd] at ex
      refine ⟨fun q => ⟨j, d, wE W, rfl, rfl, hj, by omega, fun k hk => ?_, (hM.1 j hj).1, refR h hR ex⟩, fun q => absurd (cod5 μ r (nI 0)) q⟩
      dsimp only
      rw [u2_ne _ _ (by omega)]
      exact hR.1.2.1 j hj k hk
    · exact ⟨fun q => (cd_ne d1 d2 ((cod5 μ r (nI cd)).symm.trans q)).elim, fun _ => refF h hR d3 d1⟩
