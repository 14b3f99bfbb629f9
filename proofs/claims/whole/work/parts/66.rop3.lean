/-! THE REFERENCE, its public methods: time and values. -/
def sp_X10_tick : SPc := fun As μ K => match As with
  | [.inr (.inr (20, r)), .inl n] => ∃ (W : WS) (U : List WS), REF μ r W U ∧ (∀ k, k < 50 → TKP (tkN W k)) ∧ refK (oTick n W U) μ r W U K
  | _ => False
def rtL (r n k : Nat) : LC := [some (.inr (.inr (20, r))), some (.inl (nI n)), some (.inl (nI k))]
def ct_X10_tick : List (Nat × CI) := [(49, ci_X10_in), (65, ci_X10_keep), (186, ci_X10_tickOne)]
def ci_X10_tick : CI := (yX10_tick, cX10_tick, 3, some .int, 2, (8, 0, 0, 182), 19, [], sp_X10_tick)
set_option maxRecDepth 100000 in
theorem ck_X10_tick : chkM ci_X10_tick RX10 co_X10_tick ct_X10_tick [] false false = true := by decide +kernel
set_option maxHeartbeats 4000000 in
set_option maxRecDepth 100000 in
theorem ms_X10_tick {g : GPT} {ot : OT} {l : Launch} (hl : l.stackTraces = false) : MS g ot l ci_X10_tick := by
  refine ms_of hl RX10 co_X10_tick ct_X10_tick [] false false [16,34] 36 ck_X10_tick (List.forall_mem_cons.mpr ⟨ms_X10_in hl, List.forall_mem_cons.mpr ⟨ms_X10_keep hl, List.forall_mem_cons.mpr ⟨ms_X10_tickOne hl, fun _ h => nomatch h⟩⟩⟩) ?_
  intro As μ K h
  simp only [ci_X10_tick, sp_X10_tick] at h
  split at h
  case h_2 => exact h.elim
  rename_i r n
  obtain ⟨W, U, hR, hT, h⟩ := h
  refine ⟨Nat.le_of_ble_eq_true rfl, fun m pc lc st μ' ce sl => (m = 100 ∧ pc = 16 ∧ lc = [some (.inr (.inr (20, r))), some (.inl n), none] ∧ joinP (oTick n W U) (inR 1 50 n) W U st r ∧ μ = μ' ∧ ce = 0 ∧ sl = 0) ∨ (∃ k d, d ≤ 50 ∧ k ≤ d ∧ m = d - k ∧ pc = 34 ∧ oTick n W U = (0, wT (tkN W d) 0, tkN W d, pushU W U) ∧ REF μ' r (tkN W k) (pushU W U) ∧ μ'.1 r 5 = 0 ∧ FRM μ μ' r ∧ lc = rtL r d k ∧ st = [] ∧ ce = 0 ∧ sl = 0), ?_, ?_⟩
  · refine ⟨fun q => ?_, fun q => ?_⟩
    · exact ⟨100, [some (.inr (.inr (20, r))), some (.inl n), none], ⟨rfl, rfl, trivial⟩, Or.inl ⟨rfl, rfl, rfl, Or.inr ⟨1, by omega, by omega, oTick_1 _ W U (iB_n q), rfl⟩, rfl, rfl, rfl⟩⟩
    · exact ⟨100, [some (.inr (.inr (20, r))), some (.inl n), none], ⟨rfl, rfl, trivial⟩, Or.inl ⟨rfl, rfl, rfl, Or.inl ⟨iB_y q, rfl⟩, rfl, rfl, rfl⟩⟩
  · rintro m pc lc st μ' ce sl (⟨rfl, rfl, rfl, (⟨P, rfl⟩ | ⟨cd, d1, d2, d3, rfl⟩), rfl, rfl, rfl⟩ | ⟨k, d, hd, hk, rfl, rfl, ex, hν, h5, hf, rfl, rfl, rfl, rfl⟩)
    · have ex := oTick_0 n W U (nn P)
      obtain ⟨d, hd, rfl, sd⟩ := r_nat (n := 50) (by omega) ⟨Int32.le_trans (by decide : (0 : Int32) ≤ 1) P.1, P.2⟩
      rw [sd] at ex
      refine ⟨fun q => ⟨W, U, hR.cod (nI 0), fun ν hν h5 hr1 hf => ⟨d, rtL r d 0, by omega, ⟨rfl, rfl, rfl, trivial⟩, Or.inr ⟨0, d, hd, Nat.zero_le _, rfl, rfl, ex, hν, h5.trans (cod5 _ _ _), (codM_f μ r (nI 0)).trans hf, rfl, rfl, rfl, rfl⟩⟩⟩, fun q => absurd (cod5 μ r (nI 0)) q⟩
    · exact ⟨fun q => (cd_ne d1 d2 ((cod5 μ r (nI cd)).symm.trans q)).elim, fun _ => refF h hR d3 d1⟩
    · refine ⟨fun q => ⟨0, rfl, by omega, ?_⟩, fun q => ⟨tkN W k, hν.1, hT k ?_, fun T f' hf' => ⟨d - (k + 1), rtL r d (k + 1), ?_, ⟨rfl, rfl, inc_tv k, trivial⟩, Or.inr ⟨k + 1, d, hd, ?_, rfl, rfl, ex, (hν.t T).w hf', ?_, hf.trans ((tW_f _ _ _).trans (rW_f _ _ _)), rfl, rfl, rfl, rfl⟩⟩⟩⟩
      · have q : nI d ≤ nI k := q
        rw [nI_le_iff (by omega) (by omega)] at q
        obtain rfl : k = d := by omega
        have t0 : μ'.1 (r + 1) 0 = wT (tkN W k) 0 := hν.1.1 0 (by omega)
        have := h.1 (by rw [ex]) μ' (by rw [ex]; exact hν) h5 hf
        rw [ex] at this
        rw [t0]
        exact this
      · have q : ¬ nI d ≤ nI k := q
        rw [nI_le_iff (by omega) (by omega)] at q
        omega
      · have q : ¬ nI d ≤ nI k := q
        rw [nI_le_iff (by omega) (by omega)] at q
        omega
      · have q : ¬ nI d ≤ nI k := q
        rw [nI_le_iff (by omega) (by omega)] at q
        omega
      · rw [rW_ne _ _ _ (by omega)]
        exact (congrFun (stF_ne _ _ (by omega)) 5).trans h5
def sp_X10_time : SPc := fun As μ K => match As with
  | [.inr (.inr (20, r))] => ∃ (W : WS) (U : List WS), REF μ r W U ∧ refK (0, wT W 0, W, U) μ r W U K
  | _ => False
def ct_X10_time : List (Nat × CI) := []
def ci_X10_time : CI := (yX10_time, cX10_time, 1, some .int, 1, (0, 0, 0, 0), 19, [], sp_X10_time)
set_option maxRecDepth 100000 in
theorem ck_X10_time : chkM ci_X10_time RX10 co_X10_time ct_X10_time [] false false = true := by decide +kernel
set_option maxHeartbeats 4000000 in
set_option maxRecDepth 100000 in
theorem ms_X10_time {g : GPT} {ot : OT} {l : Launch} (hl : l.stackTraces = false) : MS g ot l ci_X10_time := by
  refine ms0_of hl RX10 co_X10_time ct_X10_time [] false false 13 ck_X10_time (fun _ h => nomatch h) ?_
  intro As μ K h
  simp only [ci_X10_time, sp_X10_time] at h
  split at h
  case h_2 => exact h.elim
  rename_i r
  obtain ⟨W, U, hR, h⟩ := h
  have t0 : (up2 μ.1 r 5 (nI 0)) (r + 1) 0 = wT W 0 := by rw [u2_ne _ _ (by omega)]; exact hR.1.1 0 (by omega)
  refine ⟨Nat.le_of_ble_eq_true rfl, 0, rfl, by omega, ?_⟩
  show K (.inl (some (.inl ((up2 μ.1 r 5 (nI 0)) (r + 1) 0)))) (up2 μ.1 r 5 (nI 0), μ.2)
  rw [t0]
  exact refR h hR rfl
theorem cod_r (μ : MM) (r : Nat) (x : Int32) : (up2 μ.1 r 5 x) (r + 1) = μ.1 (r + 1) := u2_ne _ _ (by omega)
def sp_X10_copy : SPc := fun As μ K => match As with
  | [.inr (.inr (20, r)), .inl c, .inl e, .inl x] => ∃ (M : Nat) (W : WS) (U : List WS), WOK M W ∧ REF μ r W U ∧ refK (oCopy c e x W U) μ r W U K
  | _ => False
def ct_X10_copy : List (Nat × CI) := [(86, ci_X10_isClient), (57, ci_X10_isEntity), (49, ci_X10_in), (192, ci_X10_copyValue)]
def ci_X10_copy : CI := (yX10_copy, cX10_copy, 4, some .int, 4, (4, 0, 0, 89), 19, [], sp_X10_copy)
set_option maxRecDepth 100000 in
theorem ck_X10_copy : chkM ci_X10_copy RX10 co_X10_copy ct_X10_copy [] false false = true := by decide +kernel
set_option maxHeartbeats 4000000 in
set_option maxRecDepth 100000 in
theorem ms_X10_copy {g : GPT} {ot : OT} {l : Launch} (hl : l.stackTraces = false) : MS g ot l ci_X10_copy := by
  refine ms_of hl RX10 co_X10_copy ct_X10_copy [] false false [34] 34 ck_X10_copy (List.forall_mem_cons.mpr ⟨ms_X10_isClient hl, List.forall_mem_cons.mpr ⟨ms_X10_isEntity hl, List.forall_mem_cons.mpr ⟨ms_X10_in hl, List.forall_mem_cons.mpr ⟨ms_X10_copyValue hl, fun _ h => nomatch h⟩⟩⟩⟩) ?_
  intro As μ K h
  simp only [ci_X10_copy, sp_X10_copy] at h
  split at h
  case h_2 => exact h.elim
  rename_i r c e x
  obtain ⟨M, W, U, hM, hR, h⟩ := h
  refine ⟨Nat.le_of_ble_eq_true rfl, fun m pc lc st μ' ce sl => m = 0 ∧ pc = 34 ∧ lc = [some (.inr (.inr (20, r))), some (.inl c), some (.inl e), some (.inl x)] ∧ joinP (oCopy c e x W U) ((isC c ∧ isE e) ∧ inR 0 6 x) W U st r ∧ μ = μ' ∧ ce = 0 ∧ sl = 0, ?_, ?_⟩
  · refine ⟨fun q => ?_, fun q => ⟨fun q2 => ⟨fun q3 => ?_, fun q3 => ?_⟩, fun q2 => ?_⟩⟩
    · exact ⟨0, [some (.inr (.inr (20, r))), some (.inl c), some (.inl e), some (.inl x)], ⟨rfl, rfl, rfl, rfl, trivial⟩, rfl, rfl, rfl, Or.inr ⟨1, by omega, by omega, oCopy_1 _ _ _ W U (fun w => iB_n q w.1), rfl⟩, rfl, rfl, rfl⟩
    · exact ⟨0, [some (.inr (.inr (20, r))), some (.inl c), some (.inl e), some (.inl x)], ⟨rfl, rfl, rfl, rfl, trivial⟩, rfl, rfl, rfl, Or.inl ⟨⟨⟨iB_y q, iB_y q2⟩, iB_y q3⟩, rfl⟩, rfl, rfl, rfl⟩
    · exact ⟨0, [some (.inr (.inr (20, r))), some (.inl c), some (.inl e), some (.inl x)], ⟨rfl, rfl, rfl, rfl, trivial⟩, rfl, rfl, rfl, Or.inr ⟨2, by omega, by omega, oCopy_2 _ _ _ W U (nn ⟨iB_y q, iB_y q2⟩) (iB_nn q3), rfl⟩, rfl, rfl, rfl⟩
    · exact ⟨0, [some (.inr (.inr (20, r))), some (.inl c), some (.inl e), some (.inl x)], ⟨rfl, rfl, rfl, rfl, trivial⟩, rfl, rfl, rfl, Or.inr ⟨1, by omega, by omega, oCopy_1 _ _ _ W U (fun w => iB_nn q2 w.2), rfl⟩, rfl, rfl, rfl⟩
  · rintro m pc lc st μ' ce sl ⟨rfl, rfl, rfl, (⟨⟨⟨C, E⟩, P⟩, rfl⟩ | ⟨cd, d1, d2, d3, rfl⟩), rfl, rfl, rfl⟩
    · obtain ⟨i, hi, rfl, si⟩ := c_nat C
      obtain ⟨j, hj, rfl, sj⟩ := e_nat E
      obtain ⟨d, hd, rfl, sd⟩ := r_nat (n := 6) (by omega) P
      have ex := oCopy_0 (nI i) (nI j) (nI d) W U (nn ⟨C, E⟩) (nn P)
      rw [si, sj, sd] at ex
      obtain ⟨T, _, _, hc⟩ := hM.cl hi
      exact ⟨fun q => ⟨i, j, d, cR (wC W i) j, rfl, rfl, rfl, hi, hj, by omega, by dsimp only; rw [cod_r]; exact (hR.1.2.2 i hi).2.2.2.2 j hj, (hc.2.1 j hj).2, refR h hR ex⟩, fun q => absurd (cod5 μ r (nI 0)) q⟩
    · exact ⟨fun q => (cd_ne d1 d2 ((cod5 μ r (nI cd)).symm.trans q)).elim, fun _ => refF h hR d3 d1⟩
theorem wOK_e {M : Nat} {W : WS} (h : WOK M W) {μ : MM} {r : Nat} {U : List WS} (hR : REF μ r W U) : ∀ e, e < 16 → μ.1 (r + 1) (3 + 3 * e) = wE W e 0 ∧ sOK (wE W e 0) := fun e he => ⟨hR.1.2.1 e he 0 (by omega), (h.1 e he).1⟩
def sp_X10_kept : SPc := fun As μ K => match As with
  | [.inr (.inr (20, r)), .inl c, .inl e, .inl x] => ∃ (M : Nat) (W : WS) (U : List WS), WOK M W ∧ REF μ r W U ∧ refK (oKept c e x W U) μ r W U K
  | _ => False
def ct_X10_kept : List (Nat × CI) := [(86, ci_X10_isClient), (57, ci_X10_isEntity), (49, ci_X10_in), (89, ci_X10_isConnected), (195, ci_X10_keptValue)]
def ci_X10_kept : CI := (yX10_kept, cX10_kept, 4, some .int, 4, (5, 0, 0, 113), 19, [], sp_X10_kept)
set_option maxRecDepth 100000 in
theorem ck_X10_kept : chkM ci_X10_kept RX10 co_X10_kept ct_X10_kept [] false false = true := by decide +kernel
set_option maxHeartbeats 4000000 in
set_option maxRecDepth 100000 in
theorem ms_X10_kept {g : GPT} {ot : OT} {l : Launch} (hl : l.stackTraces = false) : MS g ot l ci_X10_kept := by
  refine ms_of hl RX10 co_X10_kept ct_X10_kept [] false false [46] 40 ck_X10_kept (List.forall_mem_cons.mpr ⟨ms_X10_isClient hl, List.forall_mem_cons.mpr ⟨ms_X10_isEntity hl, List.forall_mem_cons.mpr ⟨ms_X10_in hl, List.forall_mem_cons.mpr ⟨ms_X10_isConnected hl, List.forall_mem_cons.mpr ⟨ms_X10_keptValue hl, fun _ h => nomatch h⟩⟩⟩⟩⟩) ?_
  intro As μ K h
  simp only [ci_X10_kept, sp_X10_kept] at h
  split at h
  case h_2 => exact h.elim
  rename_i r c e x
  obtain ⟨M, W, U, hM, hR, h⟩ := h
  refine ⟨Nat.le_of_ble_eq_true rfl, fun m pc lc st μ' ce sl => m = 0 ∧ pc = 46 ∧ lc = [some (.inr (.inr (20, r))), some (.inl c), some (.inl e), some (.inl x)] ∧ joinP (oKept c e x W U) ((isC c ∧ isE e) ∧ inR 0 8 x ∧ cnn (wC W (sN c))) W U st r ∧ μ = μ' ∧ ce = 0 ∧ sl = 0, ?_, ?_⟩
  · refine ⟨fun q => ?_, fun q => ⟨fun q2 => ⟨fun q3 => ?_, fun q3 => ?_⟩, fun q2 => ?_⟩⟩
    · exact ⟨0, [some (.inr (.inr (20, r))), some (.inl c), some (.inl e), some (.inl x)], ⟨rfl, rfl, rfl, rfl, trivial⟩, rfl, rfl, rfl, Or.inr ⟨1, by omega, by omega, oKept_1 _ _ _ W U (fun w => iB_n q w.1), rfl⟩, rfl, rfl, rfl⟩
    · obtain ⟨i, hi, rfl, si⟩ := c_nat (iB_y q)
      have E0 := hR.c0 hi
      refine ⟨i, rfl, hi, fun q4 => ?_, fun q4 => ?_⟩
      · have q4 := iB_n q4
        rw [E0] at q4
        exact ⟨0, [some (.inr (.inr (20, r))), some (.inl (nI i)), some (.inl e), some (.inl x)], ⟨rfl, rfl, rfl, rfl, trivial⟩, rfl, rfl, rfl, Or.inr ⟨3, by omega, by omega, oKept_3 _ _ _ W U (nn ⟨iB_y q, iB_y q2⟩) (nn (iB_y q3)) (by rw [si]; exact q4), rfl⟩, rfl, rfl, rfl⟩
      · have q4 := iB_y q4
        rw [E0] at q4
        exact ⟨0, [some (.inr (.inr (20, r))), some (.inl (nI i)), some (.inl e), some (.inl x)], ⟨rfl, rfl, rfl, rfl, trivial⟩, rfl, rfl, rfl, Or.inl ⟨⟨⟨iB_y q, iB_y q2⟩, iB_y q3, by rw [si]; exact q4⟩, rfl⟩, rfl, rfl, rfl⟩
    · exact ⟨0, [some (.inr (.inr (20, r))), some (.inl c), some (.inl e), some (.inl x)], ⟨rfl, rfl, rfl, rfl, trivial⟩, rfl, rfl, rfl, Or.inr ⟨2, by omega, by omega, oKept_2 _ _ _ W U (nn ⟨iB_y q, iB_y q2⟩) (iB_nn q3), rfl⟩, rfl, rfl, rfl⟩
    · exact ⟨0, [some (.inr (.inr (20, r))), some (.inl c), some (.inl e), some (.inl x)], ⟨rfl, rfl, rfl, rfl, trivial⟩, rfl, rfl, rfl, Or.inr ⟨1, by omega, by omega, oKept_1 _ _ _ W U (fun w => iB_nn q2 w.2), rfl⟩, rfl, rfl, rfl⟩
  · rintro m pc lc st μ' ce sl ⟨rfl, rfl, rfl, (⟨⟨⟨C, E⟩, P, P2⟩, rfl⟩ | ⟨cd, d1, d2, d3, rfl⟩), rfl, rfl, rfl⟩
    · obtain ⟨i, hi, rfl, si⟩ := c_nat C
      obtain ⟨j, hj, rfl, sj⟩ := e_nat E
      obtain ⟨d, hd, rfl, sd⟩ := r_nat (n := 8) (by omega) P
      have ex := oKept_0 (nI i) (nI j) (nI d) W U (nn ⟨C, E⟩) (nn P) (nn P2)
      rw [si, sj, sd] at ex
      obtain ⟨T, _, _, hc⟩ := hM.cl hi
      exact ⟨fun q => ⟨i, j, d, wC W i, wE W, rfl, rfl, rfl, hi, hj, by omega, by dsimp only; rw [cod_r]; exact hR.1.2.2 i hi, by dsimp only; rw [cod_r]; exact wOK_e hM hR j hj, hc.2.2.1 j hj, refR h hR ex⟩, fun q => absurd (cod5 μ r (nI 0)) q⟩
    · exact ⟨fun q => (cd_ne d1 d2 ((cod5 μ r (nI cd)).symm.trans q)).elim, fun _ => refF h hR d3 d1⟩
def sp_X10_count : SPc := fun As μ K => match As with
  | [.inr (.inr (20, r)), .inl c, .inl x] => ∃ (M : Nat) (W : WS) (U : List WS), WOK M W ∧ REF μ r W U ∧ refK (oCnt c x W U) μ r W U K
  | _ => False
def ct_X10_count : List (Nat × CI) := [(86, ci_X10_isClient), (49, ci_X10_in), (198, ci_X10_countOf)]
def ci_X10_count : CI := (yX10_count, cX10_count, 3, some .int, 3, (4, 0, 0, 88), 19, [], sp_X10_count)
set_option maxRecDepth 100000 in
theorem ck_X10_count : chkM ci_X10_count RX10 co_X10_count ct_X10_count [] false false = true := by decide +kernel
set_option maxHeartbeats 4000000 in
set_option maxRecDepth 100000 in
theorem ms_X10_count {g : GPT} {ot : OT} {l : Launch} (hl : l.stackTraces = false) : MS g ot l ci_X10_count := by
  refine ms_of hl RX10 co_X10_count ct_X10_count [] false false [27] 30 ck_X10_count (List.forall_mem_cons.mpr ⟨ms_X10_isClient hl, List.forall_mem_cons.mpr ⟨ms_X10_in hl, List.forall_mem_cons.mpr ⟨ms_X10_countOf hl, fun _ h => nomatch h⟩⟩⟩) ?_
  intro As μ K h
  simp only [ci_X10_count, sp_X10_count] at h
  split at h
  case h_2 => exact h.elim
  rename_i r c x
  obtain ⟨M, W, U, hM, hR, h⟩ := h
  refine ⟨Nat.le_of_ble_eq_true rfl, fun m pc lc st μ' ce sl => m = 0 ∧ pc = 27 ∧ lc = [some (.inr (.inr (20, r))), some (.inl c), some (.inl x)] ∧ joinP (oCnt c x W U) (isC c ∧ inR 0 8 x) W U st r ∧ μ = μ' ∧ ce = 0 ∧ sl = 0, ?_, ?_⟩
  · refine ⟨fun q => ⟨fun q3 => ?_, fun q3 => ?_⟩, fun q => ?_⟩
    · exact ⟨0, [some (.inr (.inr (20, r))), some (.inl c), some (.inl x)], ⟨rfl, rfl, rfl, trivial⟩, rfl, rfl, rfl, Or.inl ⟨⟨iB_y q, iB_y q3⟩, rfl⟩, rfl, rfl, rfl⟩
    · exact ⟨0, [some (.inr (.inr (20, r))), some (.inl c), some (.inl x)], ⟨rfl, rfl, rfl, trivial⟩, rfl, rfl, rfl, Or.inr ⟨2, by omega, by omega, oCnt_2 _ _ W U (nn (iB_y q)) (iB_nn q3), rfl⟩, rfl, rfl, rfl⟩
    · exact ⟨0, [some (.inr (.inr (20, r))), some (.inl c), some (.inl x)], ⟨rfl, rfl, rfl, trivial⟩, rfl, rfl, rfl, Or.inr ⟨1, by omega, by omega, oCnt_1 _ _ W U (iB_nn q), rfl⟩, rfl, rfl, rfl⟩
  · rintro m pc lc st μ' ce sl ⟨rfl, rfl, rfl, (⟨⟨C, P⟩, rfl⟩ | ⟨cd, d1, d2, d3, rfl⟩), rfl, rfl, rfl⟩
    · obtain ⟨i, hi, rfl, si⟩ := c_nat C
      obtain ⟨d, hd, rfl, sd⟩ := r_nat (n := 8) (by omega) P
      have ex := oCnt_0 (nI i) (nI d) W U (nn C) (nn P)
      rw [si, sd] at ex
      obtain ⟨T, _, _, hc⟩ := hM.cl hi
      exact ⟨fun q => ⟨i, d, wC W i, rfl, rfl, hi, by omega, by dsimp only; rw [cod_r]; exact hR.1.2.2 i hi, hc.bit, refR h hR ex⟩, fun q => absurd (cod5 μ r (nI 0)) q⟩
    · exact ⟨fun q => (cd_ne d1 d2 ((cod5 μ r (nI cd)).symm.trans q)).elim, fun _ => refF h hR d3 d1⟩
def sp_X10_stale : SPc := fun As μ K => match As with
  | [.inr (.inr (20, r)), .inl c] => ∃ (M : Nat) (W : WS) (U : List WS), WOK M W ∧ REF μ r W U ∧ refK (oStale c W U) μ r W U K
  | _ => False
def ct_X10_stale : List (Nat × CI) := [(86, ci_X10_isClient), (89, ci_X10_isConnected), (201, ci_X10_staleOf)]
def ci_X10_stale : CI := (yX10_stale, cX10_stale, 2, some .int, 2, (5, 0, 0, 113), 19, [], sp_X10_stale)
set_option maxRecDepth 100000 in
theorem ck_X10_stale : chkM ci_X10_stale RX10 co_X10_stale ct_X10_stale [] false false = true := by decide +kernel
set_option maxHeartbeats 4000000 in
set_option maxRecDepth 100000 in
theorem ms_X10_stale {g : GPT} {ot : OT} {l : Launch} (hl : l.stackTraces = false) : MS g ot l ci_X10_stale := by
  refine ms_of hl RX10 co_X10_stale ct_X10_stale [] false false [25] 28 ck_X10_stale (List.forall_mem_cons.mpr ⟨ms_X10_isClient hl, List.forall_mem_cons.mpr ⟨ms_X10_isConnected hl, List.forall_mem_cons.mpr ⟨ms_X10_staleOf hl, fun _ h => nomatch h⟩⟩⟩) ?_
  intro As μ K h
  simp only [ci_X10_stale, sp_X10_stale] at h
  split at h
  case h_2 => exact h.elim
  rename_i r c
  obtain ⟨M, W, U, hM, hR, h⟩ := h
  refine ⟨Nat.le_of_ble_eq_true rfl, fun m pc lc st μ' ce sl => m = 0 ∧ pc = 25 ∧ lc = [some (.inr (.inr (20, r))), some (.inl c)] ∧ joinP (oStale c W U) (isC c ∧ cnn (wC W (sN c))) W U st r ∧ μ = μ' ∧ ce = 0 ∧ sl = 0, ?_, ?_⟩
  · refine ⟨fun q => ?_, fun q => ?_⟩
    · obtain ⟨i, hi, rfl, si⟩ := c_nat (iB_y q)
      have E0 := hR.c0 hi
      refine ⟨i, rfl, hi, fun q4 => ?_, fun q4 => ?_⟩
      · have q4 := iB_n q4
        rw [E0] at q4
        exact ⟨0, [some (.inr (.inr (20, r))), some (.inl (nI i))], ⟨rfl, rfl, trivial⟩, rfl, rfl, rfl, Or.inr ⟨2, by omega, by omega, oStale_2 _ W U (nn (iB_y q)) (by rw [si]; exact q4), rfl⟩, rfl, rfl, rfl⟩
      · have q4 := iB_y q4
        rw [E0] at q4
        exact ⟨0, [some (.inr (.inr (20, r))), some (.inl (nI i))], ⟨rfl, rfl, trivial⟩, rfl, rfl, rfl, Or.inl ⟨⟨iB_y q, by rw [si]; exact q4⟩, rfl⟩, rfl, rfl, rfl⟩
    · exact ⟨0, [some (.inr (.inr (20, r))), some (.inl c)], ⟨rfl, rfl, trivial⟩, rfl, rfl, rfl, Or.inr ⟨1, by omega, by omega, oStale_1 _ W U (iB_nn q), rfl⟩, rfl, rfl, rfl⟩
  · rintro m pc lc st μ' ce sl ⟨rfl, rfl, rfl, (⟨⟨C, P⟩, rfl⟩ | ⟨cd, d1, d2, d3, rfl⟩), rfl, rfl, rfl⟩
    · obtain ⟨i, hi, rfl, si⟩ := c_nat C
      have ex := oStale_0 (nI i) W U (nn C) (nn P)
      rw [si] at ex
      exact ⟨fun q => ⟨i, wC W i, wE W, rfl, hi, by dsimp only; rw [cod_r]; exact hR.1.2.2 i hi, by dsimp only; rw [cod_r]; exact wOK_e hM hR, refR h hR ex⟩, fun q => absurd (cod5 μ r (nI 0)) q⟩
    · exact ⟨fun q => (cd_ne d1 d2 ((cod5 μ r (nI cd)).symm.trans q)).elim, fun _ => refF h hR d3 d1⟩
def sp_X10_price : SPc := fun As μ K => match As with
  | [.inr (.inr (20, r)), .inl c, .inl e] => ∃ (M : Nat) (W : WS) (U : List WS), WOK M W ∧ REF μ r W U ∧ refK (oPrice c e W U) μ r W U K
  | _ => False
def ct_X10_price : List (Nat × CI) := [(86, ci_X10_isClient), (57, ci_X10_isEntity), (89, ci_X10_isConnected), (156, ci_X10_priceOf)]
def ci_X10_price : CI := (yX10_price, cX10_price, 3, some .int, 3, (5, 0, 0, 112), 19, [], sp_X10_price)
set_option maxRecDepth 100000 in
theorem ck_X10_price : chkM ci_X10_price RX10 co_X10_price ct_X10_price [] false false = true := by decide +kernel
set_option maxHeartbeats 4000000 in
set_option maxRecDepth 100000 in
theorem ms_X10_price {g : GPT} {ot : OT} {l : Launch} (hl : l.stackTraces = false) : MS g ot l ci_X10_price := by
  refine ms_of hl RX10 co_X10_price ct_X10_price [] false false [32] 32 ck_X10_price (List.forall_mem_cons.mpr ⟨ms_X10_isClient hl, List.forall_mem_cons.mpr ⟨ms_X10_isEntity hl, List.forall_mem_cons.mpr ⟨ms_X10_isConnected hl, List.forall_mem_cons.mpr ⟨ms_X10_priceOf hl, fun _ h => nomatch h⟩⟩⟩⟩) ?_
  intro As μ K h
  simp only [ci_X10_price, sp_X10_price] at h
  split at h
  case h_2 => exact h.elim
  rename_i r c e
  obtain ⟨M, W, U, hM, hR, h⟩ := h
  refine ⟨Nat.le_of_ble_eq_true rfl, fun m pc lc st μ' ce sl => m = 0 ∧ pc = 32 ∧ lc = [some (.inr (.inr (20, r))), some (.inl c), some (.inl e)] ∧ joinP (oPrice c e W U) ((isC c ∧ isE e) ∧ cnn (wC W (sN c))) W U st r ∧ μ = μ' ∧ ce = 0 ∧ sl = 0, ?_, ?_⟩
  · refine ⟨fun q => ?_, fun q => ⟨fun q2 => ?_, fun q2 => ?_⟩⟩
    · exact ⟨0, [some (.inr (.inr (20, r))), some (.inl c), some (.inl e)], ⟨rfl, rfl, rfl, trivial⟩, rfl, rfl, rfl, Or.inr ⟨1, by omega, by omega, oPrice_1 _ _ W U (fun w => iB_n q w.1), rfl⟩, rfl, rfl, rfl⟩
    · obtain ⟨i, hi, rfl, si⟩ := c_nat (iB_y q)
      have E0 := hR.c0 hi
      refine ⟨i, rfl, hi, fun q4 => ?_, fun q4 => ?_⟩
      · have q4 := iB_n q4
        rw [E0] at q4
        exact ⟨0, [some (.inr (.inr (20, r))), some (.inl (nI i)), some (.inl e)], ⟨rfl, rfl, rfl, trivial⟩, rfl, rfl, rfl, Or.inr ⟨2, by omega, by omega, oPrice_2 _ _ W U (nn ⟨iB_y q, iB_y q2⟩) (by rw [si]; exact q4), rfl⟩, rfl, rfl, rfl⟩
      · have q4 := iB_y q4
        rw [E0] at q4
        exact ⟨0, [some (.inr (.inr (20, r))), some (.inl (nI i)), some (.inl e)], ⟨rfl, rfl, rfl, trivial⟩, rfl, rfl, rfl, Or.inl ⟨⟨⟨iB_y q, iB_y q2⟩, by rw [si]; exact q4⟩, rfl⟩, rfl, rfl, rfl⟩
    · exact ⟨0, [some (.inr (.inr (20, r))), some (.inl c), some (.inl e)], ⟨rfl, rfl, rfl, trivial⟩, rfl, rfl, rfl, Or.inr ⟨1, by omega, by omega, oPrice_1 _ _ W U (fun w => iB_nn q2 w.2), rfl⟩, rfl, rfl, rfl⟩
  · rintro m pc lc st μ' ce sl ⟨rfl, rfl, rfl, (⟨⟨⟨C, E⟩, P⟩, rfl⟩ | ⟨cd, d1, d2, d3, rfl⟩), rfl, rfl, rfl⟩
    · obtain ⟨i, hi, rfl, si⟩ := c_nat C
      obtain ⟨j, hj, rfl, sj⟩ := e_nat E
      have ex := oPrice_0 (nI i) (nI j) W U (nn ⟨C, E⟩) (nn P)
      rw [si, sj] at ex
      obtain ⟨T, _, _, hc⟩ := hM.cl hi
      exact ⟨fun q => ⟨i, j, wC W i, wE W, rfl, rfl, hi, hj, by dsimp only; rw [cod_r]; exact hR.1.2.2 i hi, by dsimp only; rw [cod_r]; exact wOK_e hM hR j hj, hc.2.2.1 j hj, refR h hR ex⟩, fun q => absurd (cod5 μ r (nI 0)) q⟩
    · exact ⟨fun q => (cd_ne d1 d2 ((cod5 μ r (nI cd)).symm.trans q)).elim, fun _ => refF h hR d3 d1⟩
def sp_X10_undo : SPc := fun As μ K => match As with
  | [.inr (.inr (20, r))] => ∃ (W : WS) (U : List WS), REF μ r W U ∧ refK (oUndo W U) μ r W U K
  | _ => False
/-- the rows when a state comes back -/
def unM (μ : MM) (r : Nat) (x : Int32) : MM := (up2 (stF (stF (stF μ.1 (r + 1) (cpF (μ.1 (r + 2)) (μ.1 (r + 1)))) (r + 2) (cpF (μ.1 (r + 3)) (μ.1 (r + 2)))) (r + 3) (cpF (μ.1 (r + 4)) (μ.1 (r + 3)))) r 4 x, μ.2)
theorem unM_ok {μ : MM} {r : Nat} {W V : WS} {U : List WS} (h : REF μ r W (V :: U)) : REF (unM μ r (nI U.length)) r V U ∧ (unM μ r (nI U.length)).1 r 5 = μ.1 r 5 ∧ FRM μ (unM μ r (nI U.length)) r := by
  obtain ⟨h1, h2, h3, h4⟩ := h
  have h2 : U.length + 1 ≤ 3 := h2
  have e1 : (unM μ r (nI U.length)).1 (r + 1) = cpF (μ.1 (r + 2)) (μ.1 (r + 1)) := by
    show up2 _ r 4 _ (r + 1) = _
    rw [u2_ne _ _ (by omega), stF_ne _ _ (by omega), stF_ne _ _ (by omega), stF_at]
  have e2 : (unM μ r (nI U.length)).1 (r + 2) = cpF (μ.1 (r + 3)) (μ.1 (r + 2)) := by
    show up2 _ r 4 _ (r + 2) = _
    rw [u2_ne _ _ (by omega), stF_ne _ _ (by omega), stF_at]
  have e3 : (unM μ r (nI U.length)).1 (r + 3) = cpF (μ.1 (r + 4)) (μ.1 (r + 3)) := by
    show up2 _ r 4 _ (r + 3) = _
    rw [u2_ne _ _ (by omega), stF_at]
  refine ⟨⟨?_, by omega, u2_eq _ _ _ _, fun j X hj => ?_⟩, ?_, fun b hb => ?_, rfl, fun _ _ => rfl, rfl⟩
  · rw [e1]
    exact (h4 0 V rfl).keep fun k hk => cpF_lt _ _ hk
  · have hjl : j < U.length := (List.getElem?_eq_some_iff.mp hj).1
    have : j = 0 ∨ j = 1 := by omega
    rcases this with rfl | rfl
    · show RW ((unM μ r _).1 (r + 2)) X
      rw [e2]
      exact (h4 1 X hj).keep fun k hk => cpF_lt _ _ hk
    · show RW ((unM μ r _).1 (r + 3)) X
      rw [e3]
      exact (h4 2 X hj).keep fun k hk => cpF_lt _ _ hk
  · show up2 _ r 4 _ r 5 = _
    rw [u2_nj _ _ (by omega), stF_ne _ _ (by omega), stF_ne _ _ (by omega), stF_ne _ _ (by omega)]
  · show up2 _ r 4 _ b = _
    rw [u2_ne _ _ (by omega), stF_ne _ _ (by omega), stF_ne _ _ (by omega), stF_ne _ _ (by omega)]
def ct_X10_undo : List (Nat × CI) := [(34, ci_X10_copyAll)]
def ci_X10_undo : CI := (yX10_undo, cX10_undo, 1, some .int, 1, (1, 0, 0, 22), 19, [], sp_X10_undo)
set_option maxRecDepth 100000 in
theorem ck_X10_undo : chkM ci_X10_undo RX10 co_X10_undo ct_X10_undo [] false false = true := by decide +kernel
set_option maxHeartbeats 4000000 in
set_option maxRecDepth 100000 in
theorem ms_X10_undo {g : GPT} {ot : OT} {l : Launch} (hl : l.stackTraces = false) : MS g ot l ci_X10_undo := by
  refine ms_of hl RX10 co_X10_undo ct_X10_undo [] false false [13] 42 ck_X10_undo (List.forall_mem_cons.mpr ⟨ms_X10_copyAll hl, fun _ h => nomatch h⟩) ?_
  intro As μ K h
  simp only [ci_X10_undo, sp_X10_undo] at h
  split at h
  case h_2 => exact h.elim
  rename_i r
  obtain ⟨W, U, hR, h⟩ := h
  have l3 := hR.2.1
  refine ⟨Nat.le_of_ble_eq_true rfl, fun m pc lc st μ' ce sl => m = 0 ∧ pc = 13 ∧ lc = [some (.inr (.inr (20, r)))] ∧ joinP (oUndo W U) (∃ V U', U = V :: U') W U st r ∧ μ = μ' ∧ ce = 0 ∧ sl = 0, ?_, ?_⟩
  · refine ⟨fun q => ?_, fun q => ?_⟩
    · have q : ¬ μ.1 r 4 = 0 := q
      rw [hR.2.2.1, z_nI, nI_eq_iff (by omega) (by omega)] at q
      refine ⟨0, [some (.inr (.inr (20, r)))], ⟨rfl, trivial⟩, rfl, rfl, rfl, Or.inl ⟨?_, rfl⟩, rfl, rfl, rfl⟩
      cases U with
      | nil => exact absurd rfl q
      | cons V U' => exact ⟨V, U', rfl⟩
    · have q : ¬ ¬ μ.1 r 4 = 0 := q
      rw [hR.2.2.1, z_nI, nI_eq_iff (by omega) (by omega), Classical.not_not] at q
      have : U = [] := List.length_eq_zero_iff.mp q
      subst this
      exact ⟨0, [some (.inr (.inr (20, r)))], ⟨rfl, trivial⟩, rfl, rfl, rfl, Or.inr ⟨1, by omega, by omega, rfl, rfl⟩, rfl, rfl, rfl⟩
  · rintro m pc lc st μ' ce sl ⟨rfl, rfl, rfl, (⟨⟨V, U', rfl⟩, rfl⟩ | ⟨cd, d1, d2, d3, rfl⟩), rfl, rfl, rfl⟩
    · refine ⟨fun q => ?_, fun q => absurd (cod5 μ r (nI 0)) q⟩
      obtain ⟨k1, k2, k3⟩ := unM_ok (hR.cod (nI 0))
      have em : ∀ x, ((up2 (stF (stF (stF (codM μ r (nI 0)).1 (r + 1) (fun k => if k < 7269 then (codM μ r (nI 0)).1 (r + 2) k else (codM μ r (nI 0)).1 (r + 1) k)) (r + 2) (fun k => if k < 7269 then (stF (codM μ r (nI 0)).1 (r + 1) (fun k => if k < 7269 then (codM μ r (nI 0)).1 (r + 2) k else (codM μ r (nI 0)).1 (r + 1) k)) (r + 3) k else (stF (codM μ r (nI 0)).1 (r + 1) (fun k => if k < 7269 then (codM μ r (nI 0)).1 (r + 2) k else (codM μ r (nI 0)).1 (r + 1) k)) (r + 2) k)) (r + 3) (fun k => if k < 7269 then (stF (stF (codM μ r (nI 0)).1 (r + 1) (fun k => if k < 7269 then (codM μ r (nI 0)).1 (r + 2) k else (codM μ r (nI 0)).1 (r + 1) k)) (r + 2) (fun k => if k < 7269 then (stF (codM μ r (nI 0)).1 (r + 1) (fun k => if k < 7269 then (codM μ r (nI 0)).1 (r + 2) k else (codM μ r (nI 0)).1 (r + 1) k)) (r + 3) k else (stF (codM μ r (nI 0)).1 (r + 1) (fun k => if k < 7269 then (codM μ r (nI 0)).1 (r + 2) k else (codM μ r (nI 0)).1 (r + 1) k)) (r + 2) k)) (r + 4) k else (stF (stF (codM μ r (nI 0)).1 (r + 1) (fun k => if k < 7269 then (codM μ r (nI 0)).1 (r + 2) k else (codM μ r (nI 0)).1 (r + 1) k)) (r + 2) (fun k => if k < 7269 then (stF (codM μ r (nI 0)).1 (r + 1) (fun k => if k < 7269 then (codM μ r (nI 0)).1 (r + 2) k else (codM μ r (nI 0)).1 (r + 1) k)) (r + 3) k else (stF (codM μ r (nI 0)).1 (r + 1) (fun k => if k < 7269 then (codM μ r (nI 0)).1 (r + 2) k else (codM μ r (nI 0)).1 (r + 1) k)) (r + 2) k)) (r + 3) k)) r 4 x, (codM μ r (nI 0)).2) : MM) = unM (codM μ r (nI 0)) r x := fun x => by
        generalize codM μ r (nI 0) = ν
        have n2 : ∀ f, (stF ν.1 (r + 1) f) (r + 2) = ν.1 (r + 2) := fun f => stF_ne _ _ (by omega)
        have n3 : ∀ f, (stF ν.1 (r + 1) f) (r + 3) = ν.1 (r + 3) := fun f => stF_ne _ _ (by omega)
        have m3 : ∀ f g, (stF (stF ν.1 (r + 1) f) (r + 2) g) (r + 3) = ν.1 (r + 3) := fun f g => by rw [stF_ne _ _ (by omega), stF_ne _ _ (by omega)]
        have m4 : ∀ f g, (stF (stF ν.1 (r + 1) f) (r + 2) g) (r + 4) = ν.1 (r + 4) := fun f g => by rw [stF_ne _ _ (by omega), stF_ne _ _ (by omega)]
        rw [m3, m4, n2, n3]
        rfl
      have f4 : ∀ f g i, (stF (stF (stF (codM μ r (nI 0)).1 (r + 1) f) (r + 2) g) (r + 3) i) r 4 = nI (U'.length + 1) := fun f g i => by
        rw [stF_ne _ _ (by omega), stF_ne _ _ (by omega), stF_ne _ _ (by omega)]
        exact (hR.cod (nI 0)).2.2.1
      have e1 : nI (U'.length + 1) - Int32.ofInt 1 = nI U'.length := nI_sub1 (a := U'.length + 1) (b := 1) (by omega)
      have fin := h.1 rfl _ k1 (k2.trans (codM_5 μ r (nI 0))) ((codM_f μ r (nI 0)).trans k3)
      rw [← em, ← e1] at fin
      have fin2 : K (.inl (some (.inl ((up2 (stF (stF (stF (codM μ r (nI 0)).1 (r + 1) (fun k => if k < 7269 then (codM μ r (nI 0)).1 (r + 2) k else (codM μ r (nI 0)).1 (r + 1) k)) (r + 2) (fun k => if k < 7269 then (stF (codM μ r (nI 0)).1 (r + 1) (fun k => if k < 7269 then (codM μ r (nI 0)).1 (r + 2) k else (codM μ r (nI 0)).1 (r + 1) k)) (r + 3) k else (stF (codM μ r (nI 0)).1 (r + 1) (fun k => if k < 7269 then (codM μ r (nI 0)).1 (r + 2) k else (codM μ r (nI 0)).1 (r + 1) k)) (r + 2) k)) (r + 3) (fun k => if k < 7269 then (stF (stF (codM μ r (nI 0)).1 (r + 1) (fun k => if k < 7269 then (codM μ r (nI 0)).1 (r + 2) k else (codM μ r (nI 0)).1 (r + 1) k)) (r + 2) (fun k => if k < 7269 then (stF (codM μ r (nI 0)).1 (r + 1) (fun k => if k < 7269 then (codM μ r (nI 0)).1 (r + 2) k else (codM μ r (nI 0)).1 (r + 1) k)) (r + 3) k else (stF (codM μ r (nI 0)).1 (r + 1) (fun k => if k < 7269 then (codM μ r (nI 0)).1 (r + 2) k else (codM μ r (nI 0)).1 (r + 1) k)) (r + 2) k)) (r + 4) k else (stF (stF (codM μ r (nI 0)).1 (r + 1) (fun k => if k < 7269 then (codM μ r (nI 0)).1 (r + 2) k else (codM μ r (nI 0)).1 (r + 1) k)) (r + 2) (fun k => if k < 7269 then (stF (codM μ r (nI 0)).1 (r + 1) (fun k => if k < 7269 then (codM μ r (nI 0)).1 (r + 2) k else (codM μ r (nI 0)).1 (r + 1) k)) (r + 3) k else (stF (codM μ r (nI 0)).1 (r + 1) (fun k => if k < 7269 then (codM μ r (nI 0)).1 (r + 2) k else (codM μ r (nI 0)).1 (r + 1) k)) (r + 2) k)) (r + 3) k)) r 4 (nI (U'.length + 1) - Int32.ofInt 1)) r 4)))) (unM (codM μ r (nI 0)) r (nI (U'.length + 1) - Int32.ofInt 1)) := by
        rw [u2_eq, ← em]
        have ex : (oUndo W (V :: U')).2.1 = nI (U'.length + 1) - Int32.ofInt 1 := e1.symm
        rw [ex] at fin
        exact fin
      rw [← em] at fin2
      rw [← f4 (fun k => if k < 7269 then (codM μ r (nI 0)).1 (r + 2) k else (codM μ r (nI 0)).1 (r + 1) k) (fun k => if k < 7269 then (stF (codM μ r (nI 0)).1 (r + 1) (fun k => if k < 7269 then (codM μ r (nI 0)).1 (r + 2) k else (codM μ r (nI 0)).1 (r + 1) k)) (r + 3) k else (stF (codM μ r (nI 0)).1 (r + 1) (fun k => if k < 7269 then (codM μ r (nI 0)).1 (r + 2) k else (codM μ r (nI 0)).1 (r + 1) k)) (r + 2) k) (fun k => if k < 7269 then (stF (stF (codM μ r (nI 0)).1 (r + 1) (fun k => if k < 7269 then (codM μ r (nI 0)).1 (r + 2) k else (codM μ r (nI 0)).1 (r + 1) k)) (r + 2) (fun k => if k < 7269 then (stF (codM μ r (nI 0)).1 (r + 1) (fun k => if k < 7269 then (codM μ r (nI 0)).1 (r + 2) k else (codM μ r (nI 0)).1 (r + 1) k)) (r + 3) k else (stF (codM μ r (nI 0)).1 (r + 1) (fun k => if k < 7269 then (codM μ r (nI 0)).1 (r + 2) k else (codM μ r (nI 0)).1 (r + 1) k)) (r + 2) k)) (r + 4) k else (stF (stF (codM μ r (nI 0)).1 (r + 1) (fun k => if k < 7269 then (codM μ r (nI 0)).1 (r + 2) k else (codM μ r (nI 0)).1 (r + 1) k)) (r + 2) (fun k => if k < 7269 then (stF (codM μ r (nI 0)).1 (r + 1) (fun k => if k < 7269 then (codM μ r (nI 0)).1 (r + 2) k else (codM μ r (nI 0)).1 (r + 1) k)) (r + 3) k else (stF (codM μ r (nI 0)).1 (r + 1) (fun k => if k < 7269 then (codM μ r (nI 0)).1 (r + 2) k else (codM μ r (nI 0)).1 (r + 1) k)) (r + 2) k)) (r + 3) k)] at fin2
      exact fin2
    · exact ⟨fun q => (cd_ne d1 d2 ((cod5 μ r (nI cd)).symm.trans q)).elim, fun _ => refF h hR d3 d1⟩
