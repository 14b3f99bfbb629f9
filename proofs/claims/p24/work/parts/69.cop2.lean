/-! THE CLASS, its public methods on clients; time and values. -/
theorem isC_n {i : Nat} (h : i < 3) : isC (nI i) := ⟨nI_0le (by omega), by
  show nI i ≤ nI 2
  rw [nI_le_iff (by omega) (by omega)]
  omega⟩
theorem CXo.cl {μ : MM} {x : Nat} {W : WS} {U : List WS} (h : CXo μ x W U) {i : Nat} (hi : i < 3) : CC μ.1 μ.2.1 (x + 7 + 161 * i) (wC W i) := by
  have := h.1.2.2.2 i hi
  rw [CXo.a] at this
  exact this
theorem CXo.cn {M : Nat} {μ : MM} {x : Nat} {W : WS} {U : List WS} (h : CXo μ x W U) (hM : WOK M W) {i : Nat} (hi : i < 3) : (¬ μ.1 (x + 7 + 161 * i) 0 = 0 ↔ cnn (wC W i)) ∧ (μ.1 (x + 7 + 161 * i) 0 = 0 ↔ ¬ cnn (wC W i)) := by
  have e0 : μ.1 (x + 7 + 161 * i) 0 = cS (wC W i) 0 := (h.cl hi).1.1 0 (by omega)
  rw [e0]
  have := cnn_ne (hM.c01 i hi)
  exact ⟨this, ⟨fun q w => this.mpr w q, fun q => Classical.not_not.mp fun w => q (this.mp w)⟩⟩
def sp_X9_look : SPc := fun As μ K => match As with
  | [.inr (.inr (19, x)), .inl c, .inl a, .inl b, .inl r] => ∃ (M : Nat) (W : WS) (U : List WS), WOK M W ∧ CXo μ x W U ∧ clsK xc0 (oLook c a b r W U) μ x K
  | _ => False
def ct_X9_look : List (Nat × CI) := [(69, ci_X9_clientOf), (27, ci_X9_checkRange), (89, ci_X9_checkConnected), (31, ci_X7_push), (82, ci_X1_turnTo), (93, ci_X1_entitiesInArea)]
def ci_X9_look : CI := (yX9_look, cX9_look, 6, some .int, 5, (7, 5, 30, 125), 18, [], sp_X9_look)
set_option maxRecDepth 100000 in
theorem ck_X9_look : chkM ci_X9_look RX9 co_X9_look ct_X9_look [] false false = true := by decide +kernel
set_option maxHeartbeats 4000000 in
set_option maxRecDepth 100000 in
theorem ms_X9_look {g : GPT} {ot : OT} {l : Launch} (hl : l.stackTraces = false) (hot : otOK ot) : MS g ot l ci_X9_look := by
  refine ms0_of hl RX9 co_X9_look ct_X9_look [] false false 39 ck_X9_look (List.forall_mem_cons.mpr ⟨ms_X9_clientOf hl, List.forall_mem_cons.mpr ⟨ms_X9_checkRange hl, List.forall_mem_cons.mpr ⟨ms_X9_checkConnected hl, List.forall_mem_cons.mpr ⟨ms_X7_push hl, List.forall_mem_cons.mpr ⟨ms_X1_turnTo hl, List.forall_mem_cons.mpr ⟨ms_X1_entitiesInArea hl hot, fun _ h => nomatch h⟩⟩⟩⟩⟩⟩) ?_
  intro As μ K h
  simp only [ci_X9_look, sp_X9_look] at h
  split at h
  case h_2 => exact h.elim
  rename_i x c a b r
  obtain ⟨M, W, U, hM, hX, h⟩ := h
  refine ⟨Nat.le_of_ble_eq_true rfl, ⟨by decide, hX.1.2.2.1, fun i hi hi3 => ?_, fun n => clsF h (oLook_1 _ _ _ _ W U n) (by decide)⟩⟩
  subst hi
  have C := isC_n hi3
  refine ⟨by decide, fun P1 => ⟨by decide, fun P2 => ⟨by decide, fun P3 => ⟨by decide, fun q => ?_, fun q => clsF h (oLook_3 _ _ _ _ W U (nn C) (nn ⟨⟨P1, P2⟩, P3⟩) (by rw [sNi (by omega)]; exact (hX.cn hM hi3).2.mp q)) (by decide)⟩, fun n => clsF h (oLook_2 _ _ _ _ W U (nn C) fun w => n w.2) (by decide)⟩, fun n => clsF h (oLook_2 _ _ _ _ W U (nn C) fun w => n w.1.2) (by decide)⟩, fun n => clsF h (oLook_2 _ _ _ _ W U (nn C) fun w => n w.1.1) (by decide)⟩
  have ex := oLook_0 (nI i) a b r W U (nn C) (nn ⟨⟨P1, P2⟩, P3⟩) (nn (by rw [sNi (by omega)]; exact (hX.cn hM hi3).1.mp q))
  rw [sNi (by omega)] at ex
  rw [ex] at h
  refine ⟨U, W, hX.2, hX.1, hM.c01, Or.inl (by omega), fun ν hν hf => ?_⟩
  have hY := hX.pushed hν hf
  have hZ := (((hY.cl hi3).s6 (k := 1) (by omega) a).s6 (k := 2) (by omega) b).s6 (k := 3) (by omega) r
  have o : ∀ z, ¬ z = x + 7 + 161 * i → (up2 (up2 (up2 ν.1 (x + 7 + 161 * i) 1 a) (x + 7 + 161 * i) 2 b) (x + 7 + 161 * i) 3 r) z = ν.1 z := fun z hz => by
    rw [u2_ne _ _ hz, u2_ne _ _ hz, u2_ne _ _ hz]
  have hZ1 := hZ.1
  refine ⟨aimC (wC W i) a b r, wE W, hZ1, fun e he => ?_, ?_⟩
  · show (up2 (up2 (up2 ν.1 (x + 7 + 161 * i) 1 a) (x + 7 + 161 * i) 2 b) (x + 7 + 161 * i) 3 r) (x + 3) e = _ ∧ _
    rw [o _ (by omega)]
    exact ⟨(hY.1.2.1 e he).1, (hM.1 e he).1⟩
  · refine h.1 rfl (up2 (up2 (up2 ν.1 (x + 7 + 161 * i) 1 a) (x + 7 + 161 * i) 2 b) (x + 7 + 161 * i) 3 r, ν.2) (hY.1.cl hi3 (by rw [CXo.a]; exact hZ) fun z hz => ⟨o z (by omega), rfl⟩) (hY.2.keep (fun z z1 z2 => o z (by omega)) fun _ _ _ => rfl) ⟨fun z hz => ⟨(o z (by omega)).trans (hf.1 z (by omega)).1, (hf.1 z (by omega)).2⟩, hf.2⟩
def sp_X9_disconnect : SPc := fun As μ K => match As with
  | [.inr (.inr (19, x)), .inl c] => ∃ (M : Nat) (W : WS) (U : List WS), WOK M W ∧ CXo μ x W U ∧ clsK xc3 (oDis c W U) μ x K
  | _ => False
def ct_X9_disconnect : List (Nat × CI) := [(69, ci_X9_clientOf), (89, ci_X9_checkConnected), (31, ci_X7_push), (79, ci_X1_reset)]
def ci_X9_disconnect : CI := (yX9_disconnect, cX9_disconnect, 4, some .int, 2, (7, 2, 12, 125), 18, [], sp_X9_disconnect)
set_option maxRecDepth 100000 in
theorem ck_X9_disconnect : chkM ci_X9_disconnect RX9 co_X9_disconnect ct_X9_disconnect [] false false = true := by decide +kernel
set_option maxHeartbeats 4000000 in
set_option maxRecDepth 100000 in
theorem ms_X9_disconnect {g : GPT} {ot : OT} {l : Launch} (hl : l.stackTraces = false) : MS g ot l ci_X9_disconnect := by
  refine ms0_of hl RX9 co_X9_disconnect ct_X9_disconnect [] false false 25 ck_X9_disconnect (List.forall_mem_cons.mpr ⟨ms_X9_clientOf hl, List.forall_mem_cons.mpr ⟨ms_X9_checkConnected hl, List.forall_mem_cons.mpr ⟨ms_X7_push hl, List.forall_mem_cons.mpr ⟨ms_X1_reset hl, fun _ h => nomatch h⟩⟩⟩⟩) ?_
  intro As μ K h
  simp only [ci_X9_disconnect, sp_X9_disconnect] at h
  split at h
  case h_2 => exact h.elim
  rename_i x c
  obtain ⟨M, W, U, hM, hX, h⟩ := h
  refine ⟨Nat.le_of_ble_eq_true rfl, ⟨by decide, hX.1.2.2.1, fun i hi hi3 => ?_, fun n => clsF h (oDis_1 _ W U n) (by decide)⟩⟩
  subst hi
  have C := isC_n hi3
  refine ⟨by decide, fun q => ?_, fun q => clsF h (oDis_2 _ W U (nn C) (by rw [sNi (by omega)]; exact (hX.cn hM hi3).2.mp q)) (by decide)⟩
  have ex := oDis_0 (nI i) W U (nn C) (nn (by rw [sNi (by omega)]; exact (hX.cn hM hi3).1.mp q))
  rw [sNi (by omega)] at ex
  rw [ex] at h
  refine ⟨U, W, hX.2, hX.1, hM.c01, Or.inl (by omega), fun ν hν hf => ⟨0, rfl, by omega, ?_⟩⟩
  have hY := hX.pushed hν hf
  have hC := hY.cl hi3
  have e8 : ν.1 (x + 7 + 161 * i + 1) 0 = cS (wC W i) 8 := hC.1.2.1 0 (by omega) (by omega)
  refine ⟨hC.sl, fun F' hF' hFo => ?_⟩
  have hFo : ∀ z, (z < x + 7 + 161 * i ∨ x + 7 + 161 * i + 161 ≤ z) → F' z = ν.1 z := hFo
  show K (.inl (some (.inl (ν.1 (x + 7 + 161 * i + 1) 0)))) (F', ν.2)
  rw [e8]
  exact h.1 rfl (F', ν.2) (hY.1.cl hi3 (by rw [CXo.a]; exact hF') fun z hz => ⟨hFo z (by omega), rfl⟩) (hY.2.keep (fun z z1 z2 => hFo z (by omega)) fun _ _ _ => rfl) ⟨fun z hz => ⟨(hFo z (by omega)).trans (hf.1 z (by omega)).1, (hf.1 z (by omega)).2⟩, hf.2⟩
theorem CW.tm {F : Nat → Nat → Int32} {G : Nat → Nat → Nat} {w : Nat} {T : Nat → Int32} {E : Nat → Nat → Int32} {C : Nat → CS} (h : CW F G w (T, E, C)) (k : Nat) (v : Int32) : CW (up2 F w k v) G w (upd T k v, E, C) := by
  obtain ⟨h1, h2, h3, h4⟩ := h
  refine ⟨fun j hj => ?_, h2.keep fun z z1 z2 => u2_ne _ _ (by omega), h3, fun c hc => (h4 c hc).keep (fun z z1 z2 => u2_ne _ _ (by omega)) fun _ _ _ => rfl⟩
  show up2 F w k v w j = upd T k v j
  by_cases q : j = k
  · rw [q, u2_eq, upd_eq]
  · rw [u2_nj _ _ q, upd_ne _ _ q]
    exact h1 j hj
def sp_X9_setTimes : SPc := fun As μ K => match As with
  | [.inr (.inr (19, x)), .inl d, .inl i] => ∃ (M : Nat) (W : WS) (U : List WS), WOK M W ∧ CXo μ x W U ∧ clsK xc2 (oTimes d i W U) μ x K
  | _ => False
def ct_X9_setTimes : List (Nat × CI) := [(27, ci_X9_checkRange), (31, ci_X7_push)]
def ci_X9_setTimes : CI := (yX9_setTimes, cX9_setTimes, 4, some .int, 3, (7, 2, 12, 125), 18, [], sp_X9_setTimes)
set_option maxRecDepth 100000 in
theorem ck_X9_setTimes : chkM ci_X9_setTimes RX9 co_X9_setTimes ct_X9_setTimes [] false false = true := by decide +kernel
set_option maxHeartbeats 4000000 in
set_option maxRecDepth 100000 in
theorem ms_X9_setTimes {g : GPT} {ot : OT} {l : Launch} (hl : l.stackTraces = false) : MS g ot l ci_X9_setTimes := by
  refine ms0_of hl RX9 co_X9_setTimes ct_X9_setTimes [] false false 32 ck_X9_setTimes (List.forall_mem_cons.mpr ⟨ms_X9_checkRange hl, List.forall_mem_cons.mpr ⟨ms_X7_push hl, fun _ h => nomatch h⟩⟩) ?_
  intro As μ K h
  simp only [ci_X9_setTimes, sp_X9_setTimes] at h
  split at h
  case h_2 => exact h.elim
  rename_i x d i
  obtain ⟨M, W, U, hM, hX, h⟩ := h
  refine ⟨Nat.le_of_ble_eq_true rfl, ⟨by decide, fun P1 => ⟨by decide, fun P2 => ?_, fun n => clsF h (oTimes_1 _ _ W U fun w => n w.2) (by decide)⟩, fun n => clsF h (oTimes_1 _ _ W U fun w => n w.1) (by decide)⟩⟩
  have ex := oTimes_0 d i W U (nn ⟨P1, P2⟩)
  rw [ex] at h
  refine ⟨U, W, hX.2, hX.1, hM.c01, Or.inl (by omega), fun ν hν hf => ?_⟩
  have hY := hX.pushed hν hf
  have e1 : ν.1 (x + 1) 1 = wT W 1 := hY.1.1 1 (by omega)
  show K (.inl (some (.inl (ν.1 (x + 1) 1)))) (up2 (up2 ν.1 (x + 1) 1 d) (x + 1) 2 i, ν.2)
  rw [e1]
  exact h.1 rfl _ (CW.tm (CW.tm hY.1 1 d) 2 i) ((hY.2.up (by omega) _).up (by omega) _) (FRm.up (ν := (up2 ν.1 (x + 1) 1 d, ν.2)) ((hf.mono (by omega) (by omega)).up (by omega) _) (by omega) _)
def sp_X9_lose : SPc := fun As μ K => match As with
  | [.inr (.inr (19, x)), .inl c, .inl a, .inl b] => ∃ (M : Nat) (W : WS) (U : List WS), WOK M W ∧ CXo μ x W U ∧ clsK xc0 (oLose c a b W U) μ x K
  | _ => False
def ct_X9_lose : List (Nat × CI) := [(69, ci_X9_clientOf), (27, ci_X9_checkRange), (89, ci_X9_checkConnected), (31, ci_X7_push)]
def ci_X9_lose : CI := (yX9_lose, cX9_lose, 6, some .int, 4, (7, 4, 24, 125), 18, [], sp_X9_lose)
set_option maxRecDepth 100000 in
theorem ck_X9_lose : chkM ci_X9_lose RX9 co_X9_lose ct_X9_lose [] false false = true := by decide +kernel
set_option maxHeartbeats 4000000 in
set_option maxRecDepth 100000 in
theorem ms_X9_lose {g : GPT} {ot : OT} {l : Launch} (hl : l.stackTraces = false) : MS g ot l ci_X9_lose := by
  refine ms0_of hl RX9 co_X9_lose ct_X9_lose [] false false 35 ck_X9_lose (List.forall_mem_cons.mpr ⟨ms_X9_clientOf hl, List.forall_mem_cons.mpr ⟨ms_X9_checkRange hl, List.forall_mem_cons.mpr ⟨ms_X9_checkConnected hl, List.forall_mem_cons.mpr ⟨ms_X7_push hl, fun _ h => nomatch h⟩⟩⟩⟩) ?_
  intro As μ K h
  simp only [ci_X9_lose, sp_X9_lose] at h
  split at h
  case h_2 => exact h.elim
  rename_i x c a b
  obtain ⟨M, W, U, hM, hX, h⟩ := h
  refine ⟨Nat.le_of_ble_eq_true rfl, ⟨by decide, hX.1.2.2.1, fun i hi hi3 => ?_, fun n => clsF h (oLose_1 _ _ _ W U n) (by decide)⟩⟩
  subst hi
  have C := isC_n hi3
  refine ⟨by decide, fun P1 => ⟨by decide, fun P2 => ⟨by decide, fun q => ?_, fun q => clsF h (oLose_3 _ _ _ W U (nn C) (nn ⟨P1, P2⟩) (by rw [sNi (by omega)]; exact (hX.cn hM hi3).2.mp q)) (by decide)⟩, fun n => clsF h (oLose_2 _ _ _ W U (nn C) fun w => n w.2) (by decide)⟩, fun n => clsF h (oLose_2 _ _ _ W U (nn C) fun w => n w.1) (by decide)⟩
  have ex := oLose_0 (nI i) a b W U (nn C) (nn ⟨P1, P2⟩) (nn (by rw [sNi (by omega)]; exact (hX.cn hM hi3).1.mp q))
  rw [sNi (by omega)] at ex
  rw [ex] at h
  refine ⟨U, W, hX.2, hX.1, hM.c01, Or.inl (by omega), fun ν hν hf => ?_⟩
  have hY := hX.pushed hν hf
  have hZ := ((hY.cl hi3).s6 (k := 5) (by omega) a).s6 (k := 6) (by omega) b
  have o : ∀ z, ¬ z = x + 7 + 161 * i → (up2 (up2 ν.1 (x + 7 + 161 * i) 5 a) (x + 7 + 161 * i) 6 b) z = ν.1 z := fun z hz => by
    rw [u2_ne _ _ hz, u2_ne _ _ hz]
  have e5 : ν.1 (x + 7 + 161 * i) 5 = cS (wC W i) 5 := (hY.cl hi3).1.1 5 (by omega)
  show K (.inl (some (.inl (ν.1 (x + 7 + 161 * i) 5)))) (up2 (up2 ν.1 (x + 7 + 161 * i) 5 a) (x + 7 + 161 * i) 6 b, ν.2)
  rw [e5]
  exact h.1 rfl _ (hY.1.cl hi3 (by rw [CXo.a]; exact hZ) fun z hz => ⟨o z (by omega), rfl⟩) (hY.2.keep (fun z z1 z2 => o z (by omega)) fun _ _ _ => rfl) ⟨fun z hz => ⟨(o z (by omega)).trans (hf.1 z (by omega)).1, (hf.1 z (by omega)).2⟩, hf.2⟩
def ctL (x n k : Nat) : LC := [some (.inr (.inr (19, x))), some (.inl (nI n)), some (.inl (nI k))]
def sp_X9_tick : SPc := fun As μ K => match As with
  | [.inr (.inr (19, x)), .inl n] => ∃ (M : Nat) (W : WS) (U : List WS), WOK M W ∧ CXo μ x W U ∧ (∀ k, k < 50 → TKP (tkN W k) ∧ TKC (tkN W k)) ∧ clsK xc2 (oTick n W U) μ x K
  | _ => False
def ct_X9_tick : List (Nat × CI) := [(27, ci_X9_checkRange), (31, ci_X7_push), (113, ci_X8_pass)]
def ci_X9_tick : CI := (yX9_tick, cX9_tick, 3, some .int, 2, (7, 1, 6, 158), 18, [], sp_X9_tick)
set_option maxRecDepth 100000 in
theorem ck_X9_tick : chkM ci_X9_tick RX9 co_X9_tick ct_X9_tick [] false false = true := by decide +kernel
set_option maxHeartbeats 4000000 in
set_option maxRecDepth 100000 in
theorem ms_X9_tick {g : GPT} {ot : OT} {l : Launch} (hl : l.stackTraces = false) (hot : otOK ot) : MS g ot l ci_X9_tick := by
  refine ms_of hl RX9 co_X9_tick ct_X9_tick [] false false [20] 28 ck_X9_tick (List.forall_mem_cons.mpr ⟨ms_X9_checkRange hl, List.forall_mem_cons.mpr ⟨ms_X7_push hl, List.forall_mem_cons.mpr ⟨ms_X8_pass hl hot, fun _ h => nomatch h⟩⟩⟩) ?_
  intro As μ K h
  simp only [ci_X9_tick, sp_X9_tick] at h
  split at h
  case h_2 => exact h.elim
  rename_i x n
  obtain ⟨M, W, U, hM, hX, hT, h⟩ := h
  refine ⟨Nat.le_of_ble_eq_true rfl, fun m pc lc st μ' ce sl => ∃ k d, d ≤ 50 ∧ k ≤ d ∧ m = d - k ∧ pc = 20 ∧ oTick n W U = (0, wT (tkN W d) 0, tkN W d, pushU W U) ∧ CXo μ' x (tkN W k) (pushU W U) ∧ FRm μ μ' x (x + 1959) ∧ lc = ctL x d k ∧ st = [] ∧ ce = 1 ∧ sl = 6, ⟨by decide, fun P => ?_, fun q => clsF h (oTick_1 _ W U q) (by decide)⟩, ?_⟩
  · have ex := oTick_0 n W U (nn P)
    obtain ⟨d, hd, rfl, sd⟩ := r_nat (n := 50) (by omega) ⟨Int32.le_trans (by decide : (0 : Int32) ≤ 1) P.1, P.2⟩
    rw [sd] at ex
    exact ⟨U, W, hX.2, hX.1, hM.c01, Or.inl (by omega), fun ν hν hf => ⟨d, ctL x d 0, ⟨rfl, rfl, rfl, trivial⟩, 0, d, hd, Nat.zero_le _, rfl, rfl, ex, hX.pushed hν hf, hf.mono (by omega) (by omega), rfl, rfl, rfl, rfl⟩⟩
  · rintro m pc lc st ν ce sl ⟨k, d, hd, hk, rfl, rfl, ex, hY, hf, rfl, rfl, rfl, rfl⟩
    refine ⟨fun q => ?_, fun q => ?_⟩
    · simp only [icP, ifP, iL, iM1] at q
      try simp only [z_nI] at q
      try simp only [nI_add, nI_mul] at q
      first | rw [nI_le_iff (by omega) (by omega)] at q | rw [nI_lt_iff (by omega) (by omega)] at q | rw [nI_eq_iff (by omega) (by omega)] at q
      obtain rfl : k = d := by omega
      have t0 : ν.1 (x + 1) 0 = wT (tkN W k) 0 := hY.1.1 0 (by omega)
      have := h.1 (by rw [ex]) ν (by rw [ex]; exact hY.1) (by rw [ex]; exact hY.2) hf
      rw [ex] at this
      show K (.inl (some (.inl (ν.1 (x + 1) 0)))) ν
      rw [t0]
      exact this
    · simp only [icP, ifP, iL, iM1] at q
      try simp only [z_nI] at q
      try simp only [nI_add, nI_mul] at q
      first | rw [nI_le_iff (by omega) (by omega)] at q | rw [nI_lt_iff (by omega) (by omega)] at q | rw [nI_eq_iff (by omega) (by omega)] at q
      obtain ⟨t1, t2⟩ := hT k (by omega)
      exact ⟨tkN W k, hY.1, t1, t2, fun ν' hν' hf' => ⟨d - (k + 1), ctL x d (k + 1), by omega, ⟨rfl, rfl, inc_tv k, trivial⟩, k + 1, d, hd, by omega, rfl, rfl, ex, ⟨hν', hY.2.keep (fun z z1 z2 => (hf'.1 z (by omega)).1) fun z z1 z2 => (hf'.1 z (by omega)).2⟩, hf.trans (hf'.mono (by omega) (by omega)), rfl, rfl, rfl, rfl⟩⟩
def sp_X9_time : SPc := fun As μ K => match As with
  | [.inr (.inr (19, x))] => ∃ (W : WS) (U : List WS), CXo μ x W U ∧ K (.inl (some (.inl (wT W 0)))) μ
  | _ => False
def ct_X9_time : List (Nat × CI) := []
def ci_X9_time : CI := (yX9_time, cX9_time, 1, some .int, 1, (0, 0, 0, 0), 18, [], sp_X9_time)
set_option maxRecDepth 100000 in
theorem ck_X9_time : chkM ci_X9_time RX9 co_X9_time ct_X9_time [] false false = true := by decide +kernel
set_option maxHeartbeats 4000000 in
set_option maxRecDepth 100000 in
theorem ms_X9_time {g : GPT} {ot : OT} {l : Launch} (hl : l.stackTraces = false) : MS g ot l ci_X9_time := by
  refine ms0_of hl RX9 co_X9_time ct_X9_time [] false false 9 ck_X9_time (fun _ h => nomatch h) ?_
  intro As μ K h
  simp only [ci_X9_time, sp_X9_time] at h
  split at h
  case h_2 => exact h.elim
  rename_i x
  obtain ⟨W, U, hX, h⟩ := h
  refine ⟨Nat.le_of_ble_eq_true rfl, ?_⟩
  rw [← hX.1.1 0 (by omega)] at h
  exact h
def sp_X9_copy : SPc := fun As μ K => match As with
  | [.inr (.inr (19, x)), .inl c, .inl e, .inl w] => ∃ (M : Nat) (W : WS) (U : List WS), WOK M W ∧ CXo μ x W U ∧ clsK xc0 (oCopy c e w W U) μ x K
  | _ => False
def ct_X9_copy : List (Nat × CI) := [(69, ci_X9_clientOf), (23, ci_X9_checkEntity), (27, ci_X9_checkRange), (123, ci_X5_value)]
def ci_X9_copy : CI := (yX9_copy, cX9_copy, 5, some .int, 4, (7, 3, 18, 112), 18, [], sp_X9_copy)
set_option maxRecDepth 100000 in
theorem ck_X9_copy : chkM ci_X9_copy RX9 co_X9_copy ct_X9_copy [] false false = true := by decide +kernel
set_option maxHeartbeats 4000000 in
set_option maxRecDepth 100000 in
theorem ms_X9_copy {g : GPT} {ot : OT} {l : Launch} (hl : l.stackTraces = false) (hot : otOK ot) : MS g ot l ci_X9_copy := by
  refine ms0_of hl RX9 co_X9_copy ct_X9_copy [] false false 21 ck_X9_copy (List.forall_mem_cons.mpr ⟨ms_X9_clientOf hl, List.forall_mem_cons.mpr ⟨ms_X9_checkEntity hl, List.forall_mem_cons.mpr ⟨ms_X9_checkRange hl, List.forall_mem_cons.mpr ⟨ms_X5_value hl hot, fun _ h => nomatch h⟩⟩⟩⟩) ?_
  intro As μ K h
  simp only [ci_X9_copy, sp_X9_copy] at h
  split at h
  case h_2 => exact h.elim
  rename_i x c e w
  obtain ⟨M, W, U, hM, hX, h⟩ := h
  refine ⟨Nat.le_of_ble_eq_true rfl, ⟨by decide, hX.1.2.2.1, fun i hi hi3 => ?_, fun n => clsF h (oCopy_1 _ _ _ W U fun z => n z.1) (by decide)⟩⟩
  subst hi
  have C := isC_n hi3
  refine ⟨by decide, fun E => ⟨by decide, fun P => ?_, fun n => clsF h (oCopy_2 _ _ _ W U (nn ⟨C, E⟩) n) (by decide)⟩, fun n => clsF h (oCopy_1 _ _ _ W U fun z => n z.2) (by decide)⟩
  obtain ⟨j, hj, rfl, sj⟩ := e_nat E
  obtain ⟨d, hd, rfl, sd⟩ := r_nat (n := 6) (by omega) P
  have ex := oCopy_0 (nI i) (nI j) (nI d) W U (nn ⟨C, E⟩) (nn P)
  rw [sNi (j := i) (by omega), sj, sd] at ex
  obtain ⟨T, _, _, hc⟩ := hM.cl hi3
  exact ⟨j, d, cR (wC W i) j, rfl, rfl, hj, by omega, (hX.cl hi3).2.2.1 j hj, (hc.2.1 j hj).2, clsR h hX ex⟩
def sp_X9_kept : SPc := fun As μ K => match As with
  | [.inr (.inr (19, x)), .inl c, .inl e, .inl w] => ∃ (M : Nat) (W : WS) (U : List WS), WOK M W ∧ CXo μ x W U ∧ clsK xc0 (oKept c e w W U) μ x K
  | _ => False
def ct_X9_kept : List (Nat × CI) := [(69, ci_X9_clientOf), (23, ci_X9_checkEntity), (27, ci_X9_checkRange), (89, ci_X9_checkConnected), (126, ci_X1_keptValue)]
def ci_X9_kept : CI := (yX9_kept, cX9_kept, 5, some .int, 4, (7, 4, 24, 112), 18, [], sp_X9_kept)
set_option maxRecDepth 100000 in
theorem ck_X9_kept : chkM ci_X9_kept RX9 co_X9_kept ct_X9_kept [] false false = true := by decide +kernel
set_option maxHeartbeats 4000000 in
set_option maxRecDepth 100000 in
theorem ms_X9_kept {g : GPT} {ot : OT} {l : Launch} (hl : l.stackTraces = false) (hot : otOK ot) : MS g ot l ci_X9_kept := by
  refine ms0_of hl RX9 co_X9_kept ct_X9_kept [] false false 25 ck_X9_kept (List.forall_mem_cons.mpr ⟨ms_X9_clientOf hl, List.forall_mem_cons.mpr ⟨ms_X9_checkEntity hl, List.forall_mem_cons.mpr ⟨ms_X9_checkRange hl, List.forall_mem_cons.mpr ⟨ms_X9_checkConnected hl, List.forall_mem_cons.mpr ⟨ms_X1_keptValue hl hot, fun _ h => nomatch h⟩⟩⟩⟩⟩) ?_
  intro As μ K h
  simp only [ci_X9_kept, sp_X9_kept] at h
  split at h
  case h_2 => exact h.elim
  rename_i x c e w
  obtain ⟨M, W, U, hM, hX, h⟩ := h
  refine ⟨Nat.le_of_ble_eq_true rfl, ⟨by decide, hX.1.2.2.1, fun i hi hi3 => ?_, fun n => clsF h (oKept_1 _ _ _ W U fun z => n z.1) (by decide)⟩⟩
  subst hi
  have C := isC_n hi3
  refine ⟨by decide, fun E => ⟨by decide, fun P => ⟨by decide, fun q => ?_, fun q => clsF h (oKept_3 _ _ _ W U (nn ⟨C, E⟩) (nn P) (by rw [sNi (j := i) (by omega)]; exact (hX.cn hM hi3).2.mp q)) (by decide)⟩, fun n => clsF h (oKept_2 _ _ _ W U (nn ⟨C, E⟩) n) (by decide)⟩, fun n => clsF h (oKept_1 _ _ _ W U fun z => n z.2) (by decide)⟩
  obtain ⟨j, hj, rfl, sj⟩ := e_nat E
  obtain ⟨d, hd, rfl, sd⟩ := r_nat (n := 8) (by omega) P
  have ex := oKept_0 (nI i) (nI j) (nI d) W U (nn ⟨C, E⟩) (nn P) (nn (by rw [sNi (j := i) (by omega)]; exact (hX.cn hM hi3).1.mp q))
  rw [sNi (j := i) (by omega), sj, sd] at ex
  obtain ⟨T, _, _, hc⟩ := hM.cl hi3
  exact ⟨j, d, wC W i, wE W, rfl, rfl, hj, by omega, (hX.cl hi3).1, (hX.cl hi3).2.1, SE.of hX.1.2.1 hM.1, hc.2.2.1 j hj, clsR h hX ex⟩
def sp_X9_count : SPc := fun As μ K => match As with
  | [.inr (.inr (19, x)), .inl c, .inl w] => ∃ (M : Nat) (W : WS) (U : List WS), WOK M W ∧ CXo μ x W U ∧ clsK xc0 (oCnt c w W U) μ x K
  | _ => False
def ct_X9_count : List (Nat × CI) := [(69, ci_X9_clientOf), (27, ci_X9_checkRange), (130, ci_X1_countValue)]
def ci_X9_count : CI := (yX9_count, cX9_count, 4, some .int, 3, (7, 2, 12, 112), 18, [], sp_X9_count)
set_option maxRecDepth 100000 in
theorem ck_X9_count : chkM ci_X9_count RX9 co_X9_count ct_X9_count [] false false = true := by decide +kernel
set_option maxHeartbeats 4000000 in
set_option maxRecDepth 100000 in
theorem ms_X9_count {g : GPT} {ot : OT} {l : Launch} (hl : l.stackTraces = false) : MS g ot l ci_X9_count := by
  refine ms0_of hl RX9 co_X9_count ct_X9_count [] false false 17 ck_X9_count (List.forall_mem_cons.mpr ⟨ms_X9_clientOf hl, List.forall_mem_cons.mpr ⟨ms_X9_checkRange hl, List.forall_mem_cons.mpr ⟨ms_X1_countValue hl, fun _ h => nomatch h⟩⟩⟩) ?_
  intro As μ K h
  simp only [ci_X9_count, sp_X9_count] at h
  split at h
  case h_2 => exact h.elim
  rename_i x c w
  obtain ⟨M, W, U, hM, hX, h⟩ := h
  refine ⟨Nat.le_of_ble_eq_true rfl, ⟨by decide, hX.1.2.2.1, fun i hi hi3 => ?_, fun n => clsF h (oCnt_1 _ _ W U n) (by decide)⟩⟩
  subst hi
  have C := isC_n hi3
  refine ⟨by decide, fun P => ?_, fun n => clsF h (oCnt_2 _ _ W U (nn C) n) (by decide)⟩
  obtain ⟨d, hd, rfl, sd⟩ := r_nat (n := 8) (by omega) P
  have ex := oCnt_0 (nI i) (nI d) W U (nn C) (nn P)
  rw [sNi (j := i) (by omega), sd] at ex
  exact ⟨d, wC W i, rfl, by omega, (hX.cl hi3).1, (hX.cl hi3).2.2.2.1.1, clsR h hX ex⟩
def sp_X9_stale : SPc := fun As μ K => match As with
  | [.inr (.inr (19, x)), .inl c] => ∃ (M : Nat) (W : WS) (U : List WS), WOK M W ∧ CXo μ x W U ∧ clsK xc3 (oStale c W U) μ x K
  | _ => False
def ct_X9_stale : List (Nat × CI) := [(69, ci_X9_clientOf), (89, ci_X9_checkConnected), (133, ci_X1_staleCopies)]
def ci_X9_stale : CI := (yX9_stale, cX9_stale, 3, some .int, 2, (7, 2, 12, 111), 18, [], sp_X9_stale)
set_option maxRecDepth 100000 in
theorem ck_X9_stale : chkM ci_X9_stale RX9 co_X9_stale ct_X9_stale [] false false = true := by decide +kernel
set_option maxHeartbeats 4000000 in
set_option maxRecDepth 100000 in
theorem ms_X9_stale {g : GPT} {ot : OT} {l : Launch} (hl : l.stackTraces = false) (hot : otOK ot) : MS g ot l ci_X9_stale := by
  refine ms0_of hl RX9 co_X9_stale ct_X9_stale [] false false 17 ck_X9_stale (List.forall_mem_cons.mpr ⟨ms_X9_clientOf hl, List.forall_mem_cons.mpr ⟨ms_X9_checkConnected hl, List.forall_mem_cons.mpr ⟨ms_X1_staleCopies hl hot, fun _ h => nomatch h⟩⟩⟩) ?_
  intro As μ K h
  simp only [ci_X9_stale, sp_X9_stale] at h
  split at h
  case h_2 => exact h.elim
  rename_i x c
  obtain ⟨M, W, U, hM, hX, h⟩ := h
  refine ⟨Nat.le_of_ble_eq_true rfl, ⟨by decide, hX.1.2.2.1, fun i hi hi3 => ?_, fun n => clsF h (oStale_1 _ W U n) (by decide)⟩⟩
  subst hi
  have C := isC_n hi3
  refine ⟨by decide, fun q => ?_, fun q => clsF h (oStale_2 _ W U (nn C) (by rw [sNi (j := i) (by omega)]; exact (hX.cn hM hi3).2.mp q)) (by decide)⟩
  have ex := oStale_0 (nI i) W U (nn C) (nn (by rw [sNi (j := i) (by omega)]; exact (hX.cn hM hi3).1.mp q))
  rw [sNi (j := i) (by omega)] at ex
  exact ⟨wC W i, wE W, (hX.cl hi3).1, (hX.cl hi3).2.2.1, SE.of hX.1.2.1 hM.1, clsR h hX ex⟩
def sp_X9_price : SPc := fun As μ K => match As with
  | [.inr (.inr (19, x)), .inl c, .inl e] => ∃ (M : Nat) (W : WS) (U : List WS), WOK M W ∧ CXo μ x W U ∧ clsK xc3 (oPrice c e W U) μ x K
  | _ => False
def ct_X9_price : List (Nat × CI) := [(69, ci_X9_clientOf), (23, ci_X9_checkEntity), (89, ci_X9_checkConnected), (149, ci_X1_entryBytes)]
def ci_X9_price : CI := (yX9_price, cX9_price, 4, some .int, 3, (7, 3, 18, 111), 18, [], sp_X9_price)
set_option maxRecDepth 100000 in
theorem ck_X9_price : chkM ci_X9_price RX9 co_X9_price ct_X9_price [] false false = true := by decide +kernel
set_option maxHeartbeats 4000000 in
set_option maxRecDepth 100000 in
theorem ms_X9_price {g : GPT} {ot : OT} {l : Launch} (hl : l.stackTraces = false) (hot : otOK ot) : MS g ot l ci_X9_price := by
  refine ms0_of hl RX9 co_X9_price ct_X9_price [] false false 20 ck_X9_price (List.forall_mem_cons.mpr ⟨ms_X9_clientOf hl, List.forall_mem_cons.mpr ⟨ms_X9_checkEntity hl, List.forall_mem_cons.mpr ⟨ms_X9_checkConnected hl, List.forall_mem_cons.mpr ⟨ms_X1_entryBytes hl hot, fun _ h => nomatch h⟩⟩⟩⟩) ?_
  intro As μ K h
  simp only [ci_X9_price, sp_X9_price] at h
  split at h
  case h_2 => exact h.elim
  rename_i x c e
  obtain ⟨M, W, U, hM, hX, h⟩ := h
  refine ⟨Nat.le_of_ble_eq_true rfl, ⟨by decide, hX.1.2.2.1, fun i hi hi3 => ?_, fun n => clsF h (oPrice_1 _ _ W U fun z => n z.1) (by decide)⟩⟩
  subst hi
  have C := isC_n hi3
  refine ⟨by decide, fun E => ⟨by decide, fun q => ?_, fun q => clsF h (oPrice_2 _ _ W U (nn ⟨C, E⟩) (by rw [sNi (j := i) (by omega)]; exact (hX.cn hM hi3).2.mp q)) (by decide)⟩, fun n => clsF h (oPrice_1 _ _ W U fun z => n z.2) (by decide)⟩
  obtain ⟨j, hj, rfl, sj⟩ := e_nat E
  have ex := oPrice_0 (nI i) (nI j) W U (nn ⟨C, E⟩) (nn (by rw [sNi (j := i) (by omega)]; exact (hX.cn hM hi3).1.mp q))
  rw [sNi (j := i) (by omega), sj] at ex
  obtain ⟨T, _, _, hc⟩ := hM.cl hi3
  exact ⟨j, wC W i, wE W, rfl, hj, (hX.cl hi3).1, ((hX.cl hi3).2.1 j hj).2.2, SE.of hX.1.2.1 hM.1, hc.2.2.1 j hj, clsR h hX ex⟩
def sp_X9_packet : SPc := fun As μ K => match As with
  | [.inr (.inr (19, x)), .inl c, .inl i, .inl w] => ∃ (M : Nat) (W : WS) (U : List WS), WOK M W ∧ CXo μ x W U ∧ clsK xc0 (oPkt c i w W U) μ x K
  | _ => False
theorem flyA_no {X : CS} {i : Int32} (h : ∀ j, j < (flyL X).length → ¬ i = nI j) : flyA X i = none := by
  cases hq : flyA X i with
  | none => rfl
  | some p =>
    obtain ⟨n, j1, j2, j3⟩ := flyA_some hq
    exact absurd j1 (h n (List.getElem?_eq_some_iff.mp j3).1)
def ct_X9_packet : List (Nat × CI) := [(69, ci_X9_clientOf), (136, ci_X9_packetOf), (27, ci_X9_checkRange), (140, ci_X3_value)]
def ci_X9_packet : CI := (yX9_packet, cX9_packet, 5, some .int, 4, (7, 3, 18, 112), 18, [], sp_X9_packet)
set_option maxRecDepth 100000 in
theorem ck_X9_packet : chkM ci_X9_packet RX9 co_X9_packet ct_X9_packet [] false false = true := by decide +kernel
set_option maxHeartbeats 4000000 in
set_option maxRecDepth 100000 in
theorem ms_X9_packet {g : GPT} {ot : OT} {l : Launch} (hl : l.stackTraces = false) : MS g ot l ci_X9_packet := by
  refine ms0_of hl RX9 co_X9_packet ct_X9_packet [] false false 22 ck_X9_packet (List.forall_mem_cons.mpr ⟨ms_X9_clientOf hl, List.forall_mem_cons.mpr ⟨ms_X9_packetOf hl, List.forall_mem_cons.mpr ⟨ms_X9_checkRange hl, List.forall_mem_cons.mpr ⟨ms_X3_value hl, fun _ h => nomatch h⟩⟩⟩⟩) ?_
  intro As μ K h
  simp only [ci_X9_packet, sp_X9_packet] at h
  split at h
  case h_2 => exact h.elim
  rename_i x c i w
  obtain ⟨M, W, U, hM, hX, h⟩ := h
  refine ⟨Nat.le_of_ble_eq_true rfl, ⟨by decide, hX.1.2.2.1, fun k hi hi3 => ?_, fun n => clsF h (oPkt_1 n) (by decide)⟩⟩
  subst hi
  have C := isC_n hi3
  have hC := hX.cl hi3
  have l12 := hC.2.2.2.1.2.1
  refine ⟨by decide, flyL (wC W k), hC.2.2.2.1, fun n p hn hp => ?_, fun n => clsF h (oPkt_n C (by rw [sNi (j := k) (by omega)]; exact flyA_no n)) (by decide)⟩
  have hn2 : n < (flyL (wC W k)).length := (List.getElem?_eq_some_iff.mp hp).1
  have fa : flyA (wC W (sN (nI k))) i = some p := by rw [sNi (j := k) (by omega), hn]; exact flyA_at hp (by omega)
  refine ⟨by decide, fun P => ?_, fun q => clsF h (oPkt_r C fa q) (by decide)⟩
  obtain ⟨d, hd, rfl, sd⟩ := r_nat (n := 3) (by omega) P
  have ex := oPkt_0 (U := U) C fa P
  rw [sd, ← hX.1.1 0 (by omega)] at ex
  exact ⟨false, d, p, rfl, by omega, hC.2.2.2.1.2.2.2 n p hp, clsR h hX ex⟩
def sp_X9_entry : SPc := fun As μ K => match As with
  | [.inr (.inr (19, x)), .inl c, .inl i, .inl j, .inl w] => ∃ (M : Nat) (W : WS) (U : List WS), WOK M W ∧ CXo μ x W U ∧ clsK xc0 (oEntry c i j w W U) μ x K
  | _ => False
def ct_X9_entry : List (Nat × CI) := [(69, ci_X9_clientOf), (136, ci_X9_packetOf), (27, ci_X9_checkRange), (146, ci_X3_entryValue)]
def ci_X9_entry : CI := (yX9_entry, cX9_entry, 6, some .int, 5, (7, 4, 24, 112), 18, [], sp_X9_entry)
set_option maxRecDepth 100000 in
theorem ck_X9_entry : chkM ci_X9_entry RX9 co_X9_entry ct_X9_entry [] false false = true := by decide +kernel
set_option maxHeartbeats 4000000 in
set_option maxRecDepth 100000 in
theorem ms_X9_entry {g : GPT} {ot : OT} {l : Launch} (hl : l.stackTraces = false) : MS g ot l ci_X9_entry := by
  refine ms0_of hl RX9 co_X9_entry ct_X9_entry [] false false 27 ck_X9_entry (List.forall_mem_cons.mpr ⟨ms_X9_clientOf hl, List.forall_mem_cons.mpr ⟨ms_X9_packetOf hl, List.forall_mem_cons.mpr ⟨ms_X9_checkRange hl, List.forall_mem_cons.mpr ⟨ms_X3_entryValue hl, fun _ h => nomatch h⟩⟩⟩⟩) ?_
  intro As μ K h
  simp only [ci_X9_entry, sp_X9_entry] at h
  split at h
  case h_2 => exact h.elim
  rename_i x c i j w
  obtain ⟨M, W, U, hM, hX, h⟩ := h
  refine ⟨Nat.le_of_ble_eq_true rfl, ⟨by decide, hX.1.2.2.1, fun k hi hi3 => ?_, fun n => clsF h (oEntry_1 n) (by decide)⟩⟩
  subst hi
  have C := isC_n hi3
  have hC := hX.cl hi3
  have l12 := hC.2.2.2.1.2.1
  obtain ⟨T, _, _, hc⟩ := hM.cl hi3
  refine ⟨by decide, flyL (wC W k), hC.2.2.2.1, fun n p hn hp => ?_, fun n => clsF h (oEntry_n C (by rw [sNi (j := k) (by omega)]; exact flyA_no n)) (by decide)⟩
  have hn2 : n < (flyL (wC W k)).length := (List.getElem?_eq_some_iff.mp hp).1
  have fa : flyA (wC W (sN (nI k))) i = some p := by rw [sNi (j := k) (by omega), hn]; exact flyA_at hp (by omega)
  have hpc := hC.2.2.2.1.2.2.2 n p hp
  have e2 : μ.1 (μ.2.1 (x + 7 + 161 * k + 10) n) 2 = nI p.2.length := hpc.2.2.1
  have h16 := hpc.2.2.2.2.2.1
  refine ⟨by decide, fun Q => ?_, fun q => ?_⟩
  · have Q : inR 0 (μ.1 (μ.2.1 (x + 7 + 161 * k + 10) n) 2 - nI 1) j := Q
    rw [e2] at Q
    obtain ⟨y, en, y1, y2, y3, y4⟩ := entA_in h16 Q
    refine ⟨by decide, fun P => ?_, fun q => clsF h (oEntry_r C fa y4 q) (by decide)⟩
    obtain ⟨d, hd, rfl, sd⟩ := r_nat (n := 4) (by omega) P
    have ex := oEntry_0 (U := U) C fa y4 P
    rw [sd] at ex
    obtain ⟨q1, q2⟩ := hc.en p (flyL_mem hp) en (List.mem_of_getElem? y3)
    exact ⟨false, y, d, p, en, y1, rfl, by omega, hpc, y3, q1, q2, clsR h hX ex⟩
  · have q : ¬ inR 0 (μ.1 (μ.2.1 (x + 7 + 161 * k + 10) n) 2 - nI 1) j := q
    rw [e2] at q
    exact clsF h (oEntry_e C fa (entA_out h16 q)) (by decide)
def sp_X9_undo : SPc := fun As μ K => match As with
  | [.inr (.inr (19, x))] => ∃ (M : Nat) (W : WS) (U : List WS), (∀ V ∈ U, WOK M V) ∧ CXo μ x W U ∧ clsK xcU (oUndo W U) μ x K
  | _ => False
def ct_X9_undo : List (Nat × CI) := [(163, ci_X7_popInto)]
def ci_X9_undo : CI := (yX9_undo, cX9_undo, 1, some .int, 1, (6, 1, 6, 125), 18, [], sp_X9_undo)
set_option maxRecDepth 100000 in
theorem ck_X9_undo : chkM ci_X9_undo RX9 co_X9_undo ct_X9_undo [] false false = true := by decide +kernel
set_option maxHeartbeats 4000000 in
set_option maxRecDepth 100000 in
theorem ms_X9_undo {g : GPT} {ot : OT} {l : Launch} (hl : l.stackTraces = false) : MS g ot l ci_X9_undo := by
  refine ms0_of hl RX9 co_X9_undo ct_X9_undo [] false false 19 ck_X9_undo (List.forall_mem_cons.mpr ⟨ms_X7_popInto hl, fun _ h => nomatch h⟩) ?_
  intro As μ K h
  simp only [ci_X9_undo, sp_X9_undo] at h
  split at h
  case h_2 => exact h.elim
  rename_i x
  obtain ⟨M, W, U, hM, hX, h⟩ := h
  have l3 := hX.2.2.1
  refine ⟨Nat.le_of_ble_eq_true rfl, fun q => ?_, fun q => ⟨by decide, ?_⟩⟩
  · have q : ¬ μ.1 (x + 490) 0 = 0 := q
    rw [hX.2.1, z_nI, nI_eq_iff (by omega) (by omega)] at q
    obtain ⟨V, U', rfl⟩ : ∃ V U', U = V :: U' := by
      cases U with
      | nil => exact absurd rfl q
      | cons V U' => exact ⟨V, U', rfl⟩
    refine ⟨U', V, hX.2, hX.1.sl, (hM V List.mem_cons_self).c01, Or.inl (by omega), fun F' hU' hW' hFo => ?_⟩
    have hFo : ∀ z, ¬ z = x + 490 → (z < x + 1 ∨ x + 1 + 489 ≤ z) → F' z = μ.1 z := hFo
    have e : F' (x + 490) 0 = nI U'.length := hU'.1
    show K (.inl (some (.inl (F' (x + 490) 0)))) (F', μ.2)
    rw [e]
    exact h.1 rfl (F', μ.2) hW' hU' ⟨fun z hz => ⟨hFo z (by omega) (by omega), rfl⟩, rfl⟩
  · have q : ¬ ¬ μ.1 (x + 490) 0 = 0 := q
    rw [hX.2.1, z_nI, nI_eq_iff (by omega) (by omega), Classical.not_not] at q
    have : U = [] := List.length_eq_zero_iff.mp q
    subst this
    exact clsF h (cd := 1) rfl (by decide)
