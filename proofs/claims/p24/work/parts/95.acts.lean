/-! THE LAW: acts. -/
def acL (x : Nat) (vx vy : Int32) (bu wh e c how : Nat) (o8 : Option TV) : LC := [some (.inr (.inr (19, x))), some (.inl vx), some (.inl vy), some (.inr (.inr (20, bu))), some (.inr (.inr (20, wh))), some (.inl (nI e)), some (.inl (nI c)), some (.inl (nI how)), o8]
theorem CXo.upA {μ : MM} {x : Nat} {W : WS} {U : List WS} (h : CXo μ x W U) {F : Nat → Nat → Int32} (hF : ∀ z, x ≤ z → z < x + 1959 → F z = μ.1 z) : CXo (F, μ.2) x W U := ⟨h.1.keep (fun z z1 z2 => hF z (by omega) (by omega)) fun _ _ _ => rfl, h.2.keep (fun z z1 z2 => hF z (by omega) (by omega)) fun _ _ _ => rfl⟩
theorem up2_row (F : Nat → Nat → Int32) (a j : Nat) (v : Int32) : up2 F a j v a = upd (F a) j v := by
  funext k
  exact up2_at F a j k v
def sp_L_acts : SPc := fun As μ K => match As with
  | [.inr (.inr (19, x)), .inl _, .inl _, .inr (.inr (20, bu)), .inr (.inr (20, wh))] => ∃ (M : Nat) (W : WS) (U : List WS), WKS M W U ∧ M + 200 < 2 ^ 31 ∧ CXo μ x W U ∧ x + 1959 ≤ bu ∧ x + 1959 ≤ wh ∧ ¬ bu = wh ∧ LQ M W (μ.1 bu) (μ.1 wh) ∧ ∀ (v : Int32) (μ' : MM) (W' : WS) (U' : List WS), WKS (M + 50) W' U' → CXo μ' x W' U' → LQ (M + 50) W' (μ'.1 bu) (μ'.1 wh) → (0 ≤ v ∨ (v = exV 3 ∧ (W', U') = (W, U))) → wT W 0 ≤ wT W' 0 → K (.inl (some (.inl v))) μ'
  | _ => False
def ct_L_acts : List (Nat × CI) := [(106, ci_L_low), (109, ci_L_place), (112, ci_L_setVelocity), (114, ci_L_setHealth), (116, ci_L_destroy), (118, ci_L_look), (120, ci_L_connect), (122, ci_L_lose), (124, ci_L_disconnect), (126, ci_L_setTimes), (128, ci_L_tick)]
def ci_L_acts : CI := (yL_acts, cL_acts, 9, some .int, 5, (9, 33, 198, 202), 0, [], sp_L_acts)
set_option maxRecDepth 100000 in
theorem ck_L_acts : chkM ci_L_acts RL co_L_acts ct_L_acts [] false false = true := by decide +kernel
set_option maxHeartbeats 4000000 in
set_option maxRecDepth 100000 in
theorem ms_L_acts {g : GPT} {ot : OT} {l : Launch} (hl : l.stackTraces = false) (hot : otOK ot) : MS g ot l ci_L_acts := by
  refine ms_of hl RL co_L_acts ct_L_acts [] false false [204,344,363,408] 248 ck_L_acts (List.forall_mem_cons.mpr ⟨ms_L_low hl, List.forall_mem_cons.mpr ⟨ms_L_place hl hot, List.forall_mem_cons.mpr ⟨ms_L_setVelocity hl, List.forall_mem_cons.mpr ⟨ms_L_setHealth hl hot, List.forall_mem_cons.mpr ⟨ms_L_destroy hl, List.forall_mem_cons.mpr ⟨ms_L_look hl hot, List.forall_mem_cons.mpr ⟨ms_L_connect hl, List.forall_mem_cons.mpr ⟨ms_L_lose hl, List.forall_mem_cons.mpr ⟨ms_L_disconnect hl, List.forall_mem_cons.mpr ⟨ms_L_setTimes hl, List.forall_mem_cons.mpr ⟨ms_L_tick hl hot, fun _ h => nomatch h⟩⟩⟩⟩⟩⟩⟩⟩⟩⟩⟩) ?_
  intro As μ K h
  simp only [ci_L_acts, sp_L_acts] at h
  split at h
  case h_2 => exact h.elim
  rename_i x vx vy bu wh
  obtain ⟨M, W, U, hK, hM, hX, hbu, hwh, hne, hL, h⟩ := h
  have fin : ∀ (ex : Nat → Nat) (R : RS4) (ν : MM), opG M W U ex R (ν.1 bu) (ν.1 wh) → CXo ν x R.2.2.1 R.2.2.2 → K (.inl (some (.inl (ansR ex R)))) ν := fun ex R ν g hx => h _ ν _ _ g.1 hx g.2.1 g.2.2.1 g.2.2.2
  have row : ∀ {ν ν2 : MM}, FRq ν ν2 x → ν2.1 bu = ν.1 bu ∧ ν2.1 wh = ν.1 wh := fun hf => ⟨(hf.1 bu (Or.inr hbu)).1, (hf.1 wh (Or.inr hwh)).1⟩
  have fin2 : ∀ (ex : Nat → Nat) (R : RS4) (ν ν2 : MM), opG M W U ex R (ν.1 bu) (ν.1 wh) → CXo ν2 x R.2.2.1 R.2.2.2 → FRq ν ν2 x → K (.inl (some (.inl (ansR ex R)))) ν2 := fun ex R ν ν2 g hx hf => fin ex R ν2 (by rw [(row hf).1, (row hf).2]; exact g) hx
  refine ⟨Nat.le_of_ble_eq_true rfl, fun m pc lc st μ' ce sl => st = [] ∧ ce = 0 ∧ sl = 0 ∧ ∃ e c how, e < 16 ∧ c < 3 ∧ ((pc = 204 ∧ μ' = μ ∧ lc = acL x vx vy bu wh e c how none ∧ m = 12) ∨ (pc = 344 ∧ μ' = μ ∧ lc = acL x vx vy bu wh e c how none ∧ m = 11) ∨ (pc = 408 ∧ μ' = μ ∧ lc = acL x vx vy bu wh e c how none ∧ m = 10) ∨
    (pc = 363 ∧ ∃ k F, k ≤ 3 ∧ μ' = (F, μ.2) ∧ lc = acL x vx vy bu wh e c how (some (.inl (nI k))) ∧ m = 3 - k ∧ (∀ z, ¬ z = wh → F z = μ.1 z) ∧ ∀ j, j < k → F wh j = 0)), ?_, ?_⟩
  · refine ⟨16, by omega, by omega, rfl, fun e he => ⟨3, by omega, by omega, rfl, fun c hc => ⟨16, by omega, by omega, rfl, fun how hhow => ⟨fun w4 => ?_, fun _ => ?_⟩⟩⟩⟩
    · refine ⟨fun w5 => ⟨fun w6 => ⟨fun w7 => ⟨fun w8 => ?_, fun _ => ?_⟩, fun w7 => ⟨fun w8 => ?_, fun w8 => ⟨fun w9 => ?_, fun w9 => ?_⟩⟩⟩, fun _ => ⟨fun _ => ?_, fun _ => ?_⟩⟩, fun _ => ?_⟩
      · refine ⟨fun w9 => ?_, fun w9 => ⟨fun _ => ?_, fun _ => ?_⟩⟩
        · exact ⟨11, acL x vx vy bu wh e c how none, subL_rf, rfl, rfl, rfl, e, c, how, he, hc, Or.inr (Or.inl ⟨rfl, rfl, rfl, rfl⟩)⟩
        · exact ⟨11, acL x vx vy bu wh e c how none, subL_rf, rfl, rfl, rfl, e, c, how, he, hc, Or.inr (Or.inl ⟨rfl, rfl, rfl, rfl⟩)⟩
        · exact ⟨⟨by decide, by decide⟩, M, W, U, hK, hM, hX, fun μ2 hX2 hF2 => fin2 _ _ μ μ2 (g_dis hL hK hM hc) hX2 hF2⟩
      · refine ⟨4, by omega, by omega, rfl, fun a ha => ⟨4, by omega, by omega, rfl, fun b hb => ⟨⟨by decide, by decide⟩, M, W, U, hK, hM, hX, fun μ2 hX2 hF2 => ⟨fun w => ?_, fun w => ?_⟩⟩⟩⟩
        · have w : ¬ ansR xc0 (oLose (nI c) (nI a) (nI b) W U) = exV 3 := w
          rcases g_lose hL hK hc ha hb with ⟨g1, _⟩ | ⟨_, g2⟩
          · exact (w g1).elim
          · refine ⟨c, rfl, hc, fin xc0 _ (up2 μ2.1 wh c (Int32.ofInt 0), μ2.2) ?_ (hX2.upA fun z z1 z2 => u2_ne _ _ (by omega))⟩
            show opG M W U xc0 _ (up2 μ2.1 wh c (Int32.ofInt 0) bu) (up2 μ2.1 wh c (Int32.ofInt 0) wh)
            rw [u2_ne _ _ hne, up2_row, (row hF2).1, (row hF2).2]
            exact g2
        · have w : ¬ ¬ ansR xc0 (oLose (nI c) (nI a) (nI b) W U) = exV 3 := w
          have w := Classical.not_not.mp w
          rcases g_lose hL hK hc ha hb with ⟨_, g2⟩ | ⟨g1, _⟩
          · refine ⟨c, rfl, hc, c, rfl, hc, fin xc0 _ (up2 μ2.1 wh c (μ2.1 wh c), μ2.2) ?_ (hX2.upA fun z z1 z2 => u2_ne _ _ (by omega))⟩
            show opG M W U xc0 _ (up2 μ2.1 wh c (μ2.1 wh c) bu) (up2 μ2.1 wh c (μ2.1 wh c) wh)
            rw [u2_ne _ _ hne, up2_row, upd_self, (row hF2).1, (row hF2).2]
            exact g2
          · rw [w] at g1
            exact absurd g1 (by decide)
      · exact ⟨12, acL x vx vy bu wh e c how none, subL_rf, rfl, rfl, rfl, e, c, how, he, hc, Or.inl ⟨rfl, rfl, rfl, rfl⟩⟩
      · exact ⟨12, acL x vx vy bu wh e c how none, subL_rf, rfl, rfl, rfl, e, c, how, he, hc, Or.inl ⟨rfl, rfl, rfl, rfl⟩⟩
      · exact ⟨32, by omega, by omega, rfl, fun a ha => ⟨32, by omega, by omega, rfl, fun b hb => ⟨31, by omega, by omega, rfl, fun r hr => ⟨⟨by decide, by decide⟩, M, W, U, hK, hM, hX, fun μ2 hX2 hF2 => fin2 _ _ μ μ2 (g_look hL hK hc ha hb hr) hX2 hF2⟩⟩⟩⟩
      · exact ⟨⟨by decide, by decide⟩, M, W, U, hK, hM, hX, fun μ2 hX2 hF2 => fin2 _ _ μ μ2 (g_del hL hK he) hX2 hF2⟩
      · exact ⟨101, by omega, by omega, rfl, fun z hz => ⟨⟨by decide, by decide⟩, M, W, U, hK, hM, hX, fun μ2 hX2 hF2 => fin2 _ _ μ μ2 (g_setH hL hK he hz) hX2 hF2⟩⟩
      · exact ⟨7, by omega, by omega, rfl, fun a ha => ⟨7, by omega, by omega, rfl, fun b hb => ⟨⟨by decide, by decide⟩, M, W, U, hK, hM, hX, fun μ2 hX2 hF2 => fin2 _ _ μ μ2 (g_setV hL hK he ha hb) hX2 hF2⟩⟩⟩
    · exact ⟨32, by omega, by omega, rfl, fun a ha => ⟨32, by omega, by omega, rfl, fun b hb => ⟨4, by omega, by omega, rfl, fun k hk => ⟨101, by omega, by omega, rfl, fun z hz => ⟨⟨by decide, by decide⟩, M, W, U, hK, hM, hX, fun μ2 hX2 hF2 => fin2 _ _ μ μ2 (g_place hL hK he ha hb hk hz) hX2 hF2⟩⟩⟩⟩⟩
  · rintro m pc lc st μ' ce sl ⟨rfl, rfl, rfl, e, c, how, he, hc, (⟨rfl, rfl, rfl, rfl⟩ | ⟨rfl, rfl, rfl, rfl⟩ | ⟨rfl, rfl, rfl, rfl⟩ | ⟨rfl, k, F, hk, rfl, rfl, rfl, hF, hFw⟩)⟩
    · -- connect
      refine ⟨53, by omega, by omega, rfl, fun b hb => ⟨c, rfl, hc, c, rfl, hc, 32, by omega, by omega, rfl, fun a ha => ⟨32, by omega, by omega, rfl, fun y hy => ⟨28, by omega, by omega, rfl, fun r hr => ⟨c, rfl, hc, ⟨by decide, by decide⟩, M, W, U, hK, hM, ?_, fun μ2 hX2 hF2 => ?_⟩⟩⟩⟩⟩
      · exact hX.upA fun z z1 z2 => by
          show up2 (up2 μ'.1 bu c (Int32.ofInt 12 + nI b)) wh c (Int32.ofInt 1) z = μ'.1 z
          rw [u2_ne _ _ (by omega), u2_ne _ _ (by omega)]
      · have ev : up2 (up2 μ'.1 bu c (Int32.ofInt 12 + nI b)) wh c (Int32.ofInt 1) bu c = nI (12 + b) := by
          rw [u2_ne _ _ hne, u2_eq]
          exact nI_add 12 b
        have eb : up2 (up2 μ'.1 bu c (Int32.ofInt 12 + nI b)) wh c (Int32.ofInt 1) bu = upd (μ'.1 bu) c (nI (12 + b)) := by
          rw [u2_ne _ _ hne, up2_row]
          congr 1
          exact nI_add 12 b
        have ew : up2 (up2 μ'.1 bu c (Int32.ofInt 12 + nI b)) wh c (Int32.ofInt 1) wh = upd (μ'.1 wh) c 1 := by
          rw [up2_row, u2_ne _ _ fun w => hne w.symm]
          rfl
        refine fin2 _ _ (up2 (up2 μ'.1 bu c (Int32.ofInt 12 + nI b)) wh c (Int32.ofInt 1), μ'.2) μ2 ?_ hX2 hF2
        show opG M W U xc0 (oCon (nI c) (nI a) (nI y) (Int32.ofInt 4 + nI r) (up2 (up2 μ'.1 bu c (Int32.ofInt 12 + nI b)) wh c (Int32.ofInt 1) bu c) W U) (up2 (up2 μ'.1 bu c (Int32.ofInt 12 + nI b)) wh c (Int32.ofInt 1) bu) (up2 (up2 μ'.1 bu c (Int32.ofInt 12 + nI b)) wh c (Int32.ofInt 1) wh)
        rw [ev, eb, ew]
        exact g_con hL hK hM hc ha hy hr ⟨by omega, by omega⟩
    · refine ⟨fun _ => ?_, fun _ => ⟨fun _ => ?_, fun _ => ?_⟩⟩
      · exact ⟨10, acL x vx vy bu wh e c how none, by omega, subL_rf, rfl, rfl, rfl, e, c, how, he, hc, Or.inr (Or.inr (Or.inl ⟨rfl, rfl, rfl, rfl⟩))⟩
      · exact ⟨10, acL x vx vy bu wh e c how none, by omega, subL_rf, rfl, rfl, rfl, e, c, how, he, hc, Or.inr (Or.inr (Or.inl ⟨rfl, rfl, rfl, rfl⟩))⟩
      · exact ⟨3 - 0, acL x vx vy bu wh e c how (some (.inl (nI 0))), by omega, ⟨rfl, rfl, rfl, rfl, rfl, rfl, rfl, rfl, rfl, trivial⟩, rfl, rfl, rfl, e, c, how, he, hc, Or.inr (Or.inr (Or.inr ⟨rfl, 0, μ'.1, Nat.zero_le _, rfl, rfl, rfl, fun _ _ => rfl, fun j hj => absurd hj (Nat.not_lt_zero j)⟩))⟩
    · refine ⟨9, by omega, by omega, rfl, fun n hn => ⟨⟨by decide, by decide⟩, M, W, U, hK, hM, hX, fun μ2 hX2 hF2 => fin2 _ _ μ' μ2 ?_ hX2 hF2⟩⟩
      have en : Int32.ofInt 1 + nI n = nI (1 + n) := nI_add 1 n
      show opG M W U xc2 (oTick (Int32.ofInt 1 + nI n) W U) (μ'.1 bu) (μ'.1 wh)
      rw [en]
      exact g_tick hL hK hM (by omega) (by omega)
    · refine ⟨fun q => ?_, fun q => ?_⟩
      · simp only [icP, ifP, iL, iM1] at q
        try simp only [z_nI] at q
        try simp only [nI_add, nI_mul] at q
        first | rw [nI_le_iff (by omega) (by omega)] at q | rw [nI_lt_iff (by omega) (by omega)] at q | rw [nI_eq_iff (by omega) (by omega)] at q
        obtain rfl : k = 3 := by omega
        refine ⟨10, by omega, by omega, rfl, fun d hd => ⟨10, by omega, by omega, rfl, fun i hi => ⟨⟨by decide, by decide⟩, M, W, U, hK, hM, hX.upA fun z z1 z2 => hF z (by omega), fun μ2 hX2 hF2 => fin2 _ _ (F, μ.2) μ2 ?_ hX2 hF2⟩⟩⟩
        show opG M W U xc2 _ (F bu) (F wh)
        rw [hF bu hne]
        exact g_times hL hK hd hi hFw
      · simp only [icP, ifP, iL, iM1] at q
        try simp only [z_nI] at q
        try simp only [nI_add, nI_mul] at q
        first | rw [nI_le_iff (by omega) (by omega)] at q | rw [nI_lt_iff (by omega) (by omega)] at q | rw [nI_eq_iff (by omega) (by omega)] at q
        refine ⟨k, rfl, by omega, 3 - (k + 1), acL x vx vy bu wh e c how (some (.inl (nI (k + 1)))), by omega, ⟨rfl, rfl, rfl, rfl, rfl, rfl, rfl, rfl, inc_tv k, trivial⟩, rfl, rfl, rfl, e, c, how, he, hc, Or.inr (Or.inr (Or.inr ⟨rfl, k + 1, up2 F wh k (Int32.ofInt 0), by omega, rfl, rfl, rfl, fun z hz => (u2_ne _ _ hz).trans (hF z hz), fun j hj => ?_⟩))⟩
        by_cases w : j = k
        · rw [w, u2_eq]
          rfl
        · rw [u2_nj _ _ w]
          exact hFw j (by omega)
