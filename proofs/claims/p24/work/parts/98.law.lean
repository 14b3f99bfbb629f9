/-! THE LAW, its loops. -/
def lwL (s x bu wh k : Nat) : LC := [some (.inr (.inr (90, s))), some (.inr (.inr (19, x))), some (.inr (.inr (20, bu))), some (.inr (.inr (20, wh))), some (.inl (nI k)), none, none, none, none, none, none, none, none]
def lwT (s x bu wh k : Nat) (t : Int32) : LC := [some (.inr (.inr (90, s))), some (.inr (.inr (19, x))), some (.inr (.inr (20, bu))), some (.inr (.inr (20, wh))), some (.inl (nI k)), none, none, none, none, some (.inl t), none, none, none]
def lwC (s x bu wh k c : Nat) : LC := [some (.inr (.inr (90, s))), some (.inr (.inr (19, x))), some (.inr (.inr (20, bu))), some (.inr (.inr (20, wh))), some (.inl (nI k)), none, none, none, none, none, none, some (.inl (nI c)), none]
theorem W00_ok : WKS 0 W00 [] := by
  refine ⟨⟨fun e he => ⟨Or.inl rfl, v0, v0⟩, 0, 2, 2, Nat.le_refl _, rfl, rfl, rfl, ⟨by omega, by omega⟩, ⟨by omega, by omega⟩, fun c hc => cOK_new 0 (Or.inl rfl) rfl⟩, fun V hV => by cases hV⟩
theorem W00_q (bud wh : Nat → Int32) : LQ 0 W00 bud wh := by
  refine ⟨⟨fun e he => Or.inl ⟨rfl, rfl, rfl⟩, 0, Nat.le_refl _, rfl, fun c hc => ⟨0, 0, Nat.le_refl _, GX_new 0 0 (S := fun _ => 0) (fun _ _ => rfl) ⟨0, by omega, rfl⟩ ⟨0, by omega, rfl⟩ rfl (by omega), 0, Nat.zero_le _, rfl⟩⟩, fun c hc hcn => ?_⟩
  exact absurd (show (0 : Int32) = 1 from hcn) (by decide)
theorem lw_c3 {sl k : Nat} (hk : k < 26) (h : sl ≤ 35542 + 108000 * k + 35466 * 3) : sl + 6 + 6 ≤ 7301442 := by omega
theorem lw_b1 {ce k : Nat} (h : ce ≤ 2357 + 18000 * k + 5911 * 3) : ce + 2 ≤ 2100 + 18000 * (k + 1) := by omega
theorem lw_b2 {sl k : Nat} (h : sl ≤ 35542 + 108000 * k + 35466 * 3) : sl + 12 ≤ 34000 + 108000 * (k + 1) := by omega
theorem lw_c1 {ce k : Nat} (h : ce ≤ 2357 + 18000 * k + 5911 * 3) : ce ≤ 20090 + 18000 * k := by omega
theorem lw_c2 {sl k : Nat} (h : sl ≤ 35542 + 108000 * k + 35466 * 3) : sl ≤ 141940 + 108000 * k := by omega
def lwI (s : Nat) (m pc : Nat) (lc : LC) (st : List TV) (μ : MM) (ce sl : Nat) : Prop :=
  st = [] ∧ ∃ (x bu wh k M : Nat) (W : WS) (U : List WS), (x + 1959 ≤ bu ∧ x + 1959 ≤ wh ∧ ¬ bu = wh) ∧ WKS M W U ∧ CXo μ x W U ∧ LQ M W (μ.1 bu) (μ.1 wh) ∧
    ((k ≤ 26 ∧ pc = 38 ∧ lc = lwL s x bu wh k ∧ m = 10 * (27 - k) + 9 ∧ M ≤ 50 * k ∧ ce ≤ 2100 + 18000 * k ∧ sl ≤ 34000 + 108000 * k) ∨
     (k < 26 ∧ pc = 122 ∧ (∃ t, t ≤ wT W 0 ∧ lc = lwT s x bu wh k t) ∧ m = 10 * (27 - k) + 8 ∧ M ≤ 50 * k + 50 ∧ ce ≤ 2133 + 18000 * k ∧ sl ≤ 34198 + 108000 * k) ∨
     (k < 26 ∧ pc = 143 ∧ ∃ c, c ≤ 3 ∧ lc = lwC s x bu wh k c ∧ m = 10 * (27 - k) + 7 - c ∧ M ≤ 50 * k + 50 ∧ ce ≤ 2357 + 18000 * k + 5911 * c ∧ sl ≤ 35542 + 108000 * k + 35466 * c))
set_option maxHeartbeats 4000000 in
set_option maxRecDepth 100000 in
theorem ms_L_law {g : GPT} {ot : OT} {l : Launch} (hl : l.stackTraces = false) (hot : otOK ot) (h90 : ot.1 90 ≤ 260) : MS g ot l ci_L_law := by
  refine ms_of hl RL co_L_law ct_L_law [] true false [38,122,143] 178 ck_L_law (List.forall_mem_cons.mpr ⟨ms_X9_init hl, List.forall_mem_cons.mpr ⟨ms_L_undo hl, List.forall_mem_cons.mpr ⟨ms_L_refuses hl hot, List.forall_mem_cons.mpr ⟨ms_L_cell hl h90, List.forall_mem_cons.mpr ⟨ms_X9_digest hl hot, List.forall_mem_cons.mpr ⟨ms_X9_time hl, List.forall_mem_cons.mpr ⟨ms_L_acts hl hot, List.forall_mem_cons.mpr ⟨ms_L_world hl hot, List.forall_mem_cons.mpr ⟨ms_L_stale hl hot, List.forall_mem_cons.mpr ⟨ms_L_flies hl, List.forall_mem_cons.mpr ⟨ms_L_keeps hl hot, List.forall_mem_cons.mpr ⟨ms_L_count hl, List.forall_mem_cons.mpr ⟨ms_L_packet hl, List.forall_mem_cons.mpr ⟨ms_L_kept hl hot, List.forall_mem_cons.mpr ⟨ms_L_tick hl hot, fun _ h => nomatch h⟩⟩⟩⟩⟩⟩⟩⟩⟩⟩⟩⟩⟩⟩⟩) ?_
  intro As μ K h
  simp only [ci_L_law, sp_L_law] at h
  split at h
  case h_2 => exact h.elim
  rename_i s
  refine ⟨Nat.le_of_ble_eq_true rfl, lwI s, ?_, ?_⟩
  · refine ⟨by decide, rfl, Or.inr (Nat.le_refl _), by decide, mN_0 μ 47 rfl, fun μ1 hX1 hw => ⟨hw.2.2.1, ?_⟩⟩
    have e1 : μ1.2.2.2.2 = μ.2.2.2.2 + 1959 := hw.2.1
    have c3 : ∀ z, z < μ.2.2.2.2 + 1959 → clr (clr μ1.1 μ1.2.2.2.2 0) (μ1.2.2.2.2 + 1) 0 z = μ1.1 z := fun z hz => by rw [clrX_ne _ _ (by omega), clrX_ne _ _ (by omega)]
    refine ⟨rfl, by decide, rfl, by decide, ⟨by decide, by decide⟩, 0, W00, [], W00_ok, by decide, ?_, fun μ4 hX4 hF4 => ⟨fun w => (w rfl).elim, fun _ => ⟨⟨by decide, by decide⟩, 0, W00, [], W00_ok, by decide, hX4, fun μ5 hX5 hF5 => ⟨fun _ => ?_, fun w => (w (show ¬ (1 : Int32) = 0 by decide)).elim⟩⟩⟩⟩
    · exact ⟨hX1.1.keep (fun z z1 z2 => c3 z (by omega)) fun _ _ _ => rfl, hX1.2.keep (fun z z1 z2 => c3 z (by omega)) fun _ _ _ => rfl⟩
    · exact ⟨10 * (27 - 0) + 9, lwL s μ.2.2.2.2 μ1.2.2.2.2 (μ1.2.2.2.2 + 1) 0, ⟨rfl, rfl, rfl, rfl, rfl, trivial⟩, rfl, μ.2.2.2.2, μ1.2.2.2.2, μ1.2.2.2.2 + 1, 0, 0, W00, [], ⟨by omega, by omega, by omega⟩, W00_ok, hX5, W00_q _ _, Or.inl ⟨by omega, rfl, rfl, rfl, Nat.le_refl _, by decide, by decide⟩⟩
  · rintro m pc lc st μ' ce sl ⟨rfl, x, bu, wh, k, M, W, U, ⟨hbu, hwh, hne⟩, hK, hX, hL, (⟨hk, rfl, rfl, rfl, hM, hce, hsl⟩ | ⟨hk, rfl, ⟨t, ht, rfl⟩, rfl, hM, hce, hsl⟩ | ⟨hk, rfl, c, hc3, rfl, rfl, hM, hce, hsl⟩)⟩
    · have row : ∀ {ν ν2 : MM}, FRq ν ν2 x → ν2.1 bu = ν.1 bu ∧ ν2.1 wh = ν.1 wh := fun hf => ⟨(hf.1 bu (Or.inr hbu)).1, (hf.1 wh (Or.inr hwh)).1⟩
      refine ⟨fun q => ?_, fun q => ?_⟩
      · exact ⟨⟨by show ce + 67 ≤ 600086; omega, by show sl + 402 ≤ 7301442; omega⟩, M, W, U, hK, by omega, hX, fun μ2 hX2 hF2 => ⟨Or.inr rfl, h μ2⟩⟩
      · simp only [icP, ifP, iL, iM1] at q
        try simp only [z_nI] at q
        try simp only [nI_add, nI_mul] at q
        first | rw [nI_le_iff (by omega) (by omega)] at q | rw [nI_lt_iff (by omega) (by omega)] at q | rw [nI_eq_iff (by omega) (by omega)] at q
        have m2 : Int32.ofInt 2 * nI k = nI (2 * k) := nI_mul 2 k
        refine ⟨2 * k, by omega, m2, fun vx => ⟨2 * k + 1, by omega, ?_, fun vy => ⟨M, W, U, hK.1, hX, ⟨W, U, hX, ⟨⟨by show ce + 33 ≤ 600086; omega, by show sl + 198 ≤ 7301442; omega⟩, M, W, U, hK, by omega, hX, hbu, hwh, hne, hL, fun v μ2 W2 U2 hK2 hX2 hL2 hv ht => ?_⟩⟩⟩⟩⟩
        · rw [m2]
          exact nI_add (2 * k) 1
        · have nxt : ∃ n' lc', n' < 10 * (27 - k) + 9 ∧ subL lc' [some (.inr (.inr (90, s))), some (.inr (.inr (19, x))), some (.inr (.inr (20, bu))), some (.inr (.inr (20, wh))), some (.inl (nI k)), some (.inl vx), some (.inl vy), some (.inr (.inl (oDig W U))), none, some (.inl (wT W 0)), some (.inl v), none, none] ∧ lwI s n' 122 lc' [] μ2 (ce + 33) (sl + 198) :=
            ⟨10 * (27 - k) + 8, lwT s x bu wh k (wT W 0), by omega, ⟨rfl, rfl, rfl, rfl, rfl, rfl, trivial⟩, rfl, x, bu, wh, k, M + 50, W2, U2, ⟨hbu, hwh, hne⟩, hK2, hX2, hL2, Or.inr (Or.inl ⟨by omega, rfl, ⟨_, ht, rfl⟩, rfl, by omega, by omega, by omega⟩)⟩
          rcases hv with hv | ⟨hv, hWU⟩
          · refine ⟨fun _ => ⟨fun _ => nxt, fun w => ?_⟩, fun w => (w hv).elim⟩
            have w : ¬ ¬ v = exV 3 := w
            rw [Classical.not_not.mp w] at hv
            exact absurd hv (by decide)
          · refine ⟨fun w => ?_, fun _ => ⟨fun w => (w hv).elim, fun _ => ⟨fun w => (w hv).elim, fun _ => ⟨M + 50, W2, U2, hK2.1, hX2, ⟨fun w => (w ?_).elim, fun _ => nxt⟩⟩⟩⟩⟩
            · have w : 0 ≤ v := w
              rw [hv] at w
              exact absurd w (by decide)
            · have eW : W2 = W := congrArg Prod.fst hWU
              have eU : U2 = U := congrArg Prod.snd hWU
              rw [eW, eU]
              exact lc_self _
    · refine ⟨W, U, hX, ⟨fun w => absurd ht (Int32.not_le.mpr w), fun _ => ⟨⟨by show ce + 224 ≤ 600086; omega, by show sl + 1344 ≤ 7301442; omega⟩, M, W, U, hK, by omega, hX, hL.1.1, fun μ2 hX2 hF2 => ⟨fun _ => ?_, fun w => (w (show ¬ (1 : Int32) = 0 by decide)).elim⟩⟩⟩⟩
      have r1 := (hF2.1 bu (Or.inr hbu)).1
      have r2 := (hF2.1 wh (Or.inr hwh)).1
      exact ⟨10 * (27 - k) + 7 - 0, lwC s x bu wh k 0, by omega, ⟨rfl, rfl, rfl, rfl, rfl, rfl, trivial⟩, rfl, x, bu, wh, k, M, W, U, ⟨hbu, hwh, hne⟩, hK, hX2, by rw [r1, r2]; exact hL, Or.inr (Or.inr ⟨hk, rfl, 0, by omega, rfl, rfl, hM, by omega, by omega⟩)⟩
    · have row : ∀ {ν ν2 : MM}, FRq ν ν2 x → ν2.1 bu = ν.1 bu ∧ ν2.1 wh = ν.1 wh := fun hf => ⟨(hf.1 bu (Or.inr hbu)).1, (hf.1 wh (Or.inr hwh)).1⟩
      refine ⟨fun q => ?_, fun q => ?_⟩
      · -- the three clients are seen
        simp only [icP, ifP, iL, iM1] at q
        try simp only [z_nI] at q
        try simp only [nI_add, nI_mul] at q
        first | rw [nI_le_iff (by omega) (by omega)] at q | rw [nI_lt_iff (by omega) (by omega)] at q | rw [nI_eq_iff (by omega) (by omega)] at q
        obtain rfl : c = 3 := by omega
        have go : ∀ (ν : MM) (V : List WS) (o5 o6 o7 o8 o9 o10 o12 : Option TV) (ce' sl' : Nat), WKS M W V → CXo ν x W V → LQ M W (ν.1 bu) (ν.1 wh) → ce' ≤ 2100 + 18000 * (k + 1) → sl' ≤ 34000 + 108000 * (k + 1) → ∃ n' lc', n' < 10 * (27 - k) + 7 - 3 ∧ subL lc' [some (.inr (.inr (90, s))), some (.inr (.inr (19, x))), some (.inr (.inr (20, bu))), some (.inr (.inr (20, wh))), some (.inl (nI k + Int32.ofInt 1)), o5, o6, o7, o8, o9, o10, some (.inl (nI 3)), o12] ∧ lwI s n' 38 lc' [] ν ce' sl' := fun ν V o5 o6 o7 o8 o9 o10 o12 ce' sl' hV hXV hLV h1 h2 =>
          ⟨10 * (27 - (k + 1)) + 9, lwL s x bu wh (k + 1), by omega, ⟨rfl, rfl, rfl, rfl, inc_tv k, trivial⟩, rfl, x, bu, wh, k + 1, M, W, V, ⟨hbu, hwh, hne⟩, hV, hXV, hLV, Or.inl ⟨by omega, rfl, rfl, rfl, by omega, h1, h2⟩⟩
        have b1 := lw_b1 hce
        have b2 := lw_b2 hsl
        have b3 := lw_c3 hk hsl
        replace hce := lw_c1 hce
        replace hsl := lw_c2 hsl
        refine ⟨by decide, ⟨fun _ => ?_, fun _ => ?_⟩⟩
        · exact ⟨10 * (27 - (k + 1)) + 9, lwL s x bu wh (k + 1), by omega, ⟨rfl, rfl, rfl, rfl, inc_tv k, trivial⟩, rfl, x, bu, wh, k + 1, M, W, U, ⟨hbu, hwh, hne⟩, hK, hX, hL, Or.inl ⟨by omega, rfl, rfl, rfl, by omega, Nat.le_trans (Nat.le_add_right _ 2) b1, Nat.le_trans (Nat.le_add_right _ 12) b2⟩⟩
        · have P : inR 1 50 (nI 2) := by
            show nI 1 ≤ nI 2 ∧ nI 2 ≤ nI 50
            decide
          have et : oTick (nI 2) W U = (0, wT (tkN W 2) 0, tkN W 2, pushU W U) := by
            have ex := oTick_0 (nI 2) W U (nn P)
            rw [sNi (j := 2) (by omega)] at ex
            exact ex
          have kt : KPT M (oTick (nI 2) W U) := kTick hK (by omega) (nI 2)
          unfold KPT at kt
          rw [et] at kt
          refine ⟨⟨by show ce + 1 ≤ 600086; omega, by show sl + 6 ≤ 7301442; omega⟩, M, W, U, hK, by omega, hX, fun μ2 hX2 hF2 => ?_⟩
          have hX2 : CXo μ2 x (oTick (nI 2) W U).2.2.1 (oTick (nI 2) W U).2.2.2 := hX2
          rw [et] at hX2
          have ea : ansR xc2 (oTick (nI 2) W U) = wT (tkN W 2) 0 := by
            rw [et]
            exact ansR_0 rfl
          refine ⟨tkN W 2, pushU W U, hX2, ⟨fun w => (w ea).elim, fun _ => ⟨⟨by show ce + 1 + 1 ≤ 600086; omega, b3⟩, M + 50, tkN W 2, pushU W U, kt, by omega, hX2, fun μ3 hX3 hF3 => ⟨fun _ => ?_, fun w => (w ?_).elim⟩⟩⟩⟩
          · have hFF := hF2.trans hF3
            exact go μ3 (U.take 2) _ _ _ _ _ _ _ (ce + 1 + 1) (sl + 6 + 6) ⟨hK.1, fun V hV => hK.2 V (List.mem_of_mem_take hV)⟩ hX3 (by rw [(row hFF).1, (row hFF).2]; exact hL) b1 b2
          · have er : oUndo (tkN W 2) (pushU W U) = (0, nI (U.take 2).length, W, U.take 2) := rfl
            show 0 ≤ ansR xcU (oUndo (tkN W 2) (pushU W U))
            rw [er, ansR_0 rfl]
            exact nI_0le (by
              have : (U.take 2).length ≤ 2 := by
                rw [List.length_take]
                omega
              show (U.take 2).length < 2 ^ 31
              omega)
      · -- a client
        simp only [icP, ifP, iL, iM1] at q
        try simp only [z_nI] at q
        try simp only [nI_add, nI_mul] at q
        first | rw [nI_le_iff (by omega) (by omega)] at q | rw [nI_lt_iff (by omega) (by omega)] at q | rw [nI_eq_iff (by omega) (by omega)] at q
        have hc : c < 3 := by omega
        obtain ⟨T, tM, t0, gC⟩ := hL.1.2
        obtain ⟨N, b, n1, n2, n3⟩ := gC c hc
        have go : ∀ (ν : MM) (o5 o6 o7 o8 o9 o10 o12 : Option TV) (ce' sl' : Nat), CXo ν x W U → FRq μ' ν x → ce' ≤ 2357 + 18000 * k + 5911 * (c + 1) → sl' ≤ 35542 + 108000 * k + 35466 * (c + 1) → ∃ n' lc', n' < 10 * (27 - k) + 7 - c ∧ subL lc' [some (.inr (.inr (90, s))), some (.inr (.inr (19, x))), some (.inr (.inr (20, bu))), some (.inr (.inr (20, wh))), some (.inl (nI k)), o5, o6, o7, o8, o9, o10, some (.inl (nI c + Int32.ofInt 1)), o12] ∧ lwI s n' 143 lc' [] ν ce' sl' := fun ν o5 o6 o7 o8 o9 o10 o12 ce' sl' hν hf h1 h2 =>
          ⟨10 * (27 - k) + 7 - (c + 1), lwC s x bu wh k (c + 1), by omega, ⟨rfl, rfl, rfl, rfl, rfl, inc_tv c, trivial⟩, rfl, x, bu, wh, k, M, W, U, ⟨hbu, hwh, hne⟩, hK, hν, by rw [(row hf).1, (row hf).2]; exact hL, Or.inr (Or.inr ⟨hk, rfl, c + 1, by omega, rfl, rfl, hM, h1, h2⟩)⟩
        refine ⟨⟨by show ce + 2 ≤ 600086; omega, by show sl + 12 ≤ 7301442; omega⟩, M, W, U, hK, by omega, hX, fun μ2 hX2 hF2 => ?_⟩
        by_cases hcn : cnn (wC W c)
        · obtain ⟨l1, l2⟩ := hL.2 c hc hcn
          have ns : ¬ ansR xc3 (oStale (nI c) W U) = exV 3 := by
            rw [an_stale hc hcn U]
            intro w
            have z : (0 : Int32) ≤ nI (staleN (wC W c) (wE W)) := nI_0le (by have := cntN_le (stP (wC W c) (wE W)) (fun _ => inferInstance) 16; unfold staleN; omega)
            rw [w] at z
            exact absurd z (by decide)
          have eb : μ'.1 bu c = nI b := l1.symm.trans n2.1.1.2.2.1
          refine ⟨fun w => (ns w).elim, fun _ => ⟨fun w => absurd (show (1 : Int32) = 0 from w) (by decide), fun _ => ⟨c, rfl, hc, ⟨by show ce + 2 + 4100 ≤ 600086; omega, by show sl + 12 + 24600 ≤ 7301442; omega⟩, M, W, U, c, T, N, b, hK, by omega, hX2, hc, rfl, ?_, n2.1.1.2.2.2, by omega, n2, fun μ3 hX3 hF3 => ⟨fun w => absurd (show (1 : Int32) = 0 from w) (by decide), fun _ => ⟨c, rfl, hc, ⟨by show ce + 2 + 4100 + 1800 ≤ 600086; omega, by show sl + 12 + 24600 + 10800 ≤ 7301442; omega⟩, M, W, U, c, T, N, b, hK, by omega, hX3, hc, rfl, ?_, n2.1.1.2.2.2, by omega, by omega, n2, hcn, fun μ4 hX4 hF4 => ⟨fun w => absurd (show (1 : Int32) = 0 from w) (by decide), fun _ => ⟨c, rfl, hc, ⟨fun _ => ?_, fun w1 => ?_⟩⟩⟩⟩⟩⟩⟩⟩
          · rw [(row hF2).1]
            exact eb
          · rw [(row (hF2.trans hF3)).1]
            exact eb
          · exact go μ4 _ _ _ _ _ _ _ (ce + 2 + 4100 + 1800) (sl + 12 + 24600 + 10800) hX4 (hF2.trans (hF3.trans hF4)) (by omega) (by omega)
          · have w1 : ¬ ¬ μ4.1 wh c = 1 := w1
            have w1 := Classical.not_not.mp w1
            rw [(row (hF2.trans (hF3.trans hF4))).2] at w1
            obtain ⟨T2, d2, _, _, _, _, v5⟩ := l2 w1
            obtain ⟨_, _, x10, x11, x13, x14⟩ := v5.1
            have k5 : ansR xc0 (oCnt (nI c) (nI 5) W U) = 0 := (an_cnt hc (by omega) W U).trans x13
            have k2 : ansR xc0 (oCnt (nI c) (nI 2) W U) = 0 := (an_cnt hc (by omega) W U).trans x10
            have k3 : ansR xc0 (oCnt (nI c) (nI 3) W U) = 0 := (an_cnt hc (by omega) W U).trans x11
            have k7 : ansR xc0 (oCnt (nI c) (nI 7) W U) = 0 := (an_cnt hc (by omega) W U).trans x14
            refine ⟨⟨by show ce + 2 + 4100 + 1800 + 2 ≤ 600086; omega, by show sl + 12 + 24600 + 10800 + 12 ≤ 7301442; omega⟩, M, W, U, hK, by omega, hX4, fun μ5 hX5 hF5 => ⟨⟨by show ce + 2 + 4100 + 1800 + 2 + 2 ≤ 600086; omega, by show sl + 12 + 24600 + 10800 + 12 + 12 ≤ 7301442; omega⟩, M, W, U, hK, by omega, hX5, fun μ6 hX6 hF6 => ⟨⟨by show ce + 2 + 4100 + 1800 + 2 + 2 + 2 ≤ 600086; omega, by show sl + 12 + 24600 + 10800 + 12 + 12 + 12 ≤ 7301442; omega⟩, M, W, U, hK, by omega, hX6, fun μ7 hX7 hF7 => ⟨⟨by show ce + 2 + 4100 + 1800 + 2 + 2 + 2 + 2 ≤ 600086; omega, by show sl + 12 + 24600 + 10800 + 12 + 12 + 12 + 12 ≤ 7301442; omega⟩, M, W, U, hK, by omega, hX7, fun μ8 hX8 hF8 => ⟨fun _ => ?_, fun w => (w ?_).elim⟩⟩⟩⟩⟩
            · exact go μ8 _ _ _ _ _ _ _ (ce + 2 + 4100 + 1800 + 2 + 2 + 2 + 2) (sl + 12 + 24600 + 10800 + 12 + 12 + 12 + 12) hX8 (hF2.trans (hF3.trans (hF4.trans (hF5.trans (hF6.trans (hF7.trans hF8)))))) (by omega) (by omega)
            · show ansR xc0 (oCnt (nI c) (nI 5) W U) + ansR xc0 (oCnt (nI c) (nI 2) W U) + ansR xc0 (oCnt (nI c) (nI 3) W U) + ansR xc0 (oCnt (nI c) (nI 7) W U) = 0
              rw [k5, k2, k3, k7]
              rfl
        · obtain ⟨z1, z2, z3⟩ := n2.1.2.2.2 hcn
          have e0 : ansR xc0 (oCnt (nI c) (nI 0) W U) = 0 := (an_cnt hc (by omega) W U).trans (n2.1.1.2.1.trans (by rw [z1]; exact nI_0))
          have ncn : ¬ cnn (wC W (sN (nI c))) := by
            rw [sNi (by omega)]
            exact hcn
          have es : ansR xc3 (oStale (nI c) W U) = exV 3 := by
            rw [oStale_2 (nI c) W U (nn (isC_m hc)) ncn, ansR_n (show ¬ (2 : Nat) = 0 by decide)]
            rfl
          have fl : flyL (wC W c) = [] := by
            unfold flyL
            rw [z2]
            rfl
          have ep : ansR xc0 (oPkt (nI c) (nI 0) (nI 0) W U) = Int32.ofInt (-901) := an_pktn hc (flyA_len _ (by rw [fl]; rfl) (by omega)) U
          have ek : ansR xc0 (oKept (nI c) (nI 3) (nI 0) W U) = Int32.ofInt (-902) := by
            rw [oKept_3 (nI c) (nI 3) (nI 0) W U (nn ⟨isC_m hc, isE_n (by omega)⟩) (nn (inR_n (n := 8) (by omega) (by omega))) ncn, ansR_n (show ¬ (3 : Nat) = 0 by decide)]
            rfl
          refine ⟨fun _ => ⟨fun _ => ⟨⟨by show ce + 2 + 2 ≤ 600086; omega, by show sl + 12 + 12 ≤ 7301442; omega⟩, M, W, U, hK, by omega, hX2, fun μ3 hX3 hF3 => ⟨fun w => (w e0).elim, fun _ => ⟨⟨by show ce + 2 + 2 + 3 ≤ 600086; omega, by show sl + 12 + 12 + 18 ≤ 7301442; omega⟩, M, W, U, hK, by omega, hX3, fun μ4 hX4 hF4 => ⟨fun w => (w ep).elim, fun _ => ⟨⟨by show ce + 2 + 2 + 3 + 4 ≤ 600086; omega, by show sl + 12 + 12 + 18 + 24 ≤ 7301442; omega⟩, M, W, U, hK, by omega, hX4, fun μ5 hX5 hF5 => ⟨fun _ => ?_, fun w => (w ek).elim⟩⟩⟩⟩⟩⟩, fun w => absurd (show ¬ (0 : Int32) = 0 from w) (by decide)⟩, fun w => (w es).elim⟩
          exact go μ5 _ _ _ _ _ _ _ (ce + 2 + 2 + 3 + 4) (sl + 12 + 12 + 18 + 24) hX5 (hF2.trans (hF3.trans (hF4.trans hF5))) (by omega) (by omega)
