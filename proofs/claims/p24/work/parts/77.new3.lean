/-! THE CONSTRUCTORS of the worlds, the stack, the whole class. -/
def mR (μ : MM) (a len ka k1 : Nat) : MM := (μ.1, up2 μ.2.1 μ.2.2.2.2 len 0, μ.2.2.1, up1 (up1 μ.2.2.2.1 μ.2.2.2.2 ka) a k1, μ.2.2.2.2 + 1)
theorem NW.ref {μ μ1 : MM} {a n k : Nat} (h : NW μ μ1 a n k) (hn : 0 < n) (len ka k1 : Nat) : NW μ (mR μ1 a len ka k1) a (n + 1) k1 := by
  obtain ⟨h1, h2, h3, h4⟩ := h
  refine ⟨fun z hz => ⟨(h1 z hz).1, ?_, (h1 z hz).2.2.1, ?_⟩, ?_, up1_eq' _ _ _, h4⟩
  · exact (u2_ne _ _ (by omega)).trans (h1 z hz).2.1
  · show up1 (up1 μ1.2.2.2.1 μ1.2.2.2.2 ka) a k1 z = _
    rw [up1_ne' _ _ (by omega), up1_ne' _ _ (by omega)]
    exact (h1 z hz).2.2.2
  · show μ1.2.2.2.2 + 1 = _
    omega
/-- a new object as an element of an array -/
theorem NW.el {μ μ1 μ2 : MM} {a n m k kr kk : Nat} (h : NW μ μ1 a n k) (hn : 0 < n) (g : NW (mN μ1 kr) μ2 μ1.2.2.2.2 m kk) {G' : Nat → Nat → Nat} (hG : ∀ z, z < a → G' z = μ2.2.1 z) : NW μ (μ2.1, G', μ2.2.2) a (n + m) k ∧ ∀ z, z < a + n → μ2.1 z = μ1.1 z ∧ μ2.2.1 z = μ1.2.1 z := by
  obtain ⟨w1, w2⟩ := h.obj hn g 0
  obtain ⟨h1, h2, h3, h4⟩ := h
  rw [h2] at g
  obtain ⟨g1, g2, g3, g4⟩ := g
  obtain ⟨v1, v2, v3, v4⟩ := w1
  have e : ∀ z, z < a + n → μ2.2.2.2.1 z = μ1.2.2.2.1 z := fun z hz => ((g1 z hz).2.2.2).trans (up1_ne' _ _ (by omega))
  exact ⟨⟨fun z hz => ⟨(v1 z hz).1, (hG z hz).trans (v1 z hz).2.1, (v1 z hz).2.2.1, (e z (by omega)).trans (h1 z hz).2.2.2⟩, v2, (e a (by omega)).trans h3, v4⟩, w2⟩
def wt0 : Nat → Int32 := fun k => if k = 0 then 0 else 2
def W00 : WS := (wt0, E0, fun _ => cs0)
def weL (a k : Nat) : LC := [some (.inr (.inr (16, a))), some (.inl (nI k))]
def sp_X8_init : SPc := fun As μ K => match As with
  | [.inr (.inr (44, a))] => FR0 μ a ∧ ∀ μ', CW μ'.1 μ'.2.1 a W00 → NW μ μ' a 489 16 → K (.inl none) μ'
  | _ => False
def ct_X8_init : List (Nat × CI) := [(20, ci_X2_init), (31, ci_X1_init)]
def ci_X8_init : CI := (yX8_init, cX8_init, 2, none, 1, (4, 488, 8247, 74), 2, [], sp_X8_init)
set_option maxRecDepth 100000 in
theorem ck_X8_init : chkM ci_X8_init RX8 co_X8_init ct_X8_init [] false true = true := by decide +kernel
set_option maxHeartbeats 4000000 in
set_option maxRecDepth 100000 in
theorem ms_X8_init {g : GPT} {ot : OT} {l : Launch} (hl : l.stackTraces = false) : MS g ot l ci_X8_init := by
  refine ms_of hl RX8 co_X8_init ct_X8_init [] false true [35] 37 ck_X8_init (List.forall_mem_cons.mpr ⟨ms_X2_init hl, List.forall_mem_cons.mpr ⟨ms_X1_init hl, fun _ h => nomatch h⟩⟩) ?_
  intro As μ K h
  simp only [ci_X8_init, sp_X8_init] at h
  split at h
  case h_2 => exact h.elim
  rename_i a
  obtain ⟨⟨hz, h0⟩, h⟩ := h
  obtain ⟨F, G, L, Kd, z⟩ := μ
  have hz : z = a + 1 := hz
  subst hz
  have h0 : ∀ k, F a k = 0 := h0
  have hn0 : NW (F, G, L, Kd, a + 1) (up2 (up2 F a 1 2) a 2 2, G, L, Kd, a + 1) a 1 (Kd a) := ⟨fun z hz => ⟨by dsimp only; rw [u2_ne _ _ (by omega), u2_ne _ _ (by omega)], rfl, rfl, rfl⟩, rfl, rfl, rfl⟩
  refine ⟨Nat.le_of_ble_eq_true rfl, fun m pc lc st μ' ce sl => ∃ k, k ≤ 3 ∧ m = 3 - k ∧ pc = 35 ∧ lc = weL a k ∧ st = [] ∧ (∀ e, e < 3 → μ'.1 a e = wt0 e) ∧ CE μ'.1 (a + 1) E0 ∧ μ'.2.1 (a + 5) 3 = k ∧ (∀ c, c < k → CC μ'.1 μ'.2.1 (a + 6 + 161 * c) cs0) ∧ NW (F, G, L, Kd, a + 1) μ' a (6 + 161 * k) 16 ∧ ce = 5 + 161 * k ∧ sl = 54 + 2731 * k, ?_, ?_⟩
  · refine ⟨by decide, rfl, Or.inr (by show a + 1 ≤ a + 1; omega), by decide, mN_0 (up2 (up2 F a 1 2) a 2 2, G, L, Kd, a + 1) 21 rfl, fun μ2 hD hw => ?_⟩
    obtain ⟨w1, w2⟩ := hn0.obj (by decide) hw 45
    have hs : μ2.2.2.2.2 = a + 5 := w1.2.1
    refine ⟨hw.2.2.1, rfl, rfl, Or.inl rfl, rfl, by decide, rfl, hs, Or.inl rfl, 3, weL a 0, ⟨rfl, rfl, trivial⟩, 0, Nat.zero_le _, rfl, rfl, rfl, rfl, fun e he => ?_, hD, ?_, fun c hc => absurd hc (Nat.not_lt_zero _), w1.ref (by decide) 3 15 16, rfl, rfl⟩
    · show μ2.1 a e = _
      rw [(w2 a (by omega)).1]
      have : e = 0 ∨ e = 1 ∨ e = 2 := by omega
      rcases this with rfl | rfl | rfl
      · dsimp only
        rw [u2_nj _ _ (by omega), u2_nj _ _ (by omega), h0]
        rfl
      · dsimp only
        rw [u2_nj _ _ (by omega), u2_eq]
        rfl
      · dsimp only
        rw [u2_eq]
        rfl
    · dsimp only
      rw [hs, u2_eq]
  · rintro m pc lc st μ' ce sl ⟨k, hk, rfl, rfl, rfl, rfl, g0, g1, g2, g3, hn, rfl, rfl⟩
    refine ⟨fun q => ?_, fun q => ?_⟩
    · simp only [icP, ifP, iL, iM1] at q
      try simp only [z_nI] at q
      try simp only [nI_add, nI_mul] at q
      first | rw [nI_le_iff (by omega) (by omega)] at q | rw [nI_lt_iff (by omega) (by omega)] at q | rw [nI_eq_iff (by omega) (by omega)] at q
      obtain rfl : k = 3 := by omega
      exact h μ' ⟨g0, g1, g2, g3⟩ hn
    · simp only [icP, ifP, iL, iM1] at q
      try simp only [z_nI] at q
      try simp only [nI_add, nI_mul] at q
      first | rw [nI_le_iff (by omega) (by omega)] at q | rw [nI_lt_iff (by omega) (by omega)] at q | rw [nI_eq_iff (by omega) (by omega)] at q
      have hs := hn.2.1
      refine ⟨⟨by show 5 + 161 * k + 1 ≤ 488; omega, by show 54 + 2731 * k + 16 ≤ 8247; omega⟩, rfl, Or.inr (by show a + 1 ≤ μ'.2.2.2.2; omega), ⟨by show 5 + 161 * k + 1 + 160 ≤ 488; omega, by show 54 + 2731 * k + 16 + 2715 ≤ 8247; omega⟩, mN_0 μ' 35 rfl, fun μ2 hD hw => ?_⟩
      obtain ⟨w1, w2⟩ := hn.el (by omega) hw (G' := up2 μ2.2.1 (a + 5) 3 (k + 1)) fun z hz => u2_ne _ _ (by omega)
      rw [hs] at hD hw ⊢
      refine ⟨hw.2.2.1, k, rfl, by omega, ?_, by show a + (6 + 161 * k) = a + 5 + 1 + 161 * k; omega, 3 - (k + 1), weL a (k + 1), by omega, ⟨rfl, inc_tv k, trivial⟩, k + 1, by omega, rfl, rfl, rfl, rfl, fun e he => ?_, g1.keep fun z z1 z2 => (w2 z (by omega)).1, u2_eq _ _ _ _, fun c hc => ?_, ?_, by omega, by omega⟩
      · rw [(w2 (a + 5) (by omega)).2]
        exact g2.symm
      · show μ2.1 a e = _
        rw [(w2 a (by omega)).1]
        exact g0 e he
      · by_cases w : c = k
        · rw [w, show a + 6 + 161 * k = a + (6 + 161 * k) by omega]
          exact hD.keep (fun _ _ _ => rfl) fun z z1 z2 => u2_ne _ _ (by omega)
        · exact (g3 c (by omega)).keep (fun z z1 z2 => (w2 z (by omega)).1) fun z z1 z2 => (u2_ne _ _ (by omega)).trans (w2 z (by omega)).2
      · rw [show 6 + 161 * (k + 1) = 6 + 161 * k + 161 by omega]
        exact w1
def uiL (a k : Nat) : LC := [some (.inr (.inr (18, a))), some (.inl (nI k))]
def sp_X7_init : SPc := fun As μ K => match As with
  | [.inr (.inr (46, a))] => FR0 μ a ∧ ∀ μ', CU μ'.1 μ'.2.1 a [] → NW μ μ' a 1469 18 → K (.inl none) μ'
  | _ => False
def ct_X7_init : List (Nat × CI) := [(15, ci_X8_init)]
def ci_X7_init : CI := (yX7_init, cX7_init, 2, none, 1, (5, 1468, 24759, 95), 2, [], sp_X7_init)
set_option maxRecDepth 100000 in
theorem ck_X7_init : chkM ci_X7_init RX7 co_X7_init ct_X7_init [] false true = true := by decide +kernel
set_option maxHeartbeats 4000000 in
set_option maxRecDepth 100000 in
theorem ms_X7_init {g : GPT} {ot : OT} {l : Launch} (hl : l.stackTraces = false) : MS g ot l ci_X7_init := by
  refine ms_of hl RX7 co_X7_init ct_X7_init [] false true [14] 26 ck_X7_init (List.forall_mem_cons.mpr ⟨ms_X8_init hl, fun _ h => nomatch h⟩) ?_
  intro As μ K h
  simp only [ci_X7_init, sp_X7_init] at h
  split at h
  case h_2 => exact h.elim
  rename_i a
  obtain ⟨⟨hz, h0⟩, h⟩ := h
  refine ⟨Nat.le_of_ble_eq_true rfl, fun m pc lc st μ' ce sl => ∃ k, k ≤ 3 ∧ m = 3 - k ∧ pc = 14 ∧ lc = uiL a k ∧ st = [] ∧ μ'.1 a 0 = 0 ∧ μ'.2.1 (a + 1) 3 = k ∧ (∀ j, j < k → μ'.2.1 (a + 1) j = a + 2 + 489 * j ∧ WSl μ'.2.1 (a + 2 + 489 * j)) ∧ NW μ μ' a (2 + 489 * k) 18 ∧ ce = 1 + 489 * k ∧ sl = 3 + 8252 * k, ?_, ?_⟩
  · refine ⟨rfl, by decide, rfl, hz, Or.inl rfl, 3, uiL a 0, ⟨rfl, rfl, trivial⟩, 0, Nat.zero_le _, rfl, rfl, rfl, rfl, h0 0, ?_, fun j hj => absurd hj (Nat.not_lt_zero _), (NW.own' hz).ref (by decide) 3 17 18, rfl, rfl⟩
    show up2 μ.2.1 μ.2.2.2.2 3 0 (a + 1) 3 = 0
    rw [hz, u2_eq]
  · rintro m pc lc st μ' ce sl ⟨k, hk, rfl, rfl, rfl, rfl, g0, g1, g2, hn, rfl, rfl⟩
    refine ⟨fun q => ?_, fun q => ?_⟩
    · simp only [icP, ifP, iL, iM1] at q
      try simp only [z_nI] at q
      try simp only [nI_add, nI_mul] at q
      first | rw [nI_le_iff (by omega) (by omega)] at q | rw [nI_lt_iff (by omega) (by omega)] at q | rw [nI_eq_iff (by omega) (by omega)] at q
      obtain rfl : k = 3 := by omega
      exact h μ' ⟨g0, Nat.zero_le _, ⟨g1, fun j hj => ⟨j, hj, (g2 j hj).1⟩, fun i j hi hj he => by rw [(g2 i hi).1, (g2 j hj).1] at he; omega, fun x hx => (g2 x hx).2⟩, fun j V hj => by cases hj⟩ hn
    · simp only [icP, ifP, iL, iM1] at q
      try simp only [z_nI] at q
      try simp only [nI_add, nI_mul] at q
      first | rw [nI_le_iff (by omega) (by omega)] at q | rw [nI_lt_iff (by omega) (by omega)] at q | rw [nI_eq_iff (by omega) (by omega)] at q
      have hs := hn.2.1
      refine ⟨⟨by show 1 + 489 * k + 1 ≤ 1468; omega, by show 3 + 8252 * k + 5 ≤ 24759; omega⟩, rfl, Or.inr (by show μ.2.2.2.2 ≤ μ'.2.2.2.2; omega), ⟨by show 1 + 489 * k + 1 + 488 ≤ 1468; omega, by show 3 + 8252 * k + 5 + 8247 ≤ 24759; omega⟩, mN_0 μ' 44 rfl, fun μ2 hD hw => ?_⟩
      obtain ⟨w1, w2⟩ := hn.el (by omega) hw (G' := up2 (up2 μ2.2.1 (a + 1) k (a + (2 + 489 * k))) (a + 1) 3 (k + 1)) fun z hz => by rw [u2_ne _ _ (by omega), u2_ne _ _ (by omega)]
      rw [hs] at hD hw ⊢
      refine ⟨hw.2.2.1, k, rfl, by omega, Or.inr ⟨?_, 3 - (k + 1), uiL a (k + 1), by omega, ⟨rfl, inc_tv k, trivial⟩, k + 1, by omega, rfl, rfl, rfl, rfl, ?_, u2_eq _ _ _ _, fun j hj => ⟨?_, ?_⟩, ?_, by omega, by omega⟩⟩
      · rw [(w2 (a + 1) (by omega)).2]
        exact g1.symm
      · show μ2.1 a 0 = 0
        rw [(w2 a (by omega)).1]
        exact g0
      · dsimp only
        rw [u2_nj _ _ (by omega)]
        by_cases w : j = k
        · rw [w, u2_eq]
          omega
        · rw [u2_nj _ _ w, (w2 (a + 1) (by omega)).2]
          exact (g2 j (by omega)).1
      · by_cases w : j = k
        · rw [w, show a + 2 + 489 * k = a + (2 + 489 * k) by omega]
          exact hD.sl.keep fun z z1 z2 => (u2_ne _ _ (by omega)).trans (u2_ne _ _ (by omega))
        · exact (g2 j (by omega)).2.keep fun z z1 z2 => ((u2_ne _ _ (by omega)).trans (u2_ne _ _ (by omega))).trans (w2 z (by omega)).2
      · rw [show 2 + 489 * (k + 1) = 2 + 489 * k + 489 by omega]
        exact w1
def sp_X9_init : SPc := fun As μ K => match As with
  | [.inr (.inr (47, a))] => FR0 μ a ∧ ∀ μ', CXo μ' a W00 [] → NW μ μ' a 1959 19 → K (.inl none) μ'
  | _ => False
def ct_X9_init : List (Nat × CI) := [(9, ci_X8_init), (18, ci_X7_init)]
def ci_X9_init : CI := (yX9_init, cX9_init, 1, none, 1, (6, 1958, 33013, 116), 2, [], sp_X9_init)
set_option maxRecDepth 100000 in
theorem ck_X9_init : chkM ci_X9_init RX9 co_X9_init ct_X9_init [] false true = true := by decide +kernel
set_option maxHeartbeats 4000000 in
set_option maxRecDepth 100000 in
theorem ms_X9_init {g : GPT} {ot : OT} {l : Launch} (hl : l.stackTraces = false) : MS g ot l ci_X9_init := by
  refine ms0_of hl RX9 co_X9_init ct_X9_init [] false true 18 ck_X9_init (List.forall_mem_cons.mpr ⟨ms_X8_init hl, List.forall_mem_cons.mpr ⟨ms_X7_init hl, fun _ h => nomatch h⟩⟩) ?_
  intro As μ K h
  simp only [ci_X9_init, sp_X9_init] at h
  split at h
  case h_2 => exact h.elim
  rename_i a
  obtain ⟨⟨hz, h0⟩, h⟩ := h
  refine ⟨Nat.le_of_ble_eq_true rfl, by decide, rfl, Or.inr (Nat.le_refl _), by decide, mN_0 μ 44 rfl, fun μ1 hD hw => ?_⟩
  obtain ⟨w1, w2⟩ := (NW.own' hz).obj (by decide) hw 48
  have hs : μ1.2.2.2.2 = a + 490 := w1.2.1
  rw [hz] at hD hw ⊢
  refine ⟨hw.2.2.1, rfl, rfl, Or.inl rfl, by decide, rfl, Or.inr (by show a + 1 ≤ μ1.2.2.2.2; omega), by decide, mN_0 (mK μ1 a 48) 46 rfl, fun μ2 hE hv => ?_⟩
  obtain ⟨v1, v2⟩ := w1.obj (by decide) hv 19
  dsimp only at hE hv ⊢
  rw [hs] at hE hv ⊢
  refine ⟨hv.2.2.1, rfl, rfl, Or.inl rfl, h _ ⟨?_, hE⟩ v1⟩
  exact hD.keep (fun z z1 z2 => (v2 z (by omega)).1) fun z z1 z2 => (v2 z (by omega)).2
