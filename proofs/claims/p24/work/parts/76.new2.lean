/-! THE CONSTRUCTORS of objects that hold objects. -/
/-- a new object; its field set -/
def mN (μ : MM) (k : Nat) : MM := (clr μ.1 μ.2.2.2.2 0, μ.2.1, clr μ.2.2.1 μ.2.2.2.2 0, up1 μ.2.2.2.1 μ.2.2.2.2 k, μ.2.2.2.2 + 1)
def mK (μ : MM) (a k : Nat) : MM := (μ.1, μ.2.1, μ.2.2.1, up1 μ.2.2.2.1 a k, μ.2.2.2.2)
theorem mN_0 (μ : MM) (k : Nat) {d : Nat} (hd : μ.2.2.2.2 = d) : FR0 (mN μ k) d := ⟨by show μ.2.2.2.2 + 1 = _; omega, fun i => by subst hd; exact clrX_eq _ _ _ _⟩
theorem NW.obj {μ μ1 μ2 : MM} {a n m k kr kk : Nat} (h : NW μ μ1 a n k) (hn : 0 < n) (g : NW (mN μ1 kr) μ2 μ1.2.2.2.2 m kk) (k1 : Nat) : NW μ (mK μ2 a k1) a (n + m) k1 ∧ ∀ z, z < a + n → μ2.1 z = μ1.1 z ∧ μ2.2.1 z = μ1.2.1 z := by
  obtain ⟨h1, h2, h3, h4⟩ := h
  rw [h2] at g
  obtain ⟨g1, g2, g3, g4⟩ := g
  have e : ∀ z, z < a + n → μ2.1 z = μ1.1 z ∧ μ2.2.1 z = μ1.2.1 z ∧ μ2.2.2.1 z = μ1.2.2.1 z ∧ μ2.2.2.2.1 z = μ1.2.2.2.1 z := fun z hz => by
    obtain ⟨w1, w2, w3, w4⟩ := g1 z hz
    exact ⟨w1.trans (clrX_ne _ _ (by omega)), w2, w3.trans (clrX_ne _ _ (by omega)), w4.trans (up1_ne' _ _ (by omega))⟩
  refine ⟨⟨fun z hz => ⟨((e z (by omega)).1).trans (h1 z hz).1, ((e z (by omega)).2.1).trans (h1 z hz).2.1, ((e z (by omega)).2.2.1).trans (h1 z hz).2.2.1, ?_⟩, ?_, up1_eq' _ _ _, ((e a (by omega)).2.2.1).trans h4⟩, fun z hz => ⟨(e z hz).1, (e z hz).2.1⟩⟩
  · show up1 μ2.2.2.2.1 a k1 z = _
    rw [up1_ne' _ _ (by omega)]
    exact ((e z (by omega)).2.2.2).trans (h1 z hz).2.2.2
  · show μ2.2.2.2.2 = _
    omega
theorem mA_o (μ : MM) (a ka k1 : Nat) {z : Nat} (h : ¬ z = μ.2.2.2.2) : (mA μ a ka k1).1 z = μ.1 z := clrX_ne _ _ h
theorem mA_n (μ : MM) (a ka k1 : Nat) {z : Nat} (h : z = μ.2.2.2.2) (k : Nat) : (mA μ a ka k1).1 z k = 0 := by subst h; exact clrX_eq _ _ _ _
/-- a client in the making: j arrays, then its records, lists, acknowledgements -/
def CM (μ : MM) (a j : Nat) : Prop := (∀ k, μ.1 a k = 0) ∧ (∀ i, i < j → i < 4 → ∀ k, μ.1 (a + 1 + i) k = 0) ∧ (5 ≤ j → CD μ.1 (a + 5) fun _ => []) ∧ (6 ≤ j → μ.1 (a + 9) 0 = 0 ∧ PSl μ.2.1 (a + 9)) ∧ (7 ≤ j → μ.1 (a + 83) 0 = 0 ∧ PSl μ.2.1 (a + 83)) ∧ (8 ≤ j → CA μ.1 (a + 157) [])
def cmN (j : Nat) : Nat := if j ≤ 4 then 1 + j else if j = 5 then 9 else if j = 6 then 83 else if j = 7 then 157 else 160
theorem CM.keep {μ μ' : MM} {a j : Nat} (h : CM μ a j) (e : ∀ z, z < a + cmN j → μ'.1 z = μ.1 z ∧ μ'.2.1 z = μ.2.1 z) : CM μ' a j := by
  obtain ⟨c1, c2, c3, c4, c5, c6⟩ := h
  have n1 : 1 ≤ cmN j := by unfold cmN; split <;> (try split) <;> (try split) <;> (try split) <;> omega
  have nj : ∀ i, i < j → i < 4 → 1 + i < cmN j := fun i hi h4 => by unfold cmN; split <;> (try split) <;> (try split) <;> (try split) <;> omega
  refine ⟨fun k => by rw [(e a (by omega)).1]; exact c1 k, fun i hi h4 k => by have := nj i hi h4; rw [(e _ (by omega)).1]; exact c2 i hi h4 k, fun h5 => ?_, fun h6 => ?_, fun h7 => ?_, fun h8 => ?_⟩
  · have : 9 ≤ cmN j := by unfold cmN; split <;> (try split) <;> (try split) <;> (try split) <;> omega
    exact (c3 h5).keep fun z z1 z2 => (e z (by omega)).1
  · have : 83 ≤ cmN j := by unfold cmN; split <;> (try split) <;> (try split) <;> (try split) <;> omega
    rw [(e _ (by omega)).1]
    exact ⟨(c4 h6).1, (c4 h6).2.keep (e _ (by omega)).2⟩
  · have : 157 ≤ cmN j := by unfold cmN; split <;> (try split) <;> (try split) <;> (try split) <;> omega
    rw [(e _ (by omega)).1]
    exact ⟨(c5 h7).1, (c5 h7).2.keep (e _ (by omega)).2⟩
  · have : 160 ≤ cmN j := by unfold cmN; split <;> (try split) <;> (try split) <;> (try split) <;> omega
    exact (c6 h8).keep fun z z1 z2 => (e z (by omega)).1
/-- the next array of a client -/
theorem CM.arr {μ : MM} {a j : Nat} (h : CM μ a j) (hj : j < 4) (hz : μ.2.2.2.2 = a + (1 + j)) (ka k1 : Nat) : CM (mA μ a ka k1) a (j + 1) := by
  have e : ∀ z, ¬ z = a + (1 + j) → (mA μ a ka k1).1 z = μ.1 z := fun z hz2 => mA_o _ _ _ _ (by omega)
  refine ⟨fun k => by rw [e a (by omega)]; exact h.1 k, fun i hi h4 k => ?_, fun w => absurd w (by omega), fun w => absurd w (by omega), fun w => absurd w (by omega), fun w => absurd w (by omega)⟩
  by_cases q : i = j
  · rw [q]
    exact mA_n _ _ _ _ (by omega) k
  · rw [e _ (by omega)]
    exact h.2.1 i (by omega) h4 k
def ccL (a k : Nat) : LC := [some (.inr (.inr (14, a))), some (.inl (nI k))]
def cmP (j : Nat) : Nat := if j ≤ 4 then 4 + 8 * j else 36 + 11 * (j - 4)
def cmC (j : Nat) : Nat × Nat := if j = 0 then (0, 0) else if j ≤ 4 then (j, 9 + 16 * (j - 1)) else if j = 5 then (8, 460) else if j = 6 then (82, 1554) else if j = 7 then (156, 2648) else (159, 2699)
def sp_X1_init : SPc := fun As μ K => match As with
  | [.inr (.inr (35, a))] => FR0 μ a ∧ ∀ μ', CC μ'.1 μ'.2.1 a cs0 → NW μ μ' a 161 14 → K (.inl none) μ'
  | _ => False
def ct_X1_init : List (Nat × CI) := [(26, ci_X5_init), (33, ci_X4_init), (43, ci_X0_init)]
def ci_X1_init : CI := (yX1_init, cX1_init, 2, none, 1, (3, 160, 2715, 53), 2, [], sp_X1_init)
set_option maxRecDepth 100000 in
theorem ck_X1_init : chkM ci_X1_init RX1 co_X1_init ct_X1_init [] false true = true := by decide +kernel
set_option maxHeartbeats 4000000 in
set_option maxRecDepth 100000 in
theorem ms_X1_init {g : GPT} {ot : OT} {l : Launch} (hl : l.stackTraces = false) : MS g ot l ci_X1_init := by
  refine ms_of hl RX1 co_X1_init ct_X1_init [] false true [12,20,28,36,47,58,69,80,90] 60 ck_X1_init (List.forall_mem_cons.mpr ⟨ms_X5_init hl, List.forall_mem_cons.mpr ⟨ms_X4_init hl, List.forall_mem_cons.mpr ⟨ms_X0_init hl, fun _ h => nomatch h⟩⟩⟩) ?_
  intro As μ K h
  simp only [ci_X1_init, sp_X1_init] at h
  split at h
  case h_2 => exact h.elim
  rename_i a
  obtain ⟨⟨hz, h0⟩, h⟩ := h
  refine ⟨Nat.le_of_ble_eq_true rfl, fun m pc lc st μ' ce sl => (∃ j, 0 < j ∧ j < 9 ∧ m = 100 + (9 - j) ∧ pc = cmP j ∧ lc = [some (.inr (.inr (35 + j, a))), none] ∧ st = [] ∧ NW μ μ' a (cmN j) (35 + j) ∧ CM μ' a j ∧ (ce, sl) = cmC j) ∨ (∃ k, k ≤ 16 ∧ m = 16 - k ∧ pc = 90 ∧ lc = ccL a k ∧ st = [] ∧ NW μ μ' a 161 14 ∧ (∃ ν, CM ν a 8 ∧ (∀ z, ¬ z = a + 4 → z < a + 160 → μ'.1 z = ν.1 z) ∧ (∀ z, z < a + 160 → μ'.2.1 z = ν.2.1 z)) ∧ (∀ e, μ'.1 (a + 4) e = if e < k then -1 else 0) ∧ ce = 160 ∧ sl = 2715), ?_, ?_⟩
  · have hC : CM μ a 0 := ⟨h0, fun i hi => absurd hi (Nat.not_lt_zero _), fun w => absurd w (by omega), fun w => absurd w (by omega), fun w => absurd w (by omega), fun w => absurd w (by omega)⟩
    exact ⟨rfl, by decide, rfl, hz, Or.inl rfl, 108, [some (.inr (.inr (36, a))), none], ⟨rfl, trivial⟩, Or.inl ⟨1, by omega, by omega, rfl, rfl, rfl, rfl, (NW.own' hz).arr (by omega) 2 36, hC.arr (by omega) hz 2 36, rfl⟩⟩
  · rintro m pc lc st μ' ce sl (⟨j, hj0, hj, rfl, rfl, rfl, rfl, hn, hc, hcs⟩ | ⟨k, hk, rfl, rfl, rfl, rfl, hn, ⟨ν, hν, e1, e2⟩, g4, rfl, rfl⟩)
    · have hs := hn.2.1
      have : j = 1 ∨ j = 2 ∨ j = 3 ∨ j = 4 ∨ j = 5 ∨ j = 6 ∨ j = 7 ∨ j = 8 := by omega
      rcases this with rfl | rfl | rfl | rfl | rfl | rfl | rfl | rfl
      · cases hcs
        exact ⟨rfl, by decide, rfl, hs, Or.inl rfl, 107, [some (.inr (.inr (37, a))), none], by omega, ⟨rfl, trivial⟩, Or.inl ⟨2, by omega, by omega, rfl, rfl, rfl, rfl, hn.arr (by decide) 1 37, hc.arr (by omega) hs 1 37, rfl⟩⟩
      · cases hcs
        exact ⟨rfl, by decide, rfl, hs, Or.inl rfl, 106, [some (.inr (.inr (38, a))), none], by omega, ⟨rfl, trivial⟩, Or.inl ⟨3, by omega, by omega, rfl, rfl, rfl, rfl, hn.arr (by decide) 1 38, hc.arr (by omega) hs 1 38, rfl⟩⟩
      · cases hcs
        exact ⟨rfl, by decide, rfl, hs, Or.inl rfl, 105, [some (.inr (.inr (39, a))), none], by omega, ⟨rfl, trivial⟩, Or.inl ⟨4, by omega, by omega, rfl, rfl, rfl, rfl, hn.arr (by decide) 1 39, hc.arr (by omega) hs 1 39, rfl⟩⟩
      · cases hcs
        have hs : μ'.2.2.2.2 = a + 5 := hs
        refine ⟨by decide, rfl, Or.inr (by show μ.2.2.2.2 ≤ μ'.2.2.2.2; omega), by decide, mN_0 μ' 24 rfl, fun μ2 hD hw => ?_⟩
        obtain ⟨w1, w2⟩ := hn.obj (by decide) hw 40
        rw [hs] at hD hw ⊢
        refine ⟨hw.2.2.1, rfl, rfl, Or.inl rfl, 104, [some (.inr (.inr (40, a))), none], by omega, ⟨rfl, trivial⟩, Or.inl ⟨5, by omega, by omega, rfl, rfl, rfl, rfl, w1, ?_, rfl⟩⟩
        obtain ⟨c1, c2, c3, c4, c5, c6⟩ := hc.keep (μ' := mK μ2 a 40) w2
        exact ⟨c1, fun i hi h4 => c2 i h4 h4, fun _ => hD, fun w => absurd w (by omega), fun w => absurd w (by omega), fun w => absurd w (by omega)⟩
      · cases hcs
        have hs : μ'.2.2.2.2 = a + 9 := hs
        refine ⟨by decide, rfl, Or.inr (by show μ.2.2.2.2 ≤ μ'.2.2.2.2; omega), by decide, mN_0 μ' 34 rfl, fun μ2 hD0 hD hw => ?_⟩
        obtain ⟨w1, w2⟩ := hn.obj (by decide) hw 41
        rw [hs] at hD0 hD hw ⊢
        refine ⟨hw.2.2.1, rfl, rfl, Or.inl rfl, 103, [some (.inr (.inr (41, a))), none], by omega, ⟨rfl, trivial⟩, Or.inl ⟨6, by omega, by omega, rfl, rfl, rfl, rfl, w1, ?_, rfl⟩⟩
        obtain ⟨c1, c2, c3, c4, c5, c6⟩ := hc.keep (μ' := mK μ2 a 41) w2
        exact ⟨c1, fun i hi h4 => c2 i (by omega) h4, fun _ => c3 (by omega), fun _ => ⟨hD0, hD⟩, fun w => absurd w (by omega), fun w => absurd w (by omega)⟩
      · cases hcs
        have hs : μ'.2.2.2.2 = a + 83 := hs
        refine ⟨by decide, rfl, Or.inr (by show μ.2.2.2.2 ≤ μ'.2.2.2.2; omega), by decide, mN_0 μ' 34 rfl, fun μ2 hD0 hD hw => ?_⟩
        obtain ⟨w1, w2⟩ := hn.obj (by decide) hw 42
        rw [hs] at hD0 hD hw ⊢
        refine ⟨hw.2.2.1, rfl, rfl, Or.inl rfl, 102, [some (.inr (.inr (42, a))), none], by omega, ⟨rfl, trivial⟩, Or.inl ⟨7, by omega, by omega, rfl, rfl, rfl, rfl, w1, ?_, rfl⟩⟩
        obtain ⟨c1, c2, c3, c4, c5, c6⟩ := hc.keep (μ' := mK μ2 a 42) w2
        exact ⟨c1, fun i hi h4 => c2 i (by omega) h4, fun _ => c3 (by omega), fun _ => c4 (by omega), fun _ => ⟨hD0, hD⟩, fun w => absurd w (by omega)⟩
      · cases hcs
        have hs : μ'.2.2.2.2 = a + 157 := hs
        refine ⟨by decide, rfl, Or.inr (by show μ.2.2.2.2 ≤ μ'.2.2.2.2; omega), by decide, mN_0 μ' 27 rfl, fun μ2 hD hw => ?_⟩
        obtain ⟨w1, w2⟩ := hn.obj (by decide) hw 43
        rw [hs] at hD hw ⊢
        refine ⟨hw.2.2.1, rfl, rfl, Or.inl rfl, 101, [some (.inr (.inr (43, a))), none], by omega, ⟨rfl, trivial⟩, Or.inl ⟨8, by omega, by omega, rfl, rfl, rfl, rfl, w1, ?_, rfl⟩⟩
        obtain ⟨c1, c2, c3, c4, c5, c6⟩ := hc.keep (μ' := mK μ2 a 43) w2
        exact ⟨c1, fun i hi h4 => c2 i (by omega) h4, fun _ => c3 (by omega), fun _ => c4 (by omega), fun _ => c5 (by omega), fun _ => hD⟩
      · cases hcs
        have hs : μ'.2.2.2.2 = a + 160 := hs
        refine ⟨rfl, by decide, rfl, hs, Or.inl rfl, 16, ccL a 0, by omega, ⟨rfl, rfl, trivial⟩, Or.inr ⟨0, Nat.zero_le _, rfl, rfl, rfl, rfl, hn.arr (by decide) 1 14, ⟨μ', hc, fun z _ hz => mA_o μ' a 1 14 (by omega), fun _ _ => rfl⟩, fun e => ?_, rfl, rfl⟩⟩
        rw [if_neg (Nat.not_lt_zero _)]
        show (mA μ' a 1 14).1 (a + 4) e = 0
        rw [mA_o _ _ _ _ (by omega)]
        exact hc.2.1 3 (by omega) (by omega) e
    · refine ⟨fun q => ?_, fun q => ?_⟩
      · simp only [icP, ifP, iL, iM1] at q
        try simp only [z_nI] at q
        try simp only [nI_add, nI_mul] at q
        first | rw [nI_le_iff (by omega) (by omega)] at q | rw [nI_lt_iff (by omega) (by omega)] at q | rw [nI_eq_iff (by omega) (by omega)] at q
        obtain rfl : k = 16 := by omega
        obtain ⟨c1, c2, c3, c4, c5, c6⟩ := hν
        have c4 := c4 (by omega)
        have c5 := c5 (by omega)
        refine h μ' ⟨⟨fun j hj => ?_, fun j hj _ => ?_, rfl⟩, fun e he => ⟨?_, ?_, ?_⟩, (c3 (by omega)).keep fun z z1 z2 => e1 z (by omega) (by omega), ⟨?_, Nat.zero_le _, c4.2.keep (e2 _ (by omega)), fun j p hj => by cases hj⟩, ⟨?_, Nat.zero_le _, c5.2.keep (e2 _ (by omega)), fun j p hj => by cases hj⟩, (c6 (by omega)).keep fun z z1 z2 => e1 z (by omega) (by omega)⟩ hn
        · rw [e1 _ (by omega) (by omega)]; exact c1 j
        · rw [e1 _ (by omega) (by omega)]; exact c2 0 (by omega) (by omega) j
        · rw [e1 _ (by omega) (by omega)]; exact c2 1 (by omega) (by omega) e
        · rw [e1 _ (by omega) (by omega)]; exact c2 2 (by omega) (by omega) e
        · rw [g4, if_pos he]; rfl
        · rw [e1 _ (by omega) (by omega)]; exact c4.1
        · rw [e1 _ (by omega) (by omega)]; exact c5.1
      · simp only [icP, ifP, iL, iM1] at q
        try simp only [z_nI] at q
        try simp only [nI_add, nI_mul] at q
        first | rw [nI_le_iff (by omega) (by omega)] at q | rw [nI_lt_iff (by omega) (by omega)] at q | rw [nI_eq_iff (by omega) (by omega)] at q
        obtain ⟨n1, n2, n3, n4⟩ := hn
        refine ⟨k, rfl, by omega, 16 - (k + 1), ccL a (k + 1), by omega, ⟨rfl, inc_tv k, trivial⟩, Or.inr ⟨k + 1, by omega, rfl, rfl, rfl, rfl, ⟨fun z hz => ⟨?_, (n1 z hz).2⟩, n2, n3, n4⟩, ⟨ν, hν, fun z hz hz2 => ?_, e2⟩, fun e => ?_, rfl, rfl⟩⟩
        · dsimp only
          rw [u2_ne _ _ (by omega)]
          exact (n1 z hz).1
        · dsimp only
          rw [u2_ne _ _ hz]
          exact e1 z hz hz2
        · dsimp only
          by_cases w : e = k
          · rw [w, u2_eq, if_pos (by omega)]
            rfl
          · rw [u2_nj _ _ w, g4]
            by_cases w2 : e < k
            · rw [if_pos w2, if_pos (by omega)]
            · rw [if_neg w2, if_neg (by omega)]
