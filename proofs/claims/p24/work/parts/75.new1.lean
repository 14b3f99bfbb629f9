/-! THE CONSTRUCTORS. What lies before a stays; from a on there are n cells; a's kind is k. -/
def NW (μ μ' : MM) (a n k : Nat) : Prop := (∀ z, z < a → μ'.1 z = μ.1 z ∧ μ'.2.1 z = μ.2.1 z ∧ μ'.2.2.1 z = μ.2.2.1 z ∧ μ'.2.2.2.1 z = μ.2.2.2.1 z) ∧ μ'.2.2.2.2 = a + n ∧ μ'.2.2.2.1 a = k ∧ μ'.2.2.1 a = μ.2.2.1 a
/-- the object itself is made, its fields are 0 -/
def FR0 (μ : MM) (a : Nat) : Prop := μ.2.2.2.2 = a + 1 ∧ ∀ k, μ.1 a k = 0
theorem clrX_eq {α : Type} (f : Nat → Nat → α) (a : Nat) (v : α) (k : Nat) : clr f a v a k = v := by unfold clr; rw [if_pos rfl]
theorem clrX_ne {α : Type} (f : Nat → Nat → α) {a b : Nat} (v : α) (h : ¬ b = a) : clr f a v b = f b := by funext k; unfold clr; rw [if_neg h]
def sp_X3_init : SPc := fun As μ K => match As with
  | [.inr (.inr (29, a))] => FR0 μ a ∧ ∀ μ', NW μ μ' a 6 11 → K (.inl none) μ'
  | _ => False
/-- an array is made and put into a field -/
def mA (μ : MM) (a ka k1 : Nat) : MM := (clr μ.1 μ.2.2.2.2 0, μ.2.1, clr μ.2.2.1 μ.2.2.2.2 0, up1 (up1 μ.2.2.2.1 μ.2.2.2.2 ka) a k1, μ.2.2.2.2 + 1)
theorem NW.arr {μ μ1 : MM} {a n k : Nat} (h : NW μ μ1 a n k) (hn : 0 < n) (ka k1 : Nat) : NW μ (mA μ1 a ka k1) a (n + 1) k1 := by
  obtain ⟨h1, h2, h3, h4⟩ := h
  refine ⟨fun z hz => ⟨?_, (h1 z hz).2.1, ?_, ?_⟩, ?_, up1_eq' _ _ _, ?_⟩
  · exact (clrX_ne _ _ (by omega)).trans (h1 z hz).1
  · exact (clrX_ne _ _ (by omega)).trans (h1 z hz).2.2.1
  · show up1 (up1 μ1.2.2.2.1 μ1.2.2.2.2 ka) a k1 z = _
    rw [up1_ne' _ _ (by omega), up1_ne' _ _ (by omega)]
    exact (h1 z hz).2.2.2
  · show μ1.2.2.2.2 + 1 = _
    omega
  · exact (clrX_ne _ _ (by omega)).trans h4
theorem NW.own {μ : MM} {a k : Nat} (hz : μ.2.2.2.2 = a + 1) (hk : μ.2.2.2.1 a = k) : NW μ μ a 1 k := ⟨fun _ _ => ⟨rfl, rfl, rfl, rfl⟩, hz, hk, rfl⟩
theorem NW.own' {μ : MM} {a : Nat} (hz : μ.2.2.2.2 = a + 1) : NW μ μ a 1 (μ.2.2.2.1 a) := NW.own hz rfl
def ct_X3_init : List (Nat × CI) := []
def ci_X3_init : CI := (yX3_init, cX3_init, 1, none, 1, (1, 5, 80, 12), 3, [], sp_X3_init)
set_option maxRecDepth 100000 in
theorem ck_X3_init : chkM ci_X3_init RX3 co_X3_init ct_X3_init [] false true = true := by decide +kernel
set_option maxHeartbeats 4000000 in
set_option maxRecDepth 100000 in
theorem ms_X3_init {g : GPT} {ot : OT} {l : Launch} (hl : l.stackTraces = false) : MS g ot l ci_X3_init := by
  refine ms_of hl RX3 co_X3_init ct_X3_init [] false true [12,20,28,36] 28 ck_X3_init (fun _ h => nomatch h) ?_
  intro As μ K h
  simp only [ci_X3_init, sp_X3_init] at h
  split at h
  case h_2 => exact h.elim
  rename_i a
  obtain ⟨⟨hz, h0⟩, h⟩ := h
  refine ⟨Nat.le_of_ble_eq_true rfl, fun m pc lc st μ' ce sl => ∃ j, j < 4 ∧ m = 4 - j ∧ pc = 12 + 8 * j ∧ lc = [some (.inr (.inr (30 + j, a)))] ∧ st = [] ∧ (∃ k, NW μ μ' a (2 + j) k) ∧ ce = 1 + j ∧ sl = 16 * (1 + j), ?_, ?_⟩
  · exact ⟨rfl, by decide, rfl, hz, Or.inl rfl, 4, [some (.inr (.inr (30, a)))], ⟨rfl, trivial⟩, 0, by omega, rfl, rfl, rfl, rfl, ⟨30, (NW.own' hz).arr (by omega) 1 30⟩, rfl, rfl⟩
  · rintro m pc lc st μ' ce sl ⟨j, hj, rfl, rfl, rfl, rfl, ⟨k, hn⟩, rfl, rfl⟩
    have hs := hn.2.1
    have : j = 0 ∨ j = 1 ∨ j = 2 ∨ j = 3 := by omega
    rcases this with rfl | rfl | rfl | rfl
    · exact ⟨rfl, by decide, rfl, hs, Or.inl rfl, 3, [some (.inr (.inr (31, a)))], by omega, ⟨rfl, trivial⟩, 1, by omega, rfl, rfl, rfl, rfl, ⟨31, hn.arr (by omega) 1 31⟩, rfl, rfl⟩
    · exact ⟨rfl, by decide, rfl, hs, Or.inl rfl, 2, [some (.inr (.inr (32, a)))], by omega, ⟨rfl, trivial⟩, 2, by omega, rfl, rfl, rfl, rfl, ⟨32, hn.arr (by omega) 1 32⟩, rfl, rfl⟩
    · exact ⟨rfl, by decide, rfl, hs, Or.inl rfl, 1, [some (.inr (.inr (33, a)))], by omega, ⟨rfl, trivial⟩, 3, by omega, rfl, rfl, rfl, rfl, ⟨33, hn.arr (by omega) 1 33⟩, rfl, rfl⟩
    · exact ⟨rfl, by decide, rfl, hs, Or.inl rfl, h _ (hn.arr (by omega) 1 11)⟩
def sp_X0_init : SPc := fun As μ K => match As with
  | [.inr (.inr (27, a))] => FR0 μ a ∧ ∀ μ', CA μ'.1 a [] → NW μ μ' a 3 10 → K (.inl none) μ'
  | _ => False
def ct_X0_init : List (Nat × CI) := []
def ci_X0_init : CI := (yX0_init, cX0_init, 1, none, 1, (1, 2, 48, 12), 3, [], sp_X0_init)
set_option maxRecDepth 100000 in
theorem ck_X0_init : chkM ci_X0_init RX0 co_X0_init ct_X0_init [] false true = true := by decide +kernel
set_option maxHeartbeats 4000000 in
set_option maxRecDepth 100000 in
theorem ms_X0_init {g : GPT} {ot : OT} {l : Launch} (hl : l.stackTraces = false) : MS g ot l ci_X0_init := by
  refine ms0_of hl RX0 co_X0_init ct_X0_init [] false true 16 ck_X0_init (fun _ h => nomatch h) ?_
  intro As μ K h
  simp only [ci_X0_init, sp_X0_init] at h
  split at h
  case h_2 => exact h.elim
  rename_i a
  obtain ⟨⟨hz, h0⟩, h⟩ := h
  obtain ⟨F, G, L, Kd, z⟩ := μ
  have hz : z = a + 1 := hz
  subst hz
  refine ⟨Nat.le_of_ble_eq_true rfl, rfl, by decide, rfl, rfl, Or.inl rfl, rfl, by decide, rfl, rfl, Or.inl rfl, ?_⟩
  refine h _ ⟨?_, Nat.zero_le _, fun i q hq => by cases hq⟩ ⟨fun z hz => ⟨?_, rfl, ?_, ?_⟩, rfl, ?_, ?_⟩
  · dsimp only
    simp (disch := omega) only [clrX_ne]
    exact h0 0
  · dsimp only
    simp (disch := omega) only [clrX_ne]
  · dsimp only
    simp (disch := omega) only [clrX_ne]
  · dsimp only
    simp (disch := omega) only [up1_ne']
  · dsimp only
    exact up1_eq' _ _ _
  · dsimp only
    simp (disch := omega) only [clrX_ne]
def sp_X5_init : SPc := fun As μ K => match As with
  | [.inr (.inr (24, a))] => FR0 μ a ∧ ∀ μ', CD μ'.1 a (fun _ => []) → NW μ μ' a 4 9 → K (.inl none) μ'
  | _ => False
def ct_X5_init : List (Nat × CI) := []
def ci_X5_init : CI := (yX5_init, cX5_init, 1, none, 1, (1, 3, 400, 12), 3, [], sp_X5_init)
set_option maxRecDepth 100000 in
theorem ck_X5_init : chkM ci_X5_init RX5 co_X5_init ct_X5_init [] false true = true := by decide +kernel
set_option maxHeartbeats 4000000 in
set_option maxRecDepth 100000 in
theorem ms_X5_init {g : GPT} {ot : OT} {l : Launch} (hl : l.stackTraces = false) : MS g ot l ci_X5_init := by
  refine ms0_of hl RX5 co_X5_init ct_X5_init [] false true 20 ck_X5_init (fun _ h => nomatch h) ?_
  intro As μ K h
  simp only [ci_X5_init, sp_X5_init] at h
  split at h
  case h_2 => exact h.elim
  rename_i a
  obtain ⟨⟨hz, h0⟩, h⟩ := h
  obtain ⟨F, G, L, Kd, z⟩ := μ
  have hz : z = a + 1 := hz
  subst hz
  refine ⟨Nat.le_of_ble_eq_true rfl, rfl, by decide, rfl, rfl, Or.inl rfl, rfl, by decide, rfl, rfl, Or.inl rfl, rfl, by decide, rfl, rfl, Or.inl rfl, ?_⟩
  refine h _ (fun e he => ⟨?_, Nat.zero_le _, fun i q hq => by cases hq⟩) ⟨fun z hz => ⟨?_, rfl, ?_, ?_⟩, rfl, ?_, ?_⟩
  · dsimp only
    simp (disch := omega) only [clrX_ne, clrX_eq]
    rfl
  · dsimp only
    simp (disch := omega) only [clrX_ne]
  · dsimp only
    simp (disch := omega) only [clrX_ne]
  · dsimp only
    simp (disch := omega) only [up1_ne']
  · dsimp only
    exact up1_eq' _ _ _
  · dsimp only
    simp (disch := omega) only [clrX_ne]
def E0 : Nat → Nat → Int32 := fun _ k => if k = 0 then -1 else 0
def eiL (a k : Nat) : LC := [some (.inr (.inr (8, a))), some (.inl (nI k))]
def sp_X2_init : SPc := fun As μ K => match As with
  | [.inr (.inr (21, a))] => FR0 μ a ∧ ∀ μ', CE μ'.1 a E0 → NW μ μ' a 4 8 → K (.inl none) μ'
  | _ => False
def ct_X2_init : List (Nat × CI) := []
def ci_X2_init : CI := (yX2_init, cX2_init, 2, none, 1, (1, 3, 48, 12), 2, [], sp_X2_init)
set_option maxRecDepth 100000 in
theorem ck_X2_init : chkM ci_X2_init RX2 co_X2_init ct_X2_init [] false true = true := by decide +kernel
set_option maxHeartbeats 4000000 in
set_option maxRecDepth 100000 in
theorem ms_X2_init {g : GPT} {ot : OT} {l : Launch} (hl : l.stackTraces = false) : MS g ot l ci_X2_init := by
  refine ms_of hl RX2 co_X2_init ct_X2_init [] false true [30] 32 ck_X2_init (fun _ h => nomatch h) ?_
  intro As μ K h
  simp only [ci_X2_init, sp_X2_init] at h
  split at h
  case h_2 => exact h.elim
  rename_i a
  obtain ⟨⟨hz, h0⟩, h⟩ := h
  obtain ⟨F, G, L, Kd, z⟩ := μ
  have hz : z = a + 1 := hz
  subst hz
  refine ⟨Nat.le_of_ble_eq_true rfl, fun m pc lc st μ' ce sl => ∃ k F', k ≤ 16 ∧ m = 16 - k ∧ pc = 30 ∧ lc = eiL a k ∧ st = [] ∧ μ'.1 = F' ∧ (∀ e, F' (a + 1) e = if e < k then -1 else 0) ∧ (∀ e, F' (a + 2) e = 0 ∧ F' (a + 3) e = 0) ∧ NW (F, G, L, Kd, a + 1) μ' a 4 8 ∧ ce = 3 ∧ sl = 48, ?_, ?_⟩
  · refine ⟨rfl, by decide, rfl, rfl, Or.inl rfl, rfl, by decide, rfl, rfl, Or.inl rfl, rfl, by decide, rfl, rfl, Or.inl rfl, 16, eiL a 0, ⟨rfl, rfl, trivial⟩, 0, _, Nat.zero_le _, rfl, rfl, rfl, rfl, rfl, fun e => ?_, fun e => ⟨?_, ?_⟩, ⟨fun z hz => ⟨?_, rfl, ?_, ?_⟩, rfl, ?_, ?_⟩, rfl, rfl⟩
    · dsimp only
      simp (disch := omega) only [clrX_ne, clrX_eq]
      rw [if_neg (Nat.not_lt_zero _)]
    · dsimp only
      simp (disch := omega) only [clrX_ne, clrX_eq]
    · dsimp only
      simp (disch := omega) only [clrX_eq]
    · dsimp only
      simp (disch := omega) only [clrX_ne]
    · dsimp only
      simp (disch := omega) only [clrX_ne]
    · dsimp only
      simp (disch := omega) only [up1_ne']
    · dsimp only
      exact up1_eq' _ _ _
    · dsimp only
      simp (disch := omega) only [clrX_ne]
  · rintro m pc lc st μ' ce sl ⟨k, F', hk, rfl, rfl, rfl, rfl, rfl, g1, g2, g3, rfl, rfl⟩
    refine ⟨fun q => ?_, fun q => ?_⟩
    · simp only [icP, ifP, iL, iM1] at q
      try simp only [z_nI] at q
      try simp only [nI_add, nI_mul] at q
      first | rw [nI_le_iff (by omega) (by omega)] at q | rw [nI_lt_iff (by omega) (by omega)] at q | rw [nI_eq_iff (by omega) (by omega)] at q
      obtain rfl : k = 16 := by omega
      refine h μ' (fun e he => ⟨?_, (g2 e).1, (g2 e).2⟩) g3
      rw [g1, if_pos he]
      rfl
    · simp only [icP, ifP, iL, iM1] at q
      try simp only [z_nI] at q
      try simp only [nI_add, nI_mul] at q
      first | rw [nI_le_iff (by omega) (by omega)] at q | rw [nI_lt_iff (by omega) (by omega)] at q | rw [nI_eq_iff (by omega) (by omega)] at q
      obtain ⟨n1, n2, n3, n4⟩ := g3
      refine ⟨k, rfl, by omega, 16 - (k + 1), eiL a (k + 1), by omega, ⟨rfl, inc_tv k, trivial⟩, k + 1, _, by omega, rfl, rfl, rfl, rfl, rfl, fun e => ?_, fun e => ?_, ⟨fun z hz => ⟨?_, (n1 z hz).2⟩, n2, n3, n4⟩, rfl, rfl⟩
      · dsimp only
        by_cases w : e = k
        · rw [w, u2_eq, if_pos (by omega)]
          rfl
        · rw [u2_nj _ _ w, g1]
          by_cases w2 : e < k
          · rw [if_pos w2, if_pos (by omega)]
          · rw [if_neg w2, if_neg (by omega)]
      · dsimp only
        simp (disch := omega) only [u2_ne]
        exact g2 e
      · dsimp only
        rw [u2_ne _ _ (by omega)]
        exact (n1 z hz).1
def plL (a k : Nat) : LC := [some (.inr (.inr (13, a))), some (.inl (nI k))]
def sp_X4_init : SPc := fun As μ K => match As with
  | [.inr (.inr (34, a))] => FR0 μ a ∧ ∀ μ', μ'.1 a 0 = 0 → PSl μ'.2.1 a → NW μ μ' a 74 13 → K (.inl none) μ'
  | _ => False
def ct_X4_init : List (Nat × CI) := [(17, ci_X3_init)]
def ci_X4_init : CI := (yX4_init, cX4_init, 2, none, 1, (2, 73, 1092, 32), 2, [], sp_X4_init)
set_option maxRecDepth 100000 in
theorem ck_X4_init : chkM ci_X4_init RX4 co_X4_init ct_X4_init [] false true = true := by decide +kernel
set_option maxHeartbeats 4000000 in
set_option maxRecDepth 100000 in
theorem ms_X4_init {g : GPT} {ot : OT} {l : Launch} (hl : l.stackTraces = false) : MS g ot l ci_X4_init := by
  refine ms_of hl RX4 co_X4_init ct_X4_init [] false true [15] 26 ck_X4_init (List.forall_mem_cons.mpr ⟨ms_X3_init hl, fun _ h => nomatch h⟩) ?_
  intro As μ K h
  simp only [ci_X4_init, sp_X4_init] at h
  split at h
  case h_2 => exact h.elim
  rename_i a
  obtain ⟨⟨hz, h0⟩, h⟩ := h
  obtain ⟨F, G, L, Kd, z⟩ := μ
  have hz : z = a + 1 := hz
  subst hz
  refine ⟨Nat.le_of_ble_eq_true rfl, fun m pc lc st μ' ce sl => ∃ k, k ≤ 12 ∧ m = 12 - k ∧ pc = 15 ∧ lc = plL a k ∧ st = [] ∧ μ'.1 a 0 = 0 ∧ μ'.2.1 (a + 1) 12 = k ∧ (∀ j, j < k → μ'.2.1 (a + 1) j = a + 2 + 6 * j) ∧ NW (F, G, L, Kd, a + 1) μ' a (2 + 6 * k) 13 ∧ ce = 1 + 6 * k ∧ sl = 12 + 90 * k, ?_, ?_⟩
  · refine ⟨rfl, by decide, rfl, rfl, Or.inl rfl, 12, plL a 0, ⟨rfl, rfl, trivial⟩, 0, Nat.zero_le _, rfl, rfl, rfl, rfl, h0 0, ?_, fun j hj => absurd hj (Nat.not_lt_zero _), ⟨fun z hz => ⟨rfl, ?_, rfl, ?_⟩, rfl, ?_, rfl⟩, rfl, rfl⟩
    · dsimp only
      exact u2_eq _ _ _ _
    · dsimp only
      exact u2_ne _ _ (by omega)
    · dsimp only
      simp (disch := omega) only [up1_ne']
    · dsimp only
      exact up1_eq' _ _ _
  · rintro m pc lc st μ' ce sl ⟨k, hk, rfl, rfl, rfl, rfl, g0, g1, g2, ⟨n1, n2, n3, n4⟩, rfl, rfl⟩
    refine ⟨fun q => ?_, fun q => ?_⟩
    · simp only [icP, ifP, iL, iM1] at q
      try simp only [z_nI] at q
      try simp only [nI_add, nI_mul] at q
      first | rw [nI_le_iff (by omega) (by omega)] at q | rw [nI_lt_iff (by omega) (by omega)] at q | rw [nI_eq_iff (by omega) (by omega)] at q
      obtain rfl : k = 12 := by omega
      exact h μ' g0 ⟨g1, fun j hj => ⟨j, hj, g2 j hj⟩, fun i j hi hj he => by rw [g2 i hi, g2 j hj] at he; omega⟩ ⟨n1, n2, n3, n4⟩
    · simp only [icP, ifP, iL, iM1] at q
      try simp only [z_nI] at q
      try simp only [nI_add, nI_mul] at q
      first | rw [nI_le_iff (by omega) (by omega)] at q | rw [nI_lt_iff (by omega) (by omega)] at q | rw [nI_eq_iff (by omega) (by omega)] at q
      obtain ⟨F1, G1, L1, K1, z1⟩ := μ'
      have n2 : z1 = a + (2 + 6 * k) := n2
      subst n2
      refine ⟨⟨by show 1 + 6 * k + 1 ≤ 73; omega, by show 12 + 90 * k + 10 ≤ 1092; omega⟩, rfl, Or.inr (by show a + 1 ≤ a + (2 + 6 * k); omega), ⟨by show 1 + 6 * k + 1 + 5 ≤ 73; omega, by show 12 + 90 * k + 10 + 80 ≤ 1092; omega⟩, ⟨rfl, fun i => clrX_eq _ _ _ _⟩, fun μ2 hμ2 => ⟨hμ2.2.2.1, k, rfl, by omega, Or.inr ⟨?_, ?_⟩⟩⟩
      · rw [(hμ2.1 (a + 1) (by omega)).2.1]
        exact g1.symm
      · obtain ⟨m1, m2, m3, m4⟩ := hμ2
        refine ⟨12 - (k + 1), plL a (k + 1), by omega, ⟨rfl, inc_tv k, trivial⟩, k + 1, by omega, rfl, rfl, rfl, rfl, ?_, ?_, fun j hj => ?_, ⟨fun z hz => ⟨?_, ?_, ?_, ?_⟩, ?_, ?_, ?_⟩, by omega, by omega⟩
        · show μ2.1 a 0 = 0
          rw [(m1 a (by omega)).1]
          show clr F1 _ 0 a 0 = 0
          rw [clrX_ne _ _ (by omega)]
          exact g0
        · dsimp only
          exact u2_eq _ _ _ _
        · dsimp only
          rw [u2_nj _ _ (by omega)]
          by_cases w : j = k
          · rw [w, u2_eq]
            omega
          · rw [u2_nj _ _ w, (m1 (a + 1) (by omega)).2.1]
            exact g2 j (by omega)
        · show μ2.1 z = F z
          rw [(m1 z (by omega)).1]
          show clr F1 _ 0 z = _
          rw [clrX_ne _ _ (by omega)]
          exact (n1 z hz).1
        · dsimp only
          rw [u2_ne _ _ (by omega), u2_ne _ _ (by omega), (m1 z (by omega)).2.1]
          exact (n1 z hz).2.1
        · show μ2.2.2.1 z = L z
          rw [(m1 z (by omega)).2.2.1]
          show clr L1 _ 0 z = _
          rw [clrX_ne _ _ (by omega)]
          exact (n1 z hz).2.2.1
        · show μ2.2.2.2.1 z = Kd z
          rw [(m1 z (by omega)).2.2.2]
          show up1 K1 _ _ z = _
          rw [up1_ne' _ _ (by omega)]
          exact (n1 z hz).2.2.2
        · show μ2.2.2.2.2 = a + (2 + 6 * (k + 1))
          rw [m2]
          omega
        · show μ2.2.2.2.1 a = 13
          rw [(m1 a (by omega)).2.2.2]
          show up1 K1 _ _ a = _
          rw [up1_ne' _ _ (by omega)]
          exact n3
        · show μ2.2.2.1 a = L a
          rw [(m1 a (by omega)).2.2.1]
          show clr L1 _ 0 a = _
          rw [clrX_ne _ _ (by omega)]
          exact n4
