/-! THE CLASS, a client copied and begun anew; a world copied. -/
def c01 (X : CS) : Prop := cS X 0 = 0 ∨ cS X 0 = 1
def CSl (G : Nat → Nat → Nat) (a : Nat) : Prop := PSl G (a + 9) ∧ PSl G (a + 83)
theorem CC.sl {F : Nat → Nat → Int32} {G : Nat → Nat → Nat} {a : Nat} {X : CS} (h : CC F G a X) : CSl G a := ⟨h.2.2.2.1.2.2.1, h.2.2.2.2.1.2.2.1⟩
theorem CSl.keep {G G' : Nat → Nat → Nat} {a : Nat} (h : CSl G a) (hG : ∀ z, a ≤ z → z < a + 160 → G' z = G z) : CSl G' a := ⟨h.1.keep (hG _ (by omega) (by omega)), h.2.keep (hG _ (by omega) (by omega))⟩
def sp_X1_copyFrom : SPc := fun As μ K => match As with
  | [.inr (.inr (14, a)), .inr (.inr (14, b))] => ∃ (X : CS), CC μ.1 μ.2.1 b X ∧ CSl μ.2.1 a ∧ c01 X ∧ (a + 161 ≤ b ∨ b + 161 ≤ a) ∧ ∀ F', CC F' μ.2.1 a X → (∀ z, (z < a ∨ a + 161 ≤ z) → F' z = μ.1 z) → K (.inl none) (F', μ.2)
  | _ => False
theorem stM_1 (F : Nat → Nat → Int32) (G : MM) : ((F, G.2) : MM).1 = F := rfl
def ct_X1_copyFrom : List (Nat × CI) := [(65, ci_X1_turnTo), (84, ci_X5_copyFrom), (88, ci_X4_copyFrom), (91, ci_X0_copyFrom)]
def ci_X1_copyFrom : CI := (yX1_copyFrom, cX1_copyFrom, 2, none, 2, (3, 0, 0, 61), 11, [], sp_X1_copyFrom)
set_option maxRecDepth 100000 in
theorem ck_X1_copyFrom : chkM ci_X1_copyFrom RX1 co_X1_copyFrom ct_X1_copyFrom [] false false = true := by decide +kernel
set_option maxHeartbeats 4000000 in
set_option maxRecDepth 100000 in
theorem ms_X1_copyFrom {g : GPT} {ot : OT} {l : Launch} (hl : l.stackTraces = false) : MS g ot l ci_X1_copyFrom := by
  refine ms0_of hl RX1 co_X1_copyFrom ct_X1_copyFrom [] false false 82 ck_X1_copyFrom (List.forall_mem_cons.mpr ⟨ms_X1_turnTo hl, List.forall_mem_cons.mpr ⟨ms_X5_copyFrom hl, List.forall_mem_cons.mpr ⟨ms_X4_copyFrom hl, List.forall_mem_cons.mpr ⟨ms_X0_copyFrom hl, fun _ h => nomatch h⟩⟩⟩⟩) ?_
  intro As μ K h
  simp only [ci_X1_copyFrom, sp_X1_copyFrom] at h
  split at h
  case h_2 => exact h.elim
  rename_i a b
  obtain ⟨X, ⟨x1, x2, x3, x4, x5, x6⟩, ⟨s1, s2⟩, hc, hab, h⟩ := h
  have e0 : μ.1 b 0 = cS X 0 := x1.1 0 (by omega)
  refine ⟨Nat.le_of_ble_eq_true rfl, ?_, 0, 0, 9, rfl, rfl, rfl, by omega, by omega, 0, 0, 16, rfl, rfl, rfl, by omega, by omega, 0, 0, 16, rfl, rfl, rfl, by omega, by omega, 0, 0, 16, rfl, rfl, rfl, by omega, by omega, cR X, x3.keep fun z z1 z2 => ?_, by omega, fun F1 hF1 hF1o => ?_⟩
  · rw [e0]; exact hc
  · dsimp only
    simp (disch := omega) only [cpR_off, u2_ne]
  · have hF1b : ∀ z, b ≤ z → z < b + 161 → F1 z = μ.1 z := fun z z1 z2 => by
      rw [hF1o z (by omega)]
      dsimp only
      simp (disch := omega) only [cpR_off, u2_ne]
    refine ⟨false, flyL X, x4.keep (fun z z1 z2 => hF1b z (by omega) (by omega)) rfl, s1, by omega, fun F2 hF2 hF2o => ?_⟩
    have hF2b : ∀ z, b ≤ z → z < b + 161 → F2 z = μ.1 z := fun z z1 z2 => (hF2o z (by omega)).trans (hF1b z z1 z2)
    refine ⟨true, wayL X, x5.keep (fun z z1 z2 => hF2b z (by omega) (by omega)) rfl, s2, by omega, fun F3 hF3 hF3o => ?_⟩
    have hF3b : ∀ z, b ≤ z → z < b + 161 → F3 z = μ.1 z := fun z z1 z2 => (hF3o z (by omega)).trans (hF2b z z1 z2)
    refine ⟨cA X, x6.keep fun z z1 z2 => hF3b z (by omega) (by omega), by omega, fun F4 hF4 hF4o => ?_⟩
    have hF2o : ∀ z, (z < a + 9 ∨ a + 9 + 74 ≤ z) → F2 z = F1 z := hF2o
    have hF3o : ∀ z, (z < a + 83 ∨ a + 83 + 74 ≤ z) → F3 z = F2 z := hF3o
    have hF4o : ∀ z, (z < a + 157 ∨ a + 157 + 3 ≤ z) → F4 z = F3 z := hF4o
    have f4 : ∀ z, z < a + 5 → F4 z = F1 z := fun z hz => by rw [hF4o z (by omega), hF3o z (by omega), hF2o z (by omega)]
    refine h F4 ⟨⟨fun k hk => ?_, fun k hk k6 => ?_, x1.2.2⟩, fun e he => ?_, ?_, ?_, ?_, hF4⟩ fun z hz => ?_
    · rw [f4 _ (by omega), hF1o _ (by omega)]
      have w := x1.1 k hk
      have : k = 0 ∨ k = 1 ∨ k = 2 ∨ k = 3 ∨ k = 4 ∨ k = 5 ∨ k = 6 := by omega
      rcases this with rfl | rfl | rfl | rfl | rfl | rfl | rfl <;> (dsimp only; simp (disch := omega) only [cpR_off, u2_ne, u2_nj, u2_eq]; exact w)
    · rw [f4 _ (by omega), hF1o _ (by omega)]
      have w := x1.2.1 k hk k6
      dsimp only
      simp (disch := omega) only [cpR_off, cpR_0, u2_ne]
      exact w
    · obtain ⟨b0, b1, b2⟩ := x2 e he
      rw [f4 _ (by omega), f4 _ (by omega), f4 _ (by omega), hF1o _ (by omega), hF1o _ (by omega), hF1o _ (by omega)]
      dsimp only
      simp (disch := omega) only [cpR_off, cpR_0, u2_ne]
      exact ⟨b0, b1, b2⟩
    · exact hF1.keep fun z z1 z2 => by rw [hF4o z (by omega), hF3o z (by omega), hF2o z (by omega)]
    · exact hF2.keep (fun z z1 z2 => by rw [hF4o z (by omega), hF3o z (by omega)]) rfl
    · exact hF3.keep (fun z z1 z2 => hF4o z (by omega)) rfl
    · rw [hF4o z (by omega), hF3o z (by omega), hF2o z (by omega), hF1o z (by omega)]
      dsimp only
      simp (disch := omega) only [cpR_off, u2_ne]
/-- a client as at first -/
def cs0 : CS := (fun _ => 0, [], [], fun _ k => if k = 2 then -1 else 0, fun _ => [])
def rsL (a k : Nat) : LC := [some (.inr (.inr (14, a))), some (.inl (nI k))]
def sp_X1_reset : SPc := fun As μ K => match As with
  | [.inr (.inr (14, a))] => CSl μ.2.1 a ∧ ∀ F', CC F' μ.2.1 a cs0 → (∀ z, (z < a ∨ a + 161 ≤ z) → F' z = μ.1 z) → K (.inl none) (F', μ.2)
  | _ => False
def ct_X1_reset : List (Nat × CI) := [(65, ci_X1_turnTo), (94, ci_X5_clear)]
def ci_X1_reset : CI := (yX1_reset, cX1_reset, 2, none, 1, (1, 0, 0, 23), 11, [], sp_X1_reset)
set_option maxRecDepth 100000 in
theorem ck_X1_reset : chkM ci_X1_reset RX1 co_X1_reset ct_X1_reset [] false false = true := by decide +kernel
set_option maxHeartbeats 4000000 in
set_option maxRecDepth 100000 in
theorem ms_X1_reset {g : GPT} {ot : OT} {l : Launch} (hl : l.stackTraces = false) : MS g ot l ci_X1_reset := by
  refine ms_of hl RX1 co_X1_reset ct_X1_reset [] false false [29,50] 72 ck_X1_reset (List.forall_mem_cons.mpr ⟨ms_X1_turnTo hl, List.forall_mem_cons.mpr ⟨ms_X5_clear hl, fun _ h => nomatch h⟩⟩) ?_
  intro As μ K h
  simp only [ci_X1_reset, sp_X1_reset] at h
  split at h
  case h_2 => exact h.elim
  rename_i a
  obtain ⟨⟨s1, s2⟩, h⟩ := h
  refine ⟨Nat.le_of_ble_eq_true rfl, fun m pc lc st μ' ce sl => (∃ k F, k ≤ 9 ∧ m = 100 + (9 - k) ∧ pc = 29 ∧ lc = rsL a k ∧ st = [] ∧ μ' = (F, μ.2) ∧ (∀ j, j < 7 → F a j = 0) ∧ (∀ j, j < k → F (a + 1) j = 0) ∧ (∀ z, (z < a ∨ a + 161 ≤ z) → F z = μ.1 z) ∧ ce = 0 ∧ sl = 0) ∨ (∃ k F, k ≤ 16 ∧ m = 16 - k ∧ pc = 50 ∧ lc = rsL a k ∧ st = [] ∧ μ' = (F, μ.2) ∧ (∀ j, j < 7 → F a j = 0) ∧ (∀ j, j < 9 → F (a + 1) j = 0) ∧ (∀ e, e < k → F (a + 2) e = 0 ∧ F (a + 3) e = 0 ∧ F (a + 4) e = -1) ∧ (∀ z, (z < a ∨ a + 161 ≤ z) → F z = μ.1 z) ∧ ce = 0 ∧ sl = 0), ?_, ?_⟩
  · refine ⟨Or.inl rfl, 100 + (9 - 0), rsL a 0, ⟨rfl, rfl, trivial⟩, Or.inl ⟨0, _, Nat.zero_le _, rfl, rfl, rfl, rfl, rfl, fun j hj => ?_, fun j hj => absurd hj (Nat.not_lt_zero _), fun z hz => ?_, rfl, rfl⟩⟩
    · have : j = 0 ∨ j = 1 ∨ j = 2 ∨ j = 3 ∨ j = 4 ∨ j = 5 ∨ j = 6 := by omega
      rcases this with rfl | rfl | rfl | rfl | rfl | rfl | rfl <;> (dsimp only; simp (disch := omega) only [u2_nj, u2_eq]; rfl)
    · dsimp only
      simp (disch := omega) only [u2_ne]
  · rintro m pc lc st μ' ce sl (⟨k, F, hk, rfl, rfl, rfl, rfl, rfl, g1, g2, hF, rfl, rfl⟩ | ⟨k, F, hk, rfl, rfl, rfl, rfl, rfl, g1, g2, g3, hF, rfl, rfl⟩)
    · refine ⟨fun q => ⟨16 - 0, rsL a 0, by omega, ⟨rfl, rfl, trivial⟩, Or.inr ⟨0, F, Nat.zero_le _, rfl, rfl, rfl, rfl, rfl, g1, ?_, fun e he => absurd he (Nat.not_lt_zero _), hF, rfl, rfl⟩⟩, fun q => ⟨k, rfl, ?_, 100 + (9 - (k + 1)), rsL a (k + 1), ?_, ⟨rfl, inc_tv k, trivial⟩, Or.inl ⟨k + 1, _, ?_, rfl, rfl, rfl, rfl, rfl, fun j hj => ?_, fun j hj => ?_, fun z hz => ?_, rfl, rfl⟩⟩⟩
      · have q : nI 8 < nI k := q
        rw [nI_lt_iff (by omega) (by omega)] at q
        exact fun j hj => g2 j (by omega)
      · have q : ¬ nI 8 < nI k := q
        rw [nI_lt_iff (by omega) (by omega)] at q
        omega
      · have q : ¬ nI 8 < nI k := q
        rw [nI_lt_iff (by omega) (by omega)] at q
        omega
      · have q : ¬ nI 8 < nI k := q
        rw [nI_lt_iff (by omega) (by omega)] at q
        omega
      · dsimp only
        rw [u2_ne _ _ (by omega)]
        exact g1 j hj
      · dsimp only
        by_cases w : j = k
        · rw [w, u2_eq]; rfl
        · rw [u2_nj _ _ w]
          exact g2 j (by omega)
      · dsimp only
        rw [u2_ne _ _ (by omega)]
        exact hF z hz
    · refine ⟨fun q => ?_, fun q => ?_⟩
      · simp only [icP, ifP, iL, iM1] at q
        try simp only [z_nI] at q
        try simp only [nI_add, nI_mul] at q
        first | rw [nI_le_iff (by omega) (by omega)] at q | rw [nI_lt_iff (by omega) (by omega)] at q | rw [nI_eq_iff (by omega) (by omega)] at q
        obtain rfl : k = 16 := by omega
        refine fun F1 hF1 hF1o => ?_
        have hF1o : ∀ z, (z < a + 5 ∨ a + 5 + 4 ≤ z) → F1 z = F z := hF1o
        refine h _ ⟨⟨fun j hj => ?_, fun j hj _ => ?_, rfl⟩, fun e he => ?_, ?_, ⟨?_, Nat.zero_le _, s1, fun j p hj => by cases hj⟩, ⟨?_, Nat.zero_le _, s2, fun j p hj => by cases hj⟩, ?_, Nat.zero_le _, fun j p hj => by cases hj⟩ fun z hz => ?_
        · dsimp only
          simp (disch := omega) only [u2_ne]
          rw [hF1o _ (by omega)]
          exact g1 j hj
        · dsimp only
          simp (disch := omega) only [u2_ne]
          rw [hF1o _ (by omega)]
          exact g2 j hj
        · dsimp only
          simp (disch := omega) only [u2_ne]
          rw [hF1o _ (by omega), hF1o _ (by omega), hF1o _ (by omega)]
          exact g3 e he
        · refine hF1.keep fun z z1 z2 => ?_
          dsimp only
          simp (disch := omega) only [u2_ne]
        · dsimp only
          simp (disch := omega) only [u2_ne, u2_eq]
          rfl
        · dsimp only
          simp (disch := omega) only [u2_ne, u2_eq]
          rfl
        · dsimp only
          simp (disch := omega) only [u2_eq]
          rfl
        · dsimp only
          simp (disch := omega) only [u2_ne]
          rw [hF1o _ (by omega)]
          exact hF z hz
      · simp only [icP, ifP, iL, iM1] at q
        try simp only [z_nI] at q
        try simp only [nI_add, nI_mul] at q
        first | rw [nI_le_iff (by omega) (by omega)] at q | rw [nI_lt_iff (by omega) (by omega)] at q | rw [nI_eq_iff (by omega) (by omega)] at q
        refine ⟨k, rfl, by omega, k, rfl, by omega, k, rfl, by omega, 16 - (k + 1), rsL a (k + 1), by omega, ⟨rfl, inc_tv k, trivial⟩, Or.inr ⟨k + 1, _, by omega, rfl, rfl, rfl, rfl, rfl, fun j hj => ?_, fun j hj => ?_, fun e he => ?_, fun z hz => ?_, rfl, rfl⟩⟩
        · dsimp only
          simp (disch := omega) only [u2_ne]
          exact g1 j hj
        · dsimp only
          simp (disch := omega) only [u2_ne]
          exact g2 j hj
        · dsimp only
          by_cases w : e = k
          · subst w
            simp (disch := omega) only [u2_ne, u2_eq]
            exact ⟨rfl, rfl, rfl⟩
          · simp (disch := omega) only [u2_ne, u2_nj]
            exact g3 e (by omega)
        · dsimp only
          simp (disch := omega) only [u2_ne]
          exact hF z hz
/-- a world at w (kind 16): its entities w + 1, its clients' row w + 5, its clients w + 6 + 161 c -/
def CW (F : Nat → Nat → Int32) (G : Nat → Nat → Nat) (w : Nat) (W : WS) : Prop := (∀ k, k < 3 → F w k = wT W k) ∧ CE F (w + 1) (wE W) ∧ G (w + 5) 3 = 3 ∧ ∀ c, c < 3 → CC F G (w + 6 + 161 * c) (wC W c)
def WSl (G : Nat → Nat → Nat) (w : Nat) : Prop := G (w + 5) 3 = 3 ∧ ∀ c, c < 3 → CSl G (w + 6 + 161 * c)
theorem CW.sl {F : Nat → Nat → Int32} {G : Nat → Nat → Nat} {w : Nat} {W : WS} (h : CW F G w W) : WSl G w := ⟨h.2.2.1, fun c hc => (h.2.2.2 c hc).sl⟩
theorem CW.keep {F F' : Nat → Nat → Int32} {G G' : Nat → Nat → Nat} {w : Nat} {W : WS} (h : CW F G w W) (hF : ∀ z, w ≤ z → z < w + 489 → F' z = F z) (hG : ∀ z, w ≤ z → z < w + 489 → G' z = G z) : CW F' G' w W := by
  obtain ⟨h1, h2, h3, h4⟩ := h
  exact ⟨fun k hk => by rw [hF _ (by omega) (by omega)]; exact h1 k hk, h2.keep fun z z1 z2 => hF z (by omega) (by omega), by rw [hG _ (by omega) (by omega)]; exact h3, fun c hc => (h4 c hc).keep (fun z z1 z2 => hF z (by omega) (by omega)) fun z z1 z2 => hG z (by omega) (by omega)⟩
theorem WSl.keep {G G' : Nat → Nat → Nat} {w : Nat} (h : WSl G w) (hG : ∀ z, w ≤ z → z < w + 489 → G' z = G z) : WSl G' w :=
  ⟨by rw [hG _ (by omega) (by omega)]; exact h.1, fun c hc => (h.2 c hc).keep fun z z1 z2 => hG z (by omega) (by omega)⟩
def cwL (w v k : Nat) : LC := [some (.inr (.inr (16, w))), some (.inr (.inr (16, v))), some (.inl (nI k))]
def sp_X8_copyFrom : SPc := fun As μ K => match As with
  | [.inr (.inr (16, w)), .inr (.inr (16, v))] => ∃ (W : WS), CW μ.1 μ.2.1 v W ∧ WSl μ.2.1 w ∧ (∀ c, c < 3 → c01 (wC W c)) ∧ (w + 489 ≤ v ∨ v + 489 ≤ w) ∧ ∀ F', CW F' μ.2.1 w W → (∀ z, (z < w ∨ w + 489 ≤ z) → F' z = μ.1 z) → K (.inl none) (F', μ.2)
  | _ => False
def ct_X8_copyFrom : List (Nat × CI) := [(35, ci_X2_copyFrom), (39, ci_X1_copyFrom)]
def ci_X8_copyFrom : CI := (yX8_copyFrom, cX8_copyFrom, 3, none, 2, (4, 0, 0, 82), 17, [], sp_X8_copyFrom)
set_option maxRecDepth 100000 in
theorem ck_X8_copyFrom : chkM ci_X8_copyFrom RX8 co_X8_copyFrom ct_X8_copyFrom [] false false = true := by decide +kernel
set_option maxHeartbeats 4000000 in
set_option maxRecDepth 100000 in
theorem ms_X8_copyFrom {g : GPT} {ot : OT} {l : Launch} (hl : l.stackTraces = false) : MS g ot l ci_X8_copyFrom := by
  refine ms_of hl RX8 co_X8_copyFrom ct_X8_copyFrom [] false false [37] 39 ck_X8_copyFrom (List.forall_mem_cons.mpr ⟨ms_X2_copyFrom hl, List.forall_mem_cons.mpr ⟨ms_X1_copyFrom hl, fun _ h => nomatch h⟩⟩) ?_
  intro As μ K h
  simp only [ci_X8_copyFrom, sp_X8_copyFrom] at h
  split at h
  case h_2 => exact h.elim
  rename_i w v
  obtain ⟨W, hW, ⟨s1, s2⟩, hc, hd, h⟩ := h
  obtain ⟨w1, w2, w3, w4⟩ := id hW
  refine ⟨Nat.le_of_ble_eq_true rfl, fun m pc lc st μ' ce sl => ∃ k F, k ≤ 3 ∧ m = 3 - k ∧ pc = 37 ∧ lc = cwL w v k ∧ st = [] ∧ μ' = (F, μ.2) ∧ (∀ j, j < 3 → F w j = wT W j) ∧ CE F (w + 1) (wE W) ∧ (∀ c, c < k → CC F μ.2.1 (w + 6 + 161 * c) (wC W c)) ∧ (∀ z, (z < w ∨ w + 489 ≤ z) → F z = μ.1 z) ∧ ce = 0 ∧ sl = 0, ?_, ?_⟩
  · refine ⟨wE W, w2.keep fun z z1 z2 => ?_, by omega, fun F1 hF1 hF1o => ⟨3 - 0, cwL w v 0, ⟨rfl, rfl, rfl, trivial⟩, 0, F1, Nat.zero_le _, rfl, rfl, rfl, rfl, rfl, fun j hj => ?_, hF1, fun c hc => absurd hc (Nat.not_lt_zero _), fun z hz => ?_, rfl, rfl⟩⟩
    · dsimp only
      simp (disch := omega) only [u2_ne]
    · rw [hF1o _ (by omega)]
      have q := w1 j hj
      have : j = 0 ∨ j = 1 ∨ j = 2 := by omega
      rcases this with rfl | rfl | rfl <;> (dsimp only; simp (disch := omega) only [u2_nj, u2_ne, u2_eq]; exact q)
    · rw [hF1o _ (by omega)]
      dsimp only
      simp (disch := omega) only [u2_ne]
  · rintro m pc lc st μ' ce sl ⟨k, F, hk, rfl, rfl, rfl, rfl, rfl, g1, g2, g3, hF, rfl, rfl⟩
    refine ⟨fun q => ?_, fun q => ?_⟩
    · simp only [icP, ifP, iL, iM1] at q
      try simp only [z_nI] at q
      try simp only [nI_add, nI_mul] at q
      first | rw [nI_le_iff (by omega) (by omega)] at q | rw [nI_lt_iff (by omega) (by omega)] at q | rw [nI_eq_iff (by omega) (by omega)] at q
      obtain rfl : k = 3 := by omega
      exact h F ⟨g1, g2, s1, g3⟩ hF
    · simp only [icP, ifP, iL, iM1] at q
      try simp only [z_nI] at q
      try simp only [nI_add, nI_mul] at q
      first | rw [nI_le_iff (by omega) (by omega)] at q | rw [nI_lt_iff (by omega) (by omega)] at q | rw [nI_eq_iff (by omega) (by omega)] at q
      have ea : w + 5 + 1 + 161 * k = w + 6 + 161 * k := by omega
      have eb : v + 5 + 1 + 161 * k = v + 6 + 161 * k := by omega
      refine ⟨k, rfl, by omega, by show k < μ.2.1 (w + 5) 3; rw [s1]; omega, k, rfl, by omega, by show k < μ.2.1 (v + 5) 3; rw [w3]; omega, wC W k, ?_, ?_, hc k (by omega), by dsimp only; omega, fun F' hF' hFo => ?_⟩
      · show CC F μ.2.1 (v + 5 + 1 + 161 * k) (wC W k)
        rw [eb]
        exact (w4 k (by omega)).keep (fun z z1 z2 => hF z (by omega)) fun _ _ _ => rfl
      · show CSl μ.2.1 (w + 5 + 1 + 161 * k)
        rw [ea]
        exact s2 k (by omega)
      · have hF' : CC F' μ.2.1 (w + 5 + 1 + 161 * k) (wC W k) := hF'
        have hFo : ∀ z, (z < w + 5 + 1 + 161 * k ∨ w + 5 + 1 + 161 * k + 161 ≤ z) → F' z = F z := hFo
        rw [ea] at hF' hFo
        refine ⟨3 - (k + 1), cwL w v (k + 1), by omega, ⟨rfl, rfl, inc_tv k, trivial⟩, k + 1, F', by omega, rfl, rfl, rfl, rfl, rfl, fun j hj => ?_, ?_, fun c hc2 => ?_, fun z hz => ?_, rfl, rfl⟩
        · rw [hFo _ (by omega)]
          exact g1 j hj
        · exact g2.keep fun z z1 z2 => hFo z (by omega)
        · by_cases q2 : c = k
          · rw [q2]; exact hF'
          · exact (g3 c (by omega)).keep (fun z z1 z2 => hFo z (by omega)) fun _ _ _ => rfl
        · rw [hFo _ (by omega)]
          exact hF z hz
