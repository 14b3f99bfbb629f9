/-! THE CLASS, the stack of saved states: at u (kind 18), its row u + 1, its worlds u + 2 + 489 x. -/
def USl (G : Nat → Nat → Nat) (u : Nat) : Prop := G (u + 1) 3 = 3 ∧ (∀ j, j < 3 → ∃ x, x < 3 ∧ G (u + 1) j = u + 2 + 489 * x) ∧ (∀ i j, i < 3 → j < 3 → G (u + 1) i = G (u + 1) j → i = j) ∧ ∀ x, x < 3 → WSl G (u + 2 + 489 * x)
def CU (F : Nat → Nat → Int32) (G : Nat → Nat → Nat) (u : Nat) (U : List WS) : Prop := F u 0 = nI U.length ∧ U.length ≤ 3 ∧ USl G u ∧ ∀ (j : Nat) (V : WS), U[j]? = some V → CW F G (G (u + 1) (U.length - 1 - j)) V
theorem USl.rng {G : Nat → Nat → Nat} {u : Nat} (h : USl G u) {j : Nat} (hj : j < 3) : u + 2 ≤ G (u + 1) j ∧ G (u + 1) j + 489 ≤ u + 1469 := by
  obtain ⟨x, hx, e⟩ := h.2.1 j hj
  omega
theorem USl.sep {G : Nat → Nat → Nat} {u : Nat} (h : USl G u) {i j : Nat} (hi : i < 3) (hj : j < 3) (q : ¬ i = j) : G (u + 1) i + 489 ≤ G (u + 1) j ∨ G (u + 1) j + 489 ≤ G (u + 1) i := by
  obtain ⟨x, hx, e⟩ := h.2.1 i hi
  obtain ⟨y, hy, e2⟩ := h.2.1 j hj
  have : ¬ G (u + 1) i = G (u + 1) j := fun w => q (h.2.2.1 i j hi hj w)
  omega
theorem USl.at {G : Nat → Nat → Nat} {u : Nat} (h : USl G u) {j : Nat} (hj : j < 3) : WSl G (G (u + 1) j) := by
  obtain ⟨x, hx, e⟩ := h.2.1 j hj
  rw [e]
  exact h.2.2.2 x hx
theorem USl.keep {G G' : Nat → Nat → Nat} {u : Nat} (h : USl G u) (hG : ∀ z, u + 1 ≤ z → z < u + 1469 → G' z = G z) : USl G' u := by
  obtain ⟨h1, h2, h3, h4⟩ := h
  have e := hG (u + 1) (by omega) (by omega)
  exact ⟨by rw [e]; exact h1, by rw [e]; exact h2, by rw [e]; exact h3, fun x hx => (h4 x hx).keep fun z z1 z2 => hG z (by omega) (by omega)⟩
theorem CU.keep {F F' : Nat → Nat → Int32} {G G' : Nat → Nat → Nat} {u : Nat} {U : List WS} (h : CU F G u U) (hF : ∀ z, u ≤ z → z < u + 1469 → F' z = F z) (hG : ∀ z, u ≤ z → z < u + 1469 → G' z = G z) : CU F' G' u U := by
  obtain ⟨h1, h2, h3, h4⟩ := h
  refine ⟨by rw [hF _ (by omega) (by omega)]; exact h1, h2, h3.keep fun z z1 z2 => hG z (by omega) z2, fun j V hj => ?_⟩
  have hjl : j < U.length := (List.getElem?_eq_some_iff.mp hj).1
  have r := h3.rng (j := U.length - 1 - j) (by omega)
  rw [hG (u + 1) (by omega) (by omega)]
  exact (h4 j V hj).keep (fun z z1 z2 => hF z (by omega) (by omega)) fun z z1 z2 => hG z (by omega) (by omega)
def doL (u s k : Nat) : LC := [some (.inr (.inr (18, u))), some (.inr (.inr (16, s))), some (.inl (nI k))]
def sp_X7_dropOldest : SPc := fun As μ K => match As with
  | [.inr (.inr (18, u))] => ∃ (U : List WS), CU μ.1 μ.2.1 u U ∧ U.length = 3 ∧ ∀ F' G', CU F' G' u (U.take 2) → (∀ z, ¬ z = u → F' z = μ.1 z) → (∀ z, ¬ z = u + 1 → G' z = μ.2.1 z) → K (.inl none) (F', G', μ.2.2)
  | _ => False
def ct_X7_dropOldest : List (Nat × CI) := []
def ci_X7_dropOldest : CI := (yX7_dropOldest, cX7_dropOldest, 3, none, 1, (0, 0, 0, 0), 16, [], sp_X7_dropOldest)
set_option maxRecDepth 100000 in
theorem ck_X7_dropOldest : chkM ci_X7_dropOldest RX7 co_X7_dropOldest ct_X7_dropOldest [] false false = true := by decide +kernel
set_option maxHeartbeats 4000000 in
set_option maxRecDepth 100000 in
theorem ms_X7_dropOldest {g : GPT} {ot : OT} {l : Launch} (hl : l.stackTraces = false) : MS g ot l ci_X7_dropOldest := by
  refine ms_of hl RX7 co_X7_dropOldest ct_X7_dropOldest [] false false [9] 36 ck_X7_dropOldest (fun _ h => nomatch h) ?_
  intro As μ K h
  simp only [ci_X7_dropOldest, sp_X7_dropOldest] at h
  split at h
  case h_2 => exact h.elim
  rename_i u
  obtain ⟨U, ⟨h1, h2, h3, h4⟩, hl, h⟩ := h
  refine ⟨Nat.le_of_ble_eq_true rfl, fun m pc lc st μ' ce sl => ∃ k, k ≤ 2 ∧ m = 2 - k ∧ pc = 9 ∧ lc = doL u (μ.2.1 (u + 1) 0) k ∧ st = [] ∧ μ' = (μ.1, shG μ.2.1 u 0 k, μ.2.2) ∧ ce = 0 ∧ sl = 0, ?_, ?_⟩
  · exact ⟨0, rfl, by omega, by rw [h3.1]; omega, 2 - 0, doL u (μ.2.1 (u + 1) 0) 0, ⟨rfl, rfl, rfl, trivial⟩, 0, by omega, rfl, rfl, rfl, rfl, by rw [shG_0], rfl, rfl⟩
  · rintro m pc lc st μ' ce sl ⟨k, hk, rfl, rfl, rfl, rfl, rfl, rfl, rfl⟩
    have g3 : shG μ.2.1 u 0 k (u + 1) 3 = 3 := by
      unfold shG
      rw [if_neg (by omega)]
      exact h3.1
    refine ⟨fun q => ⟨2, rfl, by omega, Or.inl ⟨by show _ < shG μ.2.1 u 0 k (u + 1) 3; rw [g3]; omega, ?_⟩⟩, fun q => ?_⟩
    · simp only [icP, ifP, iL, iM1] at q
      try simp only [z_nI] at q
      try simp only [nI_add, nI_mul] at q
      first | rw [nI_le_iff (by omega) (by omega)] at q | rw [nI_lt_iff (by omega) (by omega)] at q | rw [nI_eq_iff (by omega) (by omega)] at q
      obtain rfl : k = 2 := by omega
      have gr : ∀ i, i < 3 → (up2 (shG μ.2.1 u 0 2) (u + 1) 2 (μ.2.1 (u + 1) 0)) (u + 1) i = μ.2.1 (u + 1) (rot 0 2 i) := fun i hi => by
        have : i = 0 ∨ i = 1 ∨ i = 2 := by omega
        rcases this with rfl | rfl | rfl
        · rw [u2_nj _ _ (by omega)]
          unfold shG
          rw [if_pos ⟨rfl, by omega, by omega⟩]
          rfl
        · rw [u2_nj _ _ (by omega)]
          unfold shG
          rw [if_pos ⟨rfl, by omega, by omega⟩]
          rfl
        · rw [u2_eq]
          rfl
      have rl : ∀ i, i < 3 → rot 0 2 i < 3 := fun i hi => by
        have : i = 0 ∨ i = 1 ∨ i = 2 := by omega
        rcases this with rfl | rfl | rfl <;> decide
      have go : ∀ z, ¬ z = u + 1 → (up2 (shG μ.2.1 u 0 2) (u + 1) 2 (μ.2.1 (u + 1) 0)) z = μ.2.1 z := fun z hz => by
        rw [u2_ne _ _ hz]
        funext i
        unfold shG
        rw [if_neg fun w => hz w.1]
      have tl : (U.take 2).length = 2 := by rw [List.length_take]; omega
      refine h _ _ ⟨?_, by omega, ⟨?_, fun j hj => ?_, fun i j hi hj he => ?_, fun x hx => ?_⟩, fun j V hj => ?_⟩ (fun z hz => ?_) fun z hz => go z hz
      · dsimp only
        rw [u2_eq, tl]
        rfl
      · dsimp only
        rw [u2_nj _ _ (by omega)]
        exact g3
      · dsimp only
        rw [gr j hj]
        exact h3.2.1 _ (rl j hj)
      · dsimp only at he
        rw [gr i hi, gr j hj] at he
        exact rot_inj (by omega) (h3.2.2.1 _ _ (rl i hi) (rl j hj) he)
      · exact (h3.2.2.2 x hx).keep fun z z1 z2 => go z (by omega)
      · have hjl : j < (U.take 2).length := (List.getElem?_eq_some_iff.mp hj).1
        rw [tl] at hjl ⊢
        rw [List.getElem?_take, if_pos hjl] at hj
        dsimp only
        rw [gr _ (by omega)]
        have e : rot 0 2 (2 - 1 - j) = U.length - 1 - j := by
          rw [hl]
          have : j = 0 ∨ j = 1 := by omega
          rcases this with rfl | rfl <;> rfl
        rw [e]
        have r := h3.rng (j := U.length - 1 - j) (by omega)
        exact (h4 j V hj).keep (fun z z1 z2 => u2_ne _ _ (by omega)) fun z z1 z2 => go z (by omega)
      · dsimp only
        rw [u2_ne _ _ hz]
    · simp only [icP, ifP, iL, iM1] at q
      try simp only [z_nI] at q
      try simp only [nI_add, nI_mul] at q
      first | rw [nI_le_iff (by omega) (by omega)] at q | rw [nI_lt_iff (by omega) (by omega)] at q | rw [nI_eq_iff (by omega) (by omega)] at q
      refine ⟨k + 1, nI_add k 1, by omega, by show _ < shG μ.2.1 u 0 k (u + 1) 3; rw [g3]; omega, k, rfl, by omega, Or.inl ⟨by show _ < shG μ.2.1 u 0 k (u + 1) 3; rw [g3]; omega, 2 - (k + 1), doL u (μ.2.1 (u + 1) 0) (k + 1), by omega, ⟨rfl, rfl, inc_tv k, trivial⟩, k + 1, by omega, rfl, rfl, rfl, rfl, ?_, rfl, rfl⟩⟩
      rw [← shG_S (Nat.zero_le k)]
def pushU (W : WS) (U : List WS) : List WS := W :: U.take 2
def sp_X7_push : SPc := fun As μ K => match As with
  | [.inr (.inr (18, u)), .inr (.inr (16, w))] => ∃ (U : List WS) (W : WS), CU μ.1 μ.2.1 u U ∧ CW μ.1 μ.2.1 w W ∧ (∀ c, c < 3 → c01 (wC W c)) ∧ (w + 489 ≤ u ∨ u + 1469 ≤ w) ∧ ∀ μ', CU μ'.1 μ'.2.1 u (pushU W U) → FRm μ μ' u (u + 1469) → K (.inl none) μ'
  | _ => False
def ct_X7_push : List (Nat × CI) := [(20, ci_X7_dropOldest), (23, ci_X8_copyFrom)]
def ci_X7_push : CI := (yX7_push, cX7_push, 2, none, 2, (5, 0, 0, 104), 16, [], sp_X7_push)
set_option maxRecDepth 100000 in
theorem ck_X7_push : chkM ci_X7_push RX7 co_X7_push ct_X7_push [] false false = true := by decide +kernel
set_option maxHeartbeats 4000000 in
set_option maxRecDepth 100000 in
theorem ms_X7_push {g : GPT} {ot : OT} {l : Launch} (hl : l.stackTraces = false) : MS g ot l ci_X7_push := by
  refine ms_of hl RX7 co_X7_push ct_X7_push [] false false [12] 25 ck_X7_push (List.forall_mem_cons.mpr ⟨ms_X7_dropOldest hl, List.forall_mem_cons.mpr ⟨ms_X8_copyFrom hl, fun _ h => nomatch h⟩⟩) ?_
  intro As μ K h
  simp only [ci_X7_push, sp_X7_push] at h
  split at h
  case h_2 => exact h.elim
  rename_i u w
  obtain ⟨U, W, hU, hW, hc, hd, h⟩ := h
  have u3 := hU.2.1
  refine ⟨Nat.le_of_ble_eq_true rfl, fun m pc lc st μ' ce sl => ∃ F G, m = 0 ∧ pc = 12 ∧ lc = [some (.inr (.inr (18, u))), some (.inr (.inr (16, w)))] ∧ st = [] ∧ μ' = (F, G, μ.2.2) ∧ CU F G u (U.take 2) ∧ (∀ z, ¬ z = u → F z = μ.1 z) ∧ (∀ z, ¬ z = u + 1 → G z = μ.2.1 z) ∧ ce = 0 ∧ sl = 0, ?_, ?_⟩
  · refine ⟨fun q => ⟨0, [some (.inr (.inr (18, u))), some (.inr (.inr (16, w)))], ⟨rfl, rfl, trivial⟩, μ.1, μ.2.1, rfl, rfl, rfl, rfl, rfl, ?_, fun _ _ => rfl, fun _ _ => rfl, rfl, rfl⟩, fun q => ⟨U, hU, ?_, fun F' G' hU' hF' hG' => ⟨0, [some (.inr (.inr (18, u))), some (.inr (.inr (16, w)))], ⟨rfl, rfl, trivial⟩, F', G', rfl, rfl, rfl, rfl, rfl, hU', hF', hG', rfl, rfl⟩⟩⟩
    · have q : μ.1 u 0 < nI 3 := q
      rw [hU.1, nI_lt_iff (by omega) (by omega)] at q
      rw [List.take_of_length_le (by omega)]
      exact hU
    · have q : ¬ μ.1 u 0 < nI 3 := q
      rw [hU.1, nI_lt_iff (by omega) (by omega)] at q
      omega
  · rintro m pc lc st μ' ce sl ⟨F, G, rfl, rfl, rfl, rfl, rfl, ⟨g1, g2, g3, g4⟩, hF, hG, rfl, rfl⟩
    have tl : (U.take 2).length ≤ 2 := by rw [List.length_take]; omega
    have r := g3.rng (j := (U.take 2).length) (by omega)
    refine ⟨(U.take 2).length, g1, by omega, by show _ < G (u + 1) 3; rw [g3.1]; omega, W, hW.keep (fun z z1 z2 => hF z (by omega)) fun z z1 z2 => hG z (by omega), g3.at (by omega), hc, by dsimp only; omega, fun F' hF' hFo => ?_⟩
    have hFo : ∀ z, (z < G (u + 1) (U.take 2).length ∨ G (u + 1) (U.take 2).length + 489 ≤ z) → F' z = F z := hFo
    have hF' : CW F' G (G (u + 1) (U.take 2).length) W := hF'
    have fu : F' u = F u := hFo u (by omega)
    refine h _ ⟨?_, ?_, g3, fun j V hj => ?_⟩ ⟨fun z hz => ⟨?_, hG z (by omega)⟩, rfl⟩
    · dsimp only
      rw [u2_eq, fu, g1]
      exact nI_add _ 1
    · show (U.take 2).length + 1 ≤ 3
      omega
    · show CW (up2 F' u 0 _) G (G (u + 1) ((U.take 2).length + 1 - 1 - j)) V
      cases j with
      | zero =>
        cases hj
        have e : (U.take 2).length + 1 - 1 - 0 = (U.take 2).length := by omega
        rw [e]
        exact hF'.keep (fun z z1 z2 => u2_ne _ _ (by omega)) fun _ _ _ => rfl
      | succ j =>
        have hj : (U.take 2)[j]? = some V := hj
        have hjl : j < (U.take 2).length := (List.getElem?_eq_some_iff.mp hj).1
        have e : (U.take 2).length + 1 - 1 - (j + 1) = (U.take 2).length - 1 - j := by omega
        rw [e]
        have s := g3.sep (i := (U.take 2).length - 1 - j) (j := (U.take 2).length) (by omega) (by omega) (by omega)
        have r2 := g3.rng (j := (U.take 2).length - 1 - j) (by omega)
        refine (g4 j V hj).keep (fun z z1 z2 => ?_) fun _ _ _ => rfl
        rw [u2_ne _ _ (by omega)]
        exact hFo z (by omega)
    · dsimp only
      rw [u2_ne _ _ (by omega), hFo z (by omega)]
      exact hF z (by omega)
def sp_X7_popInto : SPc := fun As μ K => match As with
  | [.inr (.inr (18, u)), .inr (.inr (16, w))] => ∃ (U : List WS) (V : WS), CU μ.1 μ.2.1 u (V :: U) ∧ WSl μ.2.1 w ∧ (∀ c, c < 3 → c01 (wC V c)) ∧ (w + 489 ≤ u ∨ u + 1469 ≤ w) ∧ ∀ F', CU F' μ.2.1 u U → CW F' μ.2.1 w V → (∀ z, ¬ z = u → (z < w ∨ w + 489 ≤ z) → F' z = μ.1 z) → K (.inl none) (F', μ.2)
  | _ => False
def ct_X7_popInto : List (Nat × CI) := [(23, ci_X8_copyFrom)]
def ci_X7_popInto : CI := (yX7_popInto, cX7_popInto, 2, none, 2, (5, 0, 0, 104), 16, [], sp_X7_popInto)
set_option maxRecDepth 100000 in
theorem ck_X7_popInto : chkM ci_X7_popInto RX7 co_X7_popInto ct_X7_popInto [] false false = true := by decide +kernel
set_option maxHeartbeats 4000000 in
set_option maxRecDepth 100000 in
theorem ms_X7_popInto {g : GPT} {ot : OT} {l : Launch} (hl : l.stackTraces = false) : MS g ot l ci_X7_popInto := by
  refine ms0_of hl RX7 co_X7_popInto ct_X7_popInto [] false false 22 ck_X7_popInto (List.forall_mem_cons.mpr ⟨ms_X8_copyFrom hl, fun _ h => nomatch h⟩) ?_
  intro As μ K h
  simp only [ci_X7_popInto, sp_X7_popInto] at h
  split at h
  case h_2 => exact h.elim
  rename_i u w
  obtain ⟨U, V, ⟨g1, g2, g3, g4⟩, hw, hc, hd, h⟩ := h
  have g2 : U.length + 1 ≤ 3 := g2
  have g1 : μ.1 u 0 = nI (U.length + 1) := g1
  have e1 : μ.1 u 0 - Int32.ofInt 1 = nI U.length := by
    rw [g1]
    exact nI_sub1 (a := U.length + 1) (b := 1) (by omega)
  have r := g3.rng (j := U.length) (by omega)
  have hV := g4 0 V rfl
  have e0 : (V :: U).length - 1 - 0 = U.length := rfl
  rw [e0] at hV
  refine ⟨Nat.le_of_ble_eq_true rfl, fun q => ?_, fun q => ⟨U.length, ?_, by omega, by rw [g3.1]; omega, V, hV.keep (fun z z1 z2 => u2_ne _ _ (by omega)) fun _ _ _ => rfl, hw, hc, by dsimp only; omega, fun F' hF' hFo => ?_⟩⟩
  · have q : μ.1 u 0 ≤ 0 := q
    rw [g1, z_nI, nI_le_iff (by omega) (by omega)] at q
    omega
  · dsimp only
    rw [u2_eq]
    exact e1
  · have hFo : ∀ z, (z < w ∨ w + 489 ≤ z) → F' z = (up2 μ.1 u 0 (μ.1 u 0 - Int32.ofInt 1)) z := hFo
    refine h F' ⟨?_, by omega, g3, fun j X hj => ?_⟩ hF' fun z hz hz2 => ?_
    · rw [hFo _ (by omega), u2_eq]
      exact e1
    · have hjl : j < U.length := (List.getElem?_eq_some_iff.mp hj).1
      have hX := g4 (j + 1) X hj
      have e : (V :: U).length - 1 - (j + 1) = U.length - 1 - j := by
        show U.length + 1 - 1 - (j + 1) = _
        omega
      rw [e] at hX
      have r2 := g3.rng (j := U.length - 1 - j) (by omega)
      refine hX.keep (fun z z1 z2 => ?_) fun _ _ _ => rfl
      rw [hFo _ (by omega), u2_ne _ _ (by omega)]
    · rw [hFo _ hz2, u2_ne _ _ hz]
/-! the object at x (kind 19): its world x + 1, its stack x + 490; its checks -/
def thr (μ : MM) (k : Nat) (K : OC → MM → Prop) : Prop := ∀ z, μ.2.2.2.2 ≤ z → K (.inr k) (μ.1, μ.2.1, μ.2.2.1, μ.2.2.2.1, z)
def sp_X9_checkEntity : SPc := fun As μ K => match As with
  | [.inl e] => ((0 ≤ e ∧ e ≤ 15) → K (.inl none) μ) ∧ (¬ (0 ≤ e ∧ e ≤ 15) → thr μ 1 K)
  | _ => False
theorem lt_le1 {e : Int32} (n : Nat) (hn : n + 1 < 2 ^ 31) : e < nI (n + 1) ↔ e ≤ nI n := by
  rw [Int32.lt_iff_toInt_lt, Int32.le_iff_toInt_le, nI_toInt hn, nI_toInt (by omega)]
  omega
def ct_X9_checkEntity : List (Nat × CI) := []
def ci_X9_checkEntity : CI := (yX9_checkEntity, cX9_checkEntity, 1, none, 1, (6, 1, 6, 90), 0, [], sp_X9_checkEntity)
set_option maxRecDepth 100000 in
theorem ck_X9_checkEntity : chkM ci_X9_checkEntity RX9 co_X9_checkEntity ct_X9_checkEntity [] false false = true := by decide +kernel
set_option maxHeartbeats 4000000 in
set_option maxRecDepth 100000 in
theorem ms_X9_checkEntity {g : GPT} {ot : OT} {l : Launch} (hl : l.stackTraces = false) : MS g ot l ci_X9_checkEntity := by
  refine ms0_of hl RX9 co_X9_checkEntity ct_X9_checkEntity [] false false 12 ck_X9_checkEntity (fun _ h => nomatch h) ?_
  intro As μ K h
  simp only [ci_X9_checkEntity, sp_X9_checkEntity] at h
  split at h
  case h_2 => exact h.elim
  rename_i e
  obtain ⟨h1, h2⟩ := h
  refine ⟨Nat.le_of_ble_eq_true rfl, fun q => ⟨by decide, h2 fun w => ?_⟩, fun q => ⟨fun q2 => h1 ⟨?_, ?_⟩, fun q2 => ⟨by decide, h2 fun w => ?_⟩⟩⟩
  · exact Int32.not_le.mpr q w.1
  · exact Int32.not_lt.mp q
  · have q2 : e < nI 16 := q2
    exact (lt_le1 15 (by omega)).mp q2
  · have q2 : ¬ e < nI 16 := q2
    exact q2 ((lt_le1 15 (by omega)).mpr w.2)
def sp_X9_checkRange : SPc := fun As μ K => match As with
  | [.inl v, .inl a, .inl b] => ((a ≤ v ∧ v ≤ b) → K (.inl none) μ) ∧ (¬ (a ≤ v ∧ v ≤ b) → thr μ 2 K)
  | _ => False
def ct_X9_checkRange : List (Nat × CI) := []
def ci_X9_checkRange : CI := (yX9_checkRange, cX9_checkRange, 3, none, 3, (6, 1, 6, 90), 0, [], sp_X9_checkRange)
set_option maxRecDepth 100000 in
theorem ck_X9_checkRange : chkM ci_X9_checkRange RX9 co_X9_checkRange ct_X9_checkRange [] false false = true := by decide +kernel
set_option maxHeartbeats 4000000 in
set_option maxRecDepth 100000 in
theorem ms_X9_checkRange {g : GPT} {ot : OT} {l : Launch} (hl : l.stackTraces = false) : MS g ot l ci_X9_checkRange := by
  refine ms0_of hl RX9 co_X9_checkRange ct_X9_checkRange [] false false 13 ck_X9_checkRange (fun _ h => nomatch h) ?_
  intro As μ K h
  simp only [ci_X9_checkRange, sp_X9_checkRange] at h
  split at h
  case h_2 => exact h.elim
  rename_i v a b
  obtain ⟨h1, h2⟩ := h
  refine ⟨Nat.le_of_ble_eq_true rfl, fun q => ⟨by decide, h2 fun w => Int32.not_le.mpr q w.1⟩, fun q => ⟨fun q2 => h1 ⟨Int32.not_lt.mp q, q2⟩, fun q2 => ⟨by decide, h2 fun w => q2 w.2⟩⟩⟩
def sp_X9_checkExists : SPc := fun As μ K => match As with
  | [.inr (.inr (19, x)), .inl e] => ∃ j : Nat, e = nI j ∧ j < 16 ∧ (¬ μ.1 (x + 3) j = -1 → K (.inl none) μ) ∧ (μ.1 (x + 3) j = -1 → thr μ 3 K)
  | _ => False
def ct_X9_checkExists : List (Nat × CI) := [(216, ci_X2_exists)]
def ci_X9_checkExists : CI := (yX9_checkExists, cX9_checkExists, 2, none, 2, (6, 1, 6, 90), 18, [], sp_X9_checkExists)
set_option maxRecDepth 100000 in
theorem ck_X9_checkExists : chkM ci_X9_checkExists RX9 co_X9_checkExists ct_X9_checkExists [] false false = true := by decide +kernel
set_option maxHeartbeats 4000000 in
set_option maxRecDepth 100000 in
theorem ms_X9_checkExists {g : GPT} {ot : OT} {l : Launch} (hl : l.stackTraces = false) : MS g ot l ci_X9_checkExists := by
  refine ms0_of hl RX9 co_X9_checkExists ct_X9_checkExists [] false false 13 ck_X9_checkExists (List.forall_mem_cons.mpr ⟨ms_X2_exists hl, fun _ h => nomatch h⟩) ?_
  intro As μ K h
  simp only [ci_X9_checkExists, sp_X9_checkExists] at h
  split at h
  case h_2 => exact h.elim
  rename_i x e
  obtain ⟨j, rfl, hj, h1, h2⟩ := h
  refine ⟨Nat.le_of_ble_eq_true rfl, j, rfl, hj, fun q => h1 ?_, fun q => ⟨by decide, h2 ?_⟩⟩
  · exact (iB_ne0 _).mp q
  · have q : ¬ ¬ iB (¬ μ.1 (x + 3) j = -1) = 0 := q
    rw [iB_ne0, Classical.not_not] at q
    exact q
def sp_X9_clientOf : SPc := fun As μ K => match As with
  | [.inr (.inr (19, x)), .inl c] => μ.2.1 (x + 6) 3 = 3 ∧ (∀ i, c = nI i → i < 3 → K (.inl (some (.inr (.inr (14, x + 7 + 161 * i))))) μ) ∧ (¬ (0 ≤ c ∧ c ≤ 2) → thr μ 1 K)
  | _ => False
theorem in_nat {c : Int32} {n : Nat} (h0 : 0 ≤ c) (h1 : c ≤ nI n) (hn : n < 2 ^ 31) : ∃ i, i ≤ n ∧ c = nI i := by
  rw [Int32.le_iff_toInt_le] at h0 h1
  rw [nI_toInt hn] at h1
  have z : (0 : Int32).toInt = 0 := rfl
  rw [z] at h0
  refine ⟨c.toInt.toNat, by omega, ?_⟩
  apply Int32.toInt_inj.mp
  rw [nI_toInt (by omega)]
  omega
def ct_X9_clientOf : List (Nat × CI) := []
def ci_X9_clientOf : CI := (yX9_clientOf, cX9_clientOf, 2, some (.object "WorldDeltas$Client"), 2, (6, 1, 6, 90), 18, [], sp_X9_clientOf)
set_option maxRecDepth 100000 in
theorem ck_X9_clientOf : chkM ci_X9_clientOf RX9 co_X9_clientOf ct_X9_clientOf [] false false = true := by decide +kernel
set_option maxHeartbeats 4000000 in
set_option maxRecDepth 100000 in
theorem ms_X9_clientOf {g : GPT} {ot : OT} {l : Launch} (hl : l.stackTraces = false) : MS g ot l ci_X9_clientOf := by
  refine ms0_of hl RX9 co_X9_clientOf ct_X9_clientOf [] false false 17 ck_X9_clientOf (fun _ h => nomatch h) ?_
  intro As μ K h
  simp only [ci_X9_clientOf, sp_X9_clientOf] at h
  split at h
  case h_2 => exact h.elim
  rename_i x c
  obtain ⟨h0, h1, h2⟩ := h
  refine ⟨Nat.le_of_ble_eq_true rfl, fun q => ⟨by decide, h2 fun w => ?_⟩, fun q => ⟨fun q2 => ?_, fun q2 => ⟨by decide, h2 fun w => ?_⟩⟩⟩
  · exact Int32.not_le.mpr q w.1
  · have q2 : c < nI 3 := q2
    obtain ⟨i, hi, rfl⟩ := in_nat (Int32.not_lt.mp q) ((lt_le1 2 (by omega)).mp q2) (by omega)
    have := h1 i rfl (by omega)
    have e : x + 1 + 5 + 1 + 161 * i = x + 7 + 161 * i := by omega
    rw [← e] at this
    exact ⟨i, rfl, by omega, by show i < μ.2.1 (x + 6) 3; rw [h0]; omega, this⟩
  · have q2 : ¬ c < nI 3 := q2
    exact q2 ((lt_le1 2 (by omega)).mpr w.2)
def sp_X9_checkConnected : SPc := fun As μ K => match As with
  | [.inr (.inr (14, a))] => (¬ μ.1 a 0 = 0 → K (.inl none) μ) ∧ (μ.1 a 0 = 0 → thr μ 3 K)
  | _ => False
def ct_X9_checkConnected : List (Nat × CI) := []
def ci_X9_checkConnected : CI := (yX9_checkConnected, cX9_checkConnected, 1, none, 1, (6, 1, 6, 90), 0, [], sp_X9_checkConnected)
set_option maxRecDepth 100000 in
theorem ck_X9_checkConnected : chkM ci_X9_checkConnected RX9 co_X9_checkConnected ct_X9_checkConnected [] false false = true := by decide +kernel
set_option maxHeartbeats 4000000 in
set_option maxRecDepth 100000 in
theorem ms_X9_checkConnected {g : GPT} {ot : OT} {l : Launch} (hl : l.stackTraces = false) : MS g ot l ci_X9_checkConnected := by
  refine ms0_of hl RX9 co_X9_checkConnected ct_X9_checkConnected [] false false 10 ck_X9_checkConnected (fun _ h => nomatch h) ?_
  intro As μ K h
  simp only [ci_X9_checkConnected, sp_X9_checkConnected] at h
  split at h
  case h_2 => exact h.elim
  rename_i a
  obtain ⟨h1, h2⟩ := h
  exact ⟨Nat.le_of_ble_eq_true rfl, fun q => h1 q, fun q => ⟨by decide, h2 (Classical.not_not.mp q)⟩⟩
def sp_X9_packetOf : SPc := fun As μ K => match As with
  | [.inr (.inr (14, a)), .inl c] => ∃ L : List PK, PL false μ.1 μ.2.1 (a + 9) L ∧ (∀ (i : Nat) (p : PK), c = nI i → L[i]? = some p → K (.inl (some (.inr (.inr (11, μ.2.1 (a + 10) i))))) μ) ∧ ((∀ i, i < L.length → ¬ c = nI i) → thr μ 2 K)
  | _ => False
def ct_X9_packetOf : List (Nat × CI) := []
def ci_X9_packetOf : CI := (yX9_packetOf, cX9_packetOf, 2, some (.object "WorldDeltas$Packet"), 2, (6, 1, 6, 90), 0, [], sp_X9_packetOf)
set_option maxRecDepth 100000 in
theorem ck_X9_packetOf : chkM ci_X9_packetOf RX9 co_X9_packetOf ct_X9_packetOf [] false false = true := by decide +kernel
set_option maxHeartbeats 4000000 in
set_option maxRecDepth 100000 in
theorem ms_X9_packetOf {g : GPT} {ot : OT} {l : Launch} (hl : l.stackTraces = false) : MS g ot l ci_X9_packetOf := by
  refine ms0_of hl RX9 co_X9_packetOf ct_X9_packetOf [] false false 19 ck_X9_packetOf (fun _ h => nomatch h) ?_
  intro As μ K h
  simp only [ci_X9_packetOf, sp_X9_packetOf] at h
  split at h
  case h_2 => exact h.elim
  rename_i a c
  obtain ⟨L, hL, h1, h2⟩ := h
  have l12 := hL.2.1
  refine ⟨Nat.le_of_ble_eq_true rfl, fun q => ⟨by decide, h2 fun i hi w => ?_⟩, fun q => ⟨fun q2 => ?_, fun q2 => ⟨by decide, h2 fun i hi w => ?_⟩⟩⟩
  · have q : c < 0 := q
    rw [w, z_nI, nI_lt_iff (by omega) (by omega)] at q
    omega
  · have q2 : c < μ.1 (a + 9) 0 := q2
    rw [hL.1] at q2
    have l0 : 0 < L.length := by
      refine Nat.pos_of_ne_zero fun w => ?_
      rw [w] at q2
      exact q q2
    have e : L.length - 1 + 1 = L.length := by omega
    rw [← e] at q2
    obtain ⟨i, hi, rfl⟩ := in_nat (Int32.not_lt.mp q) ((lt_le1 (L.length - 1) (by omega)).mp q2) (by omega)
    obtain ⟨p, hp⟩ := at_of_lt (l := L) (k := i) (by omega)
    exact ⟨i, rfl, by omega, by show i < μ.2.1 (a + 9 + 1) 12; rw [hL.2.2.1.1]; omega, h1 i p rfl hp⟩
  · have q2 : ¬ c < μ.1 (a + 9) 0 := q2
    rw [hL.1, w, nI_lt_iff (by omega) (by omega)] at q2
    omega
