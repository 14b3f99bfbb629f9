/-! THE CLASS, acknowledgements on their way: at c (kind 10), rows c + 1, c + 2. -/
def CA (F : Nat → Nat → Int32) (c : Nat) (l : List (Int32 × Int32)) : Prop := F c 0 = nI l.length ∧ l.length ≤ 24 ∧ ∀ (i : Nat) (q : Int32 × Int32), l[i]? = some q → F (c + 1) i = q.1 ∧ F (c + 2) i = q.2
theorem CA.keep {F F' : Nat → Nat → Int32} {c : Nat} {l : List (Int32 × Int32)} (h : CA F c l) (hF : ∀ z, c ≤ z → z < c + 3 → F' z = F z) : CA F' c l := by
  obtain ⟨h1, h2, h3⟩ := h
  refine ⟨by rw [hF _ (by omega) (by omega)]; exact h1, h2, fun i q hq => ?_⟩
  rw [hF _ (by omega) (by omega), hF _ (by omega) (by omega)]
  exact h3 i q hq
def sp_X0_copyFrom : SPc := fun As μ K => match As with
  | [.inr (.inr (10, c)), .inr (.inr (10, c'))] => ∃ (l : List (Int32 × Int32)), CA μ.1 c' l ∧ (c + 3 ≤ c' ∨ c' + 3 ≤ c) ∧ ∀ F', CA F' c l → (∀ z, (z < c ∨ c + 3 ≤ z) → F' z = μ.1 z) → K (.inl none) (F', μ.2)
  | _ => False
def ct_X0_copyFrom : List (Nat × CI) := []
def ci_X0_copyFrom : CI := (yX0_copyFrom, cX0_copyFrom, 2, none, 2, (1, 0, 0, 18), 10, [], sp_X0_copyFrom)
set_option maxRecDepth 100000 in
theorem ck_X0_copyFrom : chkM ci_X0_copyFrom RX0 co_X0_copyFrom ct_X0_copyFrom [] false false = true := by decide +kernel
set_option maxHeartbeats 4000000 in
set_option maxRecDepth 100000 in
theorem ms_X0_copyFrom {g : GPT} {ot : OT} {l : Launch} (hl : l.stackTraces = false) : MS g ot l ci_X0_copyFrom := by
  refine ms0_of hl RX0 co_X0_copyFrom ct_X0_copyFrom [] false false 26 ck_X0_copyFrom (fun _ h => nomatch h) ?_
  intro As μ K h
  simp only [ci_X0_copyFrom, sp_X0_copyFrom] at h
  split at h
  case h_2 => exact h.elim
  rename_i c c'
  obtain ⟨l, ⟨h1, h2, h3⟩, hc, h⟩ := h
  refine ⟨Nat.le_of_ble_eq_true rfl, 0, 0, 24, rfl, rfl, rfl, by omega, by omega, 0, 0, 24, rfl, rfl, rfl, by omega, by omega, ?_⟩
  refine h _ ⟨?_, h2, fun i q hq => ?_⟩ fun z hz => ?_
  · dsimp only
    simp (disch := omega) only [cpR_off, u2_eq]
    exact h1
  · have hl : i < l.length := (List.getElem?_eq_some_iff.mp hq).1
    have hl2 : i < 24 := by omega
    dsimp only
    simp (disch := omega) only [cpR_off, cpR_0, u2_ne]
    exact h3 i q hq
  · dsimp only
    simp (disch := omega) only [cpR_off, u2_ne]
def sp_X0_add : SPc := fun As μ K => match As with
  | [.inr (.inr (10, c)), .inl n, .inl v] => ∃ (l : List (Int32 × Int32)), CA μ.1 c l ∧ l.length < 24 ∧ ∀ F', CA F' c (l ++ [(n, v)]) → (∀ z, (z < c ∨ c + 3 ≤ z) → F' z = μ.1 z) → K (.inl none) (F', μ.2)
  | _ => False
def ct_X0_add : List (Nat × CI) := []
def ci_X0_add : CI := (yX0_add, cX0_add, 3, none, 3, (0, 0, 0, 0), 10, [], sp_X0_add)
set_option maxRecDepth 100000 in
theorem ck_X0_add : chkM ci_X0_add RX0 co_X0_add ct_X0_add [] false false = true := by decide +kernel
set_option maxHeartbeats 4000000 in
set_option maxRecDepth 100000 in
theorem ms_X0_add {g : GPT} {ot : OT} {l : Launch} (hl : l.stackTraces = false) : MS g ot l ci_X0_add := by
  refine ms0_of hl RX0 co_X0_add ct_X0_add [] false false 28 ck_X0_add (fun _ h => nomatch h) ?_
  intro As μ K h
  simp only [ci_X0_add, sp_X0_add] at h
  split at h
  case h_2 => exact h.elim
  rename_i c n v
  obtain ⟨l, ⟨h1, h2, h3⟩, hl, h⟩ := h
  refine ⟨Nat.le_of_ble_eq_true rfl, fun q => ?_, fun q => ⟨l.length, h1, hl, l.length, ?_, hl, ?_⟩⟩
  · have q : nI 24 ≤ μ.1 c 0 := q
    rw [h1, nI_le_iff (by omega) (by omega)] at q
    omega
  · dsimp only
    simp (disch := omega) only [u2_ne]
    exact h1
  · refine h _ ⟨?_, ?_, fun i p hp => ?_⟩ fun z hz => ?_
    · dsimp only
      simp (disch := omega) only [u2_eq, u2_ne]
      rw [h1, List.length_append]
      exact nI_add _ 1
    · rw [List.length_append]
      exact hl
    · have hi : i < (l ++ [(n, v)]).length := (List.getElem?_eq_some_iff.mp hp).1
      rw [List.length_append] at hi
      have hi : i < l.length + 1 := hi
      dsimp only
      by_cases w : i < l.length
      · rw [List.getElem?_append_left w] at hp
        simp (disch := omega) only [u2_nj, u2_ne]
        exact h3 i p hp
      · obtain rfl : i = l.length := by omega
        rw [List.getElem?_append_right (Nat.le_refl _), Nat.sub_self] at hp
        cases hp
        simp (disch := omega) only [u2_eq, u2_ne]
        exact ⟨trivial, trivial⟩
    · dsimp only
      simp (disch := omega) only [u2_ne]
def akcL (c w k : Nat) (t : Int32) : LC := [some (.inr (.inr (10, c))), some (.inl t), some (.inl (nI w)), some (.inl (nI k))]
def sp_X0_removeArrived : SPc := fun As μ K => match As with
  | [.inr (.inr (10, c)), .inl t] => ∃ (l : List (Int32 × Int32)), CA μ.1 c l ∧ ∀ F', CA F' c (kpA t l) → (∀ z, (z < c ∨ c + 3 ≤ z) → F' z = μ.1 z) → K (.inl none) (F', μ.2)
  | _ => False
def ct_X0_removeArrived : List (Nat × CI) := []
def ci_X0_removeArrived : CI := (yX0_removeArrived, cX0_removeArrived, 4, none, 2, (0, 0, 0, 0), 10, [], sp_X0_removeArrived)
set_option maxRecDepth 100000 in
theorem ck_X0_removeArrived : chkM ci_X0_removeArrived RX0 co_X0_removeArrived ct_X0_removeArrived [] false false = true := by decide +kernel
set_option maxHeartbeats 4000000 in
set_option maxRecDepth 100000 in
theorem ms_X0_removeArrived {g : GPT} {ot : OT} {l : Launch} (hl : l.stackTraces = false) : MS g ot l ci_X0_removeArrived := by
  refine ms_of hl RX0 co_X0_removeArrived ct_X0_removeArrived [] false false [4] 42 ck_X0_removeArrived (fun _ h => nomatch h) ?_
  intro As μ K h
  simp only [ci_X0_removeArrived, sp_X0_removeArrived] at h
  split at h
  case h_2 => exact h.elim
  rename_i c t
  obtain ⟨l, hl, h⟩ := h
  have l24 := hl.2.1
  refine ⟨Nat.le_of_ble_eq_true rfl, fun m pc lc st μ' ce sl => ∃ k F, k ≤ l.length ∧ m = l.length - k ∧ pc = 4 ∧ lc = akcL c (kpA t (l.take k)).length k t ∧ st = [] ∧ μ' = (F, μ.2) ∧ CA F c (goA t l k) ∧ (∀ z, (z < c ∨ c + 3 ≤ z) → F z = μ.1 z) ∧ ce = 0 ∧ sl = 0, ?_, ?_⟩
  · exact ⟨l.length, akcL c 0 0 t, ⟨rfl, rfl, rfl, rfl, trivial⟩, 0, μ.1, Nat.zero_le _, rfl, rfl, rfl, rfl, rfl, hl, fun _ _ => rfl, rfl, rfl⟩
  · rintro m pc lc st μ' ce sl ⟨k, F, hk, rfl, rfl, rfl, rfl, rfl, hg, hF, rfl, rfl⟩
    have hw := kpA_le t l k
    have hgl := goA_len t l hk
    obtain ⟨g1, g2, g3⟩ := hg
    rw [hgl] at g1
    refine ⟨fun q => ?_, fun q => ?_⟩
    · have q : F c 0 ≤ nI k := q
      rw [g1, nI_le_iff (by omega) (by omega)] at q
      obtain rfl : k = l.length := by omega
      rw [List.take_length] at hw ⊢
      refine h _ ⟨?_, ?_, fun i p hp => ?_⟩ fun z hz => ?_
      · dsimp only
        rw [u2_eq]
      · show (kpA t l).length ≤ 24
        omega
      · have hi : i < (kpA t l).length := (List.getElem?_eq_some_iff.mp hp).1
        have e : (goA t l l.length)[i]? = some p := by
          unfold goA
          rw [List.take_length, List.getElem?_append_left hi]
          exact hp
        dsimp only
        simp (disch := omega) only [u2_ne]
        exact g3 i p e
      · dsimp only
        rw [u2_ne _ _ (by omega)]
        exact hF z hz
    · have q : ¬ F c 0 ≤ nI k := q
      rw [g1, nI_le_iff (by omega) (by omega)] at q
      obtain ⟨p, hp⟩ := at_of_lt (l := l) (k := k) (by omega)
      obtain ⟨b1, b2⟩ := g3 k p (goA_at t hp)
      refine ⟨k, rfl, by omega, fun q2 => ?_, fun q2 => ?_⟩
      · have q3 : F (c + 2) k = t := q2
        rw [b2] at q3
        refine ⟨l.length - (k + 1), akcL c (kpA t (l.take (k + 1))).length (k + 1) t, by omega, ⟨rfl, rfl, ?_, inc_tv k, trivial⟩, k + 1, F, by omega, rfl, rfl, rfl, rfl, rfl, ?_, hF, rfl, rfl⟩
        · rw [kpA_S t hp, if_pos q3, List.append_nil]
        · rw [goA_no t hp q3]
          exact ⟨by rw [hgl]; exact g1, g2, g3⟩
      · have q3 : ¬ F (c + 2) k = t := q2
        rw [b2] at q3
        have e3 : (kpA t (l.take (k + 1))).length = (kpA t (l.take k)).length + 1 := by rw [kpA_S t hp, if_neg q3, List.length_append]; rfl
        have e4 := goA_S t hp q3
        have hgl2 := goA_len t l (k := k + 1) (by omega)
        refine ⟨k, rfl, by omega, _, rfl, by omega, k, rfl, by omega, _, rfl, by omega, l.length - (k + 1), akcL c (kpA t (l.take (k + 1))).length (k + 1) t, by omega, ⟨rfl, rfl, ?_, inc_tv k, trivial⟩, k + 1, _, by omega, rfl, rfl, rfl, rfl, rfl, ⟨?_, by omega, fun i p' hp' => ?_⟩, fun z hz => ?_, rfl, rfl⟩
        · rw [e3]
          exact inc_tv _
        · simp (disch := omega) only [u2_ne]
          rw [hgl2]
          exact g1
        · have hi : i < (goA t l (k + 1)).length := (List.getElem?_eq_some_iff.mp hp').1
          rw [e4] at hp'
          by_cases w : (kpA t (l.take k)).length = i
          · subst w
            rw [List.getElem?_set_self (by omega)] at hp'
            cases hp'
            simp (disch := omega) only [u2_eq, u2_ne]
            exact ⟨b1, b2⟩
          · rw [List.getElem?_set_ne w] at hp'
            simp (disch := omega) only [u2_nj, u2_ne]
            exact g3 i p' hp'
        · simp (disch := omega) only [u2_ne]
          exact hF z hz
/-! THE CLASS, a client's records: at d (kind 9), rows d + 1 (how many), d + 2 (numbers), d + 3 (states). -/
def CR (F : Nat → Nat → Int32) (d e : Nat) (l : List (Int32 × Int32)) : Prop := F (d + 1) e = nI l.length ∧ l.length ≤ 12 ∧ ∀ (i : Nat) (q : Int32 × Int32), l[i]? = some q → F (d + 2) (12 * e + i) = q.1 ∧ F (d + 3) (12 * e + i) = q.2
def CD (F : Nat → Nat → Int32) (d : Nat) (R : Nat → List (Int32 × Int32)) : Prop := ∀ e, e < 16 → CR F d e (R e)
theorem CD.keep {F F' : Nat → Nat → Int32} {d : Nat} {R : Nat → List (Int32 × Int32)} (h : CD F d R) (hF : ∀ z, d ≤ z → z < d + 4 → F' z = F z) : CD F' d R := fun e he => by
  obtain ⟨h1, h2, h3⟩ := h e he
  refine ⟨by rw [hF _ (by omega) (by omega)]; exact h1, h2, fun i q hq => ?_⟩
  rw [hF _ (by omega) (by omega), hF _ (by omega) (by omega)]
  exact h3 i q hq
def sp_X5_copyFrom : SPc := fun As μ K => match As with
  | [.inr (.inr (9, d)), .inr (.inr (9, d'))] => ∃ (R : Nat → List (Int32 × Int32)), CD μ.1 d' R ∧ (d + 4 ≤ d' ∨ d' + 4 ≤ d) ∧ ∀ F', CD F' d R → (∀ z, (z < d ∨ d + 4 ≤ z) → F' z = μ.1 z) → K (.inl none) (F', μ.2)
  | _ => False
def ct_X5_copyFrom : List (Nat × CI) := []
def ci_X5_copyFrom : CI := (yX5_copyFrom, cX5_copyFrom, 2, none, 2, (1, 0, 0, 18), 15, [], sp_X5_copyFrom)
set_option maxRecDepth 100000 in
theorem ck_X5_copyFrom : chkM ci_X5_copyFrom RX5 co_X5_copyFrom ct_X5_copyFrom [] false false = true := by decide +kernel
set_option maxHeartbeats 4000000 in
set_option maxRecDepth 100000 in
theorem ms_X5_copyFrom {g : GPT} {ot : OT} {l : Launch} (hl : l.stackTraces = false) : MS g ot l ci_X5_copyFrom := by
  refine ms0_of hl RX5 co_X5_copyFrom ct_X5_copyFrom [] false false 30 ck_X5_copyFrom (fun _ h => nomatch h) ?_
  intro As μ K h
  simp only [ci_X5_copyFrom, sp_X5_copyFrom] at h
  split at h
  case h_2 => exact h.elim
  rename_i d d'
  obtain ⟨R, hR, hd, h⟩ := h
  refine ⟨Nat.le_of_ble_eq_true rfl, 0, 0, 16, rfl, rfl, rfl, by omega, by omega, 0, 0, 192, rfl, rfl, rfl, by omega, by omega, 0, 0, 192, rfl, rfl, rfl, by omega, by omega, ?_⟩
  refine h _ (fun e he => ?_) fun z hz => ?_
  · obtain ⟨h1, h2, h3⟩ := hR e he
    refine ⟨?_, h2, fun i q hq => ?_⟩
    · dsimp only
      simp (disch := omega) only [cpR_off, cpR_0]
      exact h1
    · have hl : i < (R e).length := (List.getElem?_eq_some_iff.mp hq).1
      have hl2 : 12 * e + i < 192 := by omega
      dsimp only
      simp (disch := omega) only [cpR_off, cpR_0]
      exact h3 i q hq
  · dsimp only
    simp (disch := omega) only [cpR_off]
def rcL (d k : Nat) : LC := [some (.inr (.inr (9, d))), some (.inl (nI k))]
def sp_X5_clear : SPc := fun As μ K => match As with
  | [.inr (.inr (9, d))] => ∀ F', CD F' d (fun _ => []) → (∀ z, (z < d ∨ d + 4 ≤ z) → F' z = μ.1 z) → K (.inl none) (F', μ.2)
  | _ => False
def ct_X5_clear : List (Nat × CI) := []
def ci_X5_clear : CI := (yX5_clear, cX5_clear, 2, none, 1, (0, 0, 0, 0), 15, [], sp_X5_clear)
set_option maxRecDepth 100000 in
theorem ck_X5_clear : chkM ci_X5_clear RX5 co_X5_clear ct_X5_clear [] false false = true := by decide +kernel
set_option maxHeartbeats 4000000 in
set_option maxRecDepth 100000 in
theorem ms_X5_clear {g : GPT} {ot : OT} {l : Launch} (hl : l.stackTraces = false) : MS g ot l ci_X5_clear := by
  refine ms_of hl RX5 co_X5_clear ct_X5_clear [] false false [2] 18 ck_X5_clear (fun _ h => nomatch h) ?_
  intro As μ K h
  simp only [ci_X5_clear, sp_X5_clear] at h
  split at h
  case h_2 => exact h.elim
  rename_i d
  refine ⟨Nat.le_of_ble_eq_true rfl, fun m pc lc st μ' ce sl => ∃ k F, k ≤ 16 ∧ m = 16 - k ∧ pc = 2 ∧ lc = rcL d k ∧ st = [] ∧ μ' = (F, μ.2) ∧ (∀ e, e < k → F (d + 1) e = 0) ∧ (∀ z, (z < d ∨ d + 4 ≤ z) → F z = μ.1 z) ∧ ce = 0 ∧ sl = 0, ?_, ?_⟩
  · exact ⟨16, rcL d 0, ⟨rfl, rfl, trivial⟩, 0, μ.1, Nat.zero_le _, rfl, rfl, rfl, rfl, rfl, fun e he => absurd he (Nat.not_lt_zero _), fun _ _ => rfl, rfl, rfl⟩
  · rintro m pc lc st μ' ce sl ⟨k, F, hk, rfl, rfl, rfl, rfl, rfl, hg, hF, rfl, rfl⟩
    refine ⟨fun h1 => ?_, fun h1 => ?_⟩
    · simp only [icP, ifP, iL, iM1] at h1
      try simp only [z_nI] at h1
      try simp only [nI_add, nI_mul] at h1
      first | rw [nI_le_iff (by omega) (by omega)] at h1 | rw [nI_lt_iff (by omega) (by omega)] at h1 | rw [nI_eq_iff (by omega) (by omega)] at h1
      obtain rfl : k = 16 := by omega
      exact h F (fun e he => ⟨hg e he, Nat.zero_le _, fun i q hq => by cases hq⟩) hF
    · simp only [icP, ifP, iL, iM1] at h1
      try simp only [z_nI] at h1
      try simp only [nI_add, nI_mul] at h1
      first | rw [nI_le_iff (by omega) (by omega)] at h1 | rw [nI_lt_iff (by omega) (by omega)] at h1 | rw [nI_eq_iff (by omega) (by omega)] at h1
      refine ⟨k, rfl, by omega, 16 - (k + 1), rcL d (k + 1), by omega, ⟨rfl, inc_tv k, trivial⟩, k + 1, _, by omega, rfl, rfl, rfl, rfl, rfl, fun e he => ?_, fun z hz => ?_, rfl, rfl⟩
      · by_cases w : e = k
        · rw [w, u2_eq]
          rfl
        · rw [u2_nj _ _ w]
          exact hg e (by omega)
      · rw [u2_ne _ _ (by omega)]
        exact hF z hz
def sp_X5_dropOldest : SPc := fun As μ K => match As with
  | [.inr (.inr (9, d)), .inl e'] => ∃ (e : Nat) (R : Nat → List (Int32 × Int32)), e' = nI e ∧ e < 16 ∧ CD μ.1 d R ∧ (R e).length = 12 ∧ ∀ F', CD F' d (up1 R e ((R e).drop 1)) → (∀ z, (z < d ∨ d + 4 ≤ z) → F' z = μ.1 z) → K (.inl none) (F', μ.2)
  | _ => False
theorem up1_eq' {α : Type} (f : Nat → α) (a : Nat) (v : α) : up1 f a v a = v := by unfold up1; rw [if_pos rfl]
def ct_X5_dropOldest : List (Nat × CI) := []
def ci_X5_dropOldest : CI := (yX5_dropOldest, cX5_dropOldest, 3, none, 2, (1, 0, 0, 18), 15, [], sp_X5_dropOldest)
set_option maxRecDepth 100000 in
theorem ck_X5_dropOldest : chkM ci_X5_dropOldest RX5 co_X5_dropOldest ct_X5_dropOldest [] false false = true := by decide +kernel
set_option maxHeartbeats 4000000 in
set_option maxRecDepth 100000 in
theorem ms_X5_dropOldest {g : GPT} {ot : OT} {l : Launch} (hl : l.stackTraces = false) : MS g ot l ci_X5_dropOldest := by
  refine ms0_of hl RX5 co_X5_dropOldest ct_X5_dropOldest [] false false 35 ck_X5_dropOldest (fun _ h => nomatch h) ?_
  intro As μ K h
  simp only [ci_X5_dropOldest, sp_X5_dropOldest] at h
  split at h
  case h_2 => exact h.elim
  rename_i d e'
  obtain ⟨e, R, rfl, he, hR, hl, h⟩ := h
  have x1 : nI e * nI 12 = nI (12 * e) := by rw [nI_mul, Nat.mul_comm]
  refine ⟨Nat.le_of_ble_eq_true rfl, 12 * e + 1, 12 * e, 11, ?_, x1, rfl, by omega, by omega, 12 * e + 1, 12 * e, 11, ?_, x1, rfl, by omega, by omega, e, rfl, he, ?_⟩
  · show nI e * nI 12 + nI 1 = _
    rw [x1, nI_add]
  · show nI e * nI 12 + nI 1 = _
    rw [x1, nI_add]
  · refine h _ (fun j hj => ?_) fun z hz => ?_
    · by_cases w : j = e
      · subst w
        rw [up1_eq']
        obtain ⟨h1, h2, h3⟩ := hR j hj
        refine ⟨?_, by rw [List.length_drop]; omega, fun i q hq => ?_⟩
        · dsimp only
          rw [u2_eq, List.length_drop, hl]
          rfl
        · have hi : i < ((R j).drop 1).length := (List.getElem?_eq_some_iff.mp hq).1
          rw [List.length_drop] at hi
          rw [List.getElem?_drop] at hq
          have hi2 : 12 * j ≤ 12 * j + i ∧ 12 * j + i < 12 * j + 11 := by omega
          have ei : 12 * j + 1 + (12 * j + i - 12 * j) = 12 * j + (1 + i) := by omega
          dsimp only
          simp (disch := omega) only [u2_ne, cpR_off, cpR_in]
          rw [ei]
          exact h3 _ q hq
      · rw [up1_ne' _ _ w]
        obtain ⟨h1, h2, h3⟩ := hR j hj
        refine ⟨?_, h2, fun i q hq => ?_⟩
        · dsimp only
          rw [u2_nj _ _ w, cpR_off (by omega), cpR_off (by omega)]
          exact h1
        · have hi : i < (R j).length := (List.getElem?_eq_some_iff.mp hq).1
          have hi2 : ¬ (12 * e ≤ 12 * j + i ∧ 12 * j + i < 12 * e + 11) := by omega
          dsimp only
          simp (disch := omega) only [u2_ne, cpR_off, cpR_out]
          exact h3 i q hq
    · dsimp only
      simp (disch := omega) only [u2_ne, cpR_off]
def adL (d e : Nat) (n s : Int32) : LC := [some (.inr (.inr (9, d))), some (.inl (nI e)), some (.inl n), some (.inl s), none]
def sp_X5_add : SPc := fun As μ K => match As with
  | [.inr (.inr (9, d)), .inl e', .inl n, .inl s] => ∃ (e : Nat) (R : Nat → List (Int32 × Int32)), e' = nI e ∧ e < 16 ∧ CD μ.1 d R ∧ ∀ F', CD F' d (up1 R e (addRec (R e) n s)) → (∀ z, (z < d ∨ d + 4 ≤ z) → F' z = μ.1 z) → K (.inl none) (F', μ.2)
  | _ => False
def ct_X5_add : List (Nat × CI) := [(27, ci_X5_dropOldest)]
def ci_X5_add : CI := (yX5_add, cX5_add, 5, none, 4, (2, 0, 0, 40), 15, [], sp_X5_add)
set_option maxRecDepth 100000 in
theorem ck_X5_add : chkM ci_X5_add RX5 co_X5_add ct_X5_add [] false false = true := by decide +kernel
set_option maxHeartbeats 4000000 in
set_option maxRecDepth 100000 in
theorem ms_X5_add {g : GPT} {ot : OT} {l : Launch} (hl : l.stackTraces = false) : MS g ot l ci_X5_add := by
  refine ms_of hl RX5 co_X5_add ct_X5_add [] false false [16] 42 ck_X5_add (List.forall_mem_cons.mpr ⟨ms_X5_dropOldest hl, fun _ h => nomatch h⟩) ?_
  intro As μ K h
  simp only [ci_X5_add, sp_X5_add] at h
  split at h
  case h_2 => exact h.elim
  rename_i d e' n s
  obtain ⟨e, R, rfl, he, hR, h⟩ := h
  obtain ⟨r1, r2, r3⟩ := hR e he
  refine ⟨Nat.le_of_ble_eq_true rfl, fun m pc lc st μ' ce sl => ∃ F l, l.length < 12 ∧ l ++ [(n, s)] = addRec (R e) n s ∧ m = 0 ∧ pc = 16 ∧ lc = adL d e n s ∧ st = [] ∧ μ' = (F, μ.2) ∧ CD F d (up1 R e l) ∧ (∀ z, (z < d ∨ d + 4 ≤ z) → F z = μ.1 z) ∧ ce = 0 ∧ sl = 0, ?_, ?_⟩
  · refine ⟨e, rfl, he, fun q => ?_, fun q => ⟨e, R, rfl, he, hR, ?_, fun F' hF hFo => ⟨0, adL d e n s, ⟨rfl, rfl, rfl, rfl, trivial⟩, F', (R e).drop 1, ?_, ?_, rfl, rfl, rfl, rfl, rfl, hF, hFo, rfl, rfl⟩⟩⟩
    · have q : μ.1 (d + 1) e < nI 12 := q
      rw [r1, nI_lt_iff (by omega) (by omega)] at q
      refine ⟨0, adL d e n s, ⟨rfl, rfl, rfl, rfl, trivial⟩, μ.1, R e, q, ?_, rfl, rfl, rfl, rfl, rfl, ?_, fun _ _ => rfl, rfl, rfl⟩
      · unfold addRec
        rw [if_neg (by omega)]
      · intro j hj
        by_cases w : j = e
        · rw [w, up1_eq']
          exact hR e he
        · rw [up1_ne' _ _ w]
          exact hR j hj
    · have q : ¬ μ.1 (d + 1) e < nI 12 := q
      rw [r1, nI_lt_iff (by omega) (by omega)] at q
      omega
    · have q : ¬ μ.1 (d + 1) e < nI 12 := q
      rw [r1, nI_lt_iff (by omega) (by omega)] at q
      rw [List.length_drop]
      omega
    · have q : ¬ μ.1 (d + 1) e < nI 12 := q
      rw [r1, nI_lt_iff (by omega) (by omega)] at q
      unfold addRec
      rw [if_pos (by omega)]
  · rintro m pc lc st μ' ce sl ⟨F, l, hl, hla, rfl, rfl, rfl, rfl, rfl, hg, hF, rfl, rfl⟩
    have hge := hg e he
    rw [up1_eq'] at hge
    obtain ⟨g1, g2, g3⟩ := hge
    have x1 : nI e * nI 12 + F (d + 1) e = nI (12 * e + l.length) := by rw [g1, nI_mul, nI_add, Nat.mul_comm]
    refine ⟨e, rfl, he, 12 * e + l.length, x1, by omega, 12 * e + l.length, x1, by omega, e, rfl, he, e, rfl, he, ?_⟩
    refine h _ (fun j hj => ?_) fun z hz => ?_
    · by_cases w : j = e
      · subst w
        rw [up1_eq', ← hla]
        refine ⟨?_, by rw [List.length_append]; exact hl, fun i q hq => ?_⟩
        · dsimp only
          simp (disch := omega) only [u2_eq, u2_ne]
          rw [g1, List.length_append]
          exact nI_add _ 1
        · have hi : i < (l ++ [(n, s)]).length := (List.getElem?_eq_some_iff.mp hq).1
          rw [List.length_append] at hi
          have hi : i < l.length + 1 := hi
          dsimp only
          by_cases w : i < l.length
          · rw [List.getElem?_append_left w] at hq
            simp (disch := omega) only [u2_nj, u2_ne]
            exact g3 i q hq
          · obtain rfl : i = l.length := by omega
            rw [List.getElem?_append_right (Nat.le_refl _), Nat.sub_self] at hq
            cases hq
            simp (disch := omega) only [u2_eq, u2_ne]
            exact ⟨trivial, trivial⟩
      · rw [up1_ne' _ _ w]
        have hgj := hg j hj
        rw [up1_ne' _ _ w] at hgj
        obtain ⟨j1, j2, j3⟩ := hgj
        refine ⟨?_, j2, fun i q hq => ?_⟩
        · dsimp only
          simp (disch := omega) only [u2_nj, u2_ne]
          exact j1
        · have hi : i < (R j).length := (List.getElem?_eq_some_iff.mp hq).1
          dsimp only
          simp (disch := omega) only [u2_nj, u2_ne]
          exact j3 i q hq
    · dsimp only
      simp (disch := omega) only [u2_ne]
      exact hF z hz
def sp_X5_lastNumber : SPc := fun As μ K => match As with
  | [.inr (.inr (9, d)), .inl e'] => ∃ (e : Nat) (l : List (Int32 × Int32)), e' = nI e ∧ e < 16 ∧ CR μ.1 d e l ∧ K (.inl (some (.inl (lastN l)))) μ
  | _ => False
theorem ixR {F : Nat → Nat → Int32} {d e : Nat} {l : List (Int32 × Int32)} (h : F (d + 1) e = nI l.length) (hl : 0 < l.length) : nI e * nI 12 + F (d + 1) e - nI 1 = nI (12 * e + (l.length - 1)) := by
  rw [h, nI_mul, nI_add, nI_sub1 (by omega)]
  congr 1
  omega
def ct_X5_lastNumber : List (Nat × CI) := []
def ci_X5_lastNumber : CI := (yX5_lastNumber, cX5_lastNumber, 2, some .int, 2, (0, 0, 0, 0), 15, [], sp_X5_lastNumber)
set_option maxRecDepth 100000 in
theorem ck_X5_lastNumber : chkM ci_X5_lastNumber RX5 co_X5_lastNumber ct_X5_lastNumber [] false false = true := by decide +kernel
set_option maxHeartbeats 4000000 in
set_option maxRecDepth 100000 in
theorem ms_X5_lastNumber {g : GPT} {ot : OT} {l : Launch} (hl : l.stackTraces = false) : MS g ot l ci_X5_lastNumber := by
  refine ms0_of hl RX5 co_X5_lastNumber ct_X5_lastNumber [] false false 26 ck_X5_lastNumber (fun _ h => nomatch h) ?_
  intro As μ K h
  simp only [ci_X5_lastNumber, sp_X5_lastNumber] at h
  split at h
  case h_2 => exact h.elim
  rename_i d e'
  obtain ⟨e, l, rfl, he, ⟨h1, h2, h3⟩, h⟩ := h
  refine ⟨Nat.le_of_ble_eq_true rfl, e, rfl, he, fun q => ?_, fun q => ?_⟩
  · have q : ¬ μ.1 (d + 1) e = 0 := q
    rw [h1, z_nI, nI_eq_iff (by omega) (by omega)] at q
    obtain ⟨p, hp⟩ := at_of_lt (l := l) (k := l.length - 1) (by omega)
    rw [(last_at (by omega) hp).1, ← (h3 _ p hp).1] at h
    exact ⟨e, rfl, he, 12 * e + (l.length - 1), ixR h1 (by omega), by omega, h⟩
  · have q : ¬ ¬ μ.1 (d + 1) e = 0 := q
    rw [h1, z_nI, nI_eq_iff (by omega) (by omega)] at q
    have : l = [] := List.length_eq_zero_iff.mp (by omega)
    subst this
    exact h
def sp_X5_lastState : SPc := fun As μ K => match As with
  | [.inr (.inr (9, d)), .inl e'] => ∃ (e : Nat) (l : List (Int32 × Int32)), e' = nI e ∧ e < 16 ∧ CR μ.1 d e l ∧ K (.inl (some (.inl (lastS l)))) μ
  | _ => False
def ct_X5_lastState : List (Nat × CI) := []
def ci_X5_lastState : CI := (yX5_lastState, cX5_lastState, 2, some .int, 2, (0, 0, 0, 0), 15, [], sp_X5_lastState)
set_option maxRecDepth 100000 in
theorem ck_X5_lastState : chkM ci_X5_lastState RX5 co_X5_lastState ct_X5_lastState [] false false = true := by decide +kernel
set_option maxHeartbeats 4000000 in
set_option maxRecDepth 100000 in
theorem ms_X5_lastState {g : GPT} {ot : OT} {l : Launch} (hl : l.stackTraces = false) : MS g ot l ci_X5_lastState := by
  refine ms0_of hl RX5 co_X5_lastState ct_X5_lastState [] false false 26 ck_X5_lastState (fun _ h => nomatch h) ?_
  intro As μ K h
  simp only [ci_X5_lastState, sp_X5_lastState] at h
  split at h
  case h_2 => exact h.elim
  rename_i d e'
  obtain ⟨e, l, rfl, he, ⟨h1, h2, h3⟩, h⟩ := h
  refine ⟨Nat.le_of_ble_eq_true rfl, e, rfl, he, fun q => ?_, fun q => ?_⟩
  · have q : ¬ μ.1 (d + 1) e = 0 := q
    rw [h1, z_nI, nI_eq_iff (by omega) (by omega)] at q
    obtain ⟨p, hp⟩ := at_of_lt (l := l) (k := l.length - 1) (by omega)
    rw [(last_at (by omega) hp).2, ← (h3 _ p hp).2] at h
    exact ⟨e, rfl, he, 12 * e + (l.length - 1), ixR h1 (by omega), by omega, h⟩
  · have q : ¬ ¬ μ.1 (d + 1) e = 0 := q
    rw [h1, z_nI, nI_eq_iff (by omega) (by omega)] at q
    have : l = [] := List.length_eq_zero_iff.mp (by omega)
    subst this
    exact h
theorem recS_at {l : List (Int32 × Int32)} {n : Int32} {k : Nat} {p : Int32 × Int32} (h : l[k]? = some p) (hp : p.1 = n) (hb : ∀ (i : Nat) (q : Int32 × Int32), i < k → l[i]? = some q → ¬ q.1 = n) : recS l n = p.2 := by
  have e : l.find? (fun q => decide (q.1 = n)) = some p := by
    rw [List.find?_eq_some_iff_getElem]
    have hk : k < l.length := (List.getElem?_eq_some_iff.mp h).1
    refine ⟨by simpa using hp, k, hk, ?_, fun j hj => ?_⟩
    · rw [List.getElem?_eq_getElem hk] at h
      exact Option.some.inj h
    · have := hb j _ hj (List.getElem?_eq_getElem (by omega))
      simpa using this
  unfold recS
  rw [e]
def srL (d e : Nat) (n : Int32) (k : Nat) : LC := [some (.inr (.inr (9, d))), some (.inl (nI e)), some (.inl n), some (.inl (nI (12 * e))), some (.inl (nI (12 * e + k)))]
def sp_X5_stateOfRecord : SPc := fun As μ K => match As with
  | [.inr (.inr (9, d)), .inl e', .inl n] => ∃ (e : Nat) (l : List (Int32 × Int32)), e' = nI e ∧ e < 16 ∧ CR μ.1 d e l ∧ K (.inl (some (.inl (recS l n)))) μ
  | _ => False
def ct_X5_stateOfRecord : List (Nat × CI) := []
def ci_X5_stateOfRecord : CI := (yX5_stateOfRecord, cX5_stateOfRecord, 5, some .int, 3, (0, 0, 0, 0), 15, [], sp_X5_stateOfRecord)
set_option maxRecDepth 100000 in
theorem ck_X5_stateOfRecord : chkM ci_X5_stateOfRecord RX5 co_X5_stateOfRecord ct_X5_stateOfRecord [] false false = true := by decide +kernel
set_option maxHeartbeats 4000000 in
set_option maxRecDepth 100000 in
theorem ms_X5_stateOfRecord {g : GPT} {ot : OT} {l : Launch} (hl : l.stackTraces = false) : MS g ot l ci_X5_stateOfRecord := by
  refine ms_of hl RX5 co_X5_stateOfRecord ct_X5_stateOfRecord [] false false [8] 34 ck_X5_stateOfRecord (fun _ h => nomatch h) ?_
  intro As μ K h
  simp only [ci_X5_stateOfRecord, sp_X5_stateOfRecord] at h
  split at h
  case h_2 => exact h.elim
  rename_i d e' n
  obtain ⟨e, l, rfl, he, ⟨h1, h2, h3⟩, h⟩ := h
  have x1 : nI e * nI 12 = nI (12 * e) := by rw [nI_mul, Nat.mul_comm]
  refine ⟨Nat.le_of_ble_eq_true rfl, fun m pc lc st μ' ce sl => ∃ k, k ≤ l.length ∧ (∀ (i : Nat) (q : Int32 × Int32), i < k → l[i]? = some q → ¬ q.1 = n) ∧ m = l.length - k ∧ pc = 8 ∧ lc = srL d e n k ∧ st = [] ∧ μ = μ' ∧ ce = 0 ∧ sl = 0, ?_, ?_⟩
  · refine ⟨l.length, srL d e n 0, ⟨rfl, rfl, rfl, ?_, ?_, trivial⟩, 0, Nat.zero_le _, fun i q hi => absurd hi (Nat.not_lt_zero _), rfl, rfl, rfl, rfl, rfl, rfl, rfl⟩
    · rw [← x1]; rfl
    · rw [Nat.add_zero, ← x1]; rfl
  · rintro m pc lc st μ' ce sl ⟨k, hk, hn, rfl, rfl, rfl, rfl, rfl, rfl, rfl⟩
    refine ⟨e, rfl, he, fun q => ?_, fun q => ?_⟩
    · have q : nI (12 * e) + μ.1 (d + 1) e ≤ nI (12 * e + k) := q
      rw [h1, nI_add, nI_le_iff (by omega) (by omega)] at q
      rw [recS_none fun i p hp => hn i p (by have := (List.getElem?_eq_some_iff.mp hp).1; omega) hp] at h
      exact h
    · have q : ¬ nI (12 * e) + μ.1 (d + 1) e ≤ nI (12 * e + k) := q
      rw [h1, nI_add, nI_le_iff (by omega) (by omega)] at q
      obtain ⟨p, hp⟩ := at_of_lt (l := l) (k := k) (by omega)
      obtain ⟨b1, b2⟩ := h3 k p hp
      refine ⟨12 * e + k, rfl, by omega, fun q2 => ?_, fun q2 => ⟨12 * e + k, rfl, by omega, ?_⟩⟩
      · have q3 : ¬ μ.1 (d + 2) (12 * e + k) = n := q2
        rw [b1] at q3
        refine ⟨l.length - (k + 1), srL d e n (k + 1), by omega, ⟨rfl, rfl, rfl, rfl, inc_tv (12 * e + k), trivial⟩, k + 1, by omega, fun i p' hi hp' => ?_, rfl, rfl, rfl, rfl, rfl, rfl, rfl⟩
        by_cases w : i = k
        · rw [w, hp] at hp'
          cases hp'
          exact q3
        · exact hn i p' (by omega) hp'
      · have q3 : ¬ ¬ μ.1 (d + 2) (12 * e + k) = n := q2
        rw [b1, Classical.not_not] at q3
        rw [recS_at hp q3 hn, ← b2] at h
        exact h
def sp_X5_value : SPc := fun As μ K => match As with
  | [.inr (.inr (9, d)), .inl e', .inl w'] => ∃ (e w : Nat) (l : List (Int32 × Int32)), e' = nI e ∧ w' = nI w ∧ e < 16 ∧ w < 7 ∧ CR μ.1 d e l ∧ (∀ q ∈ l, sOK q.2) ∧ K (.inl (some (.inl (cpV l w)))) μ
  | _ => False
def ct_X5_value : List (Nat × CI) := [(31, ci_X5_lastState), (35, ci_X5_lastNumber), (38, ci_X6_part)]
def ci_X5_value : CI := (yX5_value, cX5_value, 3, some .int, 3, (1, 0, 0, 21), 15, [], sp_X5_value)
set_option maxRecDepth 100000 in
theorem ck_X5_value : chkM ci_X5_value RX5 co_X5_value ct_X5_value [] false false = true := by decide +kernel
set_option maxHeartbeats 4000000 in
set_option maxRecDepth 100000 in
theorem ms_X5_value {g : GPT} {ot : OT} {l : Launch} (hl : l.stackTraces = false) (hot : otOK ot) : MS g ot l ci_X5_value := by
  refine ms0_of hl RX5 co_X5_value ct_X5_value [] false false 33 ck_X5_value (List.forall_mem_cons.mpr ⟨ms_X5_lastState hl, List.forall_mem_cons.mpr ⟨ms_X5_lastNumber hl, List.forall_mem_cons.mpr ⟨ms_X6_part hl hot, fun _ h => nomatch h⟩⟩⟩) ?_
  intro As μ K h
  simp only [ci_X5_value, sp_X5_value] at h
  split at h
  case h_2 => exact h.elim
  rename_i d e' w'
  obtain ⟨e, w, l, rfl, rfl, he, hw, hl, hs, h⟩ := h
  refine ⟨Nat.le_of_ble_eq_true rfl, fun q => ⟨e, l, rfl, he, hl, fun q2 => ?_, fun q2 => ?_⟩, fun q => ⟨fun q2 => ⟨e, l, rfl, he, hl, ?_⟩, fun q2 => ⟨fun q3 => ⟨e, rfl, he, ?_⟩, fun q3 => ⟨e, l, rfl, he, hl, ?_⟩⟩⟩⟩
  · have q := swEq (by omega) q
    obtain rfl : w = 0 := by omega
    have q2 : lastS l = -1 := q2
    have e0 : cpV l 0 = 0 := iB_0 fun z => z q2
    rw [e0] at h
    exact h
  · have q := swEq (by omega) q
    obtain rfl : w = 0 := by omega
    have q2 : ¬ lastS l = -1 := q2
    have e0 : cpV l 0 = 1 := iB_1 q2
    rw [e0] at h
    exact h
  · have q := swEq (by omega) q2
    obtain rfl : w = 5 := by omega
    exact h
  · have q := swEq (by omega) q3
    obtain rfl : w = 6 := by omega
    have e6 : cpV l 6 = μ.1 (d + 1) e := hl.1.symm
    rw [e6] at h
    exact h
  · have q := swNe (by omega) q
    have q2 := swNe (by omega) q2
    have q3 := swNe (by omega) q3
    rw [cpV_d l (by omega) (by omega) (by omega)] at h
    exact ⟨w - 1, nI_sub1 (b := 1) (by omega), by omega, sOK_last hs, h⟩
