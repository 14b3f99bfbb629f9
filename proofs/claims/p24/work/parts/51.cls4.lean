/-! THE CLASS, its lists of packets: at b (kind 13), the slots' row b + 1, the packets b + 2 + 6 x. -/
def PSl (G : Nat → Nat → Nat) (b : Nat) : Prop := G (b + 1) 12 = 12 ∧ (∀ j, j < 12 → ∃ x, x < 12 ∧ G (b + 1) j = b + 2 + 6 * x) ∧ ∀ i j, i < 12 → j < 12 → G (b + 1) i = G (b + 1) j → i = j
def PL (ar : Bool) (F : Nat → Nat → Int32) (G : Nat → Nat → Nat) (b : Nat) (L : List PK) : Prop := F b 0 = nI L.length ∧ L.length ≤ 12 ∧ PSl G b ∧ ∀ (j : Nat) (p : PK), L[j]? = some p → PC ar F (G (b + 1) j) p
theorem PSl.rng {G : Nat → Nat → Nat} {b : Nat} (h : PSl G b) {j : Nat} (hj : j < 12) : b + 2 ≤ G (b + 1) j ∧ G (b + 1) j + 6 ≤ b + 74 := by
  obtain ⟨x, hx, e⟩ := h.2.1 j hj
  omega
theorem PSl.sep {G : Nat → Nat → Nat} {b : Nat} (h : PSl G b) {i j : Nat} (hi : i < 12) (hj : j < 12) (q : ¬ i = j) : G (b + 1) i + 6 ≤ G (b + 1) j ∨ G (b + 1) j + 6 ≤ G (b + 1) i := by
  obtain ⟨x, hx, e⟩ := h.2.1 i hi
  obtain ⟨y, hy, e2⟩ := h.2.1 j hj
  have : ¬ G (b + 1) i = G (b + 1) j := fun w => q (h.2.2 i j hi hj w)
  omega
theorem PSl.keep {G G' : Nat → Nat → Nat} {b : Nat} (h : PSl G b) (hG : G' (b + 1) = G (b + 1)) : PSl G' b := by
  unfold PSl
  rw [hG]
  exact h
theorem PL.keep {ar : Bool} {F F' : Nat → Nat → Int32} {G G' : Nat → Nat → Nat} {b : Nat} {L : List PK} (h : PL ar F G b L) (hF : ∀ z, b ≤ z → z < b + 74 → F' z = F z) (hG : G' (b + 1) = G (b + 1)) : PL ar F' G' b L := by
  obtain ⟨h1, h2, h3, h4⟩ := h
  refine ⟨by rw [hF _ (by omega) (by omega)]; exact h1, h2, h3.keep hG, fun j p hp => ?_⟩
  have hj : j < L.length := (List.getElem?_eq_some_iff.mp hp).1
  have r := h3.rng (j := j) (by omega)
  rw [hG]
  exact (h4 j p hp).keep fun z z1 z2 => hF z (by omega) (by omega)
theorem PL.as {ar : Bool} {F : Nat → Nat → Int32} {G : Nat → Nat → Nat} {b : Nat} {L L' : List PK} (h : PL ar F G b L) (hl : L'.length = L.length) (he : ∀ (j : Nat) (p p' : PK), L[j]? = some p → L'[j]? = some p' → PE ar p p') : PL ar F G b L' := by
  obtain ⟨h1, h2, h3, h4⟩ := h
  refine ⟨by rw [hl]; exact h1, by rw [hl]; exact h2, h3, fun j p' hp => ?_⟩
  have hj : j < L'.length := (List.getElem?_eq_some_iff.mp hp).1
  obtain ⟨p, hp2⟩ := at_of_lt (l := L) (k := j) (by omega)
  exact (h4 j p hp2).as (he j p p' hp2 hp)
def sp_X4_isFull : SPc := fun As μ K => match As with
  | [.inr (.inr (13, b))] => K (.inl (some (.inl (iB (¬ μ.1 b 0 < 12))))) μ
  | _ => False
def ct_X4_isFull : List (Nat × CI) := []
def ci_X4_isFull : CI := (yX4_isFull, cX4_isFull, 1, some .boolean, 1, (0, 0, 0, 0), 14, [], sp_X4_isFull)
set_option maxRecDepth 100000 in
theorem ck_X4_isFull : chkM ci_X4_isFull RX4 co_X4_isFull ct_X4_isFull [] true false = true := by decide +kernel
set_option maxHeartbeats 4000000 in
set_option maxRecDepth 100000 in
theorem ms_X4_isFull {g : GPT} {ot : OT} {l : Launch} (hl : l.stackTraces = false) : MS g ot l ci_X4_isFull := by
  refine ms0_of hl RX4 co_X4_isFull ct_X4_isFull [] true false 13 ck_X4_isFull (fun _ h => nomatch h) ?_
  intro As μ K h
  simp only [ci_X4_isFull, sp_X4_isFull] at h
  split at h
  case h_2 => exact h.elim
  rename_i b
  refine ⟨Nat.le_of_ble_eq_true rfl, fun h1 => ?_, fun h1 => ?_⟩
  · have h1 : μ.1 b 0 < 12 := h1
    rw [iB_0 fun q => q h1] at h
    exact ⟨Or.inl rfl, h⟩
  · have h1 : ¬ μ.1 b 0 < 12 := h1
    rw [iB_1 h1] at h
    exact ⟨Or.inr rfl, h⟩
def sp_X4_addCopy : SPc := fun As μ K => match As with
  | [.inr (.inr (13, b)), .inr (.inr (11, q))] => ∃ (L : List PK) (p : PK), PL true μ.1 μ.2.1 b L ∧ L.length < 12 ∧ PC true μ.1 q p ∧ (q + 6 ≤ b ∨ b + 74 ≤ q) ∧ ∀ F', PL true F' μ.2.1 b (L ++ [p]) → (∀ z, (z < b ∨ b + 74 ≤ z) → F' z = μ.1 z) → K (.inl none) (F', μ.2)
  | _ => False
def ct_X4_addCopy : List (Nat × CI) := [(26, ci_X4_isFull), (22, ci_X3_copyFrom)]
def ci_X4_addCopy : CI := (yX4_addCopy, cX4_addCopy, 2, none, 2, (2, 0, 0, 39), 14, [], sp_X4_addCopy)
set_option maxRecDepth 100000 in
theorem ck_X4_addCopy : chkM ci_X4_addCopy RX4 co_X4_addCopy ct_X4_addCopy [] false false = true := by decide +kernel
set_option maxHeartbeats 4000000 in
set_option maxRecDepth 100000 in
theorem ms_X4_addCopy {g : GPT} {ot : OT} {l : Launch} (hl : l.stackTraces = false) : MS g ot l ci_X4_addCopy := by
  refine ms0_of hl RX4 co_X4_addCopy ct_X4_addCopy [] false false 22 ck_X4_addCopy (List.forall_mem_cons.mpr ⟨ms_X4_isFull hl, List.forall_mem_cons.mpr ⟨ms_X3_copyFrom hl, fun _ h => nomatch h⟩⟩) ?_
  intro As μ K h
  simp only [ci_X4_addCopy, sp_X4_addCopy] at h
  split at h
  case h_2 => exact h.elim
  rename_i b q
  obtain ⟨L, p, ⟨h1, h2, h3, h4⟩, hl, hp, hq, h⟩ := h
  have r := h3.rng hl
  refine ⟨Nat.le_of_ble_eq_true rfl, fun g => ?_, fun _ => ⟨L.length, h1, hl, by rw [h3.1]; exact hl, true, p, hp, by omega, fun F' hF hFo => ?_⟩⟩
  · have g : ¬ iB (¬ μ.1 b 0 < 12) = 0 := g
    rw [iB_ne0, h1] at g
    have g : ¬ nI L.length < nI 12 := g
    rw [nI_lt_iff (by omega) (by omega)] at g
    omega
  · have fb : F' b = μ.1 b := hFo b (by omega)
    refine h _ ⟨?_, ?_, h3, fun j p' hp' => ?_⟩ fun z hz => ?_
    · dsimp only
      rw [u2_eq, fb, h1, List.length_append]
      exact nI_add _ 1
    · rw [List.length_append]
      exact hl
    · dsimp only
      have hj : j < (L ++ [p]).length := (List.getElem?_eq_some_iff.mp hp').1
      rw [List.length_append] at hj
      have hj : j < L.length + 1 := hj
      by_cases w : j < L.length
      · rw [List.getElem?_append_left w] at hp'
        have s := h3.sep (i := j) (j := L.length) (by omega) hl (by omega)
        have r2 := h3.rng (j := j) (by omega)
        refine (h4 j p' hp').keep fun z z1 z2 => ?_
        rw [u2_ne _ _ (by omega)]
        exact hFo z (by omega)
      · obtain rfl : j = L.length := by omega
        rw [List.getElem?_append_right (Nat.le_refl _), Nat.sub_self] at hp'
        cases hp'
        refine hF.keep fun z z1 z2 => ?_
        rw [u2_ne _ _ (by omega)]
    · dsimp only
      rw [u2_ne _ _ (by omega)]
      exact hFo z (by omega)
def ixL (b k : Nat) (n : Int32) : LC := [some (.inr (.inr (13, b))), some (.inl n), some (.inl (nI k))]
def sp_X4_indexOf : SPc := fun As μ K => match As with
  | [.inr (.inr (13, b)), .inl n] => ∃ (ar : Bool) (L : List PK), PL ar μ.1 μ.2.1 b L ∧ (∀ (j : Nat) (p : PK), L[j]? = some p → p.1 0 = n → K (.inl (some (.inl (nI j)))) μ) ∧ ((∀ (j : Nat) (p : PK), L[j]? = some p → ¬ p.1 0 = n) → K (.inl (some (.inl (-1)))) μ)
  | _ => False
def ct_X4_indexOf : List (Nat × CI) := []
def ci_X4_indexOf : CI := (yX4_indexOf, cX4_indexOf, 3, some .int, 2, (0, 0, 0, 0), 14, [], sp_X4_indexOf)
set_option maxRecDepth 100000 in
theorem ck_X4_indexOf : chkM ci_X4_indexOf RX4 co_X4_indexOf ct_X4_indexOf [] false false = true := by decide +kernel
set_option maxHeartbeats 4000000 in
set_option maxRecDepth 100000 in
theorem ms_X4_indexOf {g : GPT} {ot : OT} {l : Launch} (hl : l.stackTraces = false) : MS g ot l ci_X4_indexOf := by
  refine ms_of hl RX4 co_X4_indexOf ct_X4_indexOf [] false false [2] 24 ck_X4_indexOf (fun _ h => nomatch h) ?_
  intro As μ K h
  simp only [ci_X4_indexOf, sp_X4_indexOf] at h
  split at h
  case h_2 => exact h.elim
  rename_i b n
  obtain ⟨ar, L, ⟨h1, h2, h3, h4⟩, g1, g2⟩ := h
  refine ⟨Nat.le_of_ble_eq_true rfl, fun m pc lc st μ' ce sl => ∃ k, k ≤ L.length ∧ (∀ (j : Nat) (p : PK), j < k → L[j]? = some p → ¬ p.1 0 = n) ∧ m = L.length - k ∧ pc = 2 ∧ lc = ixL b k n ∧ st = [] ∧ μ = μ' ∧ ce = 0 ∧ sl = 0, ?_, ?_⟩
  · exact ⟨L.length, ixL b 0 n, ⟨rfl, rfl, rfl, trivial⟩, 0, Nat.zero_le _, fun j p hj => absurd hj (Nat.not_lt_zero _), rfl, rfl, rfl, rfl, rfl, rfl, rfl⟩
  · rintro m pc lc st μ' ce sl ⟨k, hk, hn, rfl, rfl, rfl, rfl, rfl, rfl, rfl⟩
    refine ⟨fun q => ?_, fun q => ?_⟩
    · simp only [icP, h1] at q
      rw [nI_le_iff (by omega) (by omega)] at q
      exact g2 fun j p hp => hn j p (by have := (List.getElem?_eq_some_iff.mp hp).1; omega) hp
    · simp only [icP, h1] at q
      rw [nI_le_iff (by omega) (by omega)] at q
      obtain ⟨p, hp⟩ := at_of_lt (l := L) (k := k) (by omega)
      have e := (h4 k p hp).1
      refine ⟨k, rfl, by omega, by rw [h3.1]; omega, fun q2 => ?_, fun q2 => ?_⟩
      · have q3 : ¬ μ.1 (μ.2.1 (b + 1) k) 0 = n := q2
        rw [e] at q3
        refine ⟨L.length - (k + 1), ixL b (k + 1) n, by omega, ⟨rfl, rfl, inc_tv k, trivial⟩, k + 1, by omega, fun j p' hj hp' => ?_, rfl, rfl, rfl, rfl, rfl, rfl, rfl⟩
        by_cases w : j = k
        · subst w
          rw [hp] at hp'
          cases hp'
          exact q3
        · exact hn j p' (by omega) hp'
      · have q2 : ¬ ¬ μ.1 (μ.2.1 (b + 1) k) 0 = n := q2
        rw [e, Classical.not_not] at q2
        exact g1 k p hp q2
/-- the slots when one is taken out: it becomes the first spare one -/
def rot (j m i : Nat) : Nat := if i < j then i else if i < m then i + 1 else if i = m then j else i
theorem rot_lt {j m i : Nat} (hj : j ≤ m) (hm : m < 12) (hi : i < 12) : rot j m i < 12 := by
  unfold rot
  split
  · exact hi
  · split
    · omega
    · split <;> omega
theorem rot_inj {j m i k : Nat} (hj : j ≤ m) (h : rot j m i = rot j m k) : i = k := by
  unfold rot at h
  split at h <;> split at h <;> (try split at h) <;> (try split at h) <;> (try split at h) <;> (try split at h) <;> omega
theorem PL.erase {ar : Bool} {F F' : Nat → Nat → Int32} {G G' : Nat → Nat → Nat} {b j : Nat} {L : List PK} (h : PL ar F G b L) (hj : j < L.length) (h0 : F' b 0 = nI (L.length - 1)) (hF : ∀ z, ¬ z = b → F' z = F z) (hG : ∀ i, i < 12 → G' (b + 1) i = G (b + 1) (rot j (L.length - 1) i)) (hG2 : G' (b + 1) 12 = G (b + 1) 12) : PL ar F' G' b (L.eraseIdx j) := by
  obtain ⟨h1, h2, h3, h4⟩ := h
  have hl : (L.eraseIdx j).length = L.length - 1 := List.length_eraseIdx_of_lt hj
  refine ⟨by rw [hl]; exact h0, by omega, ⟨by rw [hG2]; exact h3.1, fun i hi => ?_, fun i k hi hk hq => ?_⟩, fun i p hp => ?_⟩
  · rw [hG i hi]
    exact h3.2.1 _ (rot_lt (by omega) (by omega) hi)
  · rw [hG i hi, hG k hk] at hq
    exact rot_inj (by omega) (h3.2.2 _ _ (rot_lt (by omega) (by omega) hi) (rot_lt (by omega) (by omega) hk) hq)
  · have hi : i < (L.eraseIdx j).length := (List.getElem?_eq_some_iff.mp hp).1
    rw [hl] at hi
    have e : L[rot j (L.length - 1) i]? = some p := by
      rw [List.getElem?_eraseIdx] at hp
      unfold rot
      by_cases w : i < j
      · rw [if_pos w] at hp ⊢
        exact hp
      · rw [if_neg w] at hp ⊢
        rw [if_pos hi]
        exact hp
    have r := h3.rng (rot_lt (j := j) (m := L.length - 1) (i := i) (by omega) (by omega) (by omega))
    rw [hG i (by omega)]
    exact (h4 _ p e).keep fun z z1 z2 => hF z (by omega)
def shG (G : Nat → Nat → Nat) (b j k : Nat) : Nat → Nat → Nat := fun z i => if z = b + 1 ∧ j ≤ i ∧ i < k then G z (i + 1) else G z i
theorem shG_0 (G : Nat → Nat → Nat) (b j : Nat) : shG G b j j = G := by
  funext z i
  unfold shG
  rw [if_neg (by omega)]
theorem shG_S {G : Nat → Nat → Nat} {b j k : Nat} (hj : j ≤ k) : up2 (shG G b j k) (b + 1) k (shG G b j k (b + 1) (k + 1)) = shG G b j (k + 1) := by
  funext z i
  unfold up2
  by_cases q : z = b + 1 ∧ i = k
  · rw [if_pos q, q.1, q.2]
    unfold shG
    rw [if_neg (by omega), if_pos (by omega)]
  · rw [if_neg q]
    unfold shG
    by_cases q2 : z = b + 1 ∧ j ≤ i ∧ i < k
    · rw [if_pos q2, if_pos (by omega)]
    · rw [if_neg q2, if_neg (by omega)]
def raL (b s k : Nat) : LC := [some (.inr (.inr (13, b))), none, some (.inr (.inr (11, s))), some (.inl (nI k))]
def sp_X4_removeAt : SPc := fun As μ K => match As with
  | [.inr (.inr (13, b)), .inl x] => ∃ (ar : Bool) (L : List PK) (j : Nat), x = nI j ∧ j < L.length ∧ PL ar μ.1 μ.2.1 b L ∧ ∀ F' G', PL ar F' G' b (L.eraseIdx j) → (∀ z, ¬ z = b → F' z = μ.1 z) → (∀ z, ¬ z = b + 1 → G' z = μ.2.1 z) → K (.inl none) (F', G', μ.2.2)
  | _ => False
def ct_X4_removeAt : List (Nat × CI) := []
def ci_X4_removeAt : CI := (yX4_removeAt, cX4_removeAt, 4, none, 2, (0, 0, 0, 0), 14, [], sp_X4_removeAt)
set_option maxRecDepth 100000 in
theorem ck_X4_removeAt : chkM ci_X4_removeAt RX4 co_X4_removeAt ct_X4_removeAt [] false false = true := by decide +kernel
set_option maxHeartbeats 4000000 in
set_option maxRecDepth 100000 in
theorem ms_X4_removeAt {g : GPT} {ot : OT} {l : Launch} (hl : l.stackTraces = false) : MS g ot l ci_X4_removeAt := by
  refine ms_of hl RX4 co_X4_removeAt ct_X4_removeAt [] false false [22] 52 ck_X4_removeAt (fun _ h => nomatch h) ?_
  intro As μ K h
  simp only [ci_X4_removeAt, sp_X4_removeAt] at h
  split at h
  case h_2 => exact h.elim
  rename_i b x
  obtain ⟨ar, L, j, rfl, hj, hL, h⟩ := h
  obtain ⟨h1, h2, h3, h4⟩ := id hL
  have e1 : μ.1 b 0 - nI 1 = nI (L.length - 1) := by rw [h1, nI_sub1 (by omega)]
  refine ⟨Nat.le_of_ble_eq_true rfl, fun m pc lc st μ' ce sl => ∃ k, j ≤ k ∧ k ≤ L.length - 1 ∧ m = L.length - k ∧ pc = 22 ∧ lc = raL b (μ.2.1 (b + 1) j) k ∧ st = [] ∧ μ' = (μ.1, shG μ.2.1 b j k, μ.2.2) ∧ ce = 0 ∧ sl = 0, ?_, ?_⟩
  · refine ⟨fun q => ?_, fun q => ⟨fun q2 => ⟨j, rfl, by omega, by rw [h3.1]; omega, L.length - j, raL b (μ.2.1 (b + 1) j) j, ⟨rfl, rfl, rfl, trivial⟩, j, Nat.le_refl _, by omega, rfl, rfl, rfl, rfl, by rw [shG_0], rfl, rfl⟩, fun q2 => ?_⟩⟩
    · simp only [icP, ifP, iL, iM1] at q
      try simp only [z_nI] at q
      try simp only [nI_add, nI_mul] at q
      first | rw [nI_le_iff (by omega) (by omega)] at q | rw [nI_lt_iff (by omega) (by omega)] at q | rw [nI_eq_iff (by omega) (by omega)] at q
      omega
    · have q2 : ¬ nI j < μ.1 b 0 := q2
      rw [h1, nI_lt_iff (by omega) (by omega)] at q2
      omega
  · rintro m pc lc st μ' ce sl ⟨k, hk1, hk, rfl, rfl, rfl, rfl, rfl, rfl, rfl⟩
    have g12 : shG μ.2.1 b j k (b + 1) 12 = 12 := by
      unfold shG
      rw [if_neg (by omega)]
      exact h3.1
    refine ⟨fun q => ⟨L.length - 1, e1, by omega, Or.inl ⟨by show _ < shG μ.2.1 b j k (b + 1) 12; rw [g12]; omega, ?_⟩⟩, fun q => ?_⟩
    · have q : μ.1 b 0 - nI 1 ≤ nI k := q
      rw [e1, nI_le_iff (by omega) (by omega)] at q
      obtain rfl : k = L.length - 1 := by omega
      refine h _ _ (hL.erase hj ?_ (fun z hz => ?_) (fun i hi => ?_) ?_) (fun z hz => ?_) fun z hz => ?_
      · dsimp only
        rw [u2_eq]
        exact e1
      · dsimp only
        rw [u2_ne _ _ hz]
      · dsimp only
        unfold up2 rot shG
        by_cases w1 : i < j
        · rw [if_pos w1, if_neg (by omega), if_neg (by omega)]
        · rw [if_neg w1]
          by_cases w2 : i < L.length - 1
          · rw [if_pos w2, if_neg (by omega), if_pos (by omega)]
          · rw [if_neg w2]
            by_cases w3 : i = L.length - 1
            · rw [if_pos w3, if_pos ⟨rfl, w3⟩]
            · rw [if_neg w3, if_neg (by omega), if_neg (by omega)]
      · dsimp only
        rw [u2_nj _ _ (by omega), g12, h3.1]
      · dsimp only
        rw [u2_ne _ _ hz]
      · dsimp only
        rw [u2_ne _ _ hz]
        funext i
        unfold shG
        rw [if_neg fun w => hz w.1]
    · have q : ¬ μ.1 b 0 - nI 1 ≤ nI k := q
      rw [e1, nI_le_iff (by omega) (by omega)] at q
      refine ⟨k + 1, nI_add k 1, by omega, by show _ < shG μ.2.1 b j k (b + 1) 12; rw [g12]; omega, k, rfl, by omega, Or.inl ⟨by show _ < shG μ.2.1 b j k (b + 1) 12; rw [g12]; omega, L.length - (k + 1), raL b (μ.2.1 (b + 1) j) (k + 1), by omega, ⟨rfl, rfl, inc_tv k, trivial⟩, k + 1, by omega, by omega, rfl, rfl, rfl, rfl, ?_, rfl, rfl⟩⟩
      rw [← shG_S hk1]
/-- what is left of the packets when those behind k that arrived are out -/
def remA (t : Int32) (L : List PK) (k : Nat) : List PK := L.take k ++ (L.drop k).filter fun p => decide (¬ p.1 3 = t)
theorem remA_all (t : Int32) (L : List PK) : remA t L L.length = L := by
  unfold remA
  rw [List.take_length, List.drop_length]
  exact List.append_nil _
theorem remA_0 (t : Int32) (L : List PK) : remA t L 0 = L.filter fun p => decide (¬ p.1 3 = t) := rfl
theorem remA_at (t : Int32) {L : List PK} {k : Nat} {p : PK} (h : L[k]? = some p) : (remA t L (k + 1))[k]? = some p := by
  have hk : k < L.length := (List.getElem?_eq_some_iff.mp h).1
  unfold remA
  rw [List.getElem?_append_left (by rw [List.length_take]; omega), List.getElem?_take, if_pos (by omega)]
  exact h
theorem remA_S (t : Int32) {L : List PK} {k : Nat} {p : PK} (h : L[k]? = some p) : remA t L k = if p.1 3 = t then (remA t L (k + 1)).eraseIdx k else remA t L (k + 1) := by
  have hk : k < L.length := (List.getElem?_eq_some_iff.mp h).1
  have e : L.drop k = p :: L.drop (k + 1) := by
    rw [List.drop_eq_getElem_cons hk]
    congr 1
    rw [List.getElem?_eq_getElem hk] at h
    exact Option.some.inj h
  have e2 : L.take (k + 1) = L.take k ++ [p] := by rw [List.take_add_one, h]; rfl
  have el : (L.take k).length = k := by rw [List.length_take]; omega
  unfold remA
  rw [e, e2]
  by_cases q : p.1 3 = t
  · rw [if_pos q, List.filter_cons_of_neg (by simp [q]), List.append_assoc, List.eraseIdx_append_of_length_le (by omega), el, Nat.sub_self]
    rfl
  · rw [if_neg q, List.filter_cons_of_pos (by simp [q]), List.append_assoc]
    rfl
def arL (b k : Nat) (t : Int32) : LC := [some (.inr (.inr (13, b))), some (.inl t), some (.inl (nI k - 1))]
theorem dec_tv (k : Nat) : (some (.inl (nI (k + 1) - 1 + Int32.ofInt (-1))) : Option TV) = some (.inl (nI k - 1)) := by
  have e : nI (k + 1) - 1 = nI k := by
    show nI (k + 1) - nI 1 = _
    rw [nI_sub1 (by omega)]
    rfl
  rw [e, iM1, Int32.sub_eq_add_neg]
theorem sub1_lt {k : Nat} (h : k < 2 ^ 31) : nI k - 1 < 0 ↔ k = 0 := by
  cases k with
  | zero => exact ⟨fun _ => rfl, fun _ => by decide⟩
  | succ k =>
    have e : nI (k + 1) - 1 = nI k := by
      show nI (k + 1) - nI 1 = _
      rw [nI_sub1 (by omega)]
      rfl
    rw [e, z_nI, nI_lt_iff (by omega) (by omega)]
    omega
def sp_X4_removeArrived : SPc := fun As μ K => match As with
  | [.inr (.inr (13, b)), .inl t] => ∃ (L : List PK), PL true μ.1 μ.2.1 b L ∧ ∀ F' G', PL true F' G' b (L.filter fun p => decide (¬ p.1 3 = t)) → (∀ z, ¬ z = b → F' z = μ.1 z) → (∀ z, ¬ z = b + 1 → G' z = μ.2.1 z) → K (.inl none) (F', G', μ.2.2)
  | _ => False
def ct_X4_removeArrived : List (Nat × CI) := [(36, ci_X4_removeAt)]
def ci_X4_removeArrived : CI := (yX4_removeArrived, cX4_removeArrived, 3, none, 2, (1, 0, 0, 23), 14, [], sp_X4_removeArrived)
set_option maxRecDepth 100000 in
theorem ck_X4_removeArrived : chkM ci_X4_removeArrived RX4 co_X4_removeArrived ct_X4_removeArrived [] false false = true := by decide +kernel
set_option maxHeartbeats 4000000 in
set_option maxRecDepth 100000 in
theorem ms_X4_removeArrived {g : GPT} {ot : OT} {l : Launch} (hl : l.stackTraces = false) : MS g ot l ci_X4_removeArrived := by
  refine ms_of hl RX4 co_X4_removeArrived ct_X4_removeArrived [] false false [7] 25 ck_X4_removeArrived (List.forall_mem_cons.mpr ⟨ms_X4_removeAt hl, fun _ h => nomatch h⟩) ?_
  intro As μ K h
  simp only [ci_X4_removeArrived, sp_X4_removeArrived] at h
  split at h
  case h_2 => exact h.elim
  rename_i b t
  obtain ⟨L, hL, h⟩ := h
  refine ⟨Nat.le_of_ble_eq_true rfl, fun m pc lc st μ' ce sl => ∃ k F G, k ≤ L.length ∧ m = k + 1 ∧ pc = 7 ∧ lc = arL b k t ∧ st = [] ∧ μ' = (F, G, μ.2.2) ∧ PL true F G b (remA t L k) ∧ (∀ z, ¬ z = b → F z = μ.1 z) ∧ (∀ z, ¬ z = b + 1 → G z = μ.2.1 z) ∧ ce = 0 ∧ sl = 0, ?_, ?_⟩
  · refine ⟨L.length + 1, arL b L.length t, ⟨rfl, rfl, ?_, trivial⟩, L.length, μ.1, μ.2.1, Nat.le_refl _, rfl, rfl, rfl, rfl, rfl, ?_, fun _ _ => rfl, fun _ _ => rfl, rfl, rfl⟩
    · rw [hL.1]
      rfl
    · rw [remA_all]
      exact hL
  · rintro m pc lc st μ' ce sl ⟨k, F, G, hk, rfl, rfl, rfl, rfl, rfl, hg, hF, hG, rfl, rfl⟩
    have l12 := hL.2.1
    refine ⟨fun q => ?_, fun q => ?_⟩
    · have q : nI k - 1 < 0 := q
      rw [sub1_lt (by omega)] at q
      subst q
      exact h F G hg hF hG
    · have q : ¬ nI k - 1 < 0 := q
      rw [sub1_lt (by omega)] at q
      obtain ⟨k, rfl⟩ : ∃ k', k = k' + 1 := ⟨k - 1, by omega⟩
      obtain ⟨p, hp⟩ := at_of_lt (l := L) (k := k) (by omega)
      have hp2 := remA_at t hp
      have ek : nI (k + 1) - 1 = nI k := by
        show nI (k + 1) - nI 1 = _
        rw [nI_sub1 (by omega)]
        rfl
      have e3 := (hg.2.2.2 k p hp2).2.2.2.2.1 rfl
      refine ⟨k, ek, by omega, by show _ < G (b + 1) 12; rw [hg.2.2.1.1]; omega, fun q2 => ?_, fun q2 => ?_⟩
      · have q2 : ¬ F (G (b + 1) k) 4 = t := q2
        rw [e3] at q2
        refine ⟨k + 1, arL b k t, by omega, ⟨rfl, rfl, dec_tv k, trivial⟩, k, F, G, by omega, rfl, rfl, rfl, rfl, rfl, ?_, hF, hG, rfl, rfl⟩
        rw [remA_S t hp, if_neg q2]
        exact hg
      · have q2 : ¬ ¬ F (G (b + 1) k) 4 = t := q2
        rw [e3, Classical.not_not] at q2
        refine ⟨true, remA t L (k + 1), k, ek, (List.getElem?_eq_some_iff.mp hp2).1, hg, fun F' G' hL' hF' hG' => ⟨k + 1, arL b k t, by omega, ⟨rfl, rfl, dec_tv k, trivial⟩, k, F', G', by omega, rfl, rfl, rfl, rfl, rfl, ?_, fun z hz => (hF' z hz).trans (hF z hz), fun z hz => (hG' z hz).trans (hG z hz), rfl, rfl⟩⟩
        rw [remA_S t hp, if_pos q2]
        exact hL'
def ruL (b j k : Nat) : LC := [some (.inr (.inr (13, b))), some (.inl (nI j)), some (.inl (nI k))]
def sp_X4_removeUpTo : SPc := fun As μ K => match As with
  | [.inr (.inr (13, b)), .inl x] => ∃ (ar : Bool) (L : List PK) (j : Nat), x = nI j ∧ j < L.length ∧ PL ar μ.1 μ.2.1 b L ∧ ∀ F' G', PL ar F' G' b (L.drop (j + 1)) → (∀ z, ¬ z = b → F' z = μ.1 z) → (∀ z, ¬ z = b + 1 → G' z = μ.2.1 z) → K (.inl none) (F', G', μ.2.2)
  | _ => False
def ct_X4_removeUpTo : List (Nat × CI) := [(36, ci_X4_removeAt)]
def ci_X4_removeUpTo : CI := (yX4_removeUpTo, cX4_removeUpTo, 3, none, 2, (1, 0, 0, 23), 14, [], sp_X4_removeUpTo)
set_option maxRecDepth 100000 in
theorem ck_X4_removeUpTo : chkM ci_X4_removeUpTo RX4 co_X4_removeUpTo ct_X4_removeUpTo [] false false = true := by decide +kernel
set_option maxHeartbeats 4000000 in
set_option maxRecDepth 100000 in
theorem ms_X4_removeUpTo {g : GPT} {ot : OT} {l : Launch} (hl : l.stackTraces = false) : MS g ot l ci_X4_removeUpTo := by
  refine ms_of hl RX4 co_X4_removeUpTo ct_X4_removeUpTo [] false false [2] 16 ck_X4_removeUpTo (List.forall_mem_cons.mpr ⟨ms_X4_removeAt hl, fun _ h => nomatch h⟩) ?_
  intro As μ K h
  simp only [ci_X4_removeUpTo, sp_X4_removeUpTo] at h
  split at h
  case h_2 => exact h.elim
  rename_i b x
  obtain ⟨ar, L, j, rfl, hj, hL, h⟩ := h
  have l12 := hL.2.1
  refine ⟨Nat.le_of_ble_eq_true rfl, fun m pc lc st μ' ce sl => ∃ k F G, k ≤ j + 1 ∧ m = j + 1 - k ∧ pc = 2 ∧ lc = ruL b j k ∧ st = [] ∧ μ' = (F, G, μ.2.2) ∧ PL ar F G b (L.drop k) ∧ (∀ z, ¬ z = b → F z = μ.1 z) ∧ (∀ z, ¬ z = b + 1 → G z = μ.2.1 z) ∧ ce = 0 ∧ sl = 0, ?_, ?_⟩
  · exact ⟨j + 1, ruL b j 0, ⟨rfl, rfl, rfl, trivial⟩, 0, μ.1, μ.2.1, Nat.zero_le _, rfl, rfl, rfl, rfl, rfl, hL, fun _ _ => rfl, fun _ _ => rfl, rfl, rfl⟩
  · rintro m pc lc st μ' ce sl ⟨k, F, G, hk, rfl, rfl, rfl, rfl, rfl, hg, hF, hG, rfl, rfl⟩
    refine ⟨fun q => ?_, fun q => ?_⟩
    · simp only [icP, ifP, iL, iM1] at q
      try simp only [z_nI] at q
      try simp only [nI_add, nI_mul] at q
      first | rw [nI_le_iff (by omega) (by omega)] at q | rw [nI_lt_iff (by omega) (by omega)] at q | rw [nI_eq_iff (by omega) (by omega)] at q
      obtain rfl : k = j + 1 := by omega
      exact h F G hg hF hG
    · simp only [icP, ifP, iL, iM1] at q
      try simp only [z_nI] at q
      try simp only [nI_add, nI_mul] at q
      first | rw [nI_le_iff (by omega) (by omega)] at q | rw [nI_lt_iff (by omega) (by omega)] at q | rw [nI_eq_iff (by omega) (by omega)] at q
      refine ⟨ar, L.drop k, 0, rfl, by rw [List.length_drop]; omega, hg, fun F' G' hL' hF' hG' => ⟨j + 1 - (k + 1), ruL b j (k + 1), by omega, ⟨rfl, rfl, inc_tv k, trivial⟩, k + 1, F', G', by omega, rfl, rfl, rfl, rfl, rfl, ?_, fun z hz => (hF' z hz).trans (hF z hz), fun z hz => (hG' z hz).trans (hG z hz), rfl, rfl⟩⟩
      have e : (L.drop k).eraseIdx 0 = L.drop (k + 1) := by
        rw [List.drop_eq_getElem_cons (by omega : k < L.length)]
        rfl
      rw [e] at hL'
      exact hL'
def cpL (b b' k : Nat) : LC := [some (.inr (.inr (13, b))), some (.inr (.inr (13, b'))), some (.inl (nI k))]
def sp_X4_copyFrom : SPc := fun As μ K => match As with
  | [.inr (.inr (13, b)), .inr (.inr (13, b'))] => ∃ (ar : Bool) (L : List PK), PL ar μ.1 μ.2.1 b' L ∧ PSl μ.2.1 b ∧ (b + 74 ≤ b' ∨ b' + 74 ≤ b) ∧ ∀ F', PL ar F' μ.2.1 b L → (∀ z, (z < b ∨ b + 74 ≤ z) → F' z = μ.1 z) → K (.inl none) (F', μ.2)
  | _ => False
def ct_X4_copyFrom : List (Nat × CI) := [(22, ci_X3_copyFrom)]
def ci_X4_copyFrom : CI := (yX4_copyFrom, cX4_copyFrom, 3, none, 2, (2, 0, 0, 39), 14, [], sp_X4_copyFrom)
set_option maxRecDepth 100000 in
theorem ck_X4_copyFrom : chkM ci_X4_copyFrom RX4 co_X4_copyFrom ct_X4_copyFrom [] false false = true := by decide +kernel
set_option maxHeartbeats 4000000 in
set_option maxRecDepth 100000 in
theorem ms_X4_copyFrom {g : GPT} {ot : OT} {l : Launch} (hl : l.stackTraces = false) : MS g ot l ci_X4_copyFrom := by
  refine ms_of hl RX4 co_X4_copyFrom ct_X4_copyFrom [] false false [10] 27 ck_X4_copyFrom (List.forall_mem_cons.mpr ⟨ms_X3_copyFrom hl, fun _ h => nomatch h⟩) ?_
  intro As μ K h
  simp only [ci_X4_copyFrom, sp_X4_copyFrom] at h
  split at h
  case h_2 => exact h.elim
  rename_i b b'
  obtain ⟨ar, L, hL, hb, hd, h⟩ := h
  obtain ⟨h1, h2, h3, h4⟩ := id hL
  refine ⟨Nat.le_of_ble_eq_true rfl, fun m pc lc st μ' ce sl => ∃ k F, k ≤ L.length ∧ m = L.length - k ∧ pc = 10 ∧ lc = cpL b b' k ∧ st = [] ∧ μ' = (F, μ.2) ∧ F b 0 = nI L.length ∧ (∀ (j : Nat) (p : PK), j < k → L[j]? = some p → PC ar F (μ.2.1 (b + 1) j) p) ∧ (∀ z, (z < b ∨ b + 74 ≤ z) → F z = μ.1 z) ∧ ce = 0 ∧ sl = 0, ?_, ?_⟩
  · refine ⟨L.length, cpL b b' 0, ⟨rfl, rfl, rfl, trivial⟩, 0, up2 μ.1 b 0 (μ.1 b' 0), Nat.zero_le _, rfl, rfl, rfl, rfl, rfl, ?_, fun j p hj => absurd hj (Nat.not_lt_zero _), fun z hz => ?_, rfl, rfl⟩
    · rw [u2_eq]; exact h1
    · rw [u2_ne _ _ (by omega)]
  · rintro m pc lc st μ' ce sl ⟨k, F, hk, rfl, rfl, rfl, rfl, rfl, g1, g2, g3, rfl, rfl⟩
    refine ⟨fun q => ?_, fun q => ?_⟩
    · have q : F b 0 ≤ nI k := q
      rw [g1, nI_le_iff (by omega) (by omega)] at q
      exact h F ⟨g1, h2, hb, fun j p hp => g2 j p (by have := (List.getElem?_eq_some_iff.mp hp).1; omega) hp⟩ g3
    · have q : ¬ F b 0 ≤ nI k := q
      rw [g1, nI_le_iff (by omega) (by omega)] at q
      obtain ⟨p, hp⟩ := at_of_lt (l := L) (k := k) (by omega)
      have r := hb.rng (j := k) (by omega)
      have r2 := h3.rng (j := k) (by omega)
      refine ⟨k, rfl, by omega, by show _ < μ.2.1 (b + 1) 12; rw [hb.1]; omega, k, rfl, by omega, by show _ < μ.2.1 (b' + 1) 12; rw [h3.1]; omega, ar, p, (h4 k p hp).keep fun z z1 z2 => g3 z (by omega), by dsimp only; omega, fun F' hF hFo => ?_⟩
      have hFo : ∀ z, (z < μ.2.1 (b + 1) k ∨ μ.2.1 (b + 1) k + 6 ≤ z) → F' z = F z := hFo
      refine ⟨L.length - (k + 1), cpL b b' (k + 1), by omega, ⟨rfl, rfl, inc_tv k, trivial⟩, k + 1, F', by omega, rfl, rfl, rfl, rfl, rfl, ?_, fun j p' hj hp' => ?_, fun z hz => (hFo z (by omega)).trans (g3 z hz), rfl, rfl⟩
      · rw [hFo b (by omega)]; exact g1
      · by_cases w : j = k
        · subst w
          rw [hp] at hp'
          cases hp'
          exact hF
        · have s := hb.sep (i := j) (j := k) (by omega) (by omega) w
          exact (g2 j p' (by omega) hp').keep fun z z1 z2 => hFo z (by omega)
