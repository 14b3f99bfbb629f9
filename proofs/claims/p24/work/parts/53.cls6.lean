/-! THE CLASS, a client at a (kind 14): its reads. -/
def cnI (k : Nat) : Nat := if k < 6 then 8 + k else 8 + k - 1
def CSc (F : Nat → Nat → Int32) (a : Nat) (S : Nat → Int32) : Prop := (∀ k, k < 7 → F a k = S k) ∧ (∀ k, k < 9 → ¬ k = 6 → F (a + 1) k = S (cnI k)) ∧ S 7 = S 8
def CBs (F : Nat → Nat → Int32) (a : Nat) (B : Nat → Nat → Int32) : Prop := ∀ e, e < 16 → F (a + 2) e = B e 0 ∧ F (a + 3) e = B e 1 ∧ F (a + 4) e = B e 2
def wayL (X : CS) : List PK := (cP X).filter fun p => decide (0 < p.1 3)
def CC (F : Nat → Nat → Int32) (G : Nat → Nat → Nat) (a : Nat) (X : CS) : Prop := CSc F a (cS X) ∧ CBs F a (cB X) ∧ CD F (a + 5) (cR X) ∧ PL false F G (a + 9) (flyL X) ∧ PL true F G (a + 83) (wayL X) ∧ CA F (a + 157) (cA X)
theorem CSc.keep {F F' : Nat → Nat → Int32} {a : Nat} {S : Nat → Int32} (h : CSc F a S) (hF : ∀ z, a ≤ z → z < a + 2 → F' z = F z) : CSc F' a S :=
  ⟨fun k hk => by rw [hF _ (by omega) (by omega)]; exact h.1 k hk, fun k hk k6 => by rw [hF _ (by omega) (by omega)]; exact h.2.1 k hk k6, h.2.2⟩
theorem CBs.keep {F F' : Nat → Nat → Int32} {a : Nat} {B : Nat → Nat → Int32} (h : CBs F a B) (hF : ∀ z, a + 2 ≤ z → z < a + 5 → F' z = F z) : CBs F' a B := fun e he => by
  rw [hF _ (by omega) (by omega), hF _ (by omega) (by omega), hF _ (by omega) (by omega)]
  exact h e he
theorem CC.keep {F F' : Nat → Nat → Int32} {G G' : Nat → Nat → Nat} {a : Nat} {X : CS} (h : CC F G a X) (hF : ∀ z, a ≤ z → z < a + 160 → F' z = F z) (hG : ∀ z, a ≤ z → z < a + 160 → G' z = G z) : CC F' G' a X := by
  obtain ⟨h1, h2, h3, h4, h5, h6⟩ := h
  exact ⟨h1.keep fun z z1 z2 => hF z (by omega) (by omega), h2.keep fun z z1 z2 => hF z (by omega) (by omega), h3.keep fun z z1 z2 => hF z (by omega) (by omega), h4.keep (fun z z1 z2 => hF z (by omega) (by omega)) (hG _ (by omega) (by omega)), h5.keep (fun z z1 z2 => hF z (by omega) (by omega)) (hG _ (by omega) (by omega)), h6.keep fun z z1 z2 => hF z (by omega) (by omega)⟩
def SE (F : Nat → Nat → Int32) (n : Nat) (E : Nat → Nat → Int32) : Prop := ∀ e, e < 16 → F (n + 1) e = E e 0 ∧ sOK (E e 0)
theorem SE.of {F : Nat → Nat → Int32} {n : Nat} {E : Nat → Nat → Int32} (h : CE F n E) (hV : eVK E) : SE F n E := fun e he => ⟨(h e he).1, (hV e he).1⟩
def sp_X1_turnTo : SPc := fun As μ K => match As with
  | [.inr (.inr (14, a)), .inl x, .inl y, .inl z] => K (.inl none) (up2 (up2 (up2 μ.1 a 1 x) a 2 y) a 3 z, μ.2)
  | _ => False
def ct_X1_turnTo : List (Nat × CI) := []
def ci_X1_turnTo : CI := (yX1_turnTo, cX1_turnTo, 4, none, 4, (0, 0, 0, 0), 11, [], sp_X1_turnTo)
set_option maxRecDepth 100000 in
theorem ck_X1_turnTo : chkM ci_X1_turnTo RX1 co_X1_turnTo ct_X1_turnTo [] false false = true := by decide +kernel
set_option maxHeartbeats 4000000 in
set_option maxRecDepth 100000 in
theorem ms_X1_turnTo {g : GPT} {ot : OT} {l : Launch} (hl : l.stackTraces = false) : MS g ot l ci_X1_turnTo := by
  refine ms0_of hl RX1 co_X1_turnTo ct_X1_turnTo [] false false 15 ck_X1_turnTo (fun _ h => nomatch h) ?_
  intro As μ K h
  simp only [ci_X1_turnTo, sp_X1_turnTo] at h
  split at h
  case h_2 => exact h.elim
  exact ⟨Nat.le_of_ble_eq_true rfl, h⟩
def dsV (s x y : Int32) : Int32 := if s = -1 then -1 else dstN (sN s) x y
theorem abs_aI (x : Int32) : (if 0 ≤ x then x else 0 - x) = aI x := by
  unfold aI
  by_cases q : x < 0
  · rw [if_pos q, if_neg (Int32.not_le.mpr q), Int32.zero_sub]
  · rw [if_neg q, if_pos (Int32.not_lt.mp q)]
theorem max_le (x y : Int32) : (if x < y then y else x) = (if x ≤ y then y else x) := by
  by_cases q : x < y
  · rw [if_pos q, if_pos (Int32.le_of_lt q)]
  · rw [if_neg q]
    by_cases q2 : x ≤ y
    · rw [if_pos q2]
      exact Int32.le_antisymm q2 (Int32.not_lt.mp q)
    · rw [if_neg q2]
theorem aI_m1 (x : Int32) : ¬ aI x = -1 := by
  unfold aI
  by_cases q : x < 0
  · rw [if_pos q]
    intro w
    have : x = 1 := Int32.neg_inj.mp w
    rw [this] at q
    exact absurd q (by decide)
  · rw [if_neg q]
    intro w
    rw [w] at q
    exact q (by decide)
theorem dstN_m1 (n : Nat) (x y : Int32) : ¬ dstN n x y = -1 := by
  unfold dstN
  split
  · exact aI_m1 _
  · exact aI_m1 _
def sp_X1_distance : SPc := fun As μ K => match As with
  | [.inr (.inr (14, a)), .inr (.inr (8, n)), .inl e] => ∃ j : Nat, e = nI j ∧ j < 16 ∧ sOK (μ.1 (n + 1) j) ∧ K (.inl (some (.inl (dsV (μ.1 (n + 1) j) (μ.1 a 1) (μ.1 a 2))))) μ
  | _ => False
def ct_X1_distance : List (Nat × CI) := [(108, ci_X6_part)]
def ci_X1_distance : CI := (yX1_distance, cX1_distance, 6, some .int, 3, (1, 0, 0, 21), 11, [], sp_X1_distance)
set_option maxRecDepth 100000 in
theorem ck_X1_distance : chkM ci_X1_distance RX1 co_X1_distance ct_X1_distance [] false false = true := by decide +kernel
set_option maxHeartbeats 4000000 in
set_option maxRecDepth 100000 in
theorem ms_X1_distance {g : GPT} {ot : OT} {l : Launch} (hl : l.stackTraces = false) (hot : otOK ot) : MS g ot l ci_X1_distance := by
  refine ms0_of hl RX1 co_X1_distance ct_X1_distance [] false false 35 ck_X1_distance (List.forall_mem_cons.mpr ⟨ms_X6_part hl hot, fun _ h => nomatch h⟩) ?_
  intro As μ K h
  simp only [ci_X1_distance, sp_X1_distance] at h
  split at h
  case h_2 => exact h.elim
  rename_i a n e
  obtain ⟨j, rfl, hj, hs, h⟩ := h
  refine ⟨Nat.le_of_ble_eq_true rfl, j, rfl, hj, fun q => ⟨0, rfl, by omega, hs, 1, rfl, by omega, hs, ?_⟩, fun q => ?_⟩
  · have q : ¬ μ.1 (n + 1) j = -1 := q
    obtain ⟨m, m1, m2, m3⟩ := sOK_ne hs q
    have e : dsV (μ.1 (n + 1) j) (μ.1 a 1) (μ.1 a 2) = (if (if 0 ≤ nI (pz (μ.1 (n + 1) j) 0) - μ.1 a 1 then nI (pz (μ.1 (n + 1) j) 0) - μ.1 a 1 else 0 - (nI (pz (μ.1 (n + 1) j) 0) - μ.1 a 1)) < (if 0 ≤ nI (pz (μ.1 (n + 1) j) 1) - μ.1 a 2 then nI (pz (μ.1 (n + 1) j) 1) - μ.1 a 2 else 0 - (nI (pz (μ.1 (n + 1) j) 1) - μ.1 a 2)) then (if 0 ≤ nI (pz (μ.1 (n + 1) j) 1) - μ.1 a 2 then nI (pz (μ.1 (n + 1) j) 1) - μ.1 a 2 else 0 - (nI (pz (μ.1 (n + 1) j) 1) - μ.1 a 2)) else (if 0 ≤ nI (pz (μ.1 (n + 1) j) 0) - μ.1 a 1 then nI (pz (μ.1 (n + 1) j) 0) - μ.1 a 1 else 0 - (nI (pz (μ.1 (n + 1) j) 0) - μ.1 a 1))) := by
      rw [abs_aI, abs_aI, max_le]
      have z : ∀ w, pz (μ.1 (n + 1) j) w = prt m w := fun w => by rw [m2]; exact pz_nI m1 w
      rw [z, z]
      unfold dsV
      rw [if_neg q, m3]
      rfl
    rw [e] at h
    exact h
  · have q : ¬ ¬ μ.1 (n + 1) j = -1 := q
    have e : dsV (μ.1 (n + 1) j) (μ.1 a 1) (μ.1 a 2) = -1 := if_pos (Classical.not_not.mp q)
    rw [e] at h
    exact h
def sp_X1_reaches : SPc := fun As μ K => match As with
  | [.inr (.inr (14, a)), .inl d] => K (.inl (some (.inl (iB (¬ d = -1 ∧ d ≤ μ.1 a 3))))) μ
  | _ => False
def ct_X1_reaches : List (Nat × CI) := []
def ci_X1_reaches : CI := (yX1_reaches, cX1_reaches, 2, some .boolean, 2, (0, 0, 0, 0), 11, [], sp_X1_reaches)
set_option maxRecDepth 100000 in
theorem ck_X1_reaches : chkM ci_X1_reaches RX1 co_X1_reaches ct_X1_reaches [] true false = true := by decide +kernel
set_option maxHeartbeats 4000000 in
set_option maxRecDepth 100000 in
theorem ms_X1_reaches {g : GPT} {ot : OT} {l : Launch} (hl : l.stackTraces = false) : MS g ot l ci_X1_reaches := by
  refine ms0_of hl RX1 co_X1_reaches ct_X1_reaches [] true false 16 ck_X1_reaches (fun _ h => nomatch h) ?_
  intro As μ K h
  simp only [ci_X1_reaches, sp_X1_reaches] at h
  split at h
  case h_2 => exact h.elim
  rename_i a d
  refine ⟨Nat.le_of_ble_eq_true rfl, fun q => ?_, fun q => ⟨fun q2 => ?_, fun q2 => ?_⟩⟩
  · have q : d = -1 := q
    rw [iB_0 fun z => z.1 q] at h
    exact ⟨Or.inl rfl, h⟩
  · have q2 : μ.1 a 3 < d := q2
    rw [iB_0 fun z => Int32.not_le.mpr q2 z.2] at h
    exact ⟨Or.inl rfl, h⟩
  · have q : ¬ d = -1 := q
    have q2 : ¬ μ.1 a 3 < d := q2
    rw [iB_1 (p := ¬ d = -1 ∧ d ≤ μ.1 a 3) ⟨q, Int32.not_lt.mp q2⟩] at h
    exact ⟨Or.inr rfl, h⟩
theorem rch {X : CS} {s x y r : Int32} (hx : x = cS X 1) (hy : y = cS X 2) (hr : r = cS X 3) : (¬ dsV s x y = -1 ∧ dsV s x y ≤ r) ↔ inA X s := by
  subst hx hy hr
  unfold dsV
  by_cases q : s = -1
  · rw [if_pos q]
    exact ⟨fun w => absurd rfl w.1, fun w => absurd q w.1⟩
  · rw [if_neg q]
    exact ⟨fun w => ⟨q, w.2⟩, fun w => ⟨dstN_m1 _ _ _, w.2⟩⟩
/-- the area as the class asks for it -/
theorem rchE {F : Nat → Nat → Int32} {a n : Nat} {X : CS} {E : Nat → Nat → Int32} {j : Nat} (hS : CSc F a (cS X)) (hE : F (n + 1) j = E j 0) : (¬ dsV (F (n + 1) j) (F a 1) (F a 2) = -1 ∧ dsV (F (n + 1) j) (F a 1) (F a 2) ≤ F a 3) ↔ inA X (E j 0) := by
  rw [hE]
  exact rch (hS.1 1 (by omega)) (hS.1 2 (by omega)) (hS.1 3 (by omega))
def inN (X : CS) (E : Nat → Nat → Int32) (n : Nat) : Nat := cntN (fun e => inA X (E e 0)) (fun _ => inferInstance) n
theorem inN_S (X : CS) (E : Nat → Nat → Int32) (n : Nat) : nI (inN X E n) + iB (inA X (E n 0)) = nI (inN X E (n + 1)) := cntN_step (fun e => inA X (E e 0)) (fun _ => inferInstance) n
def eaL (a n c k : Nat) : LC := [some (.inr (.inr (14, a))), some (.inr (.inr (8, n))), some (.inl (nI c)), some (.inl (nI k))]
def sp_X1_entitiesInArea : SPc := fun As μ K => match As with
  | [.inr (.inr (14, a)), .inr (.inr (8, n))] => ∃ (X : CS) (E : Nat → Nat → Int32), CSc μ.1 a (cS X) ∧ SE μ.1 n E ∧ K (.inl (some (.inl (nI (inN X E 16))))) μ
  | _ => False
def ct_X1_entitiesInArea : List (Nat × CI) := [(121, ci_X1_distance), (125, ci_X1_reaches)]
def ci_X1_entitiesInArea : CI := (yX1_entitiesInArea, cX1_entitiesInArea, 4, some .int, 2, (2, 0, 0, 46), 11, [], sp_X1_entitiesInArea)
set_option maxRecDepth 100000 in
theorem ck_X1_entitiesInArea : chkM ci_X1_entitiesInArea RX1 co_X1_entitiesInArea ct_X1_entitiesInArea [] false false = true := by decide +kernel
set_option maxHeartbeats 4000000 in
set_option maxRecDepth 100000 in
theorem ms_X1_entitiesInArea {g : GPT} {ot : OT} {l : Launch} (hl : l.stackTraces = false) (hot : otOK ot) : MS g ot l ci_X1_entitiesInArea := by
  refine ms_of hl RX1 co_X1_entitiesInArea ct_X1_entitiesInArea [] false false [4] 29 ck_X1_entitiesInArea (List.forall_mem_cons.mpr ⟨ms_X1_distance hl hot, List.forall_mem_cons.mpr ⟨ms_X1_reaches hl, fun _ h => nomatch h⟩⟩) ?_
  intro As μ K h
  simp only [ci_X1_entitiesInArea, sp_X1_entitiesInArea] at h
  split at h
  case h_2 => exact h.elim
  rename_i a n
  obtain ⟨X, E, hS, hE, h⟩ := h
  refine ⟨Nat.le_of_ble_eq_true rfl, fun m pc lc st μ' ce sl => ∃ k, k ≤ 16 ∧ m = 16 - k ∧ pc = 4 ∧ lc = eaL a n (inN X E k) k ∧ st = [] ∧ μ = μ' ∧ ce = 0 ∧ sl = 0, ?_, ?_⟩
  · exact ⟨16, eaL a n 0 0, ⟨rfl, rfl, rfl, rfl, trivial⟩, 0, Nat.zero_le _, rfl, rfl, rfl, rfl, rfl, rfl, rfl⟩
  · rintro m pc lc st μ' ce sl ⟨k, hk, rfl, rfl, rfl, rfl, rfl, rfl, rfl⟩
    refine ⟨fun h1 => ?_, fun h1 => ?_⟩
    · simp only [icP, ifP, iL, iM1] at h1
      try simp only [z_nI] at h1
      try simp only [nI_add, nI_mul] at h1
      first | rw [nI_le_iff (by omega) (by omega)] at h1 | rw [nI_lt_iff (by omega) (by omega)] at h1 | rw [nI_eq_iff (by omega) (by omega)] at h1
      obtain rfl : k = 16 := by omega
      exact h
    · simp only [icP, ifP, iL, iM1] at h1
      try simp only [z_nI] at h1
      try simp only [nI_add, nI_mul] at h1
      first | rw [nI_le_iff (by omega) (by omega)] at h1 | rw [nI_lt_iff (by omega) (by omega)] at h1 | rw [nI_eq_iff (by omega) (by omega)] at h1
      obtain ⟨e1, e2⟩ := hE k (by omega)
      have hr := rchE hS e1
      have fin : ∀ x : Int32, x = iB (inA X (E k 0)) → (some (.inl (nI (inN X E k) + x)) : Option TV) = some (.inl (nI (inN X E (k + 1)))) := fun x hx => by rw [hx, inN_S]
      refine ⟨k, rfl, by omega, by rw [e1]; exact e2, fun q => ⟨16 - (k + 1), eaL a n (inN X E (k + 1)) (k + 1), by omega, ⟨rfl, rfl, fin 0 ?_, inc_tv k, trivial⟩, k + 1, by omega, rfl, rfl, rfl, rfl, rfl, rfl, rfl⟩, fun q => ⟨16 - (k + 1), eaL a n (inN X E (k + 1)) (k + 1), by omega, ⟨rfl, rfl, fin 1 ?_, inc_tv k, trivial⟩, k + 1, by omega, rfl, rfl, rfl, rfl, rfl, rfl, rfl⟩⟩
      · have q := (iB_eq0 _).mp q
        rw [hr] at q
        exact (iB_0 q).symm
      · have q := (iB_ne0 _).mp q
        rw [hr] at q
        exact (iB_1 q).symm
def stL (a n c k : Nat) : LC := [some (.inr (.inr (14, a))), some (.inr (.inr (8, n))), some (.inl (nI c)), some (.inl (nI k)), none]
def stM (a n c k : Nat) (s : Int32) : LC := [some (.inr (.inr (14, a))), some (.inr (.inr (8, n))), some (.inl (nI c)), some (.inl (nI k)), some (.inl s)]
def stK (X : CS) (E : Nat → Nat → Int32) (n : Nat) : Nat := cntN (stP X E) (fun _ => inferInstance) n
def duS (X : CS) (E : Nat → Nat → Int32) (k : Nat) : Int32 := if inA X (E k 0) then E k 0 else -1
def sp_X1_staleCopies : SPc := fun As μ K => match As with
  | [.inr (.inr (14, a)), .inr (.inr (8, n))] => ∃ (X : CS) (E : Nat → Nat → Int32), CSc μ.1 a (cS X) ∧ CD μ.1 (a + 5) (cR X) ∧ SE μ.1 n E ∧ K (.inl (some (.inl (nI (staleN X E))))) μ
  | _ => False
def ct_X1_staleCopies : List (Nat × CI) := [(121, ci_X1_distance), (125, ci_X1_reaches), (129, ci_X5_lastState)]
def ci_X1_staleCopies : CI := (yX1_staleCopies, cX1_staleCopies, 5, some .int, 2, (2, 0, 0, 46), 11, [], sp_X1_staleCopies)
set_option maxRecDepth 100000 in
theorem ck_X1_staleCopies : chkM ci_X1_staleCopies RX1 co_X1_staleCopies ct_X1_staleCopies [] false false = true := by decide +kernel
set_option maxHeartbeats 4000000 in
set_option maxRecDepth 100000 in
theorem ms_X1_staleCopies {g : GPT} {ot : OT} {l : Launch} (hl : l.stackTraces = false) (hot : otOK ot) : MS g ot l ci_X1_staleCopies := by
  refine ms_of hl RX1 co_X1_staleCopies ct_X1_staleCopies [] false false [4,35] 42 ck_X1_staleCopies (List.forall_mem_cons.mpr ⟨ms_X1_distance hl hot, List.forall_mem_cons.mpr ⟨ms_X1_reaches hl, List.forall_mem_cons.mpr ⟨ms_X5_lastState hl, fun _ h => nomatch h⟩⟩⟩) ?_
  intro As μ K h
  simp only [ci_X1_staleCopies, sp_X1_staleCopies] at h
  split at h
  case h_2 => exact h.elim
  rename_i a n
  obtain ⟨X, E, hS, hD, hE, h⟩ := h
  refine ⟨Nat.le_of_ble_eq_true rfl, fun m pc lc st μ' ce sl => (∃ k, k ≤ 16 ∧ m = 2 * (16 - k) + 1 ∧ pc = 4 ∧ lc = stL a n (stK X E k) k ∧ st = [] ∧ μ = μ' ∧ ce = 0 ∧ sl = 0) ∨ (∃ k, k < 16 ∧ m = 2 * (16 - k) ∧ pc = 35 ∧ lc = stM a n (stK X E k) k (duS X E k) ∧ st = [] ∧ μ = μ' ∧ ce = 0 ∧ sl = 0), ?_, ?_⟩
  · exact ⟨2 * 16 + 1, stL a n 0 0, ⟨rfl, rfl, rfl, rfl, trivial⟩, Or.inl ⟨0, Nat.zero_le _, rfl, rfl, rfl, rfl, rfl, rfl, rfl⟩⟩
  · rintro m pc lc st μ' ce sl (⟨k, hk, rfl, rfl, rfl, rfl, rfl, rfl, rfl⟩ | ⟨k, hk, rfl, rfl, rfl, rfl, rfl, rfl, rfl⟩)
    · refine ⟨fun h1 => ?_, fun h1 => ?_⟩
      · simp only [icP, ifP, iL, iM1] at h1
        try simp only [z_nI] at h1
        try simp only [nI_add, nI_mul] at h1
        first | rw [nI_le_iff (by omega) (by omega)] at h1 | rw [nI_lt_iff (by omega) (by omega)] at h1 | rw [nI_eq_iff (by omega) (by omega)] at h1
        obtain rfl : k = 16 := by omega
        exact h
      · simp only [icP, ifP, iL, iM1] at h1
        try simp only [z_nI] at h1
        try simp only [nI_add, nI_mul] at h1
        first | rw [nI_le_iff (by omega) (by omega)] at h1 | rw [nI_lt_iff (by omega) (by omega)] at h1 | rw [nI_eq_iff (by omega) (by omega)] at h1
        obtain ⟨e1, e2⟩ := hE k (by omega)
        have hr := rchE hS e1
        refine ⟨k, rfl, by omega, by rw [e1]; exact e2, fun q => ⟨2 * (16 - k), stM a n (stK X E k) k (duS X E k), by omega, ⟨rfl, rfl, rfl, rfl, ?_, trivial⟩, Or.inr ⟨k, by omega, rfl, rfl, rfl, rfl, rfl, rfl, rfl⟩⟩, fun q => ⟨k, rfl, by omega, 2 * (16 - k), stM a n (stK X E k) k (duS X E k), by omega, ⟨rfl, rfl, rfl, rfl, ?_, trivial⟩, Or.inr ⟨k, by omega, rfl, rfl, rfl, rfl, rfl, rfl, rfl⟩⟩⟩
        · have q := (iB_eq0 _).mp q
          rw [hr] at q
          have e : duS X E k = -1 := if_neg q
          rw [e]
          rfl
        · have q := (iB_ne0 _).mp q
          rw [hr] at q
          have e : duS X E k = E k 0 := if_pos q
          rw [e, ← e1]
    · have fin : ∀ x : Int32, x = iB (stP X E k) → (some (.inl (nI (stK X E k) + x)) : Option TV) = some (.inl (nI (stK X E (k + 1)))) := fun x hx => by
        rw [hx]
        unfold stK
        rw [cntN_step (stP X E) (fun _ => inferInstance) k]
      refine ⟨k, cR X k, rfl, hk, hD k hk, fun q => ⟨2 * (16 - (k + 1)) + 1, stL a n (stK X E (k + 1)) (k + 1), by omega, ⟨rfl, rfl, fin 0 ?_, inc_tv k, trivial⟩, Or.inl ⟨k + 1, by omega, rfl, rfl, rfl, rfl, rfl, rfl, rfl⟩⟩, fun q => ⟨2 * (16 - (k + 1)) + 1, stL a n (stK X E (k + 1)) (k + 1), by omega, ⟨rfl, rfl, fin 1 ?_, inc_tv k, trivial⟩, Or.inl ⟨k + 1, by omega, rfl, rfl, rfl, rfl, rfl, rfl, rfl⟩⟩⟩
      · have q : lastS (cR X k) = duS X E k := q
        exact (iB_0 fun w => w q).symm
      · have q : ¬ lastS (cR X k) = duS X E k := q
        exact (iB_1 (p := stP X E k) q).symm
/-- the kind of the entry that is due -/
def ekV (X : CS) (E : Nat → Nat → Int32) (e : Nat) : Int32 := if inA X (E e 0) then (if cB X e 2 = -1 then 1 else if cB X e 2 = E e 0 then -1 else 2) else (if cB X e 2 = -1 then -1 else 0)
def ekL (a n j : Nat) (x : Int32) : LC := [some (.inr (.inr (14, a))), some (.inr (.inr (8, n))), some (.inl (nI j)), some (.inl x)]
def sp_X1_entryKind : SPc := fun As μ K => match As with
  | [.inr (.inr (14, a)), .inr (.inr (8, n)), .inl e] => ∃ (j : Nat) (X : CS) (E : Nat → Nat → Int32), e = nI j ∧ j < 16 ∧ CSc μ.1 a (cS X) ∧ μ.1 (a + 4) j = cB X j 2 ∧ SE μ.1 n E ∧ K (.inl (some (.inl (ekV X E j)))) μ
  | _ => False
def ct_X1_entryKind : List (Nat × CI) := [(121, ci_X1_distance), (125, ci_X1_reaches)]
def ci_X1_entryKind : CI := (yX1_entryKind, cX1_entryKind, 4, some .int, 3, (2, 0, 0, 46), 11, [], sp_X1_entryKind)
set_option maxRecDepth 100000 in
theorem ck_X1_entryKind : chkM ci_X1_entryKind RX1 co_X1_entryKind ct_X1_entryKind [] false false = true := by decide +kernel
set_option maxHeartbeats 4000000 in
set_option maxRecDepth 100000 in
theorem ms_X1_entryKind {g : GPT} {ot : OT} {l : Launch} (hl : l.stackTraces = false) (hot : otOK ot) : MS g ot l ci_X1_entryKind := by
  refine ms_of hl RX1 co_X1_entryKind ct_X1_entryKind [] false false [15] 45 ck_X1_entryKind (List.forall_mem_cons.mpr ⟨ms_X1_distance hl hot, List.forall_mem_cons.mpr ⟨ms_X1_reaches hl, fun _ h => nomatch h⟩⟩) ?_
  intro As μ K h
  simp only [ci_X1_entryKind, sp_X1_entryKind] at h
  split at h
  case h_2 => exact h.elim
  rename_i a n e
  obtain ⟨j, X, E, rfl, hj, hS, hB, hE, h⟩ := h
  obtain ⟨e1, e2⟩ := hE j hj
  have hr := rchE hS e1
  refine ⟨Nat.le_of_ble_eq_true rfl, fun m pc lc st μ' ce sl => m = 0 ∧ pc = 15 ∧ lc = [some (.inr (.inr (14, a))), some (.inr (.inr (8, n))), some (.inl (nI j)), none] ∧ st = [.inl (iB (¬ cB X j 2 = -1))] ∧ μ = μ' ∧ ce = 0 ∧ sl = 0, ?_, ?_⟩
  · refine ⟨j, rfl, hj, fun q => ⟨0, [some (.inr (.inr (14, a))), some (.inr (.inr (8, n))), some (.inl (nI j)), none], ⟨rfl, rfl, rfl, trivial⟩, rfl, rfl, rfl, ?_, rfl, rfl, rfl⟩, fun q => ⟨0, [some (.inr (.inr (14, a))), some (.inr (.inr (8, n))), some (.inl (nI j)), none], ⟨rfl, rfl, rfl, trivial⟩, rfl, rfl, rfl, ?_, rfl, rfl, rfl⟩⟩
    · have q : μ.1 (a + 4) j = -1 := q
      rw [hB] at q
      rw [iB_0 fun w => w q]
      rfl
    · have q : ¬ μ.1 (a + 4) j = -1 := q
      rw [hB] at q
      rw [iB_1 q]
      rfl
  · rintro m pc lc st μ' ce sl ⟨rfl, rfl, rfl, rfl, rfl, rfl, rfl⟩
    refine ⟨j, rfl, hj, by rw [e1]; exact e2, fun q => ⟨fun q2 => ⟨j, rfl, hj, j, rfl, hj, fun q3 => ?_, fun q3 => ?_⟩, fun q2 => ?_⟩, fun q => ⟨fun q2 => ?_, fun q2 => ?_⟩⟩
    · have q := (iB_ne0 _).mp q
      rw [hr] at q
      have q2 := (iB_ne0 _).mp q2
      have q3 : ¬ μ.1 (a + 4) j = μ.1 (n + 1) j := q3
      rw [hB, e1] at q3
      have e : ekV X E j = 2 := by
        unfold ekV
        rw [if_pos q, if_neg q2, if_neg q3]
      rw [e] at h
      exact h
    · have q := (iB_ne0 _).mp q
      rw [hr] at q
      have q2 := (iB_ne0 _).mp q2
      have q3 : ¬ ¬ μ.1 (a + 4) j = μ.1 (n + 1) j := q3
      rw [hB, e1, Classical.not_not] at q3
      have e : ekV X E j = -1 := by
        unfold ekV
        rw [if_pos q, if_neg q2, if_pos q3]
      rw [e] at h
      exact h
    · have q := (iB_ne0 _).mp q
      rw [hr] at q
      have q2 : ¬ ¬ iB (¬ cB X j 2 = -1) = 0 := q2
      rw [iB_ne0, Classical.not_not] at q2
      have e : ekV X E j = 1 := by
        unfold ekV
        rw [if_pos q, if_pos q2]
      rw [e] at h
      exact h
    · have q : ¬ ¬ iB (¬ dsV (μ.1 (n + 1) j) (μ.1 a 1) (μ.1 a 2) = -1 ∧ dsV (μ.1 (n + 1) j) (μ.1 a 1) (μ.1 a 2) ≤ μ.1 a 3) = 0 := q
      rw [iB_ne0, hr] at q
      have q2 := (iB_eq0 _).mp q2
      rw [Classical.not_not] at q2
      have e : ekV X E j = -1 := by
        unfold ekV
        rw [if_neg q, if_pos q2]
      rw [e] at h
      exact h
    · have q : ¬ ¬ iB (¬ dsV (μ.1 (n + 1) j) (μ.1 a 1) (μ.1 a 2) = -1 ∧ dsV (μ.1 (n + 1) j) (μ.1 a 1) (μ.1 a 2) ≤ μ.1 a 3) = 0 := q
      rw [iB_ne0, hr] at q
      have q2 : ¬ iB (¬ cB X j 2 = -1) = 0 := q2
      rw [iB_ne0] at q2
      have e : ekV X E j = 0 := by
        unfold ekV
        rw [if_neg q, if_neg q2]
      rw [e] at h
      exact h
theorem ekV_in {X : CS} {E : Nat → Nat → Int32} {e : Nat} (h : ekV X E e = 2) : inA X (E e 0) ∧ ¬ cB X e 2 = -1 ∧ ¬ cB X e 2 = E e 0 := by
  unfold ekV at h
  by_cases q : inA X (E e 0)
  · rw [if_pos q] at h
    by_cases q2 : cB X e 2 = -1
    · rw [if_pos q2] at h
      exact absurd h (by decide)
    · rw [if_neg q2] at h
      by_cases q3 : cB X e 2 = E e 0
      · rw [if_pos q3] at h
        exact absurd h (by decide)
      · exact ⟨q, q2, q3⟩
  · rw [if_neg q] at h
    by_cases q2 : cB X e 2 = -1
    · rw [if_pos q2] at h
      exact absurd h (by decide)
    · rw [if_neg q2] at h
      exact absurd h (by decide)
/-- the values that it contains -/
def emN (X : CS) (E : Nat → Nat → Int32) (e : Nat) (k : Int32) : Nat := if k = 1 then 15 else if k = 2 then mkN (sN (cB X e 2)) (sN (E e 0)) else 0
theorem emN_lt (X : CS) (E : Nat → Nat → Int32) (e : Nat) (k : Int32) : emN X E e k < 16 := by
  unfold emN
  split
  · omega
  · split
    · exact mkN_lt _ _
    · omega
def sp_X1_entryMask : SPc := fun As μ K => match As with
  | [.inr (.inr (14, a)), .inr (.inr (8, n)), .inl e, .inl k] => ∃ (j : Nat) (X : CS) (E : Nat → Nat → Int32), e = nI j ∧ j < 16 ∧ μ.1 (a + 4) j = cB X j 2 ∧ SE μ.1 n E ∧ sOK (cB X j 2) ∧ (k = 2 → ekV X E j = 2) ∧ K (.inl (some (.inl (nI (emN X E j k))))) μ
  | _ => False
def ct_X1_entryMask : List (Nat × CI) := [(132, ci_X6_maskOfDifferences)]
def ci_X1_entryMask : CI := (yX1_entryMask, cX1_entryMask, 4, some .int, 4, (2, 0, 0, 44), 11, [], sp_X1_entryMask)
set_option maxRecDepth 100000 in
theorem ck_X1_entryMask : chkM ci_X1_entryMask RX1 co_X1_entryMask ct_X1_entryMask [] false false = true := by decide +kernel
set_option maxHeartbeats 4000000 in
set_option maxRecDepth 100000 in
theorem ms_X1_entryMask {g : GPT} {ot : OT} {l : Launch} (hl : l.stackTraces = false) (hot : otOK ot) : MS g ot l ci_X1_entryMask := by
  refine ms0_of hl RX1 co_X1_entryMask ct_X1_entryMask [] false false 25 ck_X1_entryMask (List.forall_mem_cons.mpr ⟨ms_X6_maskOfDifferences hl hot, fun _ h => nomatch h⟩) ?_
  intro As μ K h
  simp only [ci_X1_entryMask, sp_X1_entryMask] at h
  split at h
  case h_2 => exact h.elim
  rename_i a n e k
  obtain ⟨j, X, E, rfl, hj, hB, hE, hs, hk, h⟩ := h
  obtain ⟨e1, e2⟩ := hE j hj
  refine ⟨Nat.le_of_ble_eq_true rfl, fun q => ⟨fun q2 => ?_, fun q2 => ⟨j, rfl, hj, j, rfl, hj, ?_⟩⟩, fun q => ?_⟩
  · have q : ¬ k = 1 := q
    have q2 : ¬ k = 2 := q2
    have e : emN X E j k = 0 := by
      unfold emN
      rw [if_neg q, if_neg q2]
    rw [e] at h
    exact h
  · have q : ¬ k = 1 := q
    have q2 : ¬ ¬ k = 2 := q2
    rw [Classical.not_not] at q2
    obtain ⟨w1, w2, w3⟩ := ekV_in (hk q2)
    obtain ⟨m, m1, m2, m3⟩ := sOK_ne hs w2
    obtain ⟨p, p1, p2, p3⟩ := sOK_ne e2 w1.1
    have e : emN X E j k = mkN m p := by
      unfold emN
      rw [if_neg q, if_pos q2, m3, p3]
    rw [e] at h
    exact ⟨m, p, hB.trans m2, e1.trans p2, m1, p1, h⟩
  · have q : ¬ ¬ k = 1 := q
    have e : emN X E j k = 15 := if_pos (Classical.not_not.mp q)
    rw [e] at h
    exact h
theorem prc_ek {X : CS} {E : Nat → Nat → Int32} {e : Nat} : nI (prc X E e) = if ekV X E e = -1 then 0 else bysP (ekV X E e) (emN X E e (ekV X E e)) := by
  unfold prc ekV
  by_cases q : inA X (E e 0)
  · rw [if_pos q, if_pos q]
    by_cases q2 : cB X e 2 = -1
    · rw [if_pos q2, if_pos q2, if_neg (by decide : ¬ (1 : Int32) = -1)]
      have e1 : emN X E e 1 = 15 := if_pos rfl
      rw [e1]
      decide +kernel
    · rw [if_neg q2, if_neg q2]
      by_cases q3 : cB X e 2 = E e 0
      · rw [if_pos q3, if_pos q3]
        rfl
      · rw [if_neg q3, if_neg q3]
        rfl
  · rw [if_neg q, if_neg q]
    by_cases q2 : cB X e 2 = -1
    · rw [if_pos q2, if_pos q2]
      rfl
    · rw [if_neg q2, if_neg q2]
      rfl
def sp_X1_entryBytes : SPc := fun As μ K => match As with
  | [.inr (.inr (14, a)), .inr (.inr (8, n)), .inl e] => ∃ (j : Nat) (X : CS) (E : Nat → Nat → Int32), e = nI j ∧ j < 16 ∧ CSc μ.1 a (cS X) ∧ μ.1 (a + 4) j = cB X j 2 ∧ SE μ.1 n E ∧ sOK (cB X j 2) ∧ K (.inl (some (.inl (nI (prc X E j))))) μ
  | _ => False
def ct_X1_entryBytes : List (Nat × CI) := [(135, ci_X1_entryKind), (138, ci_X1_entryMask), (142, ci_X3_bytesFor)]
def ci_X1_entryBytes : CI := (yX1_entryBytes, cX1_entryBytes, 4, some .int, 3, (3, 0, 0, 69), 11, [], sp_X1_entryBytes)
set_option maxRecDepth 100000 in
theorem ck_X1_entryBytes : chkM ci_X1_entryBytes RX1 co_X1_entryBytes ct_X1_entryBytes [] false false = true := by decide +kernel
set_option maxHeartbeats 4000000 in
set_option maxRecDepth 100000 in
theorem ms_X1_entryBytes {g : GPT} {ot : OT} {l : Launch} (hl : l.stackTraces = false) (hot : otOK ot) : MS g ot l ci_X1_entryBytes := by
  refine ms0_of hl RX1 co_X1_entryBytes ct_X1_entryBytes [] false false 23 ck_X1_entryBytes (List.forall_mem_cons.mpr ⟨ms_X1_entryKind hl hot, List.forall_mem_cons.mpr ⟨ms_X1_entryMask hl hot, List.forall_mem_cons.mpr ⟨ms_X3_bytesFor hl, fun _ h => nomatch h⟩⟩⟩) ?_
  intro As μ K h
  simp only [ci_X1_entryBytes, sp_X1_entryBytes] at h
  split at h
  case h_2 => exact h.elim
  rename_i a n e
  obtain ⟨j, X, E, rfl, hj, hS, hB, hE, hs, h⟩ := h
  rw [prc_ek] at h
  refine ⟨Nat.le_of_ble_eq_true rfl, j, X, E, rfl, hj, hS, hB, hE, fun q => ⟨j, X, E, rfl, hj, hB, hE, hs, fun w => w, emN X E j (ekV X E j), rfl, emN_lt _ _ _ _, ?_⟩, fun q => ?_⟩
  · have q : ¬ ekV X E j = -1 := q
    rw [if_neg q] at h
    exact h
  · have q : ¬ ¬ ekV X E j = -1 := q
    rw [if_pos (Classical.not_not.mp q)] at h
    exact h
def sp_X1_countValue : SPc := fun As μ K => match As with
  | [.inr (.inr (14, a)), .inl w'] => ∃ (w : Nat) (X : CS), w' = nI w ∧ w < 9 ∧ CSc μ.1 a (cS X) ∧ μ.1 (a + 9) 0 = nI (flyL X).length ∧ K (.inl (some (.inl (cnV X w)))) μ
  | _ => False
def ct_X1_countValue : List (Nat × CI) := []
def ci_X1_countValue : CI := (yX1_countValue, cX1_countValue, 2, some .int, 2, (0, 0, 0, 0), 11, [], sp_X1_countValue)
set_option maxRecDepth 100000 in
theorem ck_X1_countValue : chkM ci_X1_countValue RX1 co_X1_countValue ct_X1_countValue [] false false = true := by decide +kernel
set_option maxHeartbeats 4000000 in
set_option maxRecDepth 100000 in
theorem ms_X1_countValue {g : GPT} {ot : OT} {l : Launch} (hl : l.stackTraces = false) : MS g ot l ci_X1_countValue := by
  refine ms0_of hl RX1 co_X1_countValue ct_X1_countValue [] false false 17 ck_X1_countValue (fun _ h => nomatch h) ?_
  intro As μ K h
  simp only [ci_X1_countValue, sp_X1_countValue] at h
  split at h
  case h_2 => exact h.elim
  rename_i a w'
  obtain ⟨w, X, rfl, hw, hS, hf, h⟩ := h
  refine ⟨Nat.le_of_ble_eq_true rfl, fun q => ⟨w, rfl, hw, ?_⟩, fun q => ?_⟩
  · have q : ¬ nI w = nI 6 := q
    rw [nI_eq_iff (by omega) (by omega)] at q
    have e : cnV X w = μ.1 (a + 1) w := by
      rw [hS.2.1 w hw q]
      unfold cnV cnI
      rw [if_neg q]
      by_cases w6 : w < 6
      · rw [if_pos w6, if_pos w6]
      · rw [if_neg w6, if_neg w6]
    rw [e] at h
    exact h
  · have q : ¬ ¬ nI w = nI 6 := q
    rw [Classical.not_not, nI_eq_iff (by omega) (by omega)] at q
    have e : cnV X w = μ.1 (a + 9) 0 := by
      rw [hf]
      unfold cnV
      rw [if_pos q]
      rfl
    rw [e] at h
    exact h
def sp_X1_keptValue : SPc := fun As μ K => match As with
  | [.inr (.inr (14, a)), .inr (.inr (8, n)), .inl e, .inl w'] => ∃ (j w : Nat) (X : CS) (E : Nat → Nat → Int32), e = nI j ∧ w' = nI w ∧ j < 16 ∧ w < 9 ∧ CSc μ.1 a (cS X) ∧ CBs μ.1 a (cB X) ∧ SE μ.1 n E ∧ sOK (cB X j 2) ∧ K (.inl (some (.inl (kpV X E j w)))) μ
  | _ => False
def ct_X1_keptValue : List (Nat × CI) := [(121, ci_X1_distance), (125, ci_X1_reaches), (108, ci_X6_part)]
def ci_X1_keptValue : CI := (yX1_keptValue, cX1_keptValue, 4, some .int, 4, (2, 0, 0, 46), 11, [], sp_X1_keptValue)
set_option maxRecDepth 100000 in
theorem ck_X1_keptValue : chkM ci_X1_keptValue RX1 co_X1_keptValue ct_X1_keptValue [] false false = true := by decide +kernel
set_option maxHeartbeats 4000000 in
set_option maxRecDepth 100000 in
theorem ms_X1_keptValue {g : GPT} {ot : OT} {l : Launch} (hl : l.stackTraces = false) (hot : otOK ot) : MS g ot l ci_X1_keptValue := by
  refine ms0_of hl RX1 co_X1_keptValue ct_X1_keptValue [] false false 52 ck_X1_keptValue (List.forall_mem_cons.mpr ⟨ms_X1_distance hl hot, List.forall_mem_cons.mpr ⟨ms_X1_reaches hl, List.forall_mem_cons.mpr ⟨ms_X6_part hl hot, fun _ h => nomatch h⟩⟩⟩) ?_
  intro As μ K h
  simp only [ci_X1_keptValue, sp_X1_keptValue] at h
  split at h
  case h_2 => exact h.elim
  rename_i a n e w'
  obtain ⟨j, w, X, E, rfl, rfl, hj, hw, hS, hB, hE, hs, h⟩ := h
  obtain ⟨b0, b1, b2⟩ := hB j hj
  obtain ⟨e1, e2⟩ := hE j hj
  have hr := rchE hS e1
  have s1 : sOK (μ.1 (n + 1) j) := by rw [e1]; exact e2
  have sb : sOK (μ.1 (a + 4) j) := by rw [b2]; exact hs
  have dfl : 3 ≤ w → w < 7 → K (.inl (some (.inl (nI (pz (μ.1 (a + 4) j) (w - 3)))))) μ := fun g1 g2 => by
    rw [kpV_d X E j g1 g2, ← b2] at h
    exact h
  refine ⟨Nat.le_of_ble_eq_true rfl, fun q => ?_, fun q => ⟨j, rfl, hj, ?_⟩, fun q => ⟨j, rfl, hj, ?_⟩, fun q => ⟨j, rfl, hj, fun q2 => ?_, fun q2 => ?_⟩, fun q => ⟨j, rfl, hj, w - 3, ?_, ?_, sb, ?_⟩, fun q => ⟨j, rfl, hj, w - 3, ?_, ?_, sb, ?_⟩, fun q => ⟨j, rfl, hj, w - 3, ?_, ?_, sb, ?_⟩, fun q => ⟨j, rfl, hj, w - 3, ?_, ?_, sb, ?_⟩, fun q => ⟨j, rfl, hj, s1, fun q2 => ?_, fun q2 => ?_⟩, fun q => ⟨j, rfl, hj, s1, ?_⟩, trivial⟩
  · have q := swOut (by omega) q
    exact absurd q (by omega)
  · have q := swEq (by omega) q
    obtain rfl : w = 0 := by omega
    have e : kpV X E j 0 = μ.1 (a + 2) j := b0.symm
    rw [e] at h
    exact h
  · have q := swEq (by omega) q
    obtain rfl : w = 1 := by omega
    have e : kpV X E j 1 = μ.1 (a + 3) j := b1.symm
    rw [e] at h
    exact h
  · have q := swEq (by omega) q
    obtain rfl : w = 2 := by omega
    have q2 : μ.1 (a + 4) j = -1 := q2
    rw [b2] at q2
    have e : kpV X E j 2 = 0 := iB_0 fun z => z q2
    rw [e] at h
    exact h
  · have q := swEq (by omega) q
    obtain rfl : w = 2 := by omega
    have q2 : ¬ μ.1 (a + 4) j = -1 := q2
    rw [b2] at q2
    have e : kpV X E j 2 = 1 := iB_1 q2
    rw [e] at h
    exact h
  · have q := swEq (by omega) q
    exact nI_sub1 (b := 3) (by omega)
  · have q := swEq (by omega) q
    omega
  · have q := swEq (by omega) q
    exact dfl (by omega) (by omega)
  · have q := swEq (by omega) q
    exact nI_sub1 (b := 3) (by omega)
  · have q := swEq (by omega) q
    omega
  · have q := swEq (by omega) q
    exact dfl (by omega) (by omega)
  · have q := swEq (by omega) q
    exact nI_sub1 (b := 3) (by omega)
  · have q := swEq (by omega) q
    omega
  · have q := swEq (by omega) q
    exact dfl (by omega) (by omega)
  · have q := swEq (by omega) q
    exact nI_sub1 (b := 3) (by omega)
  · have q := swEq (by omega) q
    omega
  · have q := swEq (by omega) q
    exact dfl (by omega) (by omega)
  · have q := swEq (by omega) q
    obtain rfl : w = 7 := by omega
    have q2 := (iB_eq0 _).mp q2
    rw [hr] at q2
    have e : kpV X E j 7 = 0 := iB_0 q2
    rw [e] at h
    exact h
  · have q := swEq (by omega) q
    obtain rfl : w = 7 := by omega
    have q2 := (iB_ne0 _).mp q2
    rw [hr] at q2
    have e : kpV X E j 7 = 1 := iB_1 (p := inA X (E j 0)) q2
    rw [e] at h
    exact h
  · have q := swEq (by omega) q
    obtain rfl : w = 8 := by omega
    have e : kpV X E j 8 = dsV (μ.1 (n + 1) j) (μ.1 a 1) (μ.1 a 2) := by
      rw [e1, hS.1 1 (by omega), hS.1 2 (by omega)]
      rfl
    rw [e] at h
    exact h
