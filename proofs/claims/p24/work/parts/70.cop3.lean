/-! THE CLASS, its digest. -/
def hpL (x q i : Nat) (h : Int64) : LC := [some (.inr (.inr (19, x))), none, none, some (.inr (.inr (11, q))), some (.inr (.inl h)), none, some (.inl (nI i)), none]
def hpM (x q i j : Nat) (h : Int64) : LC := [some (.inr (.inr (19, x))), none, none, some (.inr (.inr (11, q))), some (.inr (.inl h)), none, some (.inl (nI i)), some (.inl (nI j))]
def sp_X9_hashPacket : SPc := fun As μ K => match As with
  | [.inr (.inr (19, x)), .inr (.inl h0), .inr (.inr (11, q))] => ∃ (ar : Bool) (p : PK), PC ar μ.1 q p ∧ (∀ en ∈ p.2, enOK en ∧ enO2 en) ∧ K (.inl (some (.inr (.inl (dgP (μ.1 (x + 1) 0) p h0))))) μ
  | _ => False
def ct_X9_hashPacket : List (Nat × CI) := [(140, ci_X3_value), (146, ci_X3_entryValue)]
def ci_X9_hashPacket : CI := (yX9_hashPacket, cX9_hashPacket, 8, some .long, 3, (3, 0, 0, 63), 18, [], sp_X9_hashPacket)
set_option maxRecDepth 100000 in
theorem ck_X9_hashPacket : chkM ci_X9_hashPacket RX9 co_X9_hashPacket ct_X9_hashPacket [] false false = true := by decide +kernel
set_option maxHeartbeats 4000000 in
set_option maxRecDepth 100000 in
theorem ms_X9_hashPacket {g : GPT} {ot : OT} {l : Launch} (hl : l.stackTraces = false) : MS g ot l ci_X9_hashPacket := by
  refine ms_of hl RX9 co_X9_hashPacket ct_X9_hashPacket [] false false [6,44,56] 53 ck_X9_hashPacket (List.forall_mem_cons.mpr ⟨ms_X3_value hl, List.forall_mem_cons.mpr ⟨ms_X3_entryValue hl, fun _ h => nomatch h⟩⟩) ?_
  intro As μ K h
  simp only [ci_X9_hashPacket, sp_X9_hashPacket] at h
  split at h
  case h_2 => exact h.elim
  rename_i x h0 q
  obtain ⟨ar, p, hp, hen, h⟩ := h
  have h16 := hp.2.2.2.2.2.1
  generalize ht : μ.1 (x + 1) 0 = t at h
  refine ⟨Nat.le_of_ble_eq_true rfl, fun m pc lc st μ' ce sl => (∃ k, k ≤ 4 ∧ m = 1000 + (4 - k) ∧ pc = 6 ∧ lc = hpL x q k (hsR (pkV t p) h0 k) ∧ st = [] ∧ μ = μ' ∧ ce = 0 ∧ sl = 0) ∨
    (∃ k, k ≤ p.2.length ∧ m = 20 * (p.2.length - k) ∧ pc = 44 ∧ lc = hpL x q k (dgL (p.2.take k) (hsR (pkV t p) h0 4)) ∧ st = [] ∧ μ = μ' ∧ ce = 0 ∧ sl = 0) ∨
    (∃ k j en, p.2[k]? = some en ∧ j ≤ 5 ∧ m = 20 * (p.2.length - (k + 1)) + 8 + (5 - j) ∧ pc = 56 ∧ lc = hpM x q k j (hsR (etV en) (dgL (p.2.take k) (hsR (pkV t p) h0 4)) j) ∧ st = [] ∧ μ = μ' ∧ ce = 0 ∧ sl = 0), ?_, ?_⟩
  · exact ⟨1000 + (4 - 0), hpL x q 0 h0, ⟨rfl, rfl, rfl, rfl, trivial⟩, Or.inl ⟨0, Nat.zero_le _, rfl, rfl, rfl, rfl, rfl, rfl, rfl⟩⟩
  · rintro m pc lc st μ' ce sl (⟨k, hk, rfl, rfl, rfl, rfl, rfl, rfl, rfl⟩ | ⟨k, hk, rfl, rfl, rfl, rfl, rfl, rfl, rfl⟩ | ⟨k, j, en, hk, hj, rfl, rfl, rfl, rfl, rfl, rfl, rfl⟩)
    · refine ⟨fun g => ?_, fun g => ?_⟩
      · have g : nI 3 < nI k := g
        rw [nI_lt_iff (by omega) (by omega)] at g
        obtain rfl : k = 4 := by omega
        exact ⟨20 * (p.2.length - 0), hpL x q 0 (hsR (pkV t p) h0 4), by omega, ⟨rfl, rfl, rfl, rfl, trivial⟩, Or.inr (Or.inl ⟨0, Nat.zero_le _, rfl, rfl, rfl, rfl, rfl, rfl, rfl⟩)⟩
      · have g : ¬ nI 3 < nI k := g
        rw [nI_lt_iff (by omega) (by omega)] at g
        refine ⟨ar, k, p, rfl, by omega, hp, 1000 + (4 - (k + 1)), hpL x q (k + 1) (hsR (pkV t p) h0 (k + 1)), by omega, ⟨rfl, rfl, ?_, inc_tv k, trivial⟩, Or.inl ⟨k + 1, by omega, rfl, rfl, rfl, rfl, rfl, rfl, rfl⟩⟩
        rw [← ht]
        rfl
    · refine ⟨fun g => ?_, fun g => ?_⟩
      · have g : μ.1 q 2 ≤ nI k := g
        rw [hp.2.2.1, nI_le_iff (by omega) (by omega)] at g
        obtain rfl : k = p.2.length := by omega
        rw [List.take_length]
        exact h
      · have g : ¬ μ.1 q 2 ≤ nI k := g
        rw [hp.2.2.1, nI_le_iff (by omega) (by omega)] at g
        obtain ⟨en, hen2⟩ := at_of_lt (l := p.2) (k := k) (by omega)
        exact ⟨20 * (p.2.length - (k + 1)) + 8 + (5 - 0), hpM x q k 0 (dgL (p.2.take k) (hsR (pkV t p) h0 4)), by omega, ⟨rfl, rfl, rfl, rfl, rfl, trivial⟩, Or.inr (Or.inr ⟨k, 0, en, hen2, Nat.zero_le _, rfl, rfl, rfl, rfl, rfl, rfl, rfl⟩)⟩
    · have hkl : k < p.2.length := (List.getElem?_eq_some_iff.mp hk).1
      refine ⟨fun g => ?_, fun g => ?_⟩
      · have g : nI 4 < nI j := g
        rw [nI_lt_iff (by omega) (by omega)] at g
        obtain rfl : j = 5 := by omega
        refine ⟨20 * (p.2.length - (k + 1)), hpL x q (k + 1) (dgL (p.2.take (k + 1)) (hsR (pkV t p) h0 4)), by omega, ⟨rfl, rfl, ?_, inc_tv k, trivial⟩, Or.inr (Or.inl ⟨k + 1, by omega, rfl, rfl, rfl, rfl, rfl, rfl, rfl⟩)⟩
        rw [dgL_S hk]
      · have g : ¬ nI 4 < nI j := g
        rw [nI_lt_iff (by omega) (by omega)] at g
        obtain ⟨e1, e2⟩ := hen en (List.mem_of_getElem? hk)
        exact ⟨ar, k, j, p, en, rfl, rfl, by omega, hp, hk, e1, e2, 20 * (p.2.length - (k + 1)) + 8 + (5 - (j + 1)), hpM x q k (j + 1) (hsR (etV en) (dgL (p.2.take k) (hsR (pkV t p) h0 4)) (j + 1)), by omega, ⟨rfl, rfl, rfl, rfl, inc_tv j, trivial⟩, Or.inr (Or.inr ⟨k, j + 1, en, hk, by omega, rfl, rfl, rfl, rfl, rfl, rfl, rfl⟩)⟩
def heL (x a e k : Nat) (h : Int64) : LC := [some (.inr (.inr (19, x))), none, none, some (.inr (.inr (14, a))), some (.inl (nI e)), some (.inr (.inl h)), none, some (.inl (nI k))]
def sp_X9_hashClientEntity : SPc := fun As μ K => match As with
  | [.inr (.inr (19, x)), .inr (.inl h0), .inr (.inr (14, a)), .inl e'] => ∃ (e : Nat) (X : CS) (E : Nat → Nat → Int32), e' = nI e ∧ e < 16 ∧ CSc μ.1 a (cS X) ∧ CBs μ.1 a (cB X) ∧ CR μ.1 (a + 5) e (cR X e) ∧ c01 X ∧ SE μ.1 (x + 2) E ∧ (∀ q ∈ cR X e, sOK q.2) ∧ sOK (cB X e 2) ∧ K (.inl (some (.inr (.inl (dgE X E e (cnn X) h0))))) μ
  | _ => False
def ct_X9_hashClientEntity : List (Nat × CI) := [(123, ci_X5_value), (126, ci_X1_keptValue), (149, ci_X1_entryBytes)]
def ci_X9_hashClientEntity : CI := (yX9_hashClientEntity, cX9_hashClientEntity, 8, some .long, 4, (4, 0, 0, 92), 18, [], sp_X9_hashClientEntity)
set_option maxRecDepth 100000 in
theorem ck_X9_hashClientEntity : chkM ci_X9_hashClientEntity RX9 co_X9_hashClientEntity ct_X9_hashClientEntity [] false false = true := by decide +kernel
set_option maxHeartbeats 4000000 in
set_option maxRecDepth 100000 in
theorem ms_X9_hashClientEntity {g : GPT} {ot : OT} {l : Launch} (hl : l.stackTraces = false) (hot : otOK ot) : MS g ot l ci_X9_hashClientEntity := by
  refine ms_of hl RX9 co_X9_hashClientEntity ct_X9_hashClientEntity [] false false [6,50] 62 ck_X9_hashClientEntity (List.forall_mem_cons.mpr ⟨ms_X5_value hl hot, List.forall_mem_cons.mpr ⟨ms_X1_keptValue hl hot, List.forall_mem_cons.mpr ⟨ms_X1_entryBytes hl hot, fun _ h => nomatch h⟩⟩⟩) ?_
  intro As μ K h
  simp only [ci_X9_hashClientEntity, sp_X9_hashClientEntity] at h
  split at h
  case h_2 => exact h.elim
  rename_i x h0 a e'
  obtain ⟨e, X, E, rfl, he, hS, hB, hR, hc, hE, hs1, hs2, h⟩ := h
  have c0 : μ.1 a 0 = cS X 0 := hS.1 0 (by omega)
  refine ⟨Nat.le_of_ble_eq_true rfl, fun m pc lc st μ' ce sl => (∃ k, k ≤ 7 ∧ m = 100 + (7 - k) ∧ pc = 6 ∧ lc = heL x a e k (hsR (cpV (cR X e)) h0 k) ∧ st = [] ∧ μ = μ' ∧ ce = 0 ∧ sl = 0) ∨
    (∃ k, k ≤ 9 ∧ cnn X ∧ m = 9 - k ∧ pc = 50 ∧ lc = heL x a e k (hsR (kpV X E e) (hsR (cpV (cR X e)) h0 7) k) ∧ st = [] ∧ μ = μ' ∧ ce = 0 ∧ sl = 0), ?_, ?_⟩
  · exact ⟨100 + (7 - 0), heL x a e 0 h0, ⟨rfl, rfl, rfl, rfl, rfl, trivial⟩, Or.inl ⟨0, Nat.zero_le _, rfl, rfl, rfl, rfl, rfl, rfl, rfl⟩⟩
  · rintro m pc lc st μ' ce sl (⟨k, hk, rfl, rfl, rfl, rfl, rfl, rfl, rfl⟩ | ⟨k, hk, hcn, rfl, rfl, rfl, rfl, rfl, rfl, rfl⟩)
    · refine ⟨fun g => ⟨fun g2 => ?_, fun g2 => ?_⟩, fun g => ?_⟩
      · have g : nI 6 < nI k := g
        rw [nI_lt_iff (by omega) (by omega)] at g
        obtain rfl : k = 7 := by omega
        have g2 : μ.1 a 0 = 0 := g2
        rw [c0] at g2
        have e1 : dgE X E e (cnn X) h0 = hsR (cpV (cR X e)) h0 7 := if_neg fun w => (cnn_ne hc).mpr w g2
        rw [e1] at h
        exact h
      · have g : nI 6 < nI k := g
        rw [nI_lt_iff (by omega) (by omega)] at g
        obtain rfl : k = 7 := by omega
        have g2 : ¬ μ.1 a 0 = 0 := g2
        rw [c0] at g2
        exact ⟨9 - 0, heL x a e 0 (hsR (cpV (cR X e)) h0 7), by omega, ⟨rfl, rfl, rfl, rfl, rfl, trivial⟩, Or.inr ⟨0, Nat.zero_le _, (cnn_ne hc).mp g2, rfl, rfl, rfl, rfl, rfl, rfl, rfl⟩⟩
      · have g : ¬ nI 6 < nI k := g
        rw [nI_lt_iff (by omega) (by omega)] at g
        exact ⟨e, k, cR X e, rfl, rfl, he, by omega, hR, hs1, 100 + (7 - (k + 1)), heL x a e (k + 1) (hsR (cpV (cR X e)) h0 (k + 1)), by omega, ⟨rfl, rfl, rfl, rfl, inc_tv k, trivial⟩, Or.inl ⟨k + 1, by omega, rfl, rfl, rfl, rfl, rfl, rfl, rfl⟩⟩
    · refine ⟨fun g => ?_, fun g => ?_⟩
      · have g : nI 8 < nI k := g
        rw [nI_lt_iff (by omega) (by omega)] at g
        obtain rfl : k = 9 := by omega
        have e1 : dgE X E e (cnn X) h0 = hs (hsR (kpV X E e) (hsR (cpV (cR X e)) h0 7) 9) (nI (prc X E e)) := if_pos hcn
        rw [e1] at h
        exact ⟨e, X, E, rfl, he, hS, (hB e he).2.2, hE, hs2, h⟩
      · have g : ¬ nI 8 < nI k := g
        rw [nI_lt_iff (by omega) (by omega)] at g
        exact ⟨e, k, X, E, rfl, rfl, he, by omega, hS, hB, hE, hs2, 9 - (k + 1), heL x a e (k + 1) (hsR (kpV X E e) (hsR (cpV (cR X e)) h0 7) (k + 1)), by omega, ⟨rfl, rfl, rfl, rfl, inc_tv k, trivial⟩, Or.inr ⟨k + 1, by omega, hcn, rfl, rfl, rfl, rfl, rfl, rfl, rfl⟩⟩
def hcL (x a k : Nat) (h : Int64) : LC := [some (.inr (.inr (19, x))), none, none, some (.inr (.inr (14, a))), some (.inr (.inl h)), none, some (.inl (nI k))]
def sp_X9_hashClient : SPc := fun As μ K => match As with
  | [.inr (.inr (19, x)), .inr (.inl h0), .inr (.inr (14, a))] => ∃ (X : CS) (E : Nat → Nat → Int32), CC μ.1 μ.2.1 a X ∧ c01 X ∧ RI X ∧ (∀ e, e < 16 → sOK (cB X e 2)) ∧ (∀ p ∈ cP X, ∀ en ∈ p.2, enOK en ∧ enO2 en) ∧ SE μ.1 (x + 2) E ∧ K (.inl (some (.inr (.inl (dgC (μ.1 (x + 1) 0) X E h0))))) μ
  | _ => False
def dg1 (X : CS) (h0 : Int64) (k : Nat) : Int64 := hsR (cnV X) (Int64.ofNat 31 * h0 + (if cnn X then 1 else 0)) k
def dg2 (X : CS) (E : Nat → Nat → Int32) (h0 : Int64) (k : Nat) : Int64 := dgR (fun e => dgE X E e (cnn X)) (dgC2 X E (cnn X) (dgC1 X (cnn X) h0)) k
def hcN (x a : Nat) (h : Int64) : LC := [some (.inr (.inr (19, x))), none, none, some (.inr (.inr (14, a))), some (.inr (.inl h)), none, none]
def dg3 (X : CS) (h0 : Int64) (k : Nat) : Int64 := hsR (fun k => cS X (k + 1)) (dg1 X h0 9) k
def ct_X9_hashClient : List (Nat × CI) := [(130, ci_X1_countValue), (133, ci_X1_staleCopies), (187, ci_X9_hashClientEntity), (202, ci_X9_hashPacket)]
def ci_X9_hashClient : CI := (yX9_hashClient, cX9_hashClient, 7, some .long, 3, (5, 0, 0, 119), 18, [], sp_X9_hashClient)
set_option maxRecDepth 100000 in
theorem ck_X9_hashClient : chkM ci_X9_hashClient RX9 co_X9_hashClient ct_X9_hashClient [] false false = true := by decide +kernel
set_option maxHeartbeats 4000000 in
set_option maxRecDepth 100000 in
theorem ms_X9_hashClient {g : GPT} {ot : OT} {l : Launch} (hl : l.stackTraces = false) (hot : otOK ot) : MS g ot l ci_X9_hashClient := by
  refine ms_of hl RX9 co_X9_hashClient ct_X9_hashClient [] false false [24,60,74,88,102,116,130,144,168,195] 128 ck_X9_hashClient (List.forall_mem_cons.mpr ⟨ms_X1_countValue hl, List.forall_mem_cons.mpr ⟨ms_X1_staleCopies hl hot, List.forall_mem_cons.mpr ⟨ms_X9_hashClientEntity hl hot, List.forall_mem_cons.mpr ⟨ms_X9_hashPacket hl, fun _ h => nomatch h⟩⟩⟩⟩) ?_
  intro As μ K h
  simp only [ci_X9_hashClient, sp_X9_hashClient] at h
  split at h
  case h_2 => exact h.elim
  rename_i x h0 a
  obtain ⟨X, E, hX, hc, hI, hsb, hen, hE, h⟩ := h
  obtain ⟨x1, x2, x3, x4, x5, x6⟩ := id hX
  have l12 := x4.2.1
  have c0 : μ.1 a 0 = cS X 0 := x1.1 0 (by omega)
  generalize ht : μ.1 (x + 1) 0 = t at h
  refine ⟨Nat.le_of_ble_eq_true rfl, fun m pc lc st μ' ce sl => (∃ k, k ≤ 9 ∧ m = 100 + (9 - k) ∧ pc = 24 ∧ lc = hcL x a k (dg1 X h0 k) ∧ st = [] ∧ μ = μ' ∧ ce = 0 ∧ sl = 0) ∨
    (∃ k, cnn X ∧ k ≤ 6 ∧ m = 80 + (6 - k) ∧ pc = 60 + 14 * k ∧ lc = hcN x a (dg3 X h0 k) ∧ st = [] ∧ μ = μ' ∧ ce = 0 ∧ sl = 0) ∨
    (∃ k, k ≤ 16 ∧ m = 50 + (16 - k) ∧ pc = 168 ∧ lc = hcL x a k (dg2 X E h0 k) ∧ st = [] ∧ μ = μ' ∧ ce = 0 ∧ sl = 0) ∨
    (∃ k, k ≤ (flyL X).length ∧ m = (flyL X).length - k ∧ pc = 195 ∧ lc = hcL x a k (dgPs t ((flyL X).take k) (dg2 X E h0 16)) ∧ st = [] ∧ μ = μ' ∧ ce = 0 ∧ sl = 0), ?_, ?_⟩
  · refine ⟨fun q => ⟨100 + (9 - 0), hcL x a 0 (dg1 X h0 0), ⟨rfl, rfl, ?_, rfl, trivial⟩, Or.inl ⟨0, Nat.zero_le _, rfl, rfl, rfl, rfl, rfl, rfl, rfl⟩⟩, fun q => ⟨100 + (9 - 0), hcL x a 0 (dg1 X h0 0), ⟨rfl, rfl, ?_, rfl, trivial⟩, Or.inl ⟨0, Nat.zero_le _, rfl, rfl, rfl, rfl, rfl, rfl, rfl⟩⟩⟩
    · have q : μ.1 a 0 = 0 := q
      rw [c0] at q
      have e : dg1 X h0 0 = Int64.ofNat 31 * h0 + 0 := by
        show _ + (if cnn X then 1 else 0) = _
        rw [if_neg fun w => (cnn_ne hc).mpr w q]
      rw [e]
      rfl
    · have q : ¬ μ.1 a 0 = 0 := q
      rw [c0] at q
      have e : dg1 X h0 0 = Int64.ofNat 31 * h0 + 1 := by
        show _ + (if cnn X then 1 else 0) = _
        rw [if_pos ((cnn_ne hc).mp q)]
      rw [e]
      rfl
  · rintro m pc lc st μ' ce sl (⟨k, hk, rfl, rfl, rfl, rfl, rfl, rfl, rfl⟩ | ⟨k, hcn, hk, rfl, hpc, rfl, rfl, rfl, rfl, rfl⟩ | ⟨k, hk, rfl, rfl, rfl, rfl, rfl, rfl, rfl⟩ | ⟨k, hk, rfl, rfl, rfl, rfl, rfl, rfl, rfl⟩)
    · have e1 : dgC1 X (cnn X) h0 = dg1 X h0 9 := rfl
      refine ⟨fun g => ⟨fun g2 => ?_, fun g2 => ?_⟩, fun g => ?_⟩
      · have g : nI 8 < nI k := g
        rw [nI_lt_iff (by omega) (by omega)] at g
        obtain rfl : k = 9 := by omega
        have g2 : μ.1 a 0 = 0 := g2
        rw [c0] at g2
        have e2 : dg2 X E h0 0 = dg1 X h0 9 := if_neg fun w => (cnn_ne hc).mpr w g2
        refine ⟨50 + (16 - 0), hcL x a 0 (dg2 X E h0 0), by omega, ⟨rfl, rfl, ?_, rfl, trivial⟩, Or.inr (Or.inr (Or.inl ⟨0, Nat.zero_le _, rfl, rfl, rfl, rfl, rfl, rfl, rfl⟩))⟩
        rw [e2]
      · have g : nI 8 < nI k := g
        rw [nI_lt_iff (by omega) (by omega)] at g
        obtain rfl : k = 9 := by omega
        have g2 : ¬ μ.1 a 0 = 0 := g2
        rw [c0] at g2
        exact ⟨80 + (6 - 0), hcN x a (dg3 X h0 0), by omega, ⟨rfl, rfl, rfl, trivial⟩, Or.inr (Or.inl ⟨0, (cnn_ne hc).mp g2, Nat.zero_le _, rfl, rfl, rfl, rfl, rfl, rfl, rfl⟩)⟩
      · have g : ¬ nI 8 < nI k := g
        rw [nI_lt_iff (by omega) (by omega)] at g
        exact ⟨k, X, rfl, by omega, x1, x4.1, 100 + (9 - (k + 1)), hcL x a (k + 1) (dg1 X h0 (k + 1)), by omega, ⟨rfl, rfl, rfl, inc_tv k, trivial⟩, Or.inl ⟨k + 1, by omega, rfl, rfl, rfl, rfl, rfl, rfl, rfl⟩⟩
    · have : k = 0 ∨ k = 1 ∨ k = 2 ∨ k = 3 ∨ k = 4 ∨ k = 5 ∨ k = 6 := by omega
      rcases this with rfl | rfl | rfl | rfl | rfl | rfl | rfl
      · obtain rfl : pc = 60 := hpc
        refine ⟨80 + (6 - 1), hcN x a (dg3 X h0 1), by omega, ⟨rfl, rfl, ?_, trivial⟩, Or.inr (Or.inl ⟨1, hcn, by omega, rfl, rfl, rfl, rfl, rfl, rfl, rfl⟩)⟩
        show (some (.inr (.inl (Int64.ofNat 31 * dg3 X h0 0 + (μ.1 a 1).toInt64))) : Option TV) = _
        rw [x1.1 1 (by omega)]
        rfl
      · obtain rfl : pc = 74 := hpc
        refine ⟨80 + (6 - 2), hcN x a (dg3 X h0 2), by omega, ⟨rfl, rfl, ?_, trivial⟩, Or.inr (Or.inl ⟨2, hcn, by omega, rfl, rfl, rfl, rfl, rfl, rfl, rfl⟩)⟩
        show (some (.inr (.inl (Int64.ofNat 31 * dg3 X h0 1 + (μ.1 a 2).toInt64))) : Option TV) = _
        rw [x1.1 2 (by omega)]
        rfl
      · obtain rfl : pc = 88 := hpc
        refine ⟨80 + (6 - 3), hcN x a (dg3 X h0 3), by omega, ⟨rfl, rfl, ?_, trivial⟩, Or.inr (Or.inl ⟨3, hcn, by omega, rfl, rfl, rfl, rfl, rfl, rfl, rfl⟩)⟩
        show (some (.inr (.inl (Int64.ofNat 31 * dg3 X h0 2 + (μ.1 a 3).toInt64))) : Option TV) = _
        rw [x1.1 3 (by omega)]
        rfl
      · obtain rfl : pc = 102 := hpc
        refine ⟨80 + (6 - 4), hcN x a (dg3 X h0 4), by omega, ⟨rfl, rfl, ?_, trivial⟩, Or.inr (Or.inl ⟨4, hcn, by omega, rfl, rfl, rfl, rfl, rfl, rfl, rfl⟩)⟩
        show (some (.inr (.inl (Int64.ofNat 31 * dg3 X h0 3 + (μ.1 a 4).toInt64))) : Option TV) = _
        rw [x1.1 4 (by omega)]
        rfl
      · obtain rfl : pc = 116 := hpc
        refine ⟨80 + (6 - 5), hcN x a (dg3 X h0 5), by omega, ⟨rfl, rfl, ?_, trivial⟩, Or.inr (Or.inl ⟨5, hcn, by omega, rfl, rfl, rfl, rfl, rfl, rfl, rfl⟩)⟩
        show (some (.inr (.inl (Int64.ofNat 31 * dg3 X h0 4 + (μ.1 a 5).toInt64))) : Option TV) = _
        rw [x1.1 5 (by omega)]
        rfl
      · obtain rfl : pc = 130 := hpc
        refine ⟨80 + (6 - 6), hcN x a (dg3 X h0 6), by omega, ⟨rfl, rfl, ?_, trivial⟩, Or.inr (Or.inl ⟨6, hcn, by omega, rfl, rfl, rfl, rfl, rfl, rfl, rfl⟩)⟩
        show (some (.inr (.inl (Int64.ofNat 31 * dg3 X h0 5 + (μ.1 a 6).toInt64))) : Option TV) = _
        rw [x1.1 6 (by omega)]
        rfl
      · obtain rfl : pc = 144 := hpc
        have e2 : dg2 X E h0 0 = hs (dg3 X h0 6) (nI (staleN X E)) := if_pos hcn
        refine ⟨X, E, x1, x3, hE, 50 + (16 - 0), hcL x a 0 (dg2 X E h0 0), by omega, ⟨rfl, rfl, ?_, rfl, trivial⟩, Or.inr (Or.inr (Or.inl ⟨0, Nat.zero_le _, rfl, rfl, rfl, rfl, rfl, rfl, rfl⟩))⟩
        rw [e2]
        rfl
    · refine ⟨fun g => ?_, fun g => ?_⟩
      · simp only [icP, ifP, iL, iM1] at g
        try simp only [z_nI] at g
        try simp only [nI_add, nI_mul] at g
        first | rw [nI_le_iff (by omega) (by omega)] at g | rw [nI_lt_iff (by omega) (by omega)] at g | rw [nI_eq_iff (by omega) (by omega)] at g
        obtain rfl : k = 16 := by omega
        exact ⟨(flyL X).length - 0, hcL x a 0 (dg2 X E h0 16), by omega, ⟨rfl, rfl, rfl, rfl, trivial⟩, Or.inr (Or.inr (Or.inr ⟨0, Nat.zero_le _, rfl, rfl, rfl, rfl, rfl, rfl, rfl⟩))⟩
      · simp only [icP, ifP, iL, iM1] at g
        try simp only [z_nI] at g
        try simp only [nI_add, nI_mul] at g
        first | rw [nI_le_iff (by omega) (by omega)] at g | rw [nI_lt_iff (by omega) (by omega)] at g | rw [nI_eq_iff (by omega) (by omega)] at g
        exact ⟨k, X, E, rfl, by omega, x1, x2, x3 k (by omega), hc, hE, (hI k (by omega)).2, hsb k (by omega), 50 + (16 - (k + 1)), hcL x a (k + 1) (dg2 X E h0 (k + 1)), by omega, ⟨rfl, rfl, rfl, inc_tv k, trivial⟩, Or.inr (Or.inr (Or.inl ⟨k + 1, by omega, rfl, rfl, rfl, rfl, rfl, rfl, rfl⟩))⟩
    · refine ⟨fun g => ?_, fun g => ?_⟩
      · have g : μ.1 (a + 9) 0 ≤ nI k := g
        rw [x4.1, nI_le_iff (by omega) (by omega)] at g
        obtain rfl : k = (flyL X).length := by omega
        rw [List.take_length]
        exact h
      · have g : ¬ μ.1 (a + 9) 0 ≤ nI k := g
        rw [x4.1, nI_le_iff (by omega) (by omega)] at g
        obtain ⟨p, hp⟩ := at_of_lt (l := flyL X) (k := k) (by omega)
        refine ⟨k, rfl, by omega, by show k < μ.2.1 (a + 9 + 1) 12; rw [x4.2.2.1.1]; omega, false, p, x4.2.2.2 k p hp, hen p (flyL_mem hp), (flyL X).length - (k + 1), hcL x a (k + 1) (dgPs t ((flyL X).take (k + 1)) (dg2 X E h0 16)), by omega, ⟨rfl, rfl, ?_, inc_tv k, trivial⟩, Or.inr (Or.inr (Or.inr ⟨k + 1, by omega, rfl, rfl, rfl, rfl, rfl, rfl, rfl⟩))⟩
        rw [dgPs_S hp, ← ht]
def cdL (x k : Nat) (h : Int64) : LC := [some (.inr (.inr (19, x))), some (.inr (.inl h)), none, some (.inl (nI k)), none]
def cdM (x k j : Nat) (h : Int64) : LC := [some (.inr (.inr (19, x))), some (.inr (.inl h)), none, some (.inl (nI k)), some (.inl (nI j))]
def sp_X9_digest : SPc := fun As μ K => match As with
  | [.inr (.inr (19, x))] => ∃ (M : Nat) (W : WS) (U : List WS), WOK M W ∧ CXo μ x W U ∧ K (.inl (some (.inr (.inl (oDig W U))))) μ
  | _ => False
def ct_X9_digest : List (Nat × CI) := [(66, ci_X2_value), (174, ci_X9_hashClient)]
def ci_X9_digest : CI := (yX9_digest, cX9_digest, 5, some .long, 1, (6, 0, 0, 145), 18, [], sp_X9_digest)
set_option maxRecDepth 100000 in
theorem ck_X9_digest : chkM ci_X9_digest RX9 co_X9_digest ct_X9_digest [] false false = true := by decide +kernel
set_option maxHeartbeats 4000000 in
set_option maxRecDepth 100000 in
theorem ms_X9_digest {g : GPT} {ot : OT} {l : Launch} (hl : l.stackTraces = false) (hot : otOK ot) : MS g ot l ci_X9_digest := by
  refine ms_of hl RX9 co_X9_digest ct_X9_digest [] false false [66,75,117] 87 ck_X9_digest (List.forall_mem_cons.mpr ⟨ms_X2_value hl hot, List.forall_mem_cons.mpr ⟨ms_X9_hashClient hl hot, fun _ h => nomatch h⟩⟩) ?_
  intro As μ K h
  simp only [ci_X9_digest, sp_X9_digest] at h
  split at h
  case h_2 => exact h.elim
  rename_i x
  obtain ⟨M, W, U, hM, hX, h⟩ := h
  have t0 : μ.1 (x + 1) 0 = wT W 0 := hX.1.1 0 (by omega)
  have t1 : μ.1 (x + 1) 1 = wT W 1 := hX.1.1 1 (by omega)
  have t2 : μ.1 (x + 1) 2 = wT W 2 := hX.1.1 2 (by omega)
  have t4 : μ.1 (x + 490) 0 = nI U.length := hX.2.1
  refine ⟨Nat.le_of_ble_eq_true rfl, fun m pc lc st μ' ce sl => (∃ k, k ≤ 16 ∧ m = 1000 + 20 * (16 - k) ∧ pc = 66 ∧ lc = cdL x k (hE7 (wE W) (dg0 W U) k) ∧ st = [] ∧ μ = μ' ∧ ce = 0 ∧ sl = 0) ∨
    (∃ k j, k < 16 ∧ j ≤ 7 ∧ m = 1000 + 20 * (16 - (k + 1)) + 8 + (7 - j) ∧ pc = 75 ∧ lc = cdM x k j (hsR (enV (wE W) k) (hE7 (wE W) (dg0 W U) k) j) ∧ st = [] ∧ μ = μ' ∧ ce = 0 ∧ sl = 0) ∨
    (∃ k, k ≤ 3 ∧ m = 3 - k ∧ pc = 117 ∧ lc = cdL x k (hC3 W (hE7 (wE W) (dg0 W U) 16) k) ∧ st = [] ∧ μ = μ' ∧ ce = 0 ∧ sl = 0), ?_, ?_⟩
  · refine ⟨1000 + 20 * (16 - 0), cdL x 0 (dg0 W U), ⟨rfl, ?_, rfl, trivial⟩, Or.inl ⟨0, Nat.zero_le _, rfl, rfl, rfl, rfl, rfl, rfl, rfl⟩⟩
    unfold dg0
    rw [← t0, ← t1, ← t2, ← t4]
    rfl
  · rintro m pc lc st μ' ce sl (⟨k, hk, rfl, rfl, rfl, rfl, rfl, rfl, rfl⟩ | ⟨k, j, hk, hj, rfl, rfl, rfl, rfl, rfl, rfl, rfl⟩ | ⟨k, hk, rfl, rfl, rfl, rfl, rfl, rfl, rfl⟩)
    · refine ⟨fun q => ?_, fun q => ?_⟩
      · simp only [icP, ifP, iL, iM1] at q
        try simp only [z_nI] at q
        try simp only [nI_add, nI_mul] at q
        first | rw [nI_le_iff (by omega) (by omega)] at q | rw [nI_lt_iff (by omega) (by omega)] at q | rw [nI_eq_iff (by omega) (by omega)] at q
        obtain rfl : k = 16 := by omega
        exact ⟨3 - 0, cdL x 0 (hE7 (wE W) (dg0 W U) 16), by omega, ⟨rfl, rfl, rfl, trivial⟩, Or.inr (Or.inr ⟨0, Nat.zero_le _, rfl, rfl, rfl, rfl, rfl, rfl, rfl⟩)⟩
      · simp only [icP, ifP, iL, iM1] at q
        try simp only [z_nI] at q
        try simp only [nI_add, nI_mul] at q
        first | rw [nI_le_iff (by omega) (by omega)] at q | rw [nI_lt_iff (by omega) (by omega)] at q | rw [nI_eq_iff (by omega) (by omega)] at q
        exact ⟨1000 + 20 * (16 - (k + 1)) + 8 + (7 - 0), cdM x k 0 (hE7 (wE W) (dg0 W U) k), by omega, ⟨rfl, rfl, rfl, rfl, trivial⟩, Or.inr (Or.inl ⟨k, 0, by omega, Nat.zero_le _, rfl, rfl, rfl, rfl, rfl, rfl, rfl⟩)⟩
    · refine ⟨fun q => ?_, fun q => ?_⟩
      · have q : nI 6 < nI j := q
        rw [nI_lt_iff (by omega) (by omega)] at q
        obtain rfl : j = 7 := by omega
        exact ⟨1000 + 20 * (16 - (k + 1)), cdL x (k + 1) (hE7 (wE W) (dg0 W U) (k + 1)), by omega, ⟨rfl, rfl, inc_tv k, trivial⟩, Or.inl ⟨k + 1, by omega, rfl, rfl, rfl, rfl, rfl, rfl, rfl⟩⟩
      · have q : ¬ nI 6 < nI j := q
        rw [nI_lt_iff (by omega) (by omega)] at q
        exact ⟨k, j, wE W, rfl, rfl, hk, by omega, hX.1.2.1, (hM.1 k hk).1, 1000 + 20 * (16 - (k + 1)) + 8 + (7 - (j + 1)), cdM x k (j + 1) (hsR (enV (wE W) k) (hE7 (wE W) (dg0 W U) k) (j + 1)), by omega, ⟨rfl, rfl, rfl, inc_tv j, trivial⟩, Or.inr (Or.inl ⟨k, j + 1, hk, by omega, rfl, rfl, rfl, rfl, rfl, rfl, rfl⟩)⟩
    · refine ⟨fun q => ?_, fun q => ?_⟩
      · simp only [icP, ifP, iL, iM1] at q
        try simp only [z_nI] at q
        try simp only [nI_add, nI_mul] at q
        first | rw [nI_le_iff (by omega) (by omega)] at q | rw [nI_lt_iff (by omega) (by omega)] at q | rw [nI_eq_iff (by omega) (by omega)] at q
        obtain rfl : k = 3 := by omega
        exact h
      · simp only [icP, ifP, iL, iM1] at q
        try simp only [z_nI] at q
        try simp only [nI_add, nI_mul] at q
        first | rw [nI_le_iff (by omega) (by omega)] at q | rw [nI_lt_iff (by omega) (by omega)] at q | rw [nI_eq_iff (by omega) (by omega)] at q
        obtain ⟨T, _, _, hc⟩ := hM.cl (c := k) (by omega)
        have hC := hX.1.2.2.2 k (by omega)
        have ea : x + 1 + 5 + 1 + 161 * k = x + 1 + 6 + 161 * k := by omega
        refine ⟨k, rfl, by omega, by show k < μ.2.1 (x + 6) 3; rw [hX.1.2.2.1]; omega, wC W k, wE W, by rw [ea]; exact hC, hM.c01 k (by omega), hc.2.1, hc.2.2.1, hc.en, SE.of hX.1.2.1 hM.1, 3 - (k + 1), cdL x (k + 1) (hC3 W (hE7 (wE W) (dg0 W U) 16) (k + 1)), by omega, ⟨rfl, ?_, inc_tv k, trivial⟩, Or.inr (Or.inr ⟨k + 1, by omega, rfl, rfl, rfl, rfl, rfl, rfl, rfl⟩)⟩
        rw [t0]
        rfl
