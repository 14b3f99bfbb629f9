/-! THE CLASS, a client receives. -/
theorem CSc.S6 {F F' : Nat → Nat → Int32} {a : Nat} {S : Nat → Int32} {k : Nat} {v : Int32} (h : CSc F a S) (hk : k < 7) (h0 : ∀ j, ¬ j = k → F' a j = F a j) (h1 : F' (a + 1) = F (a + 1)) (h2 : F' a k = v) : CSc F' a (upd S k v) := by
  obtain ⟨s1, s2, s3⟩ := h
  have ci : ∀ j, 8 ≤ cnI j ∨ j < 0 := fun j => by unfold cnI; split <;> omega
  refine ⟨fun j hj => ?_, fun j hj j6 => ?_, ?_⟩
  · by_cases q : j = k
    · rw [q, upd_eq]; exact h2
    · rw [upd_ne _ _ q, h0 j q]; exact s1 j hj
  · rw [h1, upd_ne _ _ (by have := ci j; omega)]
    exact s2 j hj j6
  · rw [upd_ne _ _ (by omega), upd_ne _ _ (by omega)]
    exact s3
def sp_X1_sendAck : SPc := fun As μ K => match As with
  | [.inr (.inr (14, a)), .inl n, .inl v] => ∃ (X : CS) (t d : Int32), v = t + d ∧ CSc μ.1 a (cS X) ∧ CA μ.1 (a + 157) (cA X) ∧ (cA X).length < 24 ∧ ∀ F', CSc F' a (cS (ackS t d n X)) → CA F' (a + 157) (cA (ackS t d n X)) → (∀ z, ¬ z = a → ¬ z = a + 1 → (z < a + 157 ∨ a + 160 ≤ z) → F' z = μ.1 z) → K (.inl none) (F', μ.2)
  | _ => False
def ct_X1_sendAck : List (Nat × CI) := [(232, ci_X0_add)]
def ci_X1_sendAck : CI := (yX1_sendAck, cX1_sendAck, 3, none, 3, (1, 0, 0, 22), 11, [], sp_X1_sendAck)
set_option maxRecDepth 100000 in
theorem ck_X1_sendAck : chkM ci_X1_sendAck RX1 co_X1_sendAck ct_X1_sendAck [] false false = true := by decide +kernel
set_option maxHeartbeats 4000000 in
set_option maxRecDepth 100000 in
theorem ms_X1_sendAck {g : GPT} {ot : OT} {l : Launch} (hl : l.stackTraces = false) : MS g ot l ci_X1_sendAck := by
  refine ms0_of hl RX1 co_X1_sendAck ct_X1_sendAck [] false false 29 ck_X1_sendAck (List.forall_mem_cons.mpr ⟨ms_X0_add hl, fun _ h => nomatch h⟩) ?_
  intro As μ K h
  simp only [ci_X1_sendAck, sp_X1_sendAck] at h
  split at h
  case h_2 => exact h.elim
  rename_i a n v
  obtain ⟨X, t, d, rfl, hS, hA, hl, h⟩ := h
  refine ⟨Nat.le_of_ble_eq_true rfl, fun q => ⟨cA X, hA, hl, fun F' hF hFo => ?_⟩, fun q => ⟨3, rfl, by omega, 3, rfl, by omega, ?_⟩⟩
  · have q : μ.1 a 6 ≤ 0 := q
    rw [hS.1 6 (by omega)] at q
    have e : ackS t d n X = setA X (cA X ++ [(n, t + d)]) := if_neg (Int32.not_lt.mpr q)
    rw [e] at h
    have hFo : ∀ z, (z < a + 157 ∨ a + 157 + 3 ≤ z) → F' z = μ.1 z := hFo
    exact h F' (hS.keep fun z z1 z2 => hFo z (by omega)) hF fun z _ _ hz => hFo z (by omega)
  · have q : ¬ μ.1 a 6 ≤ 0 := q
    rw [hS.1 6 (by omega)] at q
    have e : ackS t d n X = setS (setS X 6 (cS X 6 + -1)) 11 (cS X 11 + 1) := if_pos (Int32.not_le.mp q)
    rw [e] at h
    have h3 : μ.1 (a + 1) 3 = cS X 11 := hS.2.1 3 (by omega) (by omega)
    refine h _ ?_ (hA.keep fun z z1 z2 => ?_) fun z hz hz2 _ => ?_
    · have c := CSc.C (w := 3) (v := cS X 11 + 1) (CSc.S6 (F' := up2 μ.1 a 6 (μ.1 a 6 - Int32.ofInt 1)) (k := 6) (v := cS X 6 + -1) hS (by omega) (fun j hj => u2_nj _ _ hj) (u2_ne _ _ (by omega)) (by
        rw [u2_eq, hS.1 6 (by omega), Int32.sub_eq_add_neg]
        rfl)) (by omega) (by omega) (by omega) (F' := up2 (up2 μ.1 a 6 (μ.1 a 6 - Int32.ofInt 1)) (a + 1) 3 ((up2 μ.1 a 6 (μ.1 a 6 - Int32.ofInt 1)) (a + 1) 3 + Int32.ofInt 1)) (u2_ne _ _ (by omega)) (fun j hj => u2_nj _ _ hj) (by
        rw [u2_eq, u2_ne _ _ (by omega), h3]
        rfl)
      exact c
    · dsimp only
      rw [u2_ne _ _ (by omega), u2_ne _ _ (by omega)]
    · dsimp only
      rw [u2_ne _ _ hz2, u2_ne _ _ hz]
/-- what receiving changes: the counts' row and the records -/
def RCV (F F' : Nat → Nat → Int32) (a : Nat) (X' : CS) : Prop := CSc F' a (cS X') ∧ CD F' (a + 5) (cR X') ∧ ∀ z, ¬ z = a + 1 → (z < a + 5 ∨ a + 9 ≤ z) → F' z = F z
def reL (a q i e : Nat) (s : Int32) : LC := [some (.inr (.inr (14, a))), some (.inr (.inr (11, q))), some (.inl (nI i)), some (.inl (nI e)), some (.inl s), none]
def sp_X1_receiveEntry : SPc := fun As μ K => match As with
  | [.inr (.inr (14, a)), .inr (.inr (11, q)), .inl i'] => ∃ (ar : Bool) (i : Nat) (X : CS) (p : PK) (en : EN), i' = nI i ∧ PC ar μ.1 q p ∧ p.2[i]? = some en ∧ enOK en ∧ CSc μ.1 a (cS X) ∧ CD μ.1 (a + 5) (cR X) ∧ RI X ∧ ¬ p.1 0 ≤ lastN (cR X (eN en)) ∧ (q + 6 ≤ a ∨ a + 11 ≤ q) ∧ ∀ F', RCV μ.1 F' a (rcvE (p.1 0) X en) → K (.inl none) (F', μ.2)
  | _ => False
def ct_X1_receiveEntry : List (Nat × CI) := [(220, ci_X5_stateOfRecord), (226, ci_X6_withParts), (230, ci_X5_add)]
def ci_X1_receiveEntry : CI := (yX1_receiveEntry, cX1_receiveEntry, 6, none, 3, (3, 0, 0, 64), 11, [], sp_X1_receiveEntry)
set_option maxRecDepth 100000 in
theorem ck_X1_receiveEntry : chkM ci_X1_receiveEntry RX1 co_X1_receiveEntry ct_X1_receiveEntry [] false false = true := by decide +kernel
set_option maxHeartbeats 4000000 in
set_option maxRecDepth 100000 in
theorem ms_X1_receiveEntry {g : GPT} {ot : OT} {l : Launch} (hl : l.stackTraces = false) (hot : otOK ot) : MS g ot l ci_X1_receiveEntry := by
  refine ms_of hl RX1 co_X1_receiveEntry ct_X1_receiveEntry [] false false [73] 58 ck_X1_receiveEntry (List.forall_mem_cons.mpr ⟨ms_X5_stateOfRecord hl, List.forall_mem_cons.mpr ⟨ms_X6_withParts hl hot, List.forall_mem_cons.mpr ⟨ms_X5_add hl, fun _ h => nomatch h⟩⟩⟩) ?_
  intro As μ K h
  simp only [ci_X1_receiveEntry, sp_X1_receiveEntry] at h
  split at h
  case h_2 => exact h.elim
  rename_i a q i'
  obtain ⟨ar, i, X, p, en, rfl, hp, hi, hen, hS, hD, hI, hn, hq, h⟩ := h
  obtain ⟨h0, h1, h2, h3, h4, h5, h6⟩ := id hp
  obtain ⟨g0, g1, g2, g3, g4⟩ := h6 i en hi
  have hil : i < p.2.length := (List.getElem?_eq_some_iff.mp hi).1
  obtain ⟨k0, ⟨e, he, k1⟩, ⟨m, hm, k3⟩, k4, k5⟩ := id hen
  have ee : eN en = e := eN_of k1 he
  rw [ee] at hn
  have hrc : rcvE (p.1 0) X en = if en 0 = 2 then (if recS (cR X e) (en 2) = -1 then setS X 13 (cS X 13 + 1) else setR X e (addRec (cR X e) (p.1 0) (nI (mxN (sN (recS (cR X e) (en 2))) (sN (en 4)) (sN (en 3)))))) else setR X e (addRec (cR X e) (p.1 0) (en 4)) := by
    unfold rcvE
    rw [ee, if_neg hn]
  refine ⟨Nat.le_of_ble_eq_true rfl, fun m' pc lc st μ' ce sl => ∃ s, rcvE (p.1 0) X en = setR X e (addRec (cR X e) (p.1 0) s) ∧ m' = 0 ∧ pc = 73 ∧ lc = reL a q i e s ∧ st = [] ∧ μ = μ' ∧ ce = 0 ∧ sl = 0, ?_, ?_⟩
  · refine ⟨i, rfl, by omega, i, rfl, by omega, i, rfl, by omega, fun w => ⟨0, reL a q i e (en 4), ⟨rfl, rfl, rfl, ?_, ?_, trivial⟩, en 4, ?_, rfl, rfl, rfl, rfl, rfl, rfl, rfl⟩, fun w => ⟨i, rfl, by omega, e, cR X e, ?_, he, hD e he, fun w2 => ⟨i, rfl, by omega, ?_⟩, fun w2 => ⟨5, rfl, by omega, 5, rfl, by omega, ?_⟩⟩⟩
    · rw [← k1, ← g1]
    · rw [← g4]
    · have w : ¬ μ.1 (q + 1) i = 2 := w
      rw [g0] at w
      rw [hrc, if_neg w]
    · rw [← k1]
      exact g1
    · have w : ¬ ¬ μ.1 (q + 1) i = 2 := w
      rw [g0, Classical.not_not] at w
      have w2 : ¬ recS (cR X e) (μ.1 (q + 3) i) = -1 := w2
      rw [g2] at w2
      obtain ⟨b, b1, b2, b3⟩ := sOK_ne (recS_ok (hI e he).2 (en 2)) w2
      obtain ⟨x, x1, x2⟩ := k5 (by rw [w]; decide)
      have hmx : rcvE (p.1 0) X en = setR X e (addRec (cR X e) (p.1 0) (nI (mxN b x m))) := by
        rw [hrc, if_pos w, if_neg w2, b3, x2, sN_nI x1, k3, sN_nI (by omega)]
      refine ⟨b, x, m, ?_, ?_, ?_, b1, x1, hm, 0, reL a q i e (nI (mxN b x m)), ⟨rfl, rfl, rfl, ?_, rfl, trivial⟩, nI (mxN b x m), hmx, rfl, rfl, rfl, rfl, rfl, rfl, rfl⟩
      · rw [g2]; exact b2
      · rw [g4]; exact x2
      · rw [g3]; exact k3
      · rw [← k1, ← g1]
    · have w : ¬ ¬ μ.1 (q + 1) i = 2 := w
      rw [g0, Classical.not_not] at w
      have w2 : ¬ ¬ recS (cR X e) (μ.1 (q + 3) i) = -1 := w2
      rw [g2, Classical.not_not] at w2
      rw [hrc, if_pos w, if_pos w2] at h
      refine h _ ⟨?_, hD.keep fun z z1 z2 => ?_, fun z hz _ => ?_⟩
      · have h5 : μ.1 (a + 1) 5 = cS X 13 := hS.2.1 5 (by omega) (by omega)
        exact CSc.C (w := 5) (v := cS X 13 + 1) hS (by omega) (by omega) (by omega) (F' := up2 μ.1 (a + 1) 5 (μ.1 (a + 1) 5 + Int32.ofInt 1)) (u2_ne _ _ (by omega)) (fun j hj => u2_nj _ _ hj) (by
          rw [u2_eq, h5]
          rfl)
      · rw [u2_ne _ _ (by omega)]
      · rw [u2_ne _ _ hz]
  · rintro m' pc lc st μ' ce sl ⟨s, hs, rfl, rfl, rfl, rfl, rfl, rfl, rfl⟩
    rw [hs] at h
    refine ⟨e, cR X, rfl, he, hD, fun F' hF hFo => ?_⟩
    have hFo : ∀ z, (z < a + 5 ∨ a + 5 + 4 ≤ z) → F' z = μ.1 z := hFo
    rw [h0] at hF
    exact h F' ⟨hS.keep fun z z1 z2 => hFo z (by omega), hF, fun z _ hz => hFo z (by omega)⟩
def rvC (a q k : Nat) : LC := [some (.inr (.inr (14, a))), some (.inr (.inr (11, q))), some (.inl (nI k))]
def sp_X1_receivePacket : SPc := fun As μ K => match As with
  | [.inr (.inr (14, a)), .inr (.inr (11, q))] => ∃ (ar : Bool) (X : CS) (p : PK), PC ar μ.1 q p ∧ (∀ en ∈ p.2, enOK en) ∧ CSc μ.1 a (cS X) ∧ CD μ.1 (a + 5) (cR X) ∧ RI X ∧ (q + 6 ≤ a ∨ a + 11 ≤ q) ∧ ∀ F', RCV μ.1 F' a (rcvL (p.1 0) p.2 X) → K (.inl none) (F', μ.2)
  | _ => False
theorem rcvE_skip {n : Int32} {X : CS} {en : EN} (h : n ≤ lastN (cR X (eN en))) : rcvE n X en = X := if_pos h
def ct_X1_receivePacket : List (Nat × CI) := [(206, ci_X5_lastNumber), (209, ci_X1_receiveEntry)]
def ci_X1_receivePacket : CI := (yX1_receivePacket, cX1_receivePacket, 3, none, 2, (4, 0, 0, 89), 11, [], sp_X1_receivePacket)
set_option maxRecDepth 100000 in
theorem ck_X1_receivePacket : chkM ci_X1_receivePacket RX1 co_X1_receivePacket ct_X1_receivePacket [] false false = true := by decide +kernel
set_option maxHeartbeats 4000000 in
set_option maxRecDepth 100000 in
theorem ms_X1_receivePacket {g : GPT} {ot : OT} {l : Launch} (hl : l.stackTraces = false) (hot : otOK ot) : MS g ot l ci_X1_receivePacket := by
  refine ms_of hl RX1 co_X1_receivePacket ct_X1_receivePacket [] false false [2] 28 ck_X1_receivePacket (List.forall_mem_cons.mpr ⟨ms_X5_lastNumber hl, List.forall_mem_cons.mpr ⟨ms_X1_receiveEntry hl hot, fun _ h => nomatch h⟩⟩) ?_
  intro As μ K h
  simp only [ci_X1_receivePacket, sp_X1_receivePacket] at h
  split at h
  case h_2 => exact h.elim
  rename_i a q
  obtain ⟨ar, X, p, hp, hen, hS, hD, hI, hq, h⟩ := h
  have h16 := hp.2.2.2.2.2.1
  refine ⟨Nat.le_of_ble_eq_true rfl, fun m pc lc st μ' ce sl => ∃ k F, k ≤ p.2.length ∧ m = p.2.length - k ∧ pc = 2 ∧ lc = rvC a q k ∧ st = [] ∧ μ' = (F, μ.2) ∧ RCV μ.1 F a (rcvL (p.1 0) (p.2.take k) X) ∧ ce = 0 ∧ sl = 0, ?_, ?_⟩
  · exact ⟨p.2.length, rvC a q 0, ⟨rfl, rfl, rfl, trivial⟩, 0, μ.1, Nat.zero_le _, rfl, rfl, rfl, rfl, rfl, ⟨hS, hD, fun _ _ _ => rfl⟩, rfl, rfl⟩
  · rintro m pc lc st μ' ce sl ⟨k, F, hk, rfl, rfl, rfl, rfl, rfl, ⟨r1, r2, r3⟩, rfl, rfl⟩
    have hp' : PC ar F q p := hp.keep fun z z1 z2 => r3 z (by omega) (by omega)
    refine ⟨fun w => ?_, fun w => ?_⟩
    · have w : F q 2 ≤ nI k := w
      rw [hp'.2.2.1, nI_le_iff (by omega) (by omega)] at w
      obtain rfl : k = p.2.length := by omega
      rw [List.take_length] at r1 r2
      exact h F ⟨r1, r2, r3⟩
    · have w : ¬ F q 2 ≤ nI k := w
      rw [hp'.2.2.1, nI_le_iff (by omega) (by omega)] at w
      obtain ⟨en, hk2⟩ := at_of_lt (l := p.2) (k := k) (by omega)
      have hen' := hen en (List.mem_of_getElem? hk2)
      obtain ⟨e, he, k1⟩ := hen'.2.1
      have ee : eN en = e := eN_of k1 he
      have g1 := (hp'.2.2.2.2.2.2 k en hk2).2.1
      have hI' : RI (rcvL (p.1 0) (p.2.take k) X) := rcvL_RI _ _ _ hI fun en he => hen en (List.mem_of_mem_take he)
      have hst := rcvL_S (p.1 0) hk2 X
      refine ⟨k, rfl, by omega, e, cR (rcvL (p.1 0) (p.2.take k) X) e, ?_, he, r2 e he, fun w2 => ⟨p.2.length - (k + 1), rvC a q (k + 1), by omega, ⟨rfl, rfl, inc_tv k, trivial⟩, k + 1, F, by omega, rfl, rfl, rfl, rfl, rfl, ?_, rfl, rfl⟩, fun w2 => ⟨ar, k, rcvL (p.1 0) (p.2.take k) X, p, en, rfl, hp', hk2, hen', r1, r2, hI', ?_, hq, fun F' hF' => ⟨p.2.length - (k + 1), rvC a q (k + 1), by omega, ⟨rfl, rfl, inc_tv k, trivial⟩, k + 1, F', by omega, rfl, rfl, rfl, rfl, rfl, ?_, rfl, rfl⟩⟩⟩
      · rw [← k1]; exact g1
      · have w2 : F q 0 ≤ lastN (cR (rcvL (p.1 0) (p.2.take k) X) e) := w2
        rw [hp'.1] at w2
        rw [hst, rcvE_skip (by rw [ee]; exact w2)]
        exact ⟨r1, r2, r3⟩
      · have w2 : ¬ F q 0 ≤ lastN (cR (rcvL (p.1 0) (p.2.take k) X) e) := w2
        rw [hp'.1] at w2
        rw [ee]
        exact w2
      · rw [hst]
        exact ⟨hF'.1, hF'.2.1, fun z hz hz2 => (hF'.2.2 z hz hz2).trans (r3 z hz hz2)⟩
abbrev fWy : PK → Bool := fun p => decide (0 < p.1 3)
abbrev fFl : PK → Bool := fun p => decide (fly p)
abbrev fKp : PK → Bool := fun p => decide (kpP p)
abbrev fNt (t : Int32) : PK → Bool := fun p => decide (¬ p.1 3 = t)
theorem arrP_way (t d : Int32) (ht : 0 < t) : ∀ (l : List PK) (X : CS), arrP t d (l.filter fun p => decide (0 < p.1 3)) X = arrP t d l X
  | [], _ => rfl
  | p :: l, X => by
    by_cases q : 0 < p.1 3
    · rw [List.filter_cons_of_pos (p := fWy) (decide_eq_true q)]
      show arrP t d _ (if p.1 3 = t then rcvP t d p X else X) = arrP t d l (if p.1 3 = t then rcvP t d p X else X)
      exact arrP_way t d ht l _
    · rw [List.filter_cons_of_neg (p := fWy) (by show ¬ decide _ = true; rw [decide_eq_false q]; decide)]
      have e : ¬ p.1 3 = t := fun w => q (by rw [w]; exact ht)
      show _ = arrP t d l (if p.1 3 = t then rcvP t d p X else X)
      rw [if_neg e]
      exact arrP_way t d ht l X
theorem arN_way (t : Int32) (ht : 0 < t) (l : List PK) : arN t (l.filter fun p => decide (0 < p.1 3)) = arN t l := by
  unfold arN
  rw [List.filter_filter]
  congr 2
  funext p
  by_cases q : p.1 3 = t
  · rw [q, decide_eq_true ht]
    simp
  · simp [q]
theorem rcvL_B (n : Int32) : ∀ (l : List EN) (X : CS), cB (rcvL n l X) = cB X
  | [], _ => rfl
  | en :: l, X => by
    show cB (rcvL n l (rcvE n X en)) = _
    rw [rcvL_B n l]
    unfold rcvE
    split
    · rfl
    · split
      · split <;> rfl
      · rfl
theorem rcvP_B (t d : Int32) (p : PK) (X : CS) : cB (rcvP t d p X) = cB X := by
  show cB (ackS t d (p.1 0) (rcvL (p.1 0) p.2 X)) = _
  unfold ackS
  split <;> exact rcvL_B _ _ _
theorem rcvP_P (t d : Int32) (p : PK) (X : CS) : cP (rcvP t d p X) = cP X := by
  show cP (ackS t d (p.1 0) (rcvL (p.1 0) p.2 X)) = _
  unfold ackS
  split <;> exact rcvL_P _ _ _
theorem arrP_BP (t d : Int32) : ∀ (l : List PK) (X : CS), cB (arrP t d l X) = cB X ∧ cP (arrP t d l X) = cP X
  | [], _ => ⟨rfl, rfl⟩
  | p :: l, X => by
    show cB (arrP t d l (if p.1 3 = t then rcvP t d p X else X)) = _ ∧ cP (arrP t d l (if p.1 3 = t then rcvP t d p X else X)) = _
    obtain ⟨a, b⟩ := arrP_BP t d l (if p.1 3 = t then rcvP t d p X else X)
    rw [a, b]
    split
    · exact ⟨rcvP_B _ _ _ _, rcvP_P _ _ _ _⟩
    · exact ⟨rfl, rfl⟩
/-- lists that show the same -/
theorem fly_arr (t : Int32) : ∀ l : List PK, ((swp (l.map (zeroA t))).filter fun p => decide (fly p)) = (l.filter fun p => decide (fly p)).map (zeroA t)
  | [] => rfl
  | p :: l => by
    have ih := fly_arr t l
    have e4 : (zeroA t p).1 4 = p.1 4 := by
      unfold zeroA
      split
      · exact upd_ne p.1 (i := 3) (k := 4) 0 (by omega)
      · rfl
    unfold swp at ih ⊢
    rw [List.map_cons]
    by_cases q : fly p
    · have q2 : fly (zeroA t p) := e4.trans q
      rw [List.filter_cons_of_pos (p := fKp) (decide_eq_true (Or.inl q2)), List.filter_cons_of_pos (p := fFl) (decide_eq_true q2), List.filter_cons_of_pos (p := fFl) (decide_eq_true q), List.map_cons, ih]
    · have q2 : ¬ fly (zeroA t p) := fun w => q (e4.symm.trans w)
      rw [List.filter_cons_of_neg (p := fFl) (a := p) (l := l) (by show ¬ decide _ = true; rw [decide_eq_false q]; decide), ← ih]
      by_cases q3 : kpP (zeroA t p)
      · rw [List.filter_cons_of_pos (p := fKp) (decide_eq_true q3), List.filter_cons_of_neg (p := fFl) (by show ¬ decide _ = true; rw [decide_eq_false q2]; decide)]
      · rw [List.filter_cons_of_neg (p := fKp) (by show ¬ decide _ = true; rw [decide_eq_false q3]; decide)]
theorem way_arr (t : Int32) (ht : 0 < t) : ∀ l : List PK, ((swp (l.map (zeroA t))).filter fun p => decide (0 < p.1 3)) = (l.filter fun p => decide (0 < p.1 3)).filter fun p => decide (¬ p.1 3 = t)
  | [] => rfl
  | p :: l => by
    have ih := way_arr t ht l
    unfold swp at ih ⊢
    rw [List.map_cons]
    by_cases q : p.1 3 = t
    · have e3 : (zeroA t p).1 3 = 0 := by
        unfold zeroA
        rw [if_pos q]
        exact upd_eq p.1 3 0
      have n3 : ¬ 0 < (zeroA t p).1 3 := by rw [e3]; decide
      rw [List.filter_cons_of_pos (p := fWy) (a := p) (l := l) (decide_eq_true (by rw [q]; exact ht)), List.filter_cons_of_neg (p := fNt t) (a := p) (by show ¬ decide _ = true; rw [decide_eq_false fun w => w q]; decide), ← ih]
      by_cases q3 : kpP (zeroA t p)
      · rw [List.filter_cons_of_pos (p := fKp) (decide_eq_true q3), List.filter_cons_of_neg (p := fWy) (by show ¬ decide _ = true; rw [decide_eq_false n3]; decide)]
      · rw [List.filter_cons_of_neg (p := fKp) (by show ¬ decide _ = true; rw [decide_eq_false q3]; decide)]
    · have e : zeroA t p = p := if_neg q
      rw [e]
      by_cases q2 : 0 < p.1 3
      · rw [List.filter_cons_of_pos (p := fKp) (a := p) (decide_eq_true (Or.inr q2)), List.filter_cons_of_pos (p := fWy) (a := p) (l := (l.map (zeroA t)).filter fKp) (decide_eq_true q2), List.filter_cons_of_pos (p := fWy) (a := p) (l := l) (decide_eq_true q2), List.filter_cons_of_pos (p := fNt t) (a := p) (decide_eq_true q), ih]
      · rw [List.filter_cons_of_neg (p := fWy) (a := p) (l := l) (by show ¬ decide _ = true; rw [decide_eq_false q2]; decide), ← ih]
        by_cases q3 : kpP p
        · rw [List.filter_cons_of_pos (p := fKp) (decide_eq_true q3), List.filter_cons_of_neg (p := fWy) (by show ¬ decide _ = true; rw [decide_eq_false q2]; decide)]
        · rw [List.filter_cons_of_neg (p := fKp) (by show ¬ decide _ = true; rw [decide_eq_false q3]; decide)]
theorem zeroA_PE (t : Int32) (p : PK) : PE false p (zeroA t p) := by
  unfold zeroA
  split
  · exact ⟨upd_ne p.1 (i := 3) (k := 0) 0 (by omega), upd_ne p.1 (i := 3) (k := 1) 0 (by omega), upd_ne p.1 (i := 3) (k := 2) 0 (by omega), fun w => absurd w (by decide), rfl⟩
  · exact ⟨rfl, rfl, rfl, fun _ => rfl, rfl⟩
theorem PL.map {ar : Bool} {F : Nat → Nat → Int32} {G : Nat → Nat → Nat} {b : Nat} {L : List PK} (h : PL ar F G b L) (f : PK → PK) (hf : ∀ p ∈ L, PE ar p (f p)) : PL ar F G b (L.map f) :=
  h.as (List.length_map _) fun j p p' hj hj' => by
    rw [List.getElem?_map, hj] at hj'
    cases hj'
    exact hf p (List.mem_of_getElem? hj)
def vpL (a k : Nat) (t d : Int32) : LC := [some (.inr (.inr (14, a))), some (.inl t), some (.inl d), some (.inl (nI k)), none]
def sp_X1_receivePackets : SPc := fun As μ K => match As with
  | [.inr (.inr (14, a)), .inl t, .inl d] => ∃ (X : CS), CC μ.1 μ.2.1 a X ∧ eOK X ∧ RI X ∧ (cA X).length + arN t (cP X) ≤ 24 ∧ 0 < t ∧ ∀ μ', CC μ'.1 μ'.2.1 a (arr1 t d X) → FRm μ μ' a (a + 161) → K (.inl none) μ'
  | _ => False
def ct_X1_receivePackets : List (Nat × CI) := [(190, ci_X1_receivePacket), (196, ci_X1_sendAck), (200, ci_X4_removeArrived)]
def ci_X1_receivePackets : CI := (yX1_receivePackets, cX1_receivePackets, 5, none, 3, (5, 0, 0, 111), 11, [], sp_X1_receivePackets)
set_option maxRecDepth 100000 in
theorem ck_X1_receivePackets : chkM ci_X1_receivePackets RX1 co_X1_receivePackets ct_X1_receivePackets [] false false = true := by decide +kernel
set_option maxHeartbeats 4000000 in
set_option maxRecDepth 100000 in
theorem ms_X1_receivePackets {g : GPT} {ot : OT} {l : Launch} (hl : l.stackTraces = false) (hot : otOK ot) : MS g ot l ci_X1_receivePackets := by
  refine ms_of hl RX1 co_X1_receivePackets ct_X1_receivePackets [] false false [2] 39 ck_X1_receivePackets (List.forall_mem_cons.mpr ⟨ms_X1_receivePacket hl hot, List.forall_mem_cons.mpr ⟨ms_X1_sendAck hl, List.forall_mem_cons.mpr ⟨ms_X4_removeArrived hl, fun _ h => nomatch h⟩⟩⟩) ?_
  intro As μ K h
  simp only [ci_X1_receivePackets, sp_X1_receivePackets] at h
  split at h
  case h_2 => exact h.elim
  rename_i a t d
  obtain ⟨X, hX, hE, hI, hA, ht, h⟩ := h
  obtain ⟨x1, x2, x3, x4, x5, x6⟩ := id hX
  have w12 := x5.2.1
  rw [← arN_way t ht] at hA
  have hA : (cA X).length + arN t (wayL X) ≤ 24 := hA
  have hEw : ∀ p ∈ wayL X, ∀ en ∈ p.2, enOK en := fun p hp => hE p (List.mem_filter.mp hp).1
  have inv : ∀ k, k ≤ (wayL X).length → RI (arrP t d ((wayL X).take k) X) ∧ (cA (arrP t d ((wayL X).take k) X)).length ≤ (cA X).length + arN t ((wayL X).take k) := fun k => by
    induction k with
    | zero => exact fun _ => ⟨hI, Nat.le_add_right _ _⟩
    | succ k ih =>
      intro hk
      obtain ⟨i1, i2⟩ := ih (by omega)
      obtain ⟨p, hp⟩ := at_of_lt (l := wayL X) (k := k) (by omega)
      rw [arrP_S t d hp, arN_S t hp]
      by_cases q : p.1 3 = t
      · rw [if_pos q, if_pos q]
        have := rcvP_A t d p (arrP t d ((wayL X).take k) X)
        exact ⟨rcvP_RI t d p _ i1 (hEw p (List.mem_of_getElem? hp)), by omega⟩
      · rw [if_neg q, if_neg q]
        exact ⟨i1, i2⟩
  refine ⟨Nat.le_of_ble_eq_true rfl, fun m pc lc st μ' ce sl => ∃ k F, k ≤ (wayL X).length ∧ m = (wayL X).length - k ∧ pc = 2 ∧ lc = vpL a k t d ∧ st = [] ∧ μ' = (F, μ.2) ∧ CSc F a (cS (arrP t d ((wayL X).take k) X)) ∧ CD F (a + 5) (cR (arrP t d ((wayL X).take k) X)) ∧ CA F (a + 157) (cA (arrP t d ((wayL X).take k) X)) ∧ (∀ z, ¬ z = a → ¬ z = a + 1 → (z < a + 5 ∨ a + 9 ≤ z) → (z < a + 157 ∨ a + 160 ≤ z) → F z = μ.1 z) ∧ ce = 0 ∧ sl = 0, ?_, ?_⟩
  · exact ⟨(wayL X).length, vpL a 0 t d, ⟨rfl, rfl, rfl, rfl, trivial⟩, 0, μ.1, Nat.zero_le _, rfl, rfl, rfl, rfl, rfl, x1, x3, x6, fun _ _ _ _ _ => rfl, rfl, rfl⟩
  · rintro m pc lc st μ' ce sl ⟨k, F, hk, rfl, rfl, rfl, rfl, rfl, r1, r3, r6, hF, rfl, rfl⟩
    have s5 : PL true F μ.2.1 (a + 83) (wayL X) := x5.keep (fun z z1 z2 => hF z (by omega) (by omega) (by omega) (by omega)) rfl
    refine ⟨fun w => ⟨wayL X, s5, fun F' G' hL hF' hG' => ?_⟩, fun w => ?_⟩
    · have w : F (a + 83) 0 ≤ nI k := w
      rw [s5.1, nI_le_iff (by omega) (by omega)] at w
      obtain rfl : k = (wayL X).length := by omega
      rw [List.take_length] at r1 r3 r6
      have ew : arrP t d (wayL X) X = arrP t d (cP X) X := arrP_way t d ht (cP X) X
      rw [ew] at r1 r3 r6
      obtain ⟨eb, ep⟩ := arrP_BP t d (cP X) X
      have hF' : ∀ z, ¬ z = a + 83 → F' z = F z := hF'
      have hG' : ∀ z, ¬ z = a + 84 → G' z = μ.2.1 z := hG'
      refine h (F', G', μ.2.2) ⟨?_, ?_, ?_, ?_, ?_, ?_⟩ ⟨fun z hz => ⟨?_, hG' z (by omega)⟩, rfl⟩
      · exact CSc.keep r1 fun z z1 z2 => hF' z (by omega)
      · show CBs F' a (cB (arrP t d (cP X) X))
        rw [eb]
        refine x2.keep fun z z1 z2 => ?_
        rw [hF' _ (by omega)]
        exact hF z (by omega) (by omega) (by omega) (by omega)
      · exact CD.keep r3 fun z z1 z2 => hF' z (by omega)
      · have e : flyL (arr1 t d X) = (flyL X).map (zeroA t) := fly_arr t (cP X)
        rw [e]
        refine PL.map (x4.keep (fun z z1 z2 => ?_) (hG' _ (by omega))) _ fun p _ => zeroA_PE t p
        show F' z = _
        rw [hF' _ (by omega)]
        exact hF z (by omega) (by omega) (by omega) (by omega)
      · have e : wayL (arr1 t d X) = (wayL X).filter fun p => decide (¬ p.1 3 = t) := way_arr t ht (cP X)
        rw [e]
        exact hL
      · exact CA.keep r6 fun z z1 z2 => hF' z (by omega)
      · show F' z = _
        rw [hF' _ (by omega)]
        exact hF z (by omega) (by omega) (by omega) (by omega)
    · have w : ¬ F (a + 83) 0 ≤ nI k := w
      rw [s5.1, nI_le_iff (by omega) (by omega)] at w
      obtain ⟨p, hp⟩ := at_of_lt (l := wayL X) (k := k) (by omega)
      have hpc := s5.2.2.2 k p hp
      have r := s5.2.2.1.rng (j := k) (by omega)
      obtain ⟨i1, i2⟩ := inv k hk
      have i3 := arN_le t (wayL X) (k + 1)
      have i4 := arN_S t hp
      refine ⟨k, rfl, by omega, by show _ < μ.2.1 (a + 83 + 1) 12; rw [s5.2.2.1.1]; omega, fun w2 => ?_, fun w2 => ⟨true, arrP t d ((wayL X).take k) X, p, hpc, hEw p (List.mem_of_getElem? hp), r1, r3, i1, by dsimp only; omega, fun F1 hF1 => ?_⟩⟩
      · have w2 : ¬ F (μ.2.1 (a + 83 + 1) k) 4 = t := w2
        rw [hpc.2.2.2.2.1 rfl] at w2
        refine ⟨(wayL X).length - (k + 1), vpL a (k + 1) t d, by omega, ⟨rfl, rfl, rfl, inc_tv k, trivial⟩, k + 1, F, by omega, rfl, rfl, rfl, rfl, rfl, ?_, ?_, ?_, hF, rfl, rfl⟩ <;> rw [arrP_S t d hp, if_neg w2]
        · exact r1
        · exact r3
        · exact r6
      · have w2 : ¬ ¬ F (μ.2.1 (a + 83 + 1) k) 4 = t := w2
        rw [hpc.2.2.2.2.1 rfl, Classical.not_not] at w2
        rw [if_pos w2] at i4
        obtain ⟨q1, q2, q3⟩ := hF1
        have n0 : F1 (μ.2.1 (a + 83 + 1) k) 0 = p.1 0 := by
          rw [q3 _ (by omega) (by omega)]
          exact hpc.1
        refine ⟨rcvL (p.1 0) p.2 (arrP t d ((wayL X).take k) X), t, d, rfl, q1, ?_, ?_, fun F2 hF2 hF2a hF2o => ?_⟩
        · rw [rcvL_A]
          exact r6.keep fun z z1 z2 => q3 z (by omega) (by omega)
        · rw [rcvL_A]
          omega
        · have hF2o : ∀ z, ¬ z = a → ¬ z = a + 1 → (z < a + 157 ∨ a + 160 ≤ z) → F2 z = F1 z := hF2o
          have e : rcvP t d p (arrP t d ((wayL X).take k) X) = ackS t d (F1 (μ.2.1 (a + 83 + 1) k) 0) (rcvL (p.1 0) p.2 (arrP t d ((wayL X).take k) X)) := by
            rw [n0]
            rfl
          refine ⟨(wayL X).length - (k + 1), vpL a (k + 1) t d, by omega, ⟨rfl, rfl, rfl, inc_tv k, trivial⟩, k + 1, F2, by omega, rfl, rfl, rfl, rfl, rfl, ?_, ?_, ?_, fun z h1 h2 h3 h4 => ?_, rfl, rfl⟩
          · rw [arrP_S t d hp, if_pos w2, e]
            exact hF2
          · rw [arrP_S t d hp, if_pos w2, e]
            have e2 : ∀ n Y, cR (ackS t d n Y) = cR Y := fun n Y => by unfold ackS; split <;> rfl
            rw [e2]
            exact q2.keep fun z z1 z2 => hF2o z (by omega) (by omega) (by omega)
          · rw [arrP_S t d hp, if_pos w2, e]
            exact hF2a
          · rw [hF2o z h1 h2 h4, q3 z h2 h3]
            exact hF z h1 h2 h3 h4
