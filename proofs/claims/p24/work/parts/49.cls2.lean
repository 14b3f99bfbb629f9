/-! THE CLASS, its entities. They lie at n (kind 8): states n + 1, velocities n + 2, n + 3. -/
def CE (F : Nat → Nat → Int32) (n : Nat) (E : Nat → Nat → Int32) : Prop := ∀ e, e < 16 → F (n + 1) e = E e 0 ∧ F (n + 2) e = E e 1 ∧ F (n + 3) e = E e 2
theorem CE.keep {F F' : Nat → Nat → Int32} {n : Nat} {E : Nat → Nat → Int32} (h : CE F n E) (hF : ∀ b, n ≤ b → b < n + 4 → F' b = F b) : CE F' n E := fun e he => by
  rw [hF _ (by omega) (by omega), hF _ (by omega) (by omega), hF _ (by omega) (by omega)]
  exact h e he
theorem u2_ne {α : Type} (F : Nat → Nat → α) {a b j : Nat} (x : α) (h : ¬ b = a) : up2 F a j x b = F b := by
  funext k
  unfold up2
  rw [if_neg fun q => h q.1]
theorem u2_eq {α : Type} (F : Nat → Nat → α) (a j : Nat) (x : α) : up2 F a j x a j = x := by
  unfold up2
  rw [if_pos ⟨rfl, rfl⟩]
theorem u2_nj {α : Type} (F : Nat → Nat → α) {a j k : Nat} (x : α) (h : ¬ k = j) : up2 F a j x a k = F a k := by
  unfold up2
  rw [if_neg fun q => h q.2]
theorem cpR_off {f : Nat → Nat → Int32} {a0 sp a dp n b : Nat} (h : ¬ b = a) : cpR f a0 sp a dp n b = f b := by
  funext k
  unfold cpR
  rw [if_neg fun q => h q.1]
theorem cpR_in {f : Nat → Nat → Int32} {a0 sp a dp n k : Nat} (h : dp ≤ k ∧ k < dp + n) : cpR f a0 sp a dp n a k = f a0 (sp + (k - dp)) := by
  unfold cpR
  rw [if_pos ⟨rfl, h⟩]
theorem cpR_out {f : Nat → Nat → Int32} {a0 sp a dp n k : Nat} (h : ¬ (dp ≤ k ∧ k < dp + n)) : cpR f a0 sp a dp n a k = f a k := by
  unfold cpR
  rw [if_neg fun q => h q.2]
theorem cpR_0 {f : Nat → Nat → Int32} {a0 a n k : Nat} (h : k < n) : cpR f a0 0 a 0 n a k = f a0 k := by
  rw [cpR_in (by omega)]
  congr 1
  omega
def sp_X2_exists : SPc := fun As μ K => match As with
  | [.inr (.inr (8, n)), .inl e] => ∃ j : Nat, e = nI j ∧ j < 16 ∧ K (.inl (some (.inl (iB (¬ μ.1 (n + 1) j = -1))))) μ
  | _ => False
def ct_X2_exists : List (Nat × CI) := []
def ci_X2_exists : CI := (yX2_exists, cX2_exists, 2, some .boolean, 2, (0, 0, 0, 0), 12, [], sp_X2_exists)
set_option maxRecDepth 100000 in
theorem ck_X2_exists : chkM ci_X2_exists RX2 co_X2_exists ct_X2_exists [] true false = true := by decide +kernel
set_option maxHeartbeats 4000000 in
set_option maxRecDepth 100000 in
theorem ms_X2_exists {g : GPT} {ot : OT} {l : Launch} (hl : l.stackTraces = false) : MS g ot l ci_X2_exists := by
  refine ms0_of hl RX2 co_X2_exists ct_X2_exists [] true false 15 ck_X2_exists (fun _ h => nomatch h) ?_
  intro As μ K h
  simp only [ci_X2_exists, sp_X2_exists] at h
  split at h
  case h_2 => exact h.elim
  rename_i n e
  obtain ⟨j, rfl, hj, h⟩ := h
  refine ⟨Nat.le_of_ble_eq_true rfl, j, rfl, hj, fun h1 => ?_, fun h1 => ?_⟩
  · have h1 : μ.1 (n + 1) j = -1 := h1
    rw [iB_0 (fun q => q h1)] at h
    exact ⟨Or.inl rfl, h⟩
  · have h1 : ¬ μ.1 (n + 1) j = -1 := h1
    rw [iB_1 h1] at h
    exact ⟨Or.inr rfl, h⟩
def sp_X2_put : SPc := fun As μ K => match As with
  | [.inr (.inr (8, n)), .inl e, .inl s] => ∃ j : Nat, e = nI j ∧ j < 16 ∧ K (.inl (some (.inl (iB (¬ μ.1 (n + 1) j = -1))))) (up2 μ.1 (n + 1) j s, μ.2)
  | _ => False
def ct_X2_put : List (Nat × CI) := [(27, ci_X2_exists)]
def ci_X2_put : CI := (yX2_put, cX2_put, 4, some .boolean, 3, (1, 0, 0, 21), 12, [], sp_X2_put)
set_option maxRecDepth 100000 in
theorem ck_X2_put : chkM ci_X2_put RX2 co_X2_put ct_X2_put [] true false = true := by decide +kernel
set_option maxHeartbeats 4000000 in
set_option maxRecDepth 100000 in
theorem ms_X2_put {g : GPT} {ot : OT} {l : Launch} (hl : l.stackTraces = false) : MS g ot l ci_X2_put := by
  refine ms0_of hl RX2 co_X2_put ct_X2_put [] true false 16 ck_X2_put (List.forall_mem_cons.mpr ⟨ms_X2_exists hl, fun _ h => nomatch h⟩) ?_
  intro As μ K h
  simp only [ci_X2_put, sp_X2_put] at h
  split at h
  case h_2 => exact h.elim
  rename_i n e s
  obtain ⟨j, rfl, hj, h⟩ := h
  exact ⟨Nat.le_of_ble_eq_true rfl, j, rfl, hj, j, rfl, hj, iB_01 _, h⟩
def sp_X2_changeVelocity : SPc := fun As μ K => match As with
  | [.inr (.inr (8, n)), .inl e, .inl x, .inl y] => ∃ j : Nat, e = nI j ∧ j < 16 ∧ K (.inl (some (.inl (10 * (μ.1 (n + 2) j + 3) + (μ.1 (n + 3) j + 3))))) (up2 (up2 μ.1 (n + 2) j x) (n + 3) j y, μ.2)
  | _ => False
def ct_X2_changeVelocity : List (Nat × CI) := []
def ci_X2_changeVelocity : CI := (yX2_changeVelocity, cX2_changeVelocity, 5, some .int, 4, (0, 0, 0, 0), 12, [], sp_X2_changeVelocity)
set_option maxRecDepth 100000 in
theorem ck_X2_changeVelocity : chkM ci_X2_changeVelocity RX2 co_X2_changeVelocity ct_X2_changeVelocity [] false false = true := by decide +kernel
set_option maxHeartbeats 4000000 in
set_option maxRecDepth 100000 in
theorem ms_X2_changeVelocity {g : GPT} {ot : OT} {l : Launch} (hl : l.stackTraces = false) : MS g ot l ci_X2_changeVelocity := by
  refine ms0_of hl RX2 co_X2_changeVelocity ct_X2_changeVelocity [] false false 33 ck_X2_changeVelocity (fun _ h => nomatch h) ?_
  intro As μ K h
  simp only [ci_X2_changeVelocity, sp_X2_changeVelocity] at h
  split at h
  case h_2 => exact h.elim
  rename_i n e x y
  obtain ⟨j, rfl, hj, h⟩ := h
  exact ⟨Nat.le_of_ble_eq_true rfl, j, rfl, hj, j, rfl, hj, j, rfl, hj, j, rfl, hj, h⟩
def sp_X2_changeHealth : SPc := fun As μ K => match As with
  | [.inr (.inr (8, n)), .inl e, .inl x] => ∃ j m k : Nat, e = nI j ∧ j < 16 ∧ μ.1 (n + 1) j = nI m ∧ m < 524288 ∧ x = nI k ∧ k < 128 ∧ K (.inl (some (.inl (nI (prt m 3))))) (up2 μ.1 (n + 1) j (nI (pkN (prt m 0) (prt m 1) (prt m 2) k)), μ.2)
  | _ => False
def ct_X2_changeHealth : List (Nat × CI) := [(33, ci_X6_part), (37, ci_X6_of)]
def ci_X2_changeHealth : CI := (yX2_changeHealth, cX2_changeHealth, 4, some .int, 3, (1, 0, 0, 23), 12, [], sp_X2_changeHealth)
set_option maxRecDepth 100000 in
theorem ck_X2_changeHealth : chkM ci_X2_changeHealth RX2 co_X2_changeHealth ct_X2_changeHealth [] false false = true := by decide +kernel
set_option maxHeartbeats 4000000 in
set_option maxRecDepth 100000 in
theorem ms_X2_changeHealth {g : GPT} {ot : OT} {l : Launch} (hl : l.stackTraces = false) (hot : otOK ot) : MS g ot l ci_X2_changeHealth := by
  refine ms0_of hl RX2 co_X2_changeHealth ct_X2_changeHealth [] false false 29 ck_X2_changeHealth (List.forall_mem_cons.mpr ⟨ms_X6_part hl hot, List.forall_mem_cons.mpr ⟨ms_X6_of hl hot, fun _ h => nomatch h⟩⟩) ?_
  intro As μ K h
  simp only [ci_X2_changeHealth, sp_X2_changeHealth] at h
  split at h
  case h_2 => exact h.elim
  rename_i n e x
  obtain ⟨j, m, k, rfl, hj, hm, hm2, rfl, hk, h⟩ := h
  have s1 : sOK (μ.1 (n + 1) j) := by rw [hm]; exact sOK_nI hm2
  have z : ∀ w, pz (μ.1 (n + 1) j) w = prt m w := fun w => by rw [hm]; exact pz_nI hm2 w
  rw [← z 0, ← z 1, ← z 2, ← z 3] at h
  refine ⟨Nat.le_of_ble_eq_true rfl, j, rfl, hj, 0, rfl, by omega, s1, 1, rfl, by omega, s1, 2, rfl, by omega, s1, _, _, _, k, rfl, rfl, rfl, rfl, ?_, ?_, ?_, hk, j, rfl, hj, 3, rfl, by omega, s1, h⟩
  · rw [z]; exact prt01 m 0 (by omega)
  · rw [z]; exact prt01 m 1 (by omega)
  · rw [z]; exact prt2_lt m
/-- how many exist -/
def exiN (S : Nat → Int32) : Nat := cntN (fun e => ¬ S e = -1) (fun _ => inferInstance) 16
def rmL (n c i : Nat) : LC := [some (.inr (.inr (8, n))), none, some (.inl (nI c)), some (.inl (nI i))]
def sp_X2_remove : SPc := fun As μ K => match As with
  | [.inr (.inr (8, n)), .inl e] => ∃ j : Nat, e = nI j ∧ j < 16 ∧ K (.inl (some (.inl (nI (exiN (upd (μ.1 (n + 1)) j (-1))))))) (up2 (up2 (up2 μ.1 (n + 1) j (-1)) (n + 2) j 0) (n + 3) j 0, μ.2)
  | _ => False
def ct_X2_remove : List (Nat × CI) := [(27, ci_X2_exists)]
def ci_X2_remove : CI := (yX2_remove, cX2_remove, 4, some .int, 2, (1, 0, 0, 21), 12, [], sp_X2_remove)
set_option maxRecDepth 100000 in
theorem ck_X2_remove : chkM ci_X2_remove RX2 co_X2_remove ct_X2_remove [] false false = true := by decide +kernel
set_option maxHeartbeats 4000000 in
set_option maxRecDepth 100000 in
theorem ms_X2_remove {g : GPT} {ot : OT} {l : Launch} (hl : l.stackTraces = false) : MS g ot l ci_X2_remove := by
  refine ms_of hl RX2 co_X2_remove ct_X2_remove [] false false [25] 41 ck_X2_remove (List.forall_mem_cons.mpr ⟨ms_X2_exists hl, fun _ h => nomatch h⟩) ?_
  intro As μ K h
  simp only [ci_X2_remove, sp_X2_remove] at h
  split at h
  case h_2 => exact h.elim
  rename_i n e
  obtain ⟨j, rfl, hj, h⟩ := h
  have e1 : (up2 (up2 (up2 μ.1 (n + 1) j (-1)) (n + 2) j 0) (n + 3) j 0) (n + 1) = upd (μ.1 (n + 1)) j (-1) := by
    rw [u2_ne _ _ (by omega), u2_ne _ _ (by omega)]
    funext k
    rw [up2_at]
  generalize hS : upd (μ.1 (n + 1)) j (-1) = S at *
  generalize hF : up2 (up2 (up2 μ.1 (n + 1) j (-1)) (n + 2) j 0) (n + 3) j 0 = F at *
  refine ⟨Nat.le_of_ble_eq_true rfl, fun m pc lc st μ' ce sl => ∃ k, k ≤ 16 ∧ m = 16 - k ∧ pc = 25 ∧ lc = rmL n (cntN (fun e => ¬ S e = -1) (fun _ => inferInstance) k) k ∧ st = [] ∧ μ' = (F, μ.2) ∧ ce = 0 ∧ sl = 0, ?_, ?_⟩
  · exact ⟨j, rfl, hj, j, rfl, hj, j, rfl, hj, 16, rmL n 0 0, ⟨rfl, rfl, rfl, trivial⟩, 0, Nat.zero_le _, rfl, rfl, rfl, rfl, by rw [← hF]; rfl, rfl, rfl⟩
  · rintro m pc lc st μ' ce sl ⟨k, hk, rfl, rfl, rfl, rfl, rfl, rfl, rfl⟩
    refine ⟨fun h1 => ?_, fun h1 => ?_⟩
    · simp only [icP, ifP, iL, iM1] at h1
      try simp only [z_nI] at h1
      try simp only [nI_add, nI_mul] at h1
      first | rw [nI_le_iff (by omega) (by omega)] at h1 | rw [nI_lt_iff (by omega) (by omega)] at h1 | rw [nI_eq_iff (by omega) (by omega)] at h1
      obtain rfl : k = 16 := by omega
      exact h
    · simp only [icP, ifP, iL, iM1] at h1
      try simp only [z_nI] at h1
      try simp only [nI_add, nI_mul] at h1
      first | rw [nI_le_iff (by omega) (by omega)] at h1 | rw [nI_lt_iff (by omega) (by omega)] at h1 | rw [nI_eq_iff (by omega) (by omega)] at h1
      have fin : ∀ x : Int32, x = iB (¬ S k = -1) → (some (.inl (nI (cntN (fun e => ¬ S e = -1) (fun _ => inferInstance) k) + x)) : Option TV) = some (.inl (nI (cntN (fun e => ¬ S e = -1) (fun _ => inferInstance) (k + 1)))) := fun x hx => by
        rw [hx, cntN_step (fun e => ¬ S e = -1) (fun _ => inferInstance) k]
      refine ⟨k, rfl, by omega, fun h2 => ⟨16 - (k + 1), rmL n _ (k + 1), by omega, ⟨rfl, fin 0 ?_, inc_tv k, trivial⟩, k + 1, by omega, rfl, rfl, rfl, rfl, rfl, rfl, rfl⟩, fun h2 => ⟨16 - (k + 1), rmL n _ (k + 1), by omega, ⟨rfl, fin 1 ?_, inc_tv k, trivial⟩, k + 1, by omega, rfl, rfl, rfl, rfl, rfl, rfl, rfl⟩⟩
      · have h2 : iB (¬ F (n + 1) k = -1) = 0 := h2
        rw [e1] at h2
        exact h2.symm
      · have h2 : ¬ iB (¬ F (n + 1) k = -1) = 0 := h2
        rw [e1, iB_ne0] at h2
        exact (iB_1 h2).symm
def sp_X2_value : SPc := fun As μ K => match As with
  | [.inr (.inr (8, n)), .inl e, .inl w'] => ∃ (j w : Nat) (E : Nat → Nat → Int32), e = nI j ∧ w' = nI w ∧ j < 16 ∧ w < 7 ∧ CE μ.1 n E ∧ sOK (E j 0) ∧ K (.inl (some (.inl (enV E j w)))) μ
  | _ => False
theorem enV_d (E : Nat → Nat → Int32) (e : Nat) {w : Nat} (h0 : ¬ w = 0) (h7 : w < 5) : enV E e w = nI (pz (E e 0) (w - 1)) := by
  unfold enV
  rw [if_neg h0, if_pos h7]
def ct_X2_value : List (Nat × CI) := [(27, ci_X2_exists), (33, ci_X6_part)]
def ci_X2_value : CI := (yX2_value, cX2_value, 3, some .int, 3, (1, 0, 0, 21), 12, [], sp_X2_value)
set_option maxRecDepth 100000 in
theorem ck_X2_value : chkM ci_X2_value RX2 co_X2_value ct_X2_value [] false false = true := by decide +kernel
set_option maxHeartbeats 4000000 in
set_option maxRecDepth 100000 in
theorem ms_X2_value {g : GPT} {ot : OT} {l : Launch} (hl : l.stackTraces = false) (hot : otOK ot) : MS g ot l ci_X2_value := by
  refine ms0_of hl RX2 co_X2_value ct_X2_value [] false false 34 ck_X2_value (List.forall_mem_cons.mpr ⟨ms_X2_exists hl, List.forall_mem_cons.mpr ⟨ms_X6_part hl hot, fun _ h => nomatch h⟩⟩) ?_
  intro As μ K h
  simp only [ci_X2_value, sp_X2_value] at h
  split at h
  case h_2 => exact h.elim
  rename_i n e w'
  obtain ⟨j, w, E, rfl, rfl, hj, hw, hE, hs, h⟩ := h
  obtain ⟨e0, e1, e2⟩ := hE j hj
  refine ⟨Nat.le_of_ble_eq_true rfl, fun q => ⟨j, rfl, hj, fun h1 => ?_, fun h1 => ?_⟩, fun q => ⟨fun q2 => ?_, fun q2 => ⟨fun q3 => ?_, fun q3 => ?_⟩⟩⟩
  · have q := swEq (by omega) q
    obtain rfl : w = 0 := by omega
    have h1 : iB (¬ μ.1 (n + 1) j = -1) = 0 := h1
    rw [e0] at h1
    have e : enV E j 0 = 0 := h1
    rw [e] at h
    exact h
  · have q := swEq (by omega) q
    obtain rfl : w = 0 := by omega
    have h1 : ¬ iB (¬ μ.1 (n + 1) j = -1) = 0 := h1
    rw [e0, iB_ne0] at h1
    have e : enV E j 0 = 1 := iB_1 h1
    rw [e] at h
    exact h
  · have q := swEq (by omega) q2
    obtain rfl : w = 5 := by omega
    refine ⟨j, rfl, hj, ?_⟩
    have e : enV E j 5 = μ.1 (n + 2) j := e1.symm
    rw [e] at h
    exact h
  · have q := swEq (by omega) q3
    obtain rfl : w = 6 := by omega
    refine ⟨j, rfl, hj, ?_⟩
    have e : enV E j 6 = μ.1 (n + 3) j := e2.symm
    rw [e] at h
    exact h
  · have q := swNe (by omega) q
    have q2 := swNe (by omega) q2
    have q3 := swNe (by omega) q3
    rw [enV_d E j (by omega) (by omega), ← e0] at h
    exact ⟨j, rfl, hj, w - 1, nI_sub1 (b := 1) (by omega), by omega, by rw [e0]; exact hs, h⟩
def sp_X2_isOutside : SPc := fun As μ K => match As with
  | [.inl v] => K (.inl (some (.inl (iB (¬ (0 ≤ v ∧ v ≤ 31)))))) μ
  | _ => False
def ct_X2_isOutside : List (Nat × CI) := []
def ci_X2_isOutside : CI := (yX2_isOutside, cX2_isOutside, 1, some .boolean, 1, (0, 0, 0, 0), 0, [], sp_X2_isOutside)
set_option maxRecDepth 100000 in
theorem ck_X2_isOutside : chkM ci_X2_isOutside RX2 co_X2_isOutside ct_X2_isOutside [] true false = true := by decide +kernel
set_option maxHeartbeats 4000000 in
set_option maxRecDepth 100000 in
theorem ms_X2_isOutside {g : GPT} {ot : OT} {l : Launch} (hl : l.stackTraces = false) : MS g ot l ci_X2_isOutside := by
  refine ms0_of hl RX2 co_X2_isOutside ct_X2_isOutside [] true false 14 ck_X2_isOutside (fun _ h => nomatch h) ?_
  intro As μ K h
  simp only [ci_X2_isOutside, sp_X2_isOutside] at h
  split at h
  case h_2 => exact h.elim
  rename_i v
  refine ⟨Nat.le_of_ble_eq_true rfl, fun h1 => ?_, fun h1 => ⟨fun h2 => ?_, fun h2 => ?_⟩⟩
  · have h1 : v < 0 := h1
    rw [iB_1 (p := ¬ (0 ≤ v ∧ v ≤ 31)) fun q => Int32.not_le.mpr h1 q.1] at h
    exact ⟨Or.inr rfl, h⟩
  · have h1 : ¬ v < 0 := h1
    have h2 : v ≤ 31 := h2
    rw [iB_0 fun q => q ⟨Int32.not_lt.mp h1, h2⟩] at h
    exact ⟨Or.inl rfl, h⟩
  · have h2 : ¬ v ≤ 31 := h2
    rw [iB_1 (p := ¬ (0 ≤ v ∧ v ≤ 31)) fun q => h2 q.2] at h
    exact ⟨Or.inr rfl, h⟩
def sp_X2_reflected : SPc := fun As μ K => match As with
  | [.inl v] => K (.inl (some (.inl (if v < 0 then -v else 62 - v)))) μ
  | _ => False
def ct_X2_reflected : List (Nat × CI) := []
def ci_X2_reflected : CI := (yX2_reflected, cX2_reflected, 1, some .int, 1, (0, 0, 0, 0), 0, [], sp_X2_reflected)
set_option maxRecDepth 100000 in
theorem ck_X2_reflected : chkM ci_X2_reflected RX2 co_X2_reflected ct_X2_reflected [] false false = true := by decide +kernel
set_option maxHeartbeats 4000000 in
set_option maxRecDepth 100000 in
theorem ms_X2_reflected {g : GPT} {ot : OT} {l : Launch} (hl : l.stackTraces = false) : MS g ot l ci_X2_reflected := by
  refine ms0_of hl RX2 co_X2_reflected ct_X2_reflected [] false false 14 ck_X2_reflected (fun _ h => nomatch h) ?_
  intro As μ K h
  simp only [ci_X2_reflected, sp_X2_reflected] at h
  split at h
  case h_2 => exact h.elim
  rename_i v
  refine ⟨Nat.le_of_ble_eq_true rfl, fun h1 => ?_, fun h1 => ?_⟩
  · have h1 : 0 ≤ v := h1
    rw [if_neg (Int32.not_lt.mpr h1)] at h
    exact h
  · have h1 : ¬ 0 ≤ v := h1
    rw [if_pos (Int32.not_le.mp h1)] at h
    exact h
theorem mvI_out {v : Int32} (h : ¬ (0 ≤ v ∧ v ≤ 31)) : (if v < 0 then -v else 62 - v) = mvI v := by
  unfold mvI
  by_cases q : v < 0
  · rw [if_pos q, if_pos q]
  · rw [if_neg q, if_neg q, if_pos (Int32.not_le.mp fun w => h ⟨Int32.not_lt.mp q, w⟩)]
theorem mvI_in {v : Int32} (h : 0 ≤ v ∧ v ≤ 31) : v = mvI v := by
  unfold mvI
  rw [if_neg (Int32.not_lt.mpr h.1), if_neg (Int32.not_lt.mpr h.2)]
theorem mvS_pk {n : Nat} {V U : Int32} (hV : vOK V) (hU : vOK U) : mvS (mvS n 0 V) 1 U = pkN (mvP (prt n 0) V) (mvP (prt n 1) U) (prt n 2) (prt n 3) ∧ prt (mvS n 0 V) 1 = prt n 1 := by
  have a := (mv_ok (prt01 n 0 (by omega)) hV).2.1
  have e1 : mvS n 0 V = n - prt n 0 + mvP (prt n 0) V := if_pos rfl
  have e0 : prt n 0 = n % 32 := rfl
  have p1 : prt n 1 = n / 32 % 32 := rfl
  have e2 : prt (mvS n 0 V) 1 = prt n 1 := by
    show mvS n 0 V / 32 % 32 = n / 32 % 32
    rw [e1]
    omega
  refine ⟨?_, e2⟩
  have e3 : mvS (mvS n 0 V) 1 U = mvS n 0 V - 32 * prt (mvS n 0 V) 1 + 32 * mvP (prt (mvS n 0 V) 1) U := if_neg (by omega)
  rw [e3, e2, e1]
  unfold pkN
  have p2 : prt n 2 = n / 1024 % 4 := rfl
  have p3 : prt n 3 = n / 4096 := rfl
  omega
def mcL (n j : Nat) (s x y : Int32) : LC := [some (.inr (.inr (8, n))), some (.inl (nI j)), some (.inl s), some (.inl x), some (.inl y)]
def sp_X2_moveOne : SPc := fun As μ K => match As with
  | [.inr (.inr (8, n)), .inl e] => ∃ (j : Nat) (E : Nat → Nat → Int32), e = nI j ∧ j < 16 ∧ ¬ E j 0 = -1 ∧ sOK (E j 0) ∧ vOK (E j 1) ∧ vOK (E j 2) ∧ μ.1 (n + 1) j = E j 0 ∧ μ.1 (n + 2) j = E j 1 ∧ μ.1 (n + 3) j = E j 2 ∧ K (.inl none) (up2 (up2 (up2 μ.1 (n + 2) j (mvE E j 1)) (n + 3) j (mvE E j 2)) (n + 1) j (mvE E j 0), μ.2)
  | _ => False
theorem up2_self {α : Type} (F : Nat → Nat → α) (a j : Nat) : up2 F a j (F a j) = F := by
  funext b k
  unfold up2
  by_cases q : b = a ∧ k = j
  · rw [if_pos q, q.1, q.2]
  · rw [if_neg q]
def ct_X2_moveOne : List (Nat × CI) := [(33, ci_X6_part), (45, ci_X2_isOutside), (48, ci_X2_reflected), (37, ci_X6_of)]
def ci_X2_moveOne : CI := (yX2_moveOne, cX2_moveOne, 5, none, 2, (1, 0, 0, 23), 12, [], sp_X2_moveOne)
set_option maxRecDepth 100000 in
theorem ck_X2_moveOne : chkM ci_X2_moveOne RX2 co_X2_moveOne ct_X2_moveOne [] false false = true := by decide +kernel
set_option maxHeartbeats 4000000 in
set_option maxRecDepth 100000 in
theorem ms_X2_moveOne {g : GPT} {ot : OT} {l : Launch} (hl : l.stackTraces = false) (hot : otOK ot) : MS g ot l ci_X2_moveOne := by
  refine ms_of hl RX2 co_X2_moveOne ct_X2_moveOne [] false false [59,87] 72 ck_X2_moveOne (List.forall_mem_cons.mpr ⟨ms_X6_part hl hot, List.forall_mem_cons.mpr ⟨ms_X2_isOutside hl, List.forall_mem_cons.mpr ⟨ms_X2_reflected hl, List.forall_mem_cons.mpr ⟨ms_X6_of hl hot, fun _ h => nomatch h⟩⟩⟩⟩) ?_
  intro As μ K h
  simp only [ci_X2_moveOne, sp_X2_moveOne] at h
  split at h
  case h_2 => exact h.elim
  rename_i n e
  obtain ⟨j, E, rfl, hj, hs, s1, v1, v2, e0, e1, e2, h⟩ := h
  obtain ⟨m, m1, m2, m3⟩ := sOK_ne s1 hs
  have z : ∀ w, pz (E j 0) w = prt m w := fun w => by rw [m2]; exact pz_nI m1 w
  obtain ⟨a1, a2, a3⟩ := mv_ok (prt01 m 0 (by omega)) v1
  obtain ⟨b1, b2, b3⟩ := mv_ok (prt01 m 1 (by omega)) v2
  obtain ⟨k1, k2⟩ := mvS_pk (n := m) v1 v2
  have E0 : mvE E j 0 = nI (pkN (mvP (prt m 0) (E j 1)) (mvP (prt m 1) (E j 2)) (prt m 2) (prt m 3)) := by
    have : mvE E j 0 = nI (mvS (mvS (sN (E j 0)) 0 (E j 1)) 1 (E j 2)) := if_neg hs
    rw [this, m3, k1]
  have E1 : mvE E j 1 = mvW (prt m 0) (E j 1) := by
    have : mvE E j 1 = mvW (prt (sN (E j 0)) 0) (E j 1) := if_neg hs
    rw [this, m3]
  have E2 : mvE E j 2 = mvW (prt m 1) (E j 2) := by
    have : mvE E j 2 = mvW (prt (mvS (sN (E j 0)) 0 (E j 1)) 1) (E j 2) := if_neg hs
    rw [this, m3, k2]
  refine ⟨Nat.le_of_ble_eq_true rfl, fun m' pc lc st μ' ce sl => (m' = 2 ∧ pc = 59 ∧ lc = mcL n j (E j 0) (mvI (nI (prt m 0) + E j 1)) (nI (prt m 1) + E j 2) ∧ st = [] ∧ μ' = (up2 μ.1 (n + 2) j (mvE E j 1), μ.2) ∧ ce = 0 ∧ sl = 0) ∨ (m' = 1 ∧ pc = 87 ∧ lc = mcL n j (E j 0) (mvI (nI (prt m 0) + E j 1)) (mvI (nI (prt m 1) + E j 2)) ∧ st = [] ∧ μ' = (up2 (up2 μ.1 (n + 2) j (mvE E j 1)) (n + 3) j (mvE E j 2), μ.2) ∧ ce = 0 ∧ sl = 0), ?_, ?_⟩
  · have s1' : sOK (μ.1 (n + 1) j) := by rw [e0]; exact s1
    refine ⟨j, rfl, hj, 0, rfl, by omega, s1', j, rfl, hj, 1, rfl, by omega, s1', j, rfl, hj, fun h1 => ?_, fun h1 => ⟨j, rfl, hj, j, rfl, hj, ?_⟩⟩
    · have h1 : iB (¬ (0 ≤ nI (pz (μ.1 (n + 1) j) 0) + μ.1 (n + 2) j ∧ nI (pz (μ.1 (n + 1) j) 0) + μ.1 (n + 2) j ≤ 31)) = 0 := h1
      rw [iB_eq0, e0, e1, z, Classical.not_not] at h1
      refine ⟨2, mcL n j (E j 0) (mvI (nI (prt m 0) + E j 1)) (nI (prt m 1) + E j 2), ⟨rfl, rfl, ?_, ?_, ?_, trivial⟩, Or.inl ⟨rfl, rfl, rfl, rfl, ?_, rfl, rfl⟩⟩
      · rw [e0]
      · rw [e0, e1, z, ← mvI_in h1]
      · rw [e0, e2, z]
      · have w1 : mvE E j 1 = μ.1 (n + 2) j := by
          rw [E1, e1]
          exact if_pos h1
        rw [w1, up2_self]
    · have h1 : ¬ iB (¬ (0 ≤ nI (pz (μ.1 (n + 1) j) 0) + μ.1 (n + 2) j ∧ nI (pz (μ.1 (n + 1) j) 0) + μ.1 (n + 2) j ≤ 31)) = 0 := h1
      rw [iB_ne0, e0, e1, z] at h1
      refine ⟨2, mcL n j (E j 0) (mvI (nI (prt m 0) + E j 1)) (nI (prt m 1) + E j 2), ⟨rfl, rfl, ?_, ?_, ?_, trivial⟩, Or.inl ⟨rfl, rfl, rfl, rfl, ?_, rfl, rfl⟩⟩
      · rw [e0]
      · rw [e0, e1, z, mvI_out h1]
      · rw [e0, e2, z]
      · have w1 : mvE E j 1 = -μ.1 (n + 2) j := by
          rw [E1, e1]
          exact if_neg h1
        rw [w1]
  · rintro m' pc lc st μ' ce sl (⟨rfl, rfl, rfl, rfl, rfl, rfl, rfl⟩ | ⟨rfl, rfl, rfl, rfl, rfl, rfl, rfl⟩)
    · have r3 : (up2 μ.1 (n + 2) j (mvE E j 1)) (n + 3) j = E j 2 := by rw [u2_ne _ _ (by omega)]; exact e2
      refine ⟨fun h1 => ?_, fun h1 => ⟨j, rfl, hj, j, rfl, hj, ?_⟩⟩
      · have h1 : iB (¬ (0 ≤ nI (prt m 1) + E j 2 ∧ nI (prt m 1) + E j 2 ≤ 31)) = 0 := h1
        rw [iB_eq0, Classical.not_not] at h1
        refine ⟨1, mcL n j (E j 0) (mvI (nI (prt m 0) + E j 1)) (mvI (nI (prt m 1) + E j 2)), by omega, ⟨rfl, rfl, rfl, rfl, ?_, trivial⟩, Or.inr ⟨rfl, rfl, rfl, rfl, ?_, rfl, rfl⟩⟩
        · rw [← mvI_in h1]
        · have w1 : mvE E j 2 = (up2 μ.1 (n + 2) j (mvE E j 1)) (n + 3) j := by
            rw [E2, r3]
            exact if_pos h1
          rw [w1, up2_self]
      · have h1 : ¬ iB (¬ (0 ≤ nI (prt m 1) + E j 2 ∧ nI (prt m 1) + E j 2 ≤ 31)) = 0 := h1
        rw [iB_ne0] at h1
        refine ⟨1, mcL n j (E j 0) (mvI (nI (prt m 0) + E j 1)) (mvI (nI (prt m 1) + E j 2)), by omega, ⟨rfl, rfl, rfl, rfl, ?_, trivial⟩, Or.inr ⟨rfl, rfl, rfl, rfl, ?_, rfl, rfl⟩⟩
        · rw [mvI_out h1]
        · show ((up2 (up2 μ.1 (n + 2) j (mvE E j 1)) (n + 3) j (-(up2 μ.1 (n + 2) j (mvE E j 1)) (n + 3) j), μ.2) : MM) = _
          have w1 : mvE E j 2 = -E j 2 := by
            rw [E2]
            exact if_neg h1
          rw [r3, w1]
    · rw [E0, ← z 2, ← z 3] at h
      refine ⟨2, rfl, by omega, s1, 3, rfl, by omega, s1, _, _, _, _, a1, b1, rfl, rfl, a2, b2, ?_, ?_, j, rfl, hj, ?_⟩
      · rw [z]; exact prt2_lt m
      · rw [z]; exact prt_lt m1 3
      · rw [z] at h ⊢
        exact h
def mvU (E : Nat → Nat → Int32) (k e : Nat) : Nat → Int32 := if e < k then mvE E e else E e
theorem mvU_lt (E : Nat → Nat → Int32) {k e : Nat} (h : e < k) : mvU E k e = mvE E e := if_pos h
theorem mvU_ge (E : Nat → Nat → Int32) {k e : Nat} (h : ¬ e < k) : mvU E k e = E e := if_neg h
def sp_X2_move : SPc := fun As μ K => match As with
  | [.inr (.inr (8, n))] => ∃ (E : Nat → Nat → Int32), CE μ.1 n E ∧ eVK E ∧ ∀ F', CE F' n (mvE E) → (∀ b, (b < n ∨ n + 4 ≤ b) → F' b = μ.1 b) → K (.inl none) (F', μ.2)
  | _ => False
def emL (n i : Nat) : LC := [some (.inr (.inr (8, n))), some (.inl (nI i))]
def ct_X2_move : List (Nat × CI) := [(27, ci_X2_exists), (41, ci_X2_moveOne)]
def ci_X2_move : CI := (yX2_move, cX2_move, 2, none, 1, (2, 0, 0, 47), 12, [], sp_X2_move)
set_option maxRecDepth 100000 in
theorem ck_X2_move : chkM ci_X2_move RX2 co_X2_move ct_X2_move [] false false = true := by decide +kernel
set_option maxHeartbeats 4000000 in
set_option maxRecDepth 100000 in
theorem ms_X2_move {g : GPT} {ot : OT} {l : Launch} (hl : l.stackTraces = false) (hot : otOK ot) : MS g ot l ci_X2_move := by
  refine ms_of hl RX2 co_X2_move ct_X2_move [] false false [2] 20 ck_X2_move (List.forall_mem_cons.mpr ⟨ms_X2_exists hl, List.forall_mem_cons.mpr ⟨ms_X2_moveOne hl hot, fun _ h => nomatch h⟩⟩) ?_
  intro As μ K h
  simp only [ci_X2_move, sp_X2_move] at h
  split at h
  case h_2 => exact h.elim
  rename_i n
  obtain ⟨E, hE, hV, h⟩ := h
  refine ⟨Nat.le_of_ble_eq_true rfl, fun m pc lc st μ' ce sl => ∃ k F, k ≤ 16 ∧ m = 16 - k ∧ pc = 2 ∧ lc = emL n k ∧ st = [] ∧ μ' = (F, μ.2) ∧ CE F n (mvU E k) ∧ (∀ b, (b < n ∨ n + 4 ≤ b) → F b = μ.1 b) ∧ ce = 0 ∧ sl = 0, ?_, ?_⟩
  · exact ⟨16, emL n 0, ⟨rfl, rfl, trivial⟩, 0, μ.1, Nat.zero_le _, rfl, rfl, rfl, rfl, rfl, hE, fun _ _ => rfl, rfl, rfl⟩
  · rintro m pc lc st μ' ce sl ⟨k, F, hk, rfl, rfl, rfl, rfl, rfl, hF, ho, rfl, rfl⟩
    refine ⟨fun h1 => ?_, fun h1 => ?_⟩
    · simp only [icP, ifP, iL, iM1] at h1
      try simp only [z_nI] at h1
      try simp only [nI_add, nI_mul] at h1
      first | rw [nI_le_iff (by omega) (by omega)] at h1 | rw [nI_lt_iff (by omega) (by omega)] at h1 | rw [nI_eq_iff (by omega) (by omega)] at h1
      obtain rfl : k = 16 := by omega
      refine h F (fun e he => ?_) ho
      have := hF e he
      rw [mvU_lt E he] at this
      exact this
    · simp only [icP, ifP, iL, iM1] at h1
      try simp only [z_nI] at h1
      try simp only [nI_add, nI_mul] at h1
      first | rw [nI_le_iff (by omega) (by omega)] at h1 | rw [nI_lt_iff (by omega) (by omega)] at h1 | rw [nI_eq_iff (by omega) (by omega)] at h1
      have f3 := hF k (by omega)
      rw [mvU_ge E (Nat.lt_irrefl k)] at f3
      obtain ⟨f0, f1, f2⟩ := f3
      obtain ⟨s1, v1, v2⟩ := hV k (by omega)
      refine ⟨k, rfl, by omega, fun h2 => ?_, fun h2 => ?_⟩
      · have h2 : iB (¬ F (n + 1) k = -1) = 0 := h2
        rw [iB_eq0, f0, Classical.not_not] at h2
        refine ⟨16 - (k + 1), emL n (k + 1), by omega, ⟨rfl, inc_tv k, trivial⟩, k + 1, F, by omega, rfl, rfl, rfl, rfl, rfl, fun e he => ?_, ho, rfl, rfl⟩
        by_cases q : e = k
        · have w : ∀ i, mvE E k i = E k i := fun i => if_pos h2
          rw [mvU_lt E (by omega), q, w, w, w]
          exact ⟨f0, f1, f2⟩
        · have := hF e he
          by_cases q2 : e < k
          · rw [mvU_lt E q2] at this
            rw [mvU_lt E (by omega)]
            exact this
          · rw [mvU_ge E q2] at this
            rw [mvU_ge E (by omega)]
            exact this
      · have h2 : ¬ iB (¬ F (n + 1) k = -1) = 0 := h2
        rw [iB_ne0, f0] at h2
        refine ⟨k, E, rfl, by omega, h2, s1, v1, v2, f0, f1, f2, 16 - (k + 1), emL n (k + 1), by omega, ⟨rfl, inc_tv k, trivial⟩, k + 1, _, by omega, rfl, rfl, rfl, rfl, rfl, fun e he => ?_, fun b hb => ?_, rfl, rfl⟩
        · by_cases q : e = k
          · subst q
            rw [mvU_lt E (by omega)]
            refine ⟨u2_eq _ _ _ _, ?_, ?_⟩
            · rw [u2_ne _ _ (by omega), u2_ne _ _ (by omega), u2_eq]
            · rw [u2_ne _ _ (by omega), u2_eq]
          · have w : ∀ z, (z = n + 1 ∨ z = n + 2 ∨ z = n + 3) → (up2 (up2 (up2 F (n + 2) k (mvE E k 1)) (n + 3) k (mvE E k 2)) (n + 1) k (mvE E k 0)) z e = F z e := fun z hz => by
              unfold up2
              rw [if_neg fun w => q w.2, if_neg fun w => q w.2, if_neg fun w => q w.2]
            rw [w _ (by omega), w _ (by omega), w _ (by omega)]
            have := hF e he
            by_cases q2 : e < k
            · rw [mvU_lt E q2] at this
              rw [mvU_lt E (by omega)]
              exact this
            · rw [mvU_ge E q2] at this
              rw [mvU_ge E (by omega)]
              exact this
        · rw [u2_ne _ _ (by omega), u2_ne _ _ (by omega), u2_ne _ _ (by omega)]
          exact ho b hb
def sp_X2_copyFrom : SPc := fun As μ K => match As with
  | [.inr (.inr (8, n)), .inr (.inr (8, n'))] => ∃ (E : Nat → Nat → Int32), CE μ.1 n' E ∧ (n + 4 ≤ n' ∨ n' + 4 ≤ n) ∧ ∀ F', CE F' n E → (∀ b, (b < n ∨ n + 4 ≤ b) → F' b = μ.1 b) → K (.inl none) (F', μ.2)
  | _ => False
def ct_X2_copyFrom : List (Nat × CI) := []
def ci_X2_copyFrom : CI := (yX2_copyFrom, cX2_copyFrom, 2, none, 2, (1, 0, 0, 18), 12, [], sp_X2_copyFrom)
set_option maxRecDepth 100000 in
theorem ck_X2_copyFrom : chkM ci_X2_copyFrom RX2 co_X2_copyFrom ct_X2_copyFrom [] false false = true := by decide +kernel
set_option maxHeartbeats 4000000 in
set_option maxRecDepth 100000 in
theorem ms_X2_copyFrom {g : GPT} {ot : OT} {l : Launch} (hl : l.stackTraces = false) : MS g ot l ci_X2_copyFrom := by
  refine ms0_of hl RX2 co_X2_copyFrom ct_X2_copyFrom [] false false 30 ck_X2_copyFrom (fun _ h => nomatch h) ?_
  intro As μ K h
  simp only [ci_X2_copyFrom, sp_X2_copyFrom] at h
  split at h
  case h_2 => exact h.elim
  rename_i n n'
  obtain ⟨E, hE, hn, h⟩ := h
  refine ⟨Nat.le_of_ble_eq_true rfl, 0, 0, 16, rfl, rfl, rfl, by omega, by omega, 0, 0, 16, rfl, rfl, rfl, by omega, by omega, 0, 0, 16, rfl, rfl, rfl, by omega, by omega, ?_⟩
  refine h _ (fun e he => ?_) fun b hb => ?_
  · obtain ⟨e0, e1, e2⟩ := hE e he
    dsimp only
    refine ⟨?_, ?_, ?_⟩
    · rw [cpR_off (by omega), cpR_off (by omega), cpR_0 he]; exact e0
    · rw [cpR_off (by omega), cpR_0 he, cpR_off (by omega)]; exact e1
    · rw [cpR_0 he, cpR_off (by omega), cpR_off (by omega)]; exact e2
  · dsimp only
    rw [cpR_off (by omega), cpR_off (by omega), cpR_off (by omega)]
