/-! THE REFERENCE, its small methods. Its object is r (kind 20), its row m lies at r + 1. -/
/-- a whole row changed -/
def stF (F : Nat → Nat → Int32) (a : Nat) (f : Nat → Int32) : Nat → Nat → Int32 := fun b => if b = a then f else F b
theorem up2_stF (F : Nat → Nat → Int32) (a j : Nat) (x : Int32) : up2 F a j x = stF F a (upd (F a) j x) := by
  funext b k
  unfold up2 stF upd
  by_cases hb : b = a
  · subst hb; simp
  · simp [hb]
theorem stF_at (F : Nat → Nat → Int32) (a : Nat) (f : Nat → Int32) : stF F a f a = f := by simp [stF]
theorem stF_ne (F : Nat → Nat → Int32) {a b : Nat} (f : Nat → Int32) (h : b ≠ a) : stF F a f b = F b := by simp [stF, h]
theorem stF_stF (F : Nat → Nat → Int32) (a : Nat) (f g : Nat → Int32) : stF (stF F a f) a g = stF F a g := by
  funext b
  unfold stF
  by_cases hb : b = a <;> simp [hb]
theorem stF_self (F : Nat → Nat → Int32) (a : Nat) : stF F a (F a) = F := by
  funext b
  unfold stF
  by_cases hb : b = a <;> simp [hb]
def iB (p : Prop) [Decidable p] : Int32 := if p then 1 else 0
theorem iB_eq0 (p : Prop) [Decidable p] : iB p = 0 ↔ ¬ p := by unfold iB; by_cases h : p <;> simp [h]
theorem iB_01 (p : Prop) [Decidable p] : iB p = 0 ∨ iB p = 1 := by unfold iB; by_cases h : p <;> simp [h]
theorem iM1 : Int32.ofInt (-1) = -1 := rfl
theorem iL0 : Int32.ofInt 0 = 0 := rfl
theorem iL1 : Int32.ofInt 1 = 1 := rfl
theorem nI_toI (n : Nat) (h : n < 2 ^ 31) : (nI n).toInt = (n : Int) := nI_toInt h
theorem nI_mod {a b : Nat} (ha : a < 2 ^ 31) (hb : b < 2 ^ 31) : nI a % nI b = nI (a % b) := by
  apply Int32.toInt_inj.mp
  have h1 : a % b < 2 ^ 31 := Nat.lt_of_le_of_lt (Nat.mod_le _ _) ha
  rw [Int32.toInt_mod, nI_toInt ha, nI_toInt hb, nI_toInt h1]
  exact (Int.ofNat_tmod a b).symm
theorem nI_div {a b : Nat} (ha : a < 2 ^ 31) (hb : b < 2 ^ 31) : nI a / nI b = nI (a / b) := by
  apply Int32.toInt_inj.mp
  have h1 : a / b < 2 ^ 31 := Nat.lt_of_le_of_lt (Nat.div_le_self _ _) ha
  rw [Int32.toInt_div_of_ne_left _ _ (by
    intro h
    have := congrArg Int32.toInt h
    rw [nI_toInt ha] at this
    have e : (Int32.minValue).toInt = -2147483648 := by decide
    rw [e] at this
    omega), nI_toInt ha, nI_toInt hb, nI_toInt h1]
  exact (Int.ofNat_tdiv a b).symm
theorem nI_ne {b : Nat} (h0 : 0 < b) (hb : b < 2 ^ 31) : ¬ nI b = 0 := nI_ne0 h0 hb
/-- the parts of a state's number -/
def prt (n w : Nat) : Nat := match w with
  | 0 => n % 32
  | 1 => n / 32 % 32
  | 2 => n / 1024 % 4
  | _ => n / 4096
def pkN (x y k h : Nat) : Nat := x + 32 * (y + 32 * (k + 4 * h))
theorem prt_pk {x y k h : Nat} (hx : x < 32) (hy : y < 32) (hk : k < 4) : prt (pkN x y k h) 0 = x ∧ prt (pkN x y k h) 1 = y ∧ prt (pkN x y k h) 2 = k ∧ prt (pkN x y k h) 3 = h := by
  simp only [prt, pkN]
  refine ⟨by omega, by omega, by omega, by omega⟩
theorem pk_prt (n : Nat) : pkN (prt n 0) (prt n 1) (prt n 2) (prt n 3) = n := by
  simp only [prt, pkN]
  omega
theorem z_nI : (0 : Int32) = nI 0 := nI_0.symm
theorem inc_tv (i : Nat) : (some (.inl (nI i + Int32.ofInt 1)) : Option TV) = some (.inl (nI (i + 1))) := by
  rw [nI_succ]
  rfl
def sp_X10_thrown : SPc := fun As μ K => match As with
  | [.inr (.inr (20, r))] => K (.inl (some (.inl (μ.1 r 5)))) μ
  | _ => False
def ct_X10_thrown : List (Nat × CI) := []
def ci_X10_thrown : CI := (yX10_thrown, cX10_thrown, 1, some .int, 1, (0, 0, 0, 0), 19, [], sp_X10_thrown)
set_option maxRecDepth 100000 in
theorem ck_X10_thrown : chkM ci_X10_thrown RX10 co_X10_thrown ct_X10_thrown [] false false = true := by decide +kernel
set_option maxHeartbeats 4000000 in
set_option maxRecDepth 100000 in
theorem ms_X10_thrown {g : GPT} {ot : OT} {l : Launch} (hl : l.stackTraces = false) : MS g ot l ci_X10_thrown := by
  refine ms0_of hl RX10 co_X10_thrown ct_X10_thrown [] false false 8 ck_X10_thrown (fun _ h => nomatch h) ?_
  intro As μ K h
  simp only [ci_X10_thrown, sp_X10_thrown] at h
  split at h
  · exact ⟨Nat.le_of_ble_eq_true rfl, h⟩
  · exact h.elim
def sp_X10_fails : SPc := fun As μ K => match As with
  | [.inr (.inr (20, r)), .inl x] => K (.inl (some (.inl 0))) (up2 μ.1 r 5 x, μ.2)
  | _ => False
def ct_X10_fails : List (Nat × CI) := []
def ci_X10_fails : CI := (yX10_fails, cX10_fails, 2, some .int, 2, (0, 0, 0, 0), 19, [], sp_X10_fails)
set_option maxRecDepth 100000 in
theorem ck_X10_fails : chkM ci_X10_fails RX10 co_X10_fails ct_X10_fails [] false false = true := by decide +kernel
set_option maxHeartbeats 4000000 in
set_option maxRecDepth 100000 in
theorem ms_X10_fails {g : GPT} {ot : OT} {l : Launch} (hl : l.stackTraces = false) : MS g ot l ci_X10_fails := by
  refine ms0_of hl RX10 co_X10_fails ct_X10_fails [] false false 10 ck_X10_fails (fun _ h => nomatch h) ?_
  intro As μ K h
  simp only [ci_X10_fails, sp_X10_fails] at h
  split at h
  · exact ⟨Nat.le_of_ble_eq_true rfl, h⟩
  · exact h.elim
def sp_X10_in : SPc := fun As μ K => match As with
  | [.inl v, .inl a, .inl b] => K (.inl (some (.inl (iB (a ≤ v ∧ v ≤ b))))) μ
  | _ => False
def ct_X10_in : List (Nat × CI) := []
def ci_X10_in : CI := (yX10_in, cX10_in, 3, some .boolean, 3, (0, 0, 0, 0), 0, [], sp_X10_in)
set_option maxRecDepth 100000 in
theorem ck_X10_in : chkM ci_X10_in RX10 co_X10_in ct_X10_in [] true false = true := by decide +kernel
set_option maxHeartbeats 4000000 in
set_option maxRecDepth 100000 in
theorem ms_X10_in {g : GPT} {ot : OT} {l : Launch} (hl : l.stackTraces = false) : MS g ot l ci_X10_in := by
  refine ms0_of hl RX10 co_X10_in ct_X10_in [] true false 15 ck_X10_in (fun _ h => nomatch h) ?_
  intro As μ K h
  simp only [ci_X10_in, sp_X10_in] at h
  split at h
  · rename_i v a b
    refine ⟨Nat.le_of_ble_eq_true rfl, fun h1 => ?_, fun h1 => ⟨fun h2 => ?_, fun h2 => ?_⟩⟩
    · have h1 : v < a := h1
      have e : iB (a ≤ v ∧ v ≤ b) = 0 := (iB_eq0 _).mpr fun q => Int32.not_le.mpr h1 q.1
      rw [e] at h
      exact ⟨Or.inl rfl, h⟩
    · have h2 : b < v := h2
      have e : iB (a ≤ v ∧ v ≤ b) = 0 := (iB_eq0 _).mpr fun q => Int32.not_le.mpr h2 q.2
      rw [e] at h
      exact ⟨Or.inl rfl, h⟩
    · have h1 : ¬ v < a := h1
      have h2 : ¬ b < v := h2
      have e : iB (a ≤ v ∧ v ≤ b) = 1 := if_pos ⟨Int32.not_lt.mp h1, Int32.not_lt.mp h2⟩
      rw [e] at h
      exact ⟨Or.inr rfl, h⟩
  · exact h.elim
def aI (x : Int32) : Int32 := if x < 0 then -x else x
def sp_X10_size : SPc := fun As μ K => match As with
  | [.inl v] => K (.inl (some (.inl (aI v)))) μ
  | _ => False
def ct_X10_size : List (Nat × CI) := []
def ci_X10_size : CI := (yX10_size, cX10_size, 1, some .int, 1, (0, 0, 0, 0), 0, [], sp_X10_size)
set_option maxRecDepth 100000 in
theorem ck_X10_size : chkM ci_X10_size RX10 co_X10_size ct_X10_size [] false false = true := by decide +kernel
set_option maxHeartbeats 4000000 in
set_option maxRecDepth 100000 in
theorem ms_X10_size {g : GPT} {ot : OT} {l : Launch} (hl : l.stackTraces = false) : MS g ot l ci_X10_size := by
  refine ms0_of hl RX10 co_X10_size ct_X10_size [] false false 12 ck_X10_size (fun _ h => nomatch h) ?_
  intro As μ K h
  simp only [ci_X10_size, sp_X10_size] at h
  split at h
  · rename_i v
    refine ⟨Nat.le_of_ble_eq_true rfl, fun h1 => ?_, fun h1 => ?_⟩
    · have h1 : 0 ≤ v := h1
      have e : aI v = v := if_neg (Int32.not_lt.mpr h1)
      rw [e] at h
      exact h
    · have h1 : ¬ 0 ≤ v := h1
      have e : aI v = -v := if_pos (Int32.not_le.mp h1)
      rw [e] at h
      exact h
  · exact h.elim
def sp_X10_copyAll : SPc := fun As μ K => match As with
  | [.inr (.inr (5, a)), .inr (.inr (5, b))] => K (.inl none) (stF μ.1 b (fun k => if k < 7269 then μ.1 a k else μ.1 b k), μ.2)
  | _ => False
def ct_X10_copyAll : List (Nat × CI) := []
def ci_X10_copyAll : CI := (yX10_copyAll, cX10_copyAll, 3, none, 2, (0, 0, 0, 0), 0, [], sp_X10_copyAll)
set_option maxRecDepth 100000 in
theorem ck_X10_copyAll : chkM ci_X10_copyAll RX10 co_X10_copyAll ct_X10_copyAll [] false false = true := by decide +kernel
set_option maxHeartbeats 4000000 in
set_option maxRecDepth 100000 in
theorem ms_X10_copyAll {g : GPT} {ot : OT} {l : Launch} (hl : l.stackTraces = false) : MS g ot l ci_X10_copyAll := by
  refine ms_of hl RX10 co_X10_copyAll ct_X10_copyAll [] false false [2] 19 ck_X10_copyAll (fun _ h => nomatch h) ?_
  intro As μ K h
  simp only [ci_X10_copyAll, sp_X10_copyAll] at h
  split at h
  · rename_i a b
    refine ⟨Nat.le_of_ble_eq_true rfl, fun n pc lc st μ' ce sl => ∃ i, i ≤ 7269 ∧ n = 7269 - i ∧ pc = 2 ∧ lc = [some (.inr (.inr (5, a))), some (.inr (.inr (5, b))), some (.inl (nI i))] ∧ st = [] ∧ μ' = (stF μ.1 b (fun k => if k < i then μ.1 a k else μ.1 b k), μ.2) ∧ ce = 0 ∧ sl = 0, ?_, ?_⟩
    · refine ⟨7269, [some (.inr (.inr (5, a))), some (.inr (.inr (5, b))), some (.inl (nI 0))], ⟨rfl, rfl, rfl, trivial⟩, 0, Nat.zero_le _, rfl, rfl, rfl, rfl, ?_, rfl, rfl⟩
      have e : (fun k => if k < 0 then μ.1 a k else μ.1 b k) = μ.1 b := by funext k; simp
      rw [e, stF_self]
    · rintro n pc lc st μ' ce sl ⟨i, hi, rfl, rfl, rfl, rfl, rfl, rfl, rfl⟩
      refine ⟨fun h1 => ?_, fun h1 => ?_⟩
      · have h1 : nI 7269 ≤ nI i := h1
        rw [nI_le_iff (by omega) (by omega)] at h1
        have : i = 7269 := by omega
        subst this
        exact h
      · have h1 : ¬ nI 7269 ≤ nI i := h1
        rw [nI_le_iff (by omega) (by omega)] at h1
        refine ⟨i, rfl, by omega, i, rfl, by omega, ?_⟩
        refine ⟨7269 - (i + 1), [some (.inr (.inr (5, a))), some (.inr (.inr (5, b))), some (.inl (nI (i + 1)))], by omega, ⟨rfl, rfl, inc_tv i, trivial⟩, i + 1, by omega, rfl, rfl, rfl, rfl, ?_, rfl, rfl⟩
        · show (up2 _ _ _ _, _) = _
          simp only [up2_stF, stF_stF, stF_at]
          congr 2
          funext k
          have e2 : stF μ.1 b (fun k => if k < i then μ.1 a k else μ.1 b k) a i = μ.1 a i := by
            by_cases hab : a = b
            · subst hab
              rw [stF_at]
              simp
            · rw [stF_ne _ _ hab]
          rw [e2]
          unfold upd
          by_cases hk : k = i
          · subst hk
            simp
          · by_cases hk2 : k < i
            · simp only [if_neg hk, if_pos hk2]
              rw [if_pos (by omega)]
            · simp only [if_neg hk, if_neg hk2]
              rw [if_neg (by omega)]
  · exact h.elim
def sp_X10_packed : SPc := fun As μ K => match As with
  | [.inl x, .inl y, .inl k, .inl h] => ∃ a b c d : Nat, x = nI a ∧ y = nI b ∧ k = nI c ∧ h = nI d ∧ K (.inl (some (.inl (nI (pkN a b c d))))) μ
  | _ => False
def ct_X10_packed : List (Nat × CI) := []
def ci_X10_packed : CI := (yX10_packed, cX10_packed, 4, some .int, 4, (0, 0, 0, 0), 0, [], sp_X10_packed)
set_option maxRecDepth 100000 in
theorem ck_X10_packed : chkM ci_X10_packed RX10 co_X10_packed ct_X10_packed [] false false = true := by decide +kernel
set_option maxHeartbeats 4000000 in
set_option maxRecDepth 100000 in
theorem ms_X10_packed {g : GPT} {ot : OT} {l : Launch} (hl : l.stackTraces = false) : MS g ot l ci_X10_packed := by
  refine ms0_of hl RX10 co_X10_packed ct_X10_packed [] false false 19 ck_X10_packed (fun _ h => nomatch h) ?_
  intro As μ K h
  simp only [ci_X10_packed, sp_X10_packed] at h
  split at h
  · obtain ⟨a, b, c, d, rfl, rfl, rfl, rfl, h⟩ := h
    refine ⟨Nat.le_of_ble_eq_true rfl, ?_⟩
    show K _ _
    simp only [iL, nI_add, nI_mul]
    exact h
  · exact h.elim
def sp_X10_part : SPc := fun As μ K => match As with
  | [.inl s, .inl w] => ∃ n k : Nat, s = nI n ∧ w = nI k ∧ n < 524288 ∧ k < 4 ∧ K (.inl (some (.inl (nI (prt n k))))) μ
  | _ => False
def ct_X10_part : List (Nat × CI) := []
def ci_X10_part : CI := (yX10_part, cX10_part, 2, some .int, 2, (0, 0, 0, 0), 0, [], sp_X10_part)
set_option maxRecDepth 100000 in
theorem ck_X10_part : chkM ci_X10_part RX10 co_X10_part ct_X10_part [] false false = true := by decide +kernel
set_option maxHeartbeats 4000000 in
set_option maxRecDepth 100000 in
theorem ms_X10_part {g : GPT} {ot : OT} {l : Launch} (hl : l.stackTraces = false) : MS g ot l ci_X10_part := by
  refine ms0_of hl RX10 co_X10_part ct_X10_part [] false false 33 ck_X10_part (fun _ h => nomatch h) ?_
  intro As μ K h
  simp only [ci_X10_part, sp_X10_part] at h
  split at h
  · obtain ⟨n, k, rfl, rfl, hn, hk, h⟩ := h
    refine ⟨Nat.le_of_ble_eq_true rfl, fun h1 => ?_, fun h1 => ?_⟩
    · have h1 : ¬ nI k = nI 0 := h1
      rw [nI_eq_iff (by omega) (by omega)] at h1
      refine ⟨fun h2 => ?_, fun h2 => ?_⟩
      · have h2 : ¬ nI k = nI 1 := h2
        rw [nI_eq_iff (by omega) (by omega)] at h2
        refine ⟨fun h3 => ?_, fun h3 => ?_⟩
        · have h3 : ¬ nI k = nI 2 := h3
          rw [nI_eq_iff (by omega) (by omega)] at h3
          refine ⟨nI_ne (b := 4096) (by omega) (by omega), ?_⟩
          show K (.inl (some (.inl (nI n / nI 4096)))) μ
          rw [nI_div (by omega) (by omega)]
          obtain rfl : k = 3 := by omega
          exact h
        · have h3 : ¬ ¬ nI k = nI 2 := h3
          rw [nI_eq_iff (by omega) (by omega)] at h3
          refine ⟨nI_ne (b := 1024) (by omega) (by omega), nI_ne (b := 4) (by omega) (by omega), ?_⟩
          show K (.inl (some (.inl (nI n / nI 1024 % nI 4)))) μ
          rw [nI_div (by omega) (by omega), nI_mod (by omega) (by omega)]
          obtain rfl : k = 2 := by omega
          exact h
      · have h2 : ¬ ¬ nI k = nI 1 := h2
        rw [nI_eq_iff (by omega) (by omega)] at h2
        refine ⟨nI_ne (b := 32) (by omega) (by omega), nI_ne (b := 32) (by omega) (by omega), ?_⟩
        show K (.inl (some (.inl (nI n / nI 32 % nI 32)))) μ
        rw [nI_div (by omega) (by omega), nI_mod (by omega) (by omega)]
        obtain rfl : k = 1 := by omega
        exact h
    · have h1 : ¬ ¬ nI k = nI 0 := h1
      rw [nI_eq_iff (by omega) (by omega)] at h1
      refine ⟨nI_ne (b := 32) (by omega) (by omega), ?_⟩
      show K (.inl (some (.inl (nI n % nI 32)))) μ
      rw [nI_mod (by omega) (by omega)]
      obtain rfl : k = 0 := by omega
      exact h
  · exact h.elim
