/-! THE REFERENCE moves an entity. -/
def vOK (V : Int32) : Prop := -3 ≤ V ∧ V ≤ 3
theorem vOK_k {V : Int32} (h : vOK V) : ∃ k, k < 7 ∧ V = nI k - 3 := by
  obtain ⟨h1, h2⟩ := h
  rw [Int32.le_iff_toInt_le] at h1 h2
  have a : (-3 : Int32).toInt = -3 := by decide
  have b : (3 : Int32).toInt = 3 := by decide
  rw [a] at h1
  rw [b] at h2
  refine ⟨(V.toInt + 3).toNat, by omega, ?_⟩
  apply Int32.toInt_inj.mp
  have c : ∀ k, k < 7 → (nI k - 3).toInt = (k : Int) - 3 := by decide +kernel
  rw [c _ (by omega)]
  omega
/-- where a coordinate goes, and its velocity -/
def mvI (v : Int32) : Int32 := if v < 0 then -v else if 31 < v then 62 - v else v
def mvP (p : Nat) (V : Int32) : Nat := (mvI (nI p + V)).toNatClampNeg
def mvW (p : Nat) (V : Int32) : Int32 := if 0 ≤ nI p + V ∧ nI p + V ≤ 31 then V else -V
theorem mv_all : ∀ p, p < 32 → ∀ k, k < 7 → mvI (nI p + (nI k - 3)) = nI (mvP p (nI k - 3)) ∧ mvP p (nI k - 3) < 32 ∧ (-3 ≤ mvW p (nI k - 3) ∧ mvW p (nI k - 3) ≤ 3) := by decide +kernel
theorem mv_ok {p : Nat} {V : Int32} (hp : p < 32) (hV : vOK V) : mvI (nI p + V) = nI (mvP p V) ∧ mvP p V < 32 ∧ vOK (mvW p V) := by
  obtain ⟨k, hk, rfl⟩ := vOK_k hV
  exact mv_all p hp k hk
/-- the state after a move along x (0) or y (1) -/
def mvS (n w : Nat) (V : Int32) : Nat := if w = 0 then n - prt n 0 + mvP (prt n 0) V else n - 32 * prt n 1 + 32 * mvP (prt n 1) V
theorem prt01 (n w : Nat) (hw : w < 2) : prt n w < 32 := by
  match w, hw with
  | 0, _ => simp only [prt]; omega
  | 1, _ => simp only [prt]; omega
theorem mvS_lt {n w : Nat} {V : Int32} (hn : n < 524288) (hw : w < 2) (hV : vOK V) : mvS n w V < 524288 := by
  have h0 : prt n 0 = n % 32 := rfl
  have h1 : prt n 1 = n / 32 % 32 := rfl
  have a := (mv_ok (prt01 n 0 (by omega)) hV).2.1
  have b := (mv_ok (prt01 n 1 (by omega)) hV).2.1
  unfold mvS
  split <;> omega
theorem mvS_eq {n w : Nat} {V : Int32} (hw : w < 2) : nI n + (nI (mvP (prt n w) V) - nI (prt n w)) * (if w = 0 then 1 else 32) = nI (mvS n w V) := by
  have h0 : prt n 0 = n % 32 := rfl
  have h1 : prt n 1 = n / 32 % 32 := rfl
  unfold mvS
  match w, hw with
  | 0, _ =>
    rw [if_pos rfl, if_pos rfl, Int32.mul_one]
    have e : nI n = nI (n - prt n 0) + nI (prt n 0) := by rw [nI_add]; congr 1; omega
    rw [← nI_add, e, Int32.add_assoc, Int32.add_comm (nI (prt n 0)), Int32.sub_add_cancel]
  | 1, _ =>
    rw [if_neg (by omega), if_neg (by omega)]
    have e : nI n = nI (n - 32 * prt n 1) + nI (prt n 1) * 32 := by
      show _ = _ + nI (prt n 1) * nI 32
      rw [nI_mul, nI_add]; congr 1; omega
    have e2 : nI (32 * mvP (prt n 1) V) = nI (mvP (prt n 1) V) * 32 := by
      show _ = _ * nI 32
      rw [nI_mul, Nat.mul_comm]
    rw [← nI_add, e2, e, Int32.add_assoc, ← Int32.add_mul, Int32.add_comm (nI (prt n 1)), Int32.sub_add_cancel]
def moL (r w a : Nat) (v x : Int32) : LC := [some (.inr (.inr (20, r))), none, some (.inl (nI w)), some (.inl (nI a)), some (.inl v), some (.inl x)]
def sp_X10_moveOne : SPc := fun As μ K => match As with
  | [.inr (.inr (20, r)), .inl e, .inl w'] => ∃ (j w n : Nat) (V : Int32), e = nI j ∧ w' = nI w ∧ j < 16 ∧ w < 2 ∧ μ.1 (r + 1) (3 + 3 * j) = nI n ∧ n < 524288 ∧ μ.1 (r + 1) (3 + 3 * j + 1 + w) = V ∧ vOK V ∧ K (.inl none) (rW μ r (upd (upd (μ.1 (r + 1)) (3 + 3 * j + 1 + w) (mvW (prt n w) V)) (3 + 3 * j) (nI (mvS n w V))))
  | _ => False
def ct_X10_moveOne : List (Nat × CI) := [(41, ci_X10_part), (49, ci_X10_in)]
def ci_X10_moveOne : CI := (yX10_moveOne, cX10_moveOne, 6, none, 3, (1, 0, 0, 22), 19, [], sp_X10_moveOne)
set_option maxRecDepth 100000 in
theorem ck_X10_moveOne : chkM ci_X10_moveOne RX10 co_X10_moveOne ct_X10_moveOne [] false false = true := by decide +kernel
set_option maxHeartbeats 4000000 in
set_option maxRecDepth 100000 in
theorem ms_X10_moveOne {g : GPT} {ot : OT} {l : Launch} (hl : l.stackTraces = false) : MS g ot l ci_X10_moveOne := by
  refine ms_of hl RX10 co_X10_moveOne ct_X10_moveOne [] false false [47,77,100] 88 ck_X10_moveOne (List.forall_mem_cons.mpr ⟨ms_X10_part hl, List.forall_mem_cons.mpr ⟨ms_X10_in hl, fun _ h => nomatch h⟩⟩) ?_
  intro As μ K h
  simp only [ci_X10_moveOne, sp_X10_moveOne] at h
  split at h
  case h_2 => exact h.elim
  rename_i r e w'
  obtain ⟨j, w, n, V, rfl, rfl, hj, hw, hn, hn2, hv, hV, h⟩ := h
  have hp := prt01 n w hw
  obtain ⟨m1, m2, m3⟩ := mv_ok hp hV
  generalize ha : 3 + 3 * j = a at *
  have ixa : nI 3 + nI 3 * nI j = nI a := by rw [nI_mul, nI_add, ha]
  have ixv : nI a + nI 1 + nI w = nI (a + 1 + w) := by rw [nI_add, nI_add]
  refine ⟨Nat.le_of_ble_eq_true rfl, fun m pc lc st μ' ce sl => (m = 3 ∧ pc = 47 ∧ lc = moL r w a (nI (prt n w) + V) (iB (¬ (0 ≤ nI (prt n w) + V ∧ nI (prt n w) + V ≤ 31))) ∧ st = [] ∧ μ = μ' ∧ ce = 0 ∧ sl = 0) ∨
    (m = 2 ∧ pc = 77 ∧ lc = moL r w a (mvI (nI (prt n w) + V)) (iB (¬ (0 ≤ nI (prt n w) + V ∧ nI (prt n w) + V ≤ 31))) ∧ st = [] ∧ μ = μ' ∧ ce = 0 ∧ sl = 0) ∨
    (m = 1 ∧ pc = 100 ∧ lc = moL r w a (mvI (nI (prt n w) + V)) (iB (¬ (0 ≤ nI (prt n w) + V ∧ nI (prt n w) + V ≤ 31))) ∧ st = [] ∧ μ' = rW μ r (upd (μ.1 (r + 1)) (a + 1 + w) (mvW (prt n w) V)) ∧ ce = 0 ∧ sl = 0), ?_, ?_⟩
  · have ent : ∀ x, x = iB (¬ (0 ≤ nI (prt n w) + V ∧ nI (prt n w) + V ≤ 31)) → subL (moL r w a (nI (prt n w) + V) (iB (¬ (0 ≤ nI (prt n w) + V ∧ nI (prt n w) + V ≤ 31)))) [some (.inr (.inr (20, r))), some (.inl (nI j)), some (.inl (nI w)), some (.inl (nI 3 + nI 3 * nI j)), some (.inl (nI (prt n w) + μ.1 (r + 1) (a + 1 + w))), some (.inl x)] := fun x hx =>
      ⟨rfl, rfl, by rw [ixa], by rw [hv], by rw [hx], trivial⟩
    refine ⟨a, ixa, by omega, n, w, hn, rfl, hn2, by omega, a + 1 + w, ?_, by omega, fun h1 => ?_, fun h1 => ?_⟩
    · show nI 3 + nI 3 * nI j + nI 1 + nI w = _
      rw [ixa, ixv]
    · have h1 : ¬ iB (0 ≤ nI (prt n w) + μ.1 (r + 1) (a + 1 + w) ∧ nI (prt n w) + μ.1 (r + 1) (a + 1 + w) ≤ 31) = 0 := h1
      rw [iB_ne0, hv] at h1
      exact ⟨3, moL r w a (nI (prt n w) + V) (iB (¬ (0 ≤ nI (prt n w) + V ∧ nI (prt n w) + V ≤ 31))), ent 0 (iB_0 fun q => q h1).symm, Or.inl ⟨rfl, rfl, rfl, rfl, rfl, rfl, rfl⟩⟩
    · have h1 : ¬ ¬ iB (0 ≤ nI (prt n w) + μ.1 (r + 1) (a + 1 + w) ∧ nI (prt n w) + μ.1 (r + 1) (a + 1 + w) ≤ 31) = 0 := h1
      rw [iB_ne0, hv] at h1
      exact ⟨3, moL r w a (nI (prt n w) + V) (iB (¬ (0 ≤ nI (prt n w) + V ∧ nI (prt n w) + V ≤ 31))), ent 1 (iB_1 h1).symm, Or.inl ⟨rfl, rfl, rfl, rfl, rfl, rfl, rfl⟩⟩
  · rintro m pc lc st μ' ce sl (⟨rfl, rfl, rfl, rfl, rfl, rfl, rfl⟩ | ⟨rfl, rfl, rfl, rfl, rfl, rfl, rfl⟩ | ⟨rfl, rfl, rfl, rfl, rfl, rfl, rfl⟩)
    · have nx : ∀ x, x = mvI (nI (prt n w) + V) → subL (moL r w a (mvI (nI (prt n w) + V)) (iB (¬ (0 ≤ nI (prt n w) + V ∧ nI (prt n w) + V ≤ 31)))) (moL r w a x (iB (¬ (0 ≤ nI (prt n w) + V ∧ nI (prt n w) + V ≤ 31)))) := fun x hx => ⟨rfl, rfl, rfl, by rw [hx], rfl, trivial⟩
      refine ⟨fun h1 => ⟨fun h2 => ⟨2, moL r w a (mvI (nI (prt n w) + V)) (iB (¬ (0 ≤ nI (prt n w) + V ∧ nI (prt n w) + V ≤ 31))), by omega, nx _ ?_, Or.inr (Or.inl ⟨rfl, rfl, rfl, rfl, rfl, rfl, rfl⟩)⟩, fun h2 => ⟨2, moL r w a (mvI (nI (prt n w) + V)) (iB (¬ (0 ≤ nI (prt n w) + V ∧ nI (prt n w) + V ≤ 31))), by omega, nx _ ?_, Or.inr (Or.inl ⟨rfl, rfl, rfl, rfl, rfl, rfl, rfl⟩)⟩⟩, fun h1 => ⟨2, moL r w a (mvI (nI (prt n w) + V)) (iB (¬ (0 ≤ nI (prt n w) + V ∧ nI (prt n w) + V ≤ 31))), by omega, nx _ ?_, Or.inr (Or.inl ⟨rfl, rfl, rfl, rfl, rfl, rfl, rfl⟩)⟩⟩
      · have h1 : 0 ≤ nI (prt n w) + V := h1
        have h2 : nI (prt n w) + V ≤ 31 := h2
        unfold mvI
        rw [if_neg (Int32.not_lt.mpr h1), if_neg (Int32.not_lt.mpr h2)]
      · have h1 : 0 ≤ nI (prt n w) + V := h1
        have h2 : ¬ nI (prt n w) + V ≤ 31 := h2
        unfold mvI
        rw [if_neg (Int32.not_lt.mpr h1), if_pos (Int32.not_le.mp h2)]
        rfl
      · have h1 : ¬ 0 ≤ nI (prt n w) + V := h1
        unfold mvI
        rw [if_pos (Int32.not_le.mp h1)]
    · refine ⟨a + 1 + w, ixv, by omega, fun h1 => ⟨a + 1 + w, ixv, by omega, 1, moL r w a (mvI (nI (prt n w) + V)) (iB (¬ (0 ≤ nI (prt n w) + V ∧ nI (prt n w) + V ≤ 31))), by omega, ⟨rfl, rfl, rfl, rfl, rfl, trivial⟩, Or.inr (Or.inr ⟨rfl, rfl, rfl, rfl, ?_, rfl, rfl⟩)⟩, fun h1 => ⟨a + 1 + w, ixv, by omega, 1, moL r w a (mvI (nI (prt n w) + V)) (iB (¬ (0 ≤ nI (prt n w) + V ∧ nI (prt n w) + V ≤ 31))), by omega, ⟨rfl, rfl, rfl, rfl, rfl, trivial⟩, Or.inr (Or.inr ⟨rfl, rfl, rfl, rfl, ?_, rfl, rfl⟩)⟩⟩
      · have h1 := (iB_eq0 _).mp h1
        rw [up2_rW, hv]
        have e : mvW (prt n w) V = V := if_pos (Classical.not_not.mp h1)
        have e2 : V * Int32.ofInt 1 = V := Int32.mul_one V
        rw [e, e2]
      · have h1 := (iB_ne0 _).mp h1
        rw [up2_rW, hv]
        have e : mvW (prt n w) V = -V := if_neg h1
        have e2 : V * Int32.ofInt (-1) = -V := by rw [iM1, Int32.mul_neg, Int32.mul_one]
        rw [e, e2]
    · have g0 : (rW μ r (upd (μ.1 (r + 1)) (a + 1 + w) (mvW (prt n w) V))).1 (r + 1) a = nI n := by rw [rW_at, upd_ne _ _ (by omega)]; exact hn
      have fin : ∀ x : Int32, x = (if w = 0 then 1 else 32) → K (.inl none) (up2 (rW μ r (upd (μ.1 (r + 1)) (a + 1 + w) (mvW (prt n w) V))).1 (r + 1) a ((rW μ r (upd (μ.1 (r + 1)) (a + 1 + w) (mvW (prt n w) V))).1 (r + 1) a + (mvI (nI (prt n w) + V) - nI (prt n w)) * x), (rW μ r (upd (μ.1 (r + 1)) (a + 1 + w) (mvW (prt n w) V))).2) := fun x hx => by
        rw [g0, m1, hx, mvS_eq hw, up2_rW, rW_rW, rW_at]
        exact h
      refine ⟨a, rfl, by omega, a, rfl, by omega, n, w, g0, rfl, hn2, by omega, fun h1 => ⟨a, rfl, by omega, fin 32 ?_⟩, fun h1 => ⟨a, rfl, by omega, fin 1 ?_⟩⟩
      · have h1 : ¬ nI w = nI 0 := h1
        rw [nI_eq_iff (by omega) (by omega)] at h1
        rw [if_neg h1]
      · have h1 : ¬ ¬ nI w = nI 0 := h1
        rw [nI_eq_iff (by omega) (by omega)] at h1
        rw [if_pos (Classical.not_not.mp h1)]
