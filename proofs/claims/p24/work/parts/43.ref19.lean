def vOK (V : Int32) : Prop := -3 ≤ V ∧ V ≤ 3
theorem vOK_k {V : Int32} (h : vOK V) : ∃ k, k < 7 ∧ V = nI k - 3 := by
  obtain ⟨h1, h2⟩ := h
  rw [Int32.le_iff_toInt_le] at h1 h2
  have a : (-3 : Int32).toInt = -3 := by decide
  have b : (3 : Int32).toInt = 3 := by decide
  rw [a] at h1
  rw [b] at h2
  refine ⟨(V.toInt + 3).toNat, by omega, ?_⟩
  apply Int32.toInt_inj.mp
  have c : ∀ k, k < 7 → (nI k - 3).toInt = (k : Int) - 3 := by decide +kernel
  rw [c _ (by omega)]
  omega
/-- where a coordinate goes, and its velocity -/
def mvI (v : Int32) : Int32 := if v < 0 then -v else if 31 < v then 62 - v else v
def mvP (p : Nat) (V : Int32) : Nat := (mvI (nI p + V)).toNatClampNeg
def mvW (p : Nat) (V : Int32) : Int32 := if 0 ≤ nI p + V ∧ nI p + V ≤ 31 then V else -V
theorem mv_all : ∀ p, p < 32 → ∀ k, k < 7 → mvI (nI p + (nI k - 3)) = nI (mvP p (nI k - 3)) ∧ mvP p (nI k - 3) < 32 ∧ (-3 ≤ mvW p (nI k - 3) ∧ mvW p (nI k - 3) ≤ 3) := by decide +kernel
theorem mv_ok {p : Nat} {V : Int32} (hp : p < 32) (hV : vOK V) : mvI (nI p + V) = nI (mvP p V) ∧ mvP p V < 32 ∧ vOK (mvW p V) := by
  obtain ⟨k, hk, rfl⟩ := vOK_k hV
  exact mv_all p hp k hk
/-- the state after a move along x (0) or y (1) -/
def mvS (n w : Nat) (V : Int32) : Nat := if w = 0 then n - prt n 0 + mvP (prt n 0) V else n - 32 * prt n 1 + 32 * mvP (prt n 1) V
theorem prt01 (n w : Nat) (hw : w < 2) : prt n w < 32 := by
  match w, hw with
  | 0, _ => simp only [prt]; omega
  | 1, _ => simp only [prt]; omega
theorem mvS_lt {n w : Nat} {V : Int32} (hn : n < 524288) (hw : w < 2) (hV : vOK V) : mvS n w V < 524288 := by
  have h0 : prt n 0 = n % 32 := rfl
  have h1 : prt n 1 = n / 32 % 32 := rfl
  have a := (mv_ok (prt01 n 0 (by omega)) hV).2.1
  have b := (mv_ok (prt01 n 1 (by omega)) hV).2.1
  unfold mvS
  split <;> omega
