/-- a state: none, or a number -/
def sOK (s : Int32) : Prop := s = -1 ∨ ∃ n, n < 524288 ∧ s = nI n
def sN (s : Int32) : Nat := s.toNatClampNeg
theorem sN_nI {n : Nat} (h : n < 524288) : sN (nI n) = n := nI_clamp (by omega)
theorem nI_ne_m1 {n : Nat} (h : n < 2 ^ 31) : ¬ nI n = -1 := by
  intro q
  have h1 := nI_toInt h
  rw [q] at h1
  have : (-1 : Int32).toInt = -1 := by decide
  rw [this] at h1
  omega
theorem sOK_n {s : Int32} (h : sOK s) (hs : ¬ s = -1) : sN s < 524288 ∧ s = nI (sN s) := by
  rcases h with h | ⟨n, h1, rfl⟩
  · exact absurd h hs
  · rw [sN_nI h1]
    exact ⟨h1, rfl⟩
def pz (s : Int32) (k : Nat) : Nat := if s = -1 then 0 else prt (sN s) k
/-- the values in which two states differ -/
def mkR (a b : Nat) : Nat → Nat
  | 0 => 0
  | k + 1 => mkR a b k ||| (if prt a k = prt b k then 0 else 2 ^ k)
theorem mkR_lt (a b : Nat) : ∀ k, mkR a b k < 2 ^ k
  | 0 => by simp [mkR]
  | k + 1 => by
    have h := mkR_lt a b k
    unfold mkR
    refine Nat.or_lt_two_pow (Nat.lt_of_lt_of_le h (Nat.pow_le_pow_right (by omega) (Nat.le_succ k))) ?_
    split
    · exact Nat.two_pow_pos _
    · exact Nat.pow_lt_pow_right (by omega) (Nat.lt_succ_self k)
def mkN (a b : Nat) : Nat := mkR a b 4
theorem mkN_lt (a b : Nat) : mkN a b < 16 := mkR_lt a b 4
theorem prt_lt {n : Nat} (h : n < 524288) (k : Nat) : prt n k < 128 := by
  match k with
  | 0 => simp only [prt]; omega
  | 1 => simp only [prt]; omega
  | 2 => simp only [prt]; omega
  | k + 3 => simp only [prt]; omega
theorem shl1 {k : Nat} (h : k < 5) : Int32.ofInt 1 <<< (nI k &&& 31) = nI (2 ^ k) := by
  have h2 : ∀ k, k < 5 → Int32.ofInt 1 <<< (nI k &&& 31) = nI (2 ^ k) := by decide +kernel
  exact h2 k h
/-- a state with some values of another one -/
def mxN (a b m : Nat) : Nat := pkN (prt (if m % 2 = 0 then a else b) 0) (prt (if m / 2 % 2 = 0 then a else b) 1) (prt (if m / 4 % 2 = 0 then a else b) 2) (prt (if m / 8 % 2 = 0 then a else b) 3)
def bts (m : Nat) : Nat := m % 2 + m / 2 % 2 + m / 4 % 2 + m / 8 % 2
