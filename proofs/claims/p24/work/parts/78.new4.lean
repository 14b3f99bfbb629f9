/-! THE CONSTRUCTOR of the reference. -/
def mzL (k a : Nat) : LC := [some (.inr (.inr (k, a))), none]
def mzI (a k : Nat) : LC := [some (.inr (.inr (20, a))), some (.inl (nI k))]
def mzP (j : Nat) : Nat := if j < 4 then 13 + 9 * j else 48
def mzK (j : Nat) : Nat := if j < 4 then 50 + j else 20
def mzS (j : Nat) : Nat := if j < 4 then 7269 * (j + 1) else 29092
def MZ (μ' : MM) (a : Nat) : Prop := ∀ e, μ'.1 a e = 0 ∧ μ'.1 (a + 1) e = 0
theorem MZ.arr {μ : MM} {a : Nat} (h : MZ μ a) (hz : a + 2 ≤ μ.2.2.2.2) (ka k1 : Nat) : MZ (mA μ a ka k1) a := fun e => by
  rw [mA_o _ _ _ _ (by omega), mA_o _ _ _ _ (by omega)]
  exact h e
theorem NW.w {μ μ1 μ2 : MM} {a n k : Nat} (h : NW μ μ1 a n k) (e : ∀ z, z < a → μ2.1 z = μ1.1 z) (e2 : μ2.2 = μ1.2) : NW μ μ2 a n k := by
  obtain ⟨h1, h2, h3, h4⟩ := h
  rw [← e2] at h1 h2 h3 h4
  exact ⟨fun z hz => ⟨(e z hz).trans (h1 z hz).1, (h1 z hz).2⟩, h2, h3, h4⟩
