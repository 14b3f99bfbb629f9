/-! THE REFERENCE sends a packet. -/
def tW (μ : MM) (r : Nat) (T : Nat → Int32) : MM := (stF μ.1 (r + 5) T, μ.2)
theorem tW_at (μ : MM) (r : Nat) (T : Nat → Int32) : (tW μ r T).1 (r + 5) = T := stF_at _ _ _
theorem tW_1 (μ : MM) (r : Nat) (T : Nat → Int32) : (tW μ r T).1 (r + 1) = μ.1 (r + 1) := stF_ne _ _ (by omega)
theorem tW_self (μ : MM) (r : Nat) : tW μ r (μ.1 (r + 5)) = μ := by
  unfold tW
  rw [stF_self]
theorem stF_comm (F : Nat → Nat → Int32) {a b : Nat} (f g : Nat → Int32) (h : ¬ a = b) : stF (stF F a f) b g = stF (stF F b g) a f := by
  funext z
  unfold stF
  by_cases h1 : z = b
  · by_cases h2 : z = a
    · exact absurd (h2.symm.trans h1) h
    · rw [if_pos h1, if_neg h2, if_pos h1]
  · by_cases h2 : z = a
    · rw [if_neg h1, if_pos h2, if_pos h2]
    · rw [if_neg h1, if_neg h2, if_neg h2, if_neg h1]
theorem tW_tW (μ : MM) (r : Nat) (T U : Nat → Int32) : tW (tW μ r T) r U = tW μ r U := by
  unfold tW
  rw [stF_stF]
theorem tW_rW (μ : MM) (r : Nat) (T f : Nat → Int32) : tW (rW μ r f) r T = rW (tW μ r T) r f := by
  show (stF (stF μ.1 (r + 1) f) (r + 5) T, μ.2) = (stF (stF μ.1 (r + 5) T) (r + 1) f, μ.2)
  rw [stF_comm _ _ _ (by omega)]
theorem rt_5 (μ : MM) (r : Nat) (T f : Nat → Int32) : (rW (tW μ r T) r f).1 (r + 5) = T := by
  rw [rW_ne _ _ _ (by omega), tW_at]
theorem up2_tW (μ : MM) (r j : Nat) (T f : Nat → Int32) (x : Int32) : ((up2 (rW (tW μ r T) r f).1 (r + 5) j x, (rW (tW μ r T) r f).2) : MM) = rW (tW μ r (upd T j x)) r f := by
  rw [up2_stF, rt_5]
  show tW (rW (tW μ r T) r f) r (upd T j x) = _
  rw [tW_rW, tW_tW]
