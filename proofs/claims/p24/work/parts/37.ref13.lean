theorem upd_upd (f : Nat → Int32) (k : Nat) (v w : Int32) : upd (upd f k v) k w = upd f k w := by
  funext z
  by_cases hz : z = k
  · subst hz
    rw [upd_eq, upd_eq]
  · rw [upd_ne _ _ hz, upd_ne _ _ hz, upd_ne _ _ hz]
theorem upd_self (f : Nat → Int32) (k : Nat) : upd f k (f k) = f := by
  funext z
  by_cases hz : z = k
  · subst hz
    rw [upd_eq]
  · rw [upd_ne _ _ hz]
