theorem up2_at (F : Nat → Nat → Int32) (a j k : Nat) (x : Int32) : up2 F a j x a k = upd (F a) j x k := by
  rw [up2_stF, stF_at]
