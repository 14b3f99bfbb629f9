/-- a whole row changed -/
def stF (F : Nat → Nat → Int32) (a : Nat) (f : Nat → Int32) : Nat → Nat → Int32 := fun b => if b = a then f else F b
theorem up2_stF (F : Nat → Nat → Int32) (a j : Nat) (x : Int32) : up2 F a j x = stF F a (upd (F a) j x) := by
  funext b k
  unfold up2 stF upd
  by_cases hb : b = a
  · subst hb; simp
  · simp [hb]
theorem stF_at (F : Nat → Nat → Int32) (a : Nat) (f : Nat → Int32) : stF F a f a = f := by simp [stF]
def iB (p : Prop) [Decidable p] : Int32 := if p then 1 else 0
theorem iB_eq0 (p : Prop) [Decidable p] : iB p = 0 ↔ ¬ p := by unfold iB; by_cases h : p <;> simp [h]
theorem iB_01 (p : Prop) [Decidable p] : iB p = 0 ∨ iB p = 1 := by unfold iB; by_cases h : p <;> simp [h]
theorem iM1 : Int32.ofInt (-1) = -1 := rfl
/-- the parts of a state's number -/
def prt (n w : Nat) : Nat := match w with
  | 0 => n % 32
  | 1 => n / 32 % 32
  | 2 => n / 1024 % 4
  | _ => n / 4096
def pkN (x y k h : Nat) : Nat := x + 32 * (y + 32 * (k + 4 * h))
theorem z_nI : (0 : Int32) = nI 0 := nI_0.symm
theorem inc_tv (i : Nat) : (some (.inl (nI i + Int32.ofInt 1)) : Option TV) = some (.inl (nI (i + 1))) := by
  rw [nI_succ]
  rfl
def aI (x : Int32) : Int32 := if x < 0 then -x else x
