theorem raiN_P (X : CS) (E : Nat → Nat → Int32) : ∀ n, cP (raiN X E n) = cP X
  | 0 => rfl
  | n + 1 => raiN_P X E n
theorem raiN_A (X : CS) (E : Nat → Nat → Int32) : ∀ n, cA (raiN X E n) = cA X
  | 0 => rfl
  | n + 1 => raiN_A X E n
theorem raiN_S (X : CS) (E : Nat → Nat → Int32) : ∀ n, cS (raiN X E n) = cS X
  | 0 => rfl
  | n + 1 => raiN_S X E n
theorem raiN_R (X : CS) (E : Nat → Nat → Int32) : ∀ n, cR (raiN X E n) = cR X
  | 0 => rfl
  | n + 1 => raiN_R X E n
theorem raiN_B (X : CS) (E : Nat → Nat → Int32) (e k : Nat) (hk : ¬ k = 0) : ∀ n, cB (raiN X E n) e k = cB X e k
  | 0 => rfl
  | n + 1 => by
    show up2 (cB (raiN X E n)) n 0 _ e k = _
    unfold up2
    rw [if_neg fun q => hk q.2]
    exact raiN_B X E e k hk n
def mvE (E : Nat → Nat → Int32) (e k : Nat) : Int32 := if E e 0 = -1 then E e k else match k with
  | 0 => nI (mvS (mvS (sN (E e 0)) 0 (E e 1)) 1 (E e 2))
  | 1 => mvW (prt (sN (E e 0)) 0) (E e 1)
  | 2 => mvW (prt (mvS (sN (E e 0)) 0 (E e 1)) 1) (E e 2)
  | k => E e k
def tkA (W : WS) (c : Nat) : CS := arrC (wT W 0 + 1) (wT W 1) (wC W c)
def tkS (W : WS) (c : Nat) : CS := if cnn (tkA W c) then srv (wT W 0 + 1) (wT W 1) (wT W 2) (mvE (wE W)) (tkA W c) else tkA W c
def tk (W : WS) : WS := (upd (wT W) 0 (wT W 0 + 1), mvE (wE W), tkS W)
def eVK (E : Nat → Nat → Int32) : Prop := ∀ e, e < 16 → sOK (E e 0) ∧ vOK (E e 1) ∧ vOK (E e 2)
def TKP (W : WS) : Prop := eVK (wE W) ∧ ¬ wT W 2 = 0 ∧ ∀ c, c < 3 → eOK (wC W c) ∧ RI (wC W c) ∧ (cA (wC W c)).length + arN (wT W 0 + 1) (cP (wC W c)) ≤ 24 ∧ (∀ e, e < 16 → sOK (cB (tkA W c) e 2)) ∧ bitP (cP (tkA W c)) ∧ (flyN (cP (giv (wT W 0 + 1) (4 * wT W 1 + wT W 2) (tkA W c))) < 12 → (cP (giv (wT W 0 + 1) (4 * wT W 1 + wT W 2) (tkA W c))).length ≤ 21)
theorem mvE_ok {E : Nat → Nat → Int32} (h : eVK E) : eVK (mvE E) := fun e he => by
  obtain ⟨h1, h2, h3⟩ := h e he
  by_cases q : E e 0 = -1
  · have : ∀ k, mvE E e k = E e k := fun k => if_pos q
    rw [this, this, this]
    exact ⟨h1, h2, h3⟩
  · obtain ⟨n, n1, n2, n3⟩ := sOK_ne h1 q
    have e0 : mvE E e 0 = nI (mvS (mvS (sN (E e 0)) 0 (E e 1)) 1 (E e 2)) := if_neg q
    have e1 : mvE E e 1 = mvW (prt (sN (E e 0)) 0) (E e 1) := if_neg q
    have e2 : mvE E e 2 = mvW (prt (mvS (sN (E e 0)) 0 (E e 1)) 1) (E e 2) := if_neg q
    rw [e0, e1, e2, n3]
    exact ⟨Or.inr ⟨_, mvS_lt (mvS_lt n1 (by omega) h2) (by omega) h3, rfl⟩, (mv_ok (prt01 _ _ (by omega)) h2).2.2, (mv_ok (prt01 _ _ (by omega)) h3).2.2⟩
def toC (C D : Nat → CS) (k c : Nat) : CS := if c < k then D c else C c
theorem toC_0 (C D : Nat → CS) : toC C D 0 = C := by funext c; unfold toC; rw [if_neg (Nat.not_lt_zero _)]
theorem toC_at (C D : Nat → CS) (k : Nat) : toC C D k k = C k := if_neg (Nat.lt_irrefl _)
theorem toC_S (C D : Nat → CS) (k : Nat) : toC C D (k + 1) k = D k := if_pos (Nat.lt_succ_self _)
theorem toC_ne (C D : Nat → CS) {k c : Nat} (h : ¬ c = k) : toC C D (k + 1) c = toC C D k c := by
  unfold toC
  by_cases q : c < k
  · rw [if_pos q, if_pos (by omega)]
  · rw [if_neg q, if_neg (by omega)]
