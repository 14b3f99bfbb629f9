theorem nn_nat {i : Int32} (h : 0 ≤ i) : ∃ j, j < 2 ^ 31 ∧ i = nI j ∧ sN i = j := by
  rw [Int32.le_iff_toInt_le] at h
  have z : (0 : Int32).toInt = 0 := rfl
  rw [z] at h
  have hb := Int32.toInt_lt i
  have e : i = nI i.toInt.toNat := by
    apply Int32.toInt_inj.mp
    rw [nI_toInt (by omega)]
    omega
  refine ⟨i.toInt.toNat, by omega, e, ?_⟩
  rw [e, sNi (by omega), nI_toInt (by omega)]
  omega
theorem flyA_some {X : CS} {i : Int32} {p : PK} (h : flyA X i = some p) : ∃ j, i = nI j ∧ j < 2 ^ 31 ∧ (flyL X)[j]? = some p := by
  unfold flyA at h
  by_cases q : 0 ≤ i
  · rw [if_pos q] at h
    obtain ⟨j, j1, j2, j3⟩ := nn_nat q
    rw [j3] at h
    exact ⟨j, j2, j1, h⟩
  · rw [if_neg q] at h
    cases h
theorem nI_0le {j : Nat} (h : j < 2 ^ 31) : (0 : Int32) ≤ nI j := by
  rw [z_nI, nI_le_iff (by omega) h]
  omega
theorem flyA_at {X : CS} {j : Nat} {p : PK} (h : (flyL X)[j]? = some p) (hj : j < 2 ^ 31) : flyA X (nI j) = some p := by
  unfold flyA
  rw [if_pos (nI_0le hj), sNi hj]
  exact h
theorem oPkt_1 {c i w : Int32} {W : WS} {U : List WS} (h : ¬ isC c) : oPkt c i w W U = (1, 0, W, U) := if_pos h
theorem oPkt_n {c i w : Int32} {W : WS} {U : List WS} (h : isC c) (g : flyA (wC W (sN c)) i = none) : oPkt c i w W U = (2, 0, W, U) := by
  unfold oPkt
  rw [if_neg (nn h), g]
theorem oPkt_r {c i w : Int32} {W : WS} {U : List WS} {p : PK} (h : isC c) (g : flyA (wC W (sN c)) i = some p) (q : ¬ inR 0 3 w) : oPkt c i w W U = (2, 0, W, U) := by
  unfold oPkt
  rw [if_neg (nn h), g]
  exact if_pos q
theorem oPkt_0 {c i w : Int32} {W : WS} {U : List WS} {p : PK} (h : isC c) (g : flyA (wC W (sN c)) i = some p) (q : inR 0 3 w) : oPkt c i w W U = (0, pkV (wT W 0) p (sN w), W, U) := by
  unfold oPkt
  rw [if_neg (nn h), g]
  exact if_neg (nn q)
/-- an entry by its index -/
def entA (p : PK) (j : Int32) : Option EN := if 0 ≤ j then p.2[sN j]? else none
theorem oEntry_1 {c i j w : Int32} {W : WS} {U : List WS} (h : ¬ isC c) : oEntry c i j w W U = (1, 0, W, U) := if_pos h
theorem oEntry_n {c i j w : Int32} {W : WS} {U : List WS} (h : isC c) (g : flyA (wC W (sN c)) i = none) : oEntry c i j w W U = (2, 0, W, U) := by
  unfold oEntry
  rw [if_neg (nn h), g]
theorem oEntry_e {c i j w : Int32} {W : WS} {U : List WS} {p : PK} (h : isC c) (g : flyA (wC W (sN c)) i = some p) (e : entA p j = none) : oEntry c i j w W U = (2, 0, W, U) := by
  unfold oEntry
  rw [if_neg (nn h), g]
  show (match entA p j with | none => _ | some en => _) = _
  rw [e]
theorem oEntry_r {c i j w : Int32} {W : WS} {U : List WS} {p : PK} {en : EN} (h : isC c) (g : flyA (wC W (sN c)) i = some p) (e : entA p j = some en) (q : ¬ inR 0 4 w) : oEntry c i j w W U = (2, 0, W, U) := by
  unfold oEntry
  rw [if_neg (nn h), g]
  show (match entA p j with | none => _ | some en => _) = _
  rw [e]
  exact if_pos q
theorem oEntry_0 {c i j w : Int32} {W : WS} {U : List WS} {p : PK} {en : EN} (h : isC c) (g : flyA (wC W (sN c)) i = some p) (e : entA p j = some en) (q : inR 0 4 w) : oEntry c i j w W U = (0, etV en (sN w), W, U) := by
  unfold oEntry
  rw [if_neg (nn h), g]
  show (match entA p j with | none => _ | some en => _) = _
  rw [e]
  exact if_neg (nn q)
/-- the range of an entry's index -/
theorem entA_in {p : PK} {j : Int32} (hl : p.2.length ≤ 16) (h : inR 0 (nI p.2.length - nI 1) j) : ∃ k en, j = nI k ∧ k < 16 ∧ p.2[k]? = some en ∧ entA p j = some en := by
  obtain ⟨k, k1, k2, k3⟩ := nn_nat h.1
  have hk : k < p.2.length := by
    have h2 := h.2
    by_cases q : p.2.length = 0
    · rw [q, k2, Int32.le_iff_toInt_le, nI_toInt k1] at h2
      have z : (nI 0 - nI 1).toInt = -1 := by decide
      rw [z] at h2
      omega
    · rw [nI_sub1 (by omega), k2, nI_le_iff k1 (by omega)] at h2
      omega
  obtain ⟨en, he⟩ := at_of_lt (l := p.2) hk
  refine ⟨k, en, k2, by omega, he, ?_⟩
  unfold entA
  rw [if_pos h.1, k3]
  exact he
theorem entA_out {p : PK} {j : Int32} (hl : p.2.length ≤ 16) (h : ¬ inR 0 (nI p.2.length - nI 1) j) : entA p j = none := by
  cases hq : entA p j with
  | none => rfl
  | some en =>
    exfalso
    unfold entA at hq
    by_cases q : 0 ≤ j
    · rw [if_pos q] at hq
      have hk : sN j < p.2.length := (List.getElem?_eq_some_iff.mp hq).1
      obtain ⟨k, k1, k2, k3⟩ := nn_nat q
      rw [k3] at hk
      refine h ⟨q, ?_⟩
      rw [nI_sub1 (by omega), k2, nI_le_iff k1 (by omega)]
      omega
    · rw [if_neg q] at hq
      cases hq
def dg0 (W : WS) (U : List WS) : Int64 := hs (hs (hs (hs (Int64.ofNat 18582) (nI U.length)) (wT W 0)) (wT W 1)) (wT W 2)
