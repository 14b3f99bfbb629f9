/-! For the methods without loops; numbers. -/
def noI : Nat → Nat → LC → List TV → MM → Nat → Nat → Prop := fun _ _ _ _ _ _ _ => False
def noK : Nat → LC → List TV → MM → Nat → Nat → Prop := fun pc lc st μ ce sl => ∃ n lc', subL lc' lc ∧ noI n pc lc' st μ ce sl
/-- the entry of a method without loops -/
def VC0 (ot : OT) (ci : CI) (code : List Ent) (ct : List (Nat × CI)) (hn : List (Nat × Nat × Nat × Nat)) (rz : Bool) (fuel : Nat) (As : List TV) (μ : MM) (K : OC → MM → Prop) : Prop :=
  vc KT ot code ct hn (ci.2.2.2.2.2.1.2.1, ci.2.2.2.2.2.1.2.2.1) rz μ.2.2.2.2 (exO ci.2.2.2.2.2.2.1 As) [] noK K fuel code (padL ci.2.2.1 (entL As)) [] μ 0 0
theorem ms0_of {g : GPT} {ot : OT} {l : Launch} (hl : l.stackTraces = false) {ci : CI} (own : String) (code : List Ent) (ct : List (Nat × CI)) (hn : List (Nat × Nat × Nat × Nat)) (rz ini : Bool) (fuel : Nat)
    (hck : chkM ci own code ct hn rz ini = true) (hM : ∀ q ∈ ct, MS g ot l q.2)
    (h : ∀ (As : List TV) (μ : MM) (K : OC → MM → Prop), ci.2.2.2.2.2.2.2.2 As μ K → (entL As).length ≤ ci.2.2.1 ∧ VC0 ot ci code ct hn rz fuel As μ K) : MS g ot l ci :=
  ms_of hl own code ct hn rz ini [] fuel hck hM fun As μ K hs => ⟨(h As μ K hs).1, noI, (h As μ K hs).2, fun _ _ _ _ _ _ _ h => h.elim⟩
theorem iL (n : Nat) : Int32.ofInt (no_index (OfNat.ofNat n : Int)) = nI n := rfl
theorem nI_mul (a b : Nat) : nI a * nI b = nI (a * b) := (Int32.ofNat_mul a b).symm
theorem nI_add1 (a : Nat) : nI a + 1 = nI (a + 1) := (nI_succ a).symm
theorem nI_inj {a b : Nat} (ha : a < 2 ^ 31) (hb : b < 2 ^ 31) (h : nI a = nI b) : a = b := by
  have h1 := nI_toInt ha
  have h2 := nI_toInt hb
  rw [h] at h1
  omega
theorem nI_lt_iff {a b : Nat} (ha : a < 2 ^ 31) (hb : b < 2 ^ 31) : nI a < nI b ↔ a < b := by
  rw [Int32.lt_iff_toInt_lt, nI_toInt ha, nI_toInt hb]
  omega
theorem nI_le_iff {a b : Nat} (ha : a < 2 ^ 31) (hb : b < 2 ^ 31) : nI a ≤ nI b ↔ a ≤ b := by
  rw [Int32.le_iff_toInt_le, nI_toInt ha, nI_toInt hb]
  omega
theorem nI_eq_iff {a b : Nat} (ha : a < 2 ^ 31) (hb : b < 2 ^ 31) : nI a = nI b ↔ a = b := ⟨nI_inj ha hb, fun h => by rw [h]⟩
