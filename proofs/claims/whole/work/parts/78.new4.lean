/-! THE CONSTRUCTOR of the reference. -/
def mzL (k a : Nat) : LC := [some (.inr (.inr (k, a))), none]
def mzI (a k : Nat) : LC := [some (.inr (.inr (20, a))), some (.inl (nI k))]
def mzP (j : Nat) : Nat := if j < 4 then 13 + 9 * j else 48
def mzK (j : Nat) : Nat := if j < 4 then 50 + j else 20
def mzS (j : Nat) : Nat := if j < 4 then 7269 * (j + 1) else 29092
def MZ (μ' : MM) (a : Nat) : Prop := ∀ e, μ'.1 a e = 0 ∧ μ'.1 (a + 1) e = 0
theorem MZ.arr {μ : MM} {a : Nat} (h : MZ μ a) (hz : a + 2 ≤ μ.2.2.2.2) (ka k1 : Nat) : MZ (mA μ a ka k1) a := fun e => by
  rw [mA_o _ _ _ _ (by omega), mA_o _ _ _ _ (by omega)]
  exact h e
def RWk (f : Nat → Int32) (k : Nat) : Prop := (∀ j, j < 3 → f j = wt0 j) ∧ ∀ e, e < 16 → f (3 + 3 * e) = (if e < k then -1 else 0) ∧ f (3 + 3 * e + 1) = 0 ∧ f (3 + 3 * e + 2) = 0
def RWc (f : Nat → Int32) (k : Nat) : Prop := RWk f 16 ∧ ∀ c, c < k → RC f c cs0
theorem NW.w {μ μ1 μ2 : MM} {a n k : Nat} (h : NW μ μ1 a n k) (e : ∀ z, z < a → μ2.1 z = μ1.1 z) (e2 : μ2.2 = μ1.2) : NW μ μ2 a n k := by
  obtain ⟨h1, h2, h3, h4⟩ := h
  rw [← e2] at h1 h2 h3 h4
  exact ⟨fun z hz => ⟨(e z hz).trans (h1 z hz).1, (h1 z hz).2⟩, h2, h3, h4⟩
def sp_X10_init : SPc := fun As μ K => match As with
  | [.inr (.inr (49, a))] => FR0 μ a ∧ ∀ μ', REF μ' a W00 [] → NW μ μ' a 6 20 → K (.inl none) μ'
  | _ => False
def ct_X10_init : List (Nat × CI) := [(26, ci_X10_clear)]
def ci_X10_init : CI := (yX10_init, cX10_init, 2, none, 1, (3, 5, 29092, 64), 2, [], sp_X10_init)
set_option maxRecDepth 100000 in
theorem ck_X10_init : chkM ci_X10_init RX10 co_X10_init ct_X10_init [] false true = true := by decide +kernel
set_option maxHeartbeats 4000000 in
set_option maxRecDepth 100000 in
theorem ms_X10_init {g : GPT} {ot : OT} {l : Launch} (hl : l.stackTraces = false) : MS g ot l ci_X10_init := by
  refine ms_of hl RX10 co_X10_init ct_X10_init [] false true [13,22,31,40,48,64,89] 64 ck_X10_init (List.forall_mem_cons.mpr ⟨ms_X10_clear hl, fun _ h => nomatch h⟩) ?_
  intro As μ K h
  simp only [ci_X10_init, sp_X10_init] at h
  split at h
  case h_2 => exact h.elim
  rename_i a
  obtain ⟨⟨hz, h0⟩, h⟩ := h
  refine ⟨Nat.le_of_ble_eq_true rfl, fun m pc lc st μ' ce sl => (∃ j, j < 5 ∧ m = 100 - j ∧ pc = mzP j ∧ lc = mzL (mzK j) a ∧ st = [] ∧ NW μ μ' a (2 + j) (mzK j) ∧ MZ μ' a ∧ ce = 1 + j ∧ sl = mzS j) ∨ (∃ k, k ≤ 16 ∧ m = 50 - k ∧ pc = 64 ∧ lc = mzI a k ∧ st = [] ∧ NW μ μ' a 6 20 ∧ μ'.1 a 4 = 0 ∧ RWk (μ'.1 (a + 1)) k ∧ ce = 5 ∧ sl = 29092) ∨ (∃ k, k ≤ 3 ∧ m = 20 - k ∧ pc = 89 ∧ lc = mzI a k ∧ st = [] ∧ NW μ μ' a 6 20 ∧ μ'.1 a 4 = 0 ∧ RWc (μ'.1 (a + 1)) k ∧ ce = 5 ∧ sl = 29092), ?_, ?_⟩
  · refine ⟨rfl, by decide, rfl, hz, Or.inl rfl, 100, mzL 50 a, ⟨rfl, trivial⟩, Or.inl ⟨0, by omega, rfl, rfl, rfl, rfl, (NW.own' hz).arr (by decide) 5 50, fun e => ⟨?_, ?_⟩, rfl, rfl⟩⟩
    · show (mA μ a 5 50).1 a e = 0
      rw [mA_o _ _ _ _ (by omega)]
      exact h0 e
    · exact mA_n μ a 5 50 hz.symm e
  · rintro m pc lc st μ' ce sl (⟨j, hj, rfl, rfl, rfl, rfl, hn, hm, rfl, rfl⟩ | ⟨k, hk, rfl, rfl, rfl, rfl, hn, h4, hw, rfl, rfl⟩ | ⟨k, hk, rfl, rfl, rfl, rfl, hn, h4, hw, rfl, rfl⟩)
    · have hs := hn.2.1
      have : j = 0 ∨ j = 1 ∨ j = 2 ∨ j = 3 ∨ j = 4 := by omega
      rcases this with rfl | rfl | rfl | rfl | rfl
      · exact ⟨rfl, by decide, rfl, hs, Or.inl rfl, 99, mzL 51 a, by omega, ⟨rfl, trivial⟩, Or.inl ⟨1, by omega, rfl, rfl, rfl, rfl, hn.arr (by decide) 5 51, hm.arr (by omega) 5 51, rfl, rfl⟩⟩
      · exact ⟨rfl, by decide, rfl, hs, Or.inl rfl, 98, mzL 52 a, by omega, ⟨rfl, trivial⟩, Or.inl ⟨2, by omega, rfl, rfl, rfl, rfl, hn.arr (by decide) 5 52, hm.arr (by omega) 5 52, rfl, rfl⟩⟩
      · exact ⟨rfl, by decide, rfl, hs, Or.inl rfl, 97, mzL 53 a, by omega, ⟨rfl, trivial⟩, Or.inl ⟨3, by omega, rfl, rfl, rfl, rfl, hn.arr (by decide) 5 53, hm.arr (by omega) 5 53, rfl, rfl⟩⟩
      · exact ⟨rfl, by decide, rfl, hs, Or.inl rfl, 96, mzL 20 a, by omega, ⟨rfl, trivial⟩, Or.inl ⟨4, by omega, rfl, rfl, rfl, rfl, hn.arr (by decide) 6 20, hm.arr (by omega) 6 20, rfl, rfl⟩⟩
      · refine ⟨1, rfl, by decide, 2, rfl, by decide, 50, mzI a 0, by omega, ⟨rfl, rfl, trivial⟩, Or.inr (Or.inl ⟨0, Nat.zero_le _, rfl, rfl, rfl, rfl, hn.w (fun z hz => ?_) rfl, ?_, ⟨fun j hj => ?_, fun e he => ⟨?_, ?_, ?_⟩⟩, rfl, rfl⟩)⟩
        · dsimp only
          rw [u2_ne _ _ (by omega), u2_ne _ _ (by omega)]
        · dsimp only
          rw [u2_ne _ _ (by omega), u2_ne _ _ (by omega)]
          exact (hm 4).1
        · have : j = 0 ∨ j = 1 ∨ j = 2 := by omega
          rcases this with rfl | rfl | rfl
          · dsimp only
            rw [u2_nj _ _ (by omega), u2_nj _ _ (by omega)]
            exact (hm 0).2
          · dsimp only
            rw [u2_nj _ _ (by omega), u2_eq]
            rfl
          · dsimp only
            rw [u2_eq]
            rfl
        · dsimp only
          rw [u2_nj _ _ (by omega), u2_nj _ _ (by omega), if_neg (Nat.not_lt_zero _)]
          exact (hm _).2
        · dsimp only
          rw [u2_nj _ _ (by omega), u2_nj _ _ (by omega)]
          exact (hm _).2
        · dsimp only
          rw [u2_nj _ _ (by omega), u2_nj _ _ (by omega)]
          exact (hm _).2
    · refine ⟨fun q => ?_, fun q => ?_⟩
      · simp only [icP, ifP, iL, iM1] at q
        try simp only [z_nI] at q
        try simp only [nI_add, nI_mul] at q
        first | rw [nI_le_iff (by omega) (by omega)] at q | rw [nI_lt_iff (by omega) (by omega)] at q | rw [nI_eq_iff (by omega) (by omega)] at q
        obtain rfl : k = 16 := by omega
        exact ⟨20, mzI a 0, by omega, ⟨rfl, rfl, trivial⟩, Or.inr (Or.inr ⟨0, Nat.zero_le _, rfl, rfl, rfl, rfl, hn, h4, ⟨hw, fun c hc => absurd hc (Nat.not_lt_zero _)⟩, rfl, rfl⟩)⟩
      · simp only [icP, ifP, iL, iM1] at q
        try simp only [z_nI] at q
        try simp only [nI_add, nI_mul] at q
        first | rw [nI_le_iff (by omega) (by omega)] at q | rw [nI_lt_iff (by omega) (by omega)] at q | rw [nI_eq_iff (by omega) (by omega)] at q
        refine ⟨3 + 3 * k, ?_, by omega, 50 - (k + 1), mzI a (k + 1), by omega, ⟨rfl, inc_tv k, trivial⟩, Or.inr (Or.inl ⟨k + 1, by omega, rfl, rfl, rfl, rfl, hn.w (fun z hz => ?_) rfl, ?_, ⟨fun j hj => ?_, fun e he => ⟨?_, ?_, ?_⟩⟩, rfl, rfl⟩)⟩
        · simp only [iL, nI_add, nI_mul]
        · dsimp only
          rw [u2_ne _ _ (by omega)]
        · dsimp only
          rw [u2_ne _ _ (by omega)]
          exact h4
        · dsimp only
          rw [u2_nj _ _ (by omega)]
          exact hw.1 j hj
        · dsimp only
          by_cases w : e = k
          · rw [w, u2_eq, if_pos (by omega)]
            rfl
          · rw [u2_nj _ _ (by omega), (hw.2 e he).1]
            by_cases w2 : e < k
            · rw [if_pos w2, if_pos (by omega)]
            · rw [if_neg w2, if_neg (by omega)]
        · dsimp only
          rw [u2_nj _ _ (by omega)]
          exact (hw.2 e he).2.1
        · dsimp only
          rw [u2_nj _ _ (by omega)]
          exact (hw.2 e he).2.2
    · refine ⟨fun q => ?_, fun q => ?_⟩
      · simp only [icP, ifP, iL, iM1] at q
        try simp only [z_nI] at q
        try simp only [nI_add, nI_mul] at q
        first | rw [nI_le_iff (by omega) (by omega)] at q | rw [nI_lt_iff (by omega) (by omega)] at q | rw [nI_eq_iff (by omega) (by omega)] at q
        obtain rfl : k = 3 := by omega
        obtain ⟨⟨t1, t2⟩, t3⟩ := hw
        refine h μ' ⟨⟨t1, fun e he k hk => ?_, t3⟩, Nat.zero_le _, h4, fun j V hj => by cases hj⟩ hn
        have : k = 0 ∨ k = 1 ∨ k = 2 := by omega
        rcases this with rfl | rfl | rfl
        · rw [show 3 + 3 * e + 0 = 3 + 3 * e from rfl, (t2 e he).1, if_pos he]
          rfl
        · exact (t2 e he).2.1
        · exact (t2 e he).2.2
      · simp only [icP, ifP, iL, iM1] at q
        try simp only [z_nI] at q
        try simp only [nI_add, nI_mul] at q
        first | rw [nI_le_iff (by omega) (by omega)] at q | rw [nI_lt_iff (by omega) (by omega)] at q | rw [nI_eq_iff (by omega) (by omega)] at q
        refine ⟨k, rfl, by omega, 20 - (k + 1), mzI a (k + 1), by omega, ⟨rfl, inc_tv k, trivial⟩, Or.inr (Or.inr ⟨k + 1, by omega, rfl, rfl, rfl, rfl, hn.w (fun z hz => ?_) rfl, ?_, ⟨⟨fun j hj => ?_, fun e he => ⟨?_, ?_, ?_⟩⟩, fun c hc => ?_⟩, rfl, rfl⟩)⟩
        · exact (rW_f μ' a _).1 z (Or.inl hz)
        · show (rW μ' a _).1 a 4 = 0
          rw [rW_ne _ _ _ (by omega)]
          exact h4
        · rw [rW_at, clr_o (by omega)]
          exact hw.1.1 j hj
        · rw [rW_at, clr_o (by omega)]
          exact (hw.1.2 e he).1
        · rw [rW_at, clr_o (by omega)]
          exact (hw.1.2 e he).2.1
        · rw [rW_at, clr_o (by omega)]
          exact (hw.1.2 e he).2.2
        · rw [rW_at]
          by_cases w : c = k
          · rw [w]
            exact clr_RC _ _
          · exact (hw.2 c (by omega)).keep fun z z1 z2 => clr_o (by omega)
