/-! THE REFERENCE launches a packet. -/
def lauF5 (f : Nat → Int32) (i : Nat) (b : Int32) (n : Nat) : Nat → Int32 :=
  upd (upd (upd (upd (upd f (51 + 2406 * i + 7) (f (51 + 2406 * i + 7) + 1)) (51 + 2406 * i + 65) (f (51 + 2406 * i + 65) + 1)) (51 + 2406 * i + 8) (f (51 + 2406 * i + 8) + 1)) (51 + 2406 * i + 9) (f (51 + 2406 * i + 9) + b)) (51 + 2406 * i + 15) (f (51 + 2406 * i + 15) + nI n)
def lauF7 (f : Nat → Int32) (i : Nat) (b : Int32) (n : Nat) (x5 x10 : Int32) : Nat → Int32 := upd (upd (lauF5 f i b n) (51 + 2406 * i + 5) x5) (51 + 2406 * i + 10) x10
def lauF9 (f : Nat → Int32) (i a : Nat) (b : Int32) (n : Nat) (x5 x10 : Int32) : Nat → Int32 := upd (upd (lauF7 f i b n x5 x10) (a + 0) (f (51 + 2406 * i + 7) + 1)) (a + 2) (f 0)
def lauF (f : Nat → Int32) (i a : Nat) (b : Int32) (n : Nat) (x5 x10 x3 : Int32) : Nat → Int32 := upd (upd (lauF9 f i a b n x5 x10) (a + 3) x3) (a + 4) 1
theorem stF_rW (μ : MM) (r : Nat) (f g : Nat → Int32) : ((stF (rW μ r f).1 (r + 1) g, (rW μ r f).2) : MM) = rW μ r g := by
  unfold rW
  rw [stF_stF]
theorem lauF_ne (f : Nat → Int32) (i a : Nat) (b : Int32) (n : Nat) (x5 x10 x3 : Int32) {z : Nat} (h : ¬ z = 51 + 2406 * i + 5 ∧ ¬ z = 51 + 2406 * i + 7 ∧ ¬ z = 51 + 2406 * i + 8 ∧ ¬ z = 51 + 2406 * i + 9 ∧ ¬ z = 51 + 2406 * i + 10 ∧ ¬ z = 51 + 2406 * i + 15 ∧ ¬ z = 51 + 2406 * i + 65 ∧ ¬ z = a + 0 ∧ ¬ z = a + 2 ∧ ¬ z = a + 3 ∧ ¬ z = a + 4) : lauF f i a b n x5 x10 x3 z = f z := by
  unfold lauF lauF9 lauF7 lauF5
  obtain ⟨h1, h2, h3, h4, h5, h6, h7, h8, h9, h10, h11⟩ := h
  rw [upd_ne _ _ h11, upd_ne _ _ h10, upd_ne _ _ h9, upd_ne _ _ h8, upd_ne _ _ h5, upd_ne _ _ h1, upd_ne _ _ h6, upd_ne _ _ h4, upd_ne _ _ h3, upd_ne _ _ h7, upd_ne _ _ h2]
theorem lau_RC {f : Nat → Int32} {i a : Nat} {X : CS} {b : Int32} {ens : List EN} (hX : RC f i X) (ha : a = 51 + 2406 * i + (66 + 86 * (cP X).length)) (hl : (cP X).length ≤ 21) (hb : f (a + 1) = b) (hn : f (a + 5) = nI ens.length) (hlen : ens.length ≤ 16) (hens : ∀ (j : Nat) (en : EN), ens[j]? = some en → ∀ k, k < 5 → f (a + 6 + 5 * j + k) = en k) (x5 x10 x3 : Int32)
    (hx : (0 < cS X 5 ∧ x5 = cS X 5 + -1 ∧ x10 = cS X 10 + 1 ∧ x3 = 0) ∨ (¬ 0 < cS X 5 ∧ x5 = cS X 5 ∧ x10 = cS X 10 ∧ x3 = f 0 + f 1)) : RC (lauF f i a b ens.length x5 x10 x3) i (lau (f 0) (f 1) (b, ens, X)) := by
  obtain ⟨h1, h2, h3, h4, h5⟩ := hX
  refine ⟨fun k hk => ?_, RA.keep h2 fun z z1 z2 => lauF_ne _ _ _ _ _ _ _ _ (by omega), ⟨?_, ?_, fun j p hp => ?_⟩, RB.keep h4 fun z z1 z2 => lauF_ne _ _ _ _ _ _ _ _ (by omega), RD.keep h5 fun z z1 z2 => lauF_ne _ _ _ _ _ _ _ _ (by omega)⟩
  · show lauF f i a b ens.length x5 x10 x3 (51 + 2406 * i + k) = lauS b ens.length X k
    have hs := h1 k hk
    have c : k = 5 ∨ k = 7 ∨ k = 8 ∨ k = 9 ∨ k = 10 ∨ k = 15 ∨ (¬ k = 5 ∧ ¬ k = 7 ∧ ¬ k = 8 ∧ ¬ k = 9 ∧ ¬ k = 10 ∧ ¬ k = 15) := by omega
    rcases c with rfl | rfl | rfl | rfl | rfl | rfl | c
    · unfold lauF lauF9 lauF7 lauF5
      simp (disch := omega) only [upd_ne, upd_eq]
      show x5 = (if 0 < cS X 5 then cS X 5 + -1 else cS X 5)
      rcases hx with ⟨g, e, _⟩ | ⟨g, e, _⟩
      · rw [if_pos g, e]
      · rw [if_neg g, e]
    · unfold lauF lauF9 lauF7 lauF5
      simp (disch := omega) only [upd_ne, upd_eq]
      rw [hs]
      rfl
    · unfold lauF lauF9 lauF7 lauF5
      simp (disch := omega) only [upd_ne, upd_eq]
      rw [hs]
      rfl
    · unfold lauF lauF9 lauF7 lauF5
      simp (disch := omega) only [upd_ne, upd_eq]
      rw [hs]
      rfl
    · unfold lauF lauF9 lauF7 lauF5
      simp (disch := omega) only [upd_ne, upd_eq]
      show x10 = (if 0 < cS X 5 then cS X 10 + 1 else cS X 10)
      rcases hx with ⟨g, _, e, _⟩ | ⟨g, _, e, _⟩
      · rw [if_pos g, e]
      · rw [if_neg g, e]
    · unfold lauF lauF9 lauF7 lauF5
      simp (disch := omega) only [upd_ne, upd_eq]
      rw [hs]
      rfl
    · rw [lauF_ne _ _ _ _ _ _ _ _ (by omega), hs]
      unfold lauS
      split
      · omega
      · omega
      · omega
      · omega
      · omega
      · omega
      · rfl
  · show lauF f i a b ens.length x5 x10 x3 _ = nI (cP X ++ [(hdr (f 0) (f 1) b X, ens)]).length
    unfold lauF lauF9 lauF7 lauF5
    simp (disch := omega) only [upd_ne, upd_eq]
    rw [h3.1, List.length_append]
    exact nI_add _ 1
  · show (cP X ++ [(hdr (f 0) (f 1) b X, ens)]).length ≤ 22
    rw [List.length_append]
    show (cP X).length + 1 ≤ 22
    omega
  · have hp : (cP X ++ [(hdr (f 0) (f 1) b X, ens)])[j]? = some p := hp
    by_cases hj : j < (cP X).length
    · rw [List.getElem?_append_left hj] at hp
      exact (h3.2.2 j p hp).keep fun z z1 z2 => lauF_ne _ _ _ _ _ _ _ _ (by omega)
    · have hj2 : j < (cP X ++ [(hdr (f 0) (f 1) b X, ens)]).length := (List.getElem?_eq_some_iff.mp hp).1
      rw [List.length_append] at hj2
      have hj2 : j < (cP X).length + 1 := hj2
      obtain rfl : j = (cP X).length := by omega
      rw [List.getElem?_append_right (Nat.le_refl _), Nat.sub_self] at hp
      cases hp
      rw [← ha]
      have s7 := h1 7 (by omega)
      refine ⟨fun k hk => ?_, ?_, hlen, fun j en hj k hk => ?_⟩
      · show lauF f i a b ens.length x5 x10 x3 (a + k) = hdr (f 0) (f 1) b X k
        have c : k = 0 ∨ k = 1 ∨ k = 2 ∨ k = 3 ∨ k = 4 := by omega
        rcases c with rfl | rfl | rfl | rfl | rfl
        · unfold lauF lauF9 lauF7 lauF5
          simp (disch := omega) only [upd_ne, upd_eq]
          rw [s7]
          rfl
        · rw [lauF_ne _ _ _ _ _ _ _ _ (by omega), hb]
          rfl
        · unfold lauF lauF9 lauF7 lauF5
          simp (disch := omega) only [upd_ne, upd_eq]
          rfl
        · unfold lauF lauF9 lauF7 lauF5
          simp (disch := omega) only [upd_ne, upd_eq]
          show x3 = (if 0 < cS X 5 then 0 else f 0 + f 1)
          rcases hx with ⟨g, _, _, e⟩ | ⟨g, _, _, e⟩
          · rw [if_pos g, e]
          · rw [if_neg g, e]
        · unfold lauF lauF9 lauF7 lauF5
          simp (disch := omega) only [upd_ne, upd_eq]
          rfl
      · rw [lauF_ne _ _ _ _ _ _ _ _ (by omega)]
        exact hn
      · have hj3 : j < ens.length := (List.getElem?_eq_some_iff.mp hj).1
        rw [lauF_ne _ _ _ _ _ _ _ _ (by omega)]
        exact hens j en hj k hk
def sp_X10_launch : SPc := fun As μ K => match As with
  | [.inr (.inr (20, r)), .inl c, .inl a'] => ∃ (i a : Nat) (X : CS) (b : Int32) (ens : List EN), c = nI i ∧ a' = nI a ∧ i < 3 ∧ RC (μ.1 (r + 1)) i X ∧ a = 51 + 2406 * i + (66 + 86 * (cP X).length) ∧ (cP X).length ≤ 21 ∧ μ.1 (r + 1) (a + 1) = b ∧ μ.1 (r + 1) (a + 5) = nI ens.length ∧ ens.length ≤ 16 ∧ (∀ (j : Nat) (en : EN), ens[j]? = some en → ∀ k, k < 5 → μ.1 (r + 1) (a + 6 + 5 * j + k) = en k) ∧ RU μ r i (lau (μ.1 (r + 1) 0) (μ.1 (r + 1) 1) (b, ens, X)) (K (.inl none))
  | _ => False
def laL (r i a : Nat) (x : Int32) : LC := [some (.inr (.inr (20, r))), some (.inl (nI i)), some (.inl (nI a)), some (.inl x)]
def ct_X10_launch : List (Nat × CI) := [(115, ci_X10_add), (80, ci_X10_of)]
def ci_X10_launch : CI := (yX10_launch, cX10_launch, 4, none, 3, (2, 0, 0, 44), 19, [], sp_X10_launch)
set_option maxRecDepth 100000 in
theorem ck_X10_launch : chkM ci_X10_launch RX10 co_X10_launch ct_X10_launch [] false false = true := by decide +kernel
set_option maxHeartbeats 4000000 in
set_option maxRecDepth 100000 in
theorem ms_X10_launch {g : GPT} {ot : OT} {l : Launch} (hl : l.stackTraces = false) : MS g ot l ci_X10_launch := by
  refine ms_of hl RX10 co_X10_launch ct_X10_launch [] false false [69,100,129] 114 ck_X10_launch (List.forall_mem_cons.mpr ⟨ms_X10_add hl, List.forall_mem_cons.mpr ⟨ms_X10_of hl, fun _ h => nomatch h⟩⟩) ?_
  intro As μ K h
  simp only [ci_X10_launch, sp_X10_launch] at h
  split at h
  case h_2 => exact h.elim
  rename_i r c a'
  obtain ⟨i, a, X, b, ens, rfl, rfl, hi, hX, ha, hl, hb, hn, hlen, hens, h⟩ := h
  have s5 : μ.1 (r + 1) (51 + 2406 * i + 5) = cS X 5 := hX.1 5 (by omega)
  have s10 : μ.1 (r + 1) (51 + 2406 * i + 10) = cS X 10 := hX.1 10 (by omega)
  have fin : ∀ x5 x10 x3 : Int32, ((0 < cS X 5 ∧ x5 = cS X 5 + -1 ∧ x10 = cS X 10 + 1 ∧ x3 = 0) ∨ (¬ 0 < cS X 5 ∧ x5 = cS X 5 ∧ x10 = cS X 10 ∧ x3 = μ.1 (r + 1) 0 + μ.1 (r + 1) 1)) → K (.inl none) (rW μ r (lauF (μ.1 (r + 1)) i a b ens.length x5 x10 x3)) := fun x5 x10 x3 hx =>
    h _ (lau_RC hX ha hl hb hn hlen hens x5 x10 x3 hx) fun z hz => lauF_ne _ _ _ _ _ _ _ _ (by omega)
  have f5 : ∀ z, (¬ z = 51 + 2406 * i + 7 ∧ ¬ z = 51 + 2406 * i + 8 ∧ ¬ z = 51 + 2406 * i + 9 ∧ ¬ z = 51 + 2406 * i + 15 ∧ ¬ z = 51 + 2406 * i + 65) → lauF5 (μ.1 (r + 1)) i b ens.length z = μ.1 (r + 1) z := fun z ⟨h1, h2, h3, h4, h5⟩ => by
    unfold lauF5
    rw [upd_ne _ _ h4, upd_ne _ _ h3, upd_ne _ _ h2, upd_ne _ _ h5, upd_ne _ _ h1]
  have f7 : ∀ x5 x10 z, (¬ z = 51 + 2406 * i + 5 ∧ ¬ z = 51 + 2406 * i + 10 ∧ ¬ z = 51 + 2406 * i + 7 ∧ ¬ z = 51 + 2406 * i + 8 ∧ ¬ z = 51 + 2406 * i + 9 ∧ ¬ z = 51 + 2406 * i + 15 ∧ ¬ z = 51 + 2406 * i + 65) → lauF7 (μ.1 (r + 1)) i b ens.length x5 x10 z = μ.1 (r + 1) z := fun x5 x10 z ⟨h1, h2, h3⟩ => by
    unfold lauF7
    rw [upd_ne _ _ h2, upd_ne _ _ h1, f5 z h3]
  refine ⟨Nat.le_of_ble_eq_true rfl, fun m pc lc st μ' ce sl => (m = 3 ∧ pc = 69 ∧ lc = laL r i a (iB (0 < cS X 5)) ∧ st = [] ∧ μ' = rW μ r (lauF5 (μ.1 (r + 1)) i b ens.length) ∧ ce = 0 ∧ sl = 0) ∨
    (∃ x5 x10, ((0 < cS X 5 ∧ x5 = cS X 5 + -1 ∧ x10 = cS X 10 + 1) ∨ (¬ 0 < cS X 5 ∧ x5 = cS X 5 ∧ x10 = cS X 10)) ∧ m = 2 ∧ pc = 100 ∧ lc = laL r i a (iB (0 < cS X 5)) ∧ st = [] ∧ μ' = rW μ r (lauF7 (μ.1 (r + 1)) i b ens.length x5 x10) ∧ ce = 0 ∧ sl = 0) ∨
    (∃ x5 x10, ((0 < cS X 5 ∧ x5 = cS X 5 + -1 ∧ x10 = cS X 10 + 1) ∨ (¬ 0 < cS X 5 ∧ x5 = cS X 5 ∧ x10 = cS X 10)) ∧ m = 1 ∧ pc = 129 ∧ lc = laL r i a (iB (0 < cS X 5)) ∧ st = [] ∧ μ' = rW μ r (lauF9 (μ.1 (r + 1)) i a b ens.length x5 x10) ∧ ce = 0 ∧ sl = 0), ?_, ?_⟩
  · refine ⟨i, 7, rfl, rfl, by omega, i, 65, rfl, rfl, by omega, i, 8, rfl, rfl, by omega, _, nI_add _ 1, by omega, i, 9, rfl, rfl, by omega, _, nI_add _ 5, by omega, i, 15, rfl, rfl, by omega, i, 5, rfl, rfl, by omega, fun h1 => ?_, fun h1 => ?_⟩
    · simp only [ifP, rW_rW, rW_at] at h1
      simp (disch := omega) only [upd_ne, upd_eq] at h1
      rw [s5] at h1
      refine ⟨3, laL r i a (iB (0 < cS X 5)), ⟨rfl, rfl, rfl, ?_, trivial⟩, Or.inl ⟨rfl, rfl, rfl, rfl, ?_, rfl, rfl⟩⟩
      · rw [iB_0 (Int32.not_lt.mpr h1)]
        rfl
      · simp only [rW_rW, rW_at]
        unfold lauF5
        simp (disch := omega) only [upd_ne, upd_eq, hb, hn]
        rfl
    · simp only [ifP, rW_rW, rW_at] at h1
      simp (disch := omega) only [upd_ne, upd_eq] at h1
      rw [s5] at h1
      refine ⟨3, laL r i a (iB (0 < cS X 5)), ⟨rfl, rfl, rfl, ?_, trivial⟩, Or.inl ⟨rfl, rfl, rfl, rfl, ?_, rfl, rfl⟩⟩
      · rw [iB_1 (Int32.not_le.mp h1)]
        rfl
      · simp only [rW_rW, rW_at]
        unfold lauF5
        simp (disch := omega) only [upd_ne, upd_eq, hb, hn]
        rfl
  · rintro m pc lc st μ' ce sl (⟨rfl, rfl, rfl, rfl, rfl, rfl, rfl⟩ | ⟨x5, x10, hx, rfl, rfl, rfl, rfl, rfl, rfl, rfl⟩ | ⟨x5, x10, hx, rfl, rfl, rfl, rfl, rfl, rfl, rfl⟩)
    · refine ⟨fun h1 => ⟨i, 5, rfl, rfl, by omega, fun h2 => ⟨i, 10, rfl, rfl, by omega, 2, laL r i a (iB (0 < cS X 5)), by omega, ⟨rfl, rfl, rfl, rfl, trivial⟩, Or.inr (Or.inl ⟨cS X 5, cS X 10, Or.inr ⟨(iB_eq0 _).mp h1, rfl, rfl⟩, rfl, rfl, rfl, rfl, ?_, rfl, rfl⟩)⟩, fun h2 => absurd h1 h2⟩, fun h1 => ⟨i, 5, rfl, rfl, by omega, fun h2 => absurd h2 h1, fun h2 => ⟨i, 10, rfl, rfl, by omega, 2, laL r i a (iB (0 < cS X 5)), by omega, ⟨rfl, rfl, rfl, rfl, trivial⟩, Or.inr (Or.inl ⟨cS X 5 + -1, cS X 10 + 1, Or.inl ⟨(iB_ne0 _).mp h1, rfl, rfl⟩, rfl, rfl, rfl, rfl, ?_, rfl, rfl⟩)⟩⟩⟩
      · simp only [rW_rW, rW_at]
        rw [upd_ne _ _ (by omega), f5 _ (by omega), f5 _ (by omega), s5, s10]
        unfold lauF7
        have e : ∀ x : Int32, x + Int32.ofInt 0 = x := fun x => Int32.add_zero x
        rw [e, e]
      · simp only [rW_rW, rW_at]
        rw [upd_ne _ _ (by omega), f5 _ (by omega), f5 _ (by omega), s5, s10]
        rfl
    · refine ⟨i, 7, rfl, rfl, by omega, _, nI_add _ 0, by omega, 0, rfl, by omega, _, nI_add _ 2, by omega, 1, laL r i a (iB (0 < cS X 5)), by omega, ⟨rfl, rfl, rfl, rfl, trivial⟩, Or.inr (Or.inr ⟨x5, x10, hx, rfl, rfl, rfl, rfl, ?_, rfl, rfl⟩)⟩
      simp only [up2_stF, stF_stF, stF_at, rW_at, stF_rW]
      rw [upd_ne (k := 0) _ _ (by omega), f7 x5 x10 0 (by omega)]
      have e : lauF7 (μ.1 (r + 1)) i b ens.length x5 x10 (51 + 2406 * i + 7) = μ.1 (r + 1) (51 + 2406 * i + 7) + 1 := by
        unfold lauF7 lauF5
        simp (disch := omega) only [upd_ne, upd_eq]
      rw [e]
      rfl
    · have f9 : ∀ z, (z = 0 ∨ z = 1) → lauF9 (μ.1 (r + 1)) i a b ens.length x5 x10 z = μ.1 (r + 1) z := fun z hz => by
        unfold lauF9
        rw [upd_ne _ _ (by omega), upd_ne _ _ (by omega), f7 _ _ _ (by omega)]
      refine ⟨fun h1 => ⟨0, rfl, by omega, 1, rfl, by omega, _, nI_add _ 3, by omega, _, nI_add _ 4, by omega, ?_⟩, fun h1 => ⟨_, nI_add _ 3, by omega, _, nI_add _ 4, by omega, ?_⟩⟩
      · have g : ¬ 0 < cS X 5 := (iB_eq0 _).mp h1
        have := fin x5 x10 (μ.1 (r + 1) 0 + μ.1 (r + 1) 1) (Or.inr ⟨g, (hx.resolve_left fun q => g q.1).2.1, (hx.resolve_left fun q => g q.1).2.2, rfl⟩)
        rw [← f9 0 (Or.inl rfl), ← f9 1 (Or.inr rfl)] at this
        show K _ (up2 (up2 (rW μ r (lauF9 (μ.1 (r + 1)) i a b ens.length x5 x10)).1 (r + 1) (a + 3) ((rW μ r (lauF9 (μ.1 (r + 1)) i a b ens.length x5 x10)).1 (r + 1) 0 + (rW μ r (lauF9 (μ.1 (r + 1)) i a b ens.length x5 x10)).1 (r + 1) 1)) (r + 1) (a + 4) (Int32.ofInt 1), (rW μ r (lauF9 (μ.1 (r + 1)) i a b ens.length x5 x10)).2)
        simp only [up2_stF, stF_stF, stF_at, rW_at, stF_rW]
        exact this
      · have g : 0 < cS X 5 := (iB_ne0 _).mp h1
        have g2 : ¬ ¬ 0 < cS X 5 := fun q => q g
        have := fin x5 x10 0 (Or.inl ⟨g, (hx.resolve_right fun q => g2 q.1).2.1, (hx.resolve_right fun q => g2 q.1).2.2, rfl⟩)
        show K _ (up2 (up2 (rW μ r (lauF9 (μ.1 (r + 1)) i a b ens.length x5 x10)).1 (r + 1) (a + 3) (Int32.ofInt 0)) (r + 1) (a + 4) (Int32.ofInt 1), (rW μ r (lauF9 (μ.1 (r + 1)) i a b ens.length x5 x10)).2)
        simp only [up2_stF, stF_stF, stF_at, rW_at, stF_rW]
        exact this
