/-! THE REFERENCE receives a packet. -/
def rOK (l : List (Int32 × Int32)) : Prop := l.Pairwise (fun p q => p.1 < q.1) ∧ ∀ q ∈ l, sOK q.2
theorem i_irr (a : Int32) : ¬ a < a := Int32.lt_irrefl
theorem rOK.ap {l : List (Int32 × Int32)} (h : rOK l) : apN l := fun i j p q hi hj he => by
  have hp := List.pairwise_iff_getElem.mp h.1
  obtain ⟨i1, i2⟩ := List.getElem?_eq_some_iff.mp hi
  obtain ⟨j1, j2⟩ := List.getElem?_eq_some_iff.mp hj
  by_cases c : i = j
  · exact c
  · exfalso
    by_cases d : i < j
    · have := hp i j i1 j1 d
      rw [i2, j2, he] at this
      exact i_irr _ this
    · have := hp j i j1 i1 (by omega)
      rw [i2, j2, he] at this
      exact i_irr _ this
theorem rOK.last {l : List (Int32 × Int32)} (h : rOK l) {q : Int32 × Int32} (hq : q ∈ l) : q.1 ≤ lastN l := by
  obtain ⟨i, hi⟩ := List.getElem?_of_mem hq
  obtain ⟨i1, i2⟩ := List.getElem?_eq_some_iff.mp hi
  obtain ⟨z, hz⟩ := at_of_lt (l := l) (k := l.length - 1) (by omega)
  rw [(last_at (by omega) hz).1]
  obtain ⟨z1, z2⟩ := List.getElem?_eq_some_iff.mp hz
  by_cases c : i = l.length - 1
  · subst c
    rw [i2] at z2
    rw [z2]
    exact Int32.le_refl _
  · have := List.pairwise_iff_getElem.mp h.1 i (l.length - 1) i1 z1 (by omega)
    rw [i2, z2] at this
    exact Int32.le_of_lt this
theorem rOK.add {l : List (Int32 × Int32)} (h : rOK l) {n s : Int32} (hn : lastN l < n) (hs : sOK s) : rOK (addRec l n s) := by
  have hd : rOK (if l.length = 12 then l.drop 1 else l) := by
    split
    · exact ⟨h.1.sublist (List.drop_sublist 1 l), fun q hq => h.2 q (List.mem_of_mem_drop hq)⟩
    · exact h
  have hm : ∀ q ∈ (if l.length = 12 then l.drop 1 else l), q ∈ l := fun q hq => by
    split at hq
    · exact List.mem_of_mem_drop hq
    · exact hq
  unfold addRec
  refine ⟨List.pairwise_append.mpr ⟨hd.1, List.pairwise_singleton _ _, fun p hp q hq => ?_⟩, fun q hq => ?_⟩
  · rw [List.mem_singleton.mp hq]
    exact Int32.lt_of_le_of_lt (h.last (hm p hp)) hn
  · rcases List.mem_append.mp hq with hq | hq
    · exact hd.2 q hq
    · rw [List.mem_singleton.mp hq]
      exact hs
theorem mxN_lt {a b m : Nat} (ha : a < 524288) (hb : b < 524288) : mxN a b m < 524288 := by
  have h0 : ∀ n, prt n 0 < 32 := fun n => by simp only [prt]; omega
  have h1 : ∀ n, prt n 1 < 32 := fun n => by simp only [prt]; omega
  have h2 : ∀ n, prt n 2 < 4 := fun n => by simp only [prt]; omega
  have h3 : ∀ n, n < 524288 → prt n 3 < 128 := fun n hn => by simp only [prt]; omega
  unfold mxN pkN
  have a0 := h0 (if m % 2 = 0 then a else b)
  have a1 := h1 (if m / 2 % 2 = 0 then a else b)
  have a2 := h2 (if m / 4 % 2 = 0 then a else b)
  have a3 := h3 (if m / 8 % 2 = 0 then a else b) (by split <;> assumption)
  omega
def RI (X : CS) : Prop := ∀ e, e < 16 → rOK (cR X e)
theorem up1_ne' {α : Type} (f : Nat → α) {a b : Nat} (v : α) (h : ¬ b = a) : up1 f a v b = f b := by unfold up1; rw [if_neg h]
theorem setR_RI {X : CS} (h : RI X) {e : Nat} {l : List (Int32 × Int32)} (hl : rOK l) : RI (setR X e l) := fun e' he' => by
  show rOK (up1 (cR X) e l e')
  by_cases c : e' = e
  · rw [c, up1_eq]; exact hl
  · rw [up1_ne' _ _ c]; exact h e' he'
theorem rcvE_RI {X : CS} (h : RI X) {en : EN} (hen : enOK en) (n : Int32) : RI (rcvE n X en) := by
  obtain ⟨o1, ⟨e, he, o2⟩, ⟨m, hm, o3⟩, o4, o5⟩ := hen
  have e0 := eN_of o2 he
  unfold rcvE
  rw [e0]
  split
  · exact h
  · next h1 =>
    have h1 := Int32.not_le.mp h1
    split
    · next h2 =>
      split
      · exact h
      · next h3 =>
        obtain ⟨b1, b2, b3, b4⟩ := sOK_ne (recS_ok (h e he).2 (en 2)) h3
        obtain ⟨c1, c2, c3⟩ := o5 (by rw [h2]; decide)
        refine setR_RI h ((h e he).add h1 (Or.inr ⟨_, mxN_lt ?_ ?_, rfl⟩))
        · rw [b4]; exact b2
        · rw [c3, sN_nI c2]; exact c2
    · refine setR_RI h ((h e he).add h1 ?_)
      by_cases q : en 0 = 0
      · exact Or.inl (o4 q)
      · exact Or.inr (o5 q)
theorem rcvE_A (n : Int32) (X : CS) (en : EN) : cA (rcvE n X en) = cA X := by
  unfold rcvE
  split
  · rfl
  · split
    · split <;> rfl
    · rfl
theorem rcvE_P (n : Int32) (X : CS) (en : EN) : cP (rcvE n X en) = cP X := by
  unfold rcvE
  split
  · rfl
  · split
    · split <;> rfl
    · rfl
def rcvL (n : Int32) (l : List EN) (X : CS) : CS := l.foldl (rcvE n) X
theorem rcvL_A (n : Int32) : ∀ (l : List EN) (X : CS), cA (rcvL n l X) = cA X
  | [], _ => rfl
  | en :: l, X => (rcvL_A n l (rcvE n X en)).trans (rcvE_A n X en)
theorem rcvL_P (n : Int32) : ∀ (l : List EN) (X : CS), cP (rcvL n l X) = cP X
  | [], _ => rfl
  | en :: l, X => (rcvL_P n l (rcvE n X en)).trans (rcvE_P n X en)
theorem rcvL_RI (n : Int32) : ∀ (l : List EN) (X : CS), RI X → (∀ en ∈ l, enOK en) → RI (rcvL n l X)
  | [], _, h, _ => h
  | en :: l, X, h, g => rcvL_RI n l (rcvE n X en) (rcvE_RI h (g en List.mem_cons_self) n) fun e he => g e (List.mem_cons_of_mem _ he)
theorem rcvL_S (n : Int32) {l : List EN} {k : Nat} {en : EN} (h : l[k]? = some en) (X : CS) : rcvL n (l.take (k + 1)) X = rcvE n (rcvL n (l.take k) X) en := by
  have ht : l.take (k + 1) = l.take k ++ [en] := by rw [List.take_add_one, h]; rfl
  unfold rcvL
  rw [ht, List.foldl_append]
  rfl
theorem RC.A {f : Nat → Int32} {c : Nat} {X : CS} (h : RC f c X) (hl : (cA X).length ≤ 23) (n v : Int32) : RC (upd (upd (upd f (51 + 2406 * c + (17 + 2 * (cA X).length)) n) (51 + 2406 * c + (17 + 2 * (cA X).length) + 1) v) (51 + 2406 * c + 16) (nI ((cA X).length + 1))) c (setA X (cA X ++ [(n, v)])) := by
  obtain ⟨h1, h2, h3, h4, h5⟩ := h
  have kp : ∀ z, (z < 51 + 2406 * c + 16 ∨ (51 + 2406 * c + 16 < z ∧ z < 51 + 2406 * c + (17 + 2 * (cA X).length)) ∨ 51 + 2406 * c + 65 ≤ z) → upd (upd (upd f (51 + 2406 * c + (17 + 2 * (cA X).length)) n) (51 + 2406 * c + (17 + 2 * (cA X).length) + 1) v) (51 + 2406 * c + 16) (nI ((cA X).length + 1)) z = f z := fun z hz => by
    rw [upd_ne _ _ (by omega), upd_ne _ _ (by omega), upd_ne _ _ (by omega)]
  refine ⟨RS.keep h1 fun z z1 z2 => kp z (by omega), ⟨?_, ?_, fun j q hq => ?_⟩, RPL.keep h3 fun z z1 z2 => kp z (by omega), RB.keep h4 fun z z1 z2 => kp z (by omega), RD.keep h5 fun z z1 z2 => kp z (by omega)⟩
  · rw [upd_eq]
    show _ = nI (cA X ++ [(n, v)]).length
    rw [List.length_append]
    rfl
  · show (cA X ++ [(n, v)]).length ≤ 24
    rw [List.length_append]
    show (cA X).length + 1 ≤ 24
    omega
  · have hq : (cA X ++ [(n, v)])[j]? = some q := hq
    by_cases hj : j < (cA X).length
    · rw [List.getElem?_append_left hj] at hq
      rw [kp _ (by omega), kp _ (by omega)]
      exact h2.2.2 j q hq
    · have hj2 : j < (cA X ++ [(n, v)]).length := (List.getElem?_eq_some_iff.mp hq).1
      rw [List.length_append] at hj2
      have hj2 : j < (cA X).length + 1 := hj2
      obtain rfl : j = (cA X).length := by omega
      rw [List.getElem?_append_right (Nat.le_refl _), Nat.sub_self] at hq
      cases hq
      refine ⟨?_, ?_⟩
      · rw [upd_ne _ _ (by omega), upd_ne _ _ (by omega), upd_eq]
      · rw [upd_ne _ _ (by omega), upd_eq]
def rvL (r i a k : Nat) : LC := [some (.inr (.inr (20, r))), some (.inl (nI i)), none, some (.inl (nI a)), some (.inl (nI k))]
def sp_X10_receive : SPc := fun As μ K => match As with
  | [.inr (.inr (20, r)), .inl c, .inl k'] => ∃ (i k : Nat) (X : CS) (p : PK), c = nI i ∧ k' = nI k ∧ i < 3 ∧ RC (μ.1 (r + 1)) i X ∧ (cP X)[k]? = some p ∧ (∀ en ∈ p.2, enOK en) ∧ RI X ∧ (cA X).length ≤ 23 ∧ RU μ r i (setP (rcvP (μ.1 (r + 1) 0) (μ.1 (r + 1) 1) p X) ((cP X).set k (upd p.1 3 0, p.2))) (K (.inl none))
  | _ => False
def ct_X10_receive : List (Nat × CI) := [(125, ci_X10_packetCell), (128, ci_X10_receiveEntry), (80, ci_X10_of), (115, ci_X10_add), (77, ci_X10_cell)]
def ci_X10_receive : CI := (yX10_receive, cX10_receive, 5, none, 3, (4, 0, 0, 94), 19, [], sp_X10_receive)
set_option maxRecDepth 100000 in
theorem ck_X10_receive : chkM ci_X10_receive RX10 co_X10_receive ct_X10_receive [] false false = true := by decide +kernel
set_option maxHeartbeats 4000000 in
set_option maxRecDepth 100000 in
theorem ms_X10_receive {g : GPT} {ot : OT} {l : Launch} (hl : l.stackTraces = false) : MS g ot l ci_X10_receive := by
  refine ms_of hl RX10 co_X10_receive ct_X10_receive [] false false [10] 103 ck_X10_receive (List.forall_mem_cons.mpr ⟨ms_X10_packetCell hl, List.forall_mem_cons.mpr ⟨ms_X10_receiveEntry hl, List.forall_mem_cons.mpr ⟨ms_X10_of hl, List.forall_mem_cons.mpr ⟨ms_X10_add hl, List.forall_mem_cons.mpr ⟨ms_X10_cell hl, fun _ h => nomatch h⟩⟩⟩⟩⟩) ?_
  intro As μ K h
  simp only [ci_X10_receive, sp_X10_receive] at h
  split at h
  case h_2 => exact h.elim
  rename_i r c k'
  obtain ⟨i, k, X, p, rfl, rfl, hi, hX, hp, hen, hI, hA, h⟩ := h
  have hk : k < (cP X).length := (List.getElem?_eq_some_iff.mp hp).1
  have hl2 := hX.2.2.1.2.1
  have hlen := (hX.pk hp).2.2.1
  generalize ha : 51 + 2406 * i + (66 + 86 * k) = a at *
  refine ⟨Nat.le_of_ble_eq_true rfl, fun m pc lc st μ' ce sl => ∃ z g, z ≤ p.2.length ∧ m = p.2.length - z ∧ pc = 10 ∧ lc = rvL r i a z ∧ st = [] ∧ μ' = rW μ r g ∧ RC g i (rcvL (p.1 0) (p.2.take z) X) ∧ (∀ z, z < 51 + 2406 * i ∨ 51 + 2406 * i + 2406 ≤ z → g z = μ.1 (r + 1) z) ∧ ce = 0 ∧ sl = 0, ?_, ?_⟩
  · exact ⟨i, k, rfl, rfl, p.2.length, rvL r i a 0, ⟨rfl, rfl, by rw [ha], rfl, trivial⟩, 0, μ.1 (r + 1), Nat.zero_le _, rfl, rfl, rfl, rfl, (rW_self μ r).symm, hX, fun z _ => rfl, rfl, rfl⟩
  · rintro m pc lc st μ' ce sl ⟨z, g, hz, rfl, rfl, rfl, rfl, rfl, hg, ho, rfl, rfl⟩
    have hpg : (cP (rcvL (p.1 0) (p.2.take z) X))[k]? = some p := by rw [rcvL_P]; exact hp
    have hrp : RP g a p := by rw [← ha]; exact hg.pk hpg
    have r5 : (rW μ r g).1 (r + 1) (a + 5) = nI p.2.length := by rw [rW_at]; exact hrp.2.1
    have r0 : (rW μ r g).1 (r + 1) (a + 0) = p.1 0 := by rw [rW_at]; exact hrp.1 0 (by omega)
    refine ⟨_, nI_add _ 5, by omega, fun h1 => ?_, fun h1 => ?_⟩
    · simp only [icP, r5] at h1
      rw [nI_le_iff (by omega) (by omega)] at h1
      rw [List.take_of_length_le h1] at hg
      have hg3 := hg.PH (by rw [rcvL_P]; exact hp) (k := 3) (by omega) 0
      rw [ha, rcvL_P] at hg3
      have m3 : (up2 (rW μ r g).1 (r + 1) (a + 3) 0, (rW μ r g).2) = rW μ r (upd g (a + 3) 0) := by rw [up2_rW, rW_rW, rW_at]
      have ho3 : ∀ z, z < 51 + 2406 * i ∨ 51 + 2406 * i + 2406 ≤ z → upd g (a + 3) 0 z = μ.1 (r + 1) z := fun z hz => by rw [upd_ne _ _ (by omega)]; exact ho z hz
      generalize hg0 : upd g (a + 3) 0 = g3 at hg3 m3 ho3
      have s6 : g3 (51 + 2406 * i + 6) = cS (rcvL (p.1 0) p.2 X) 6 := hg3.1 6 (by omega)
      have s11 : g3 (51 + 2406 * i + 11) = cS (rcvL (p.1 0) p.2 X) 11 := hg3.1 11 (by omega)
      have s16 : g3 (51 + 2406 * i + 16) = nI (cA X).length := by
        have := hg3.2.1.1
        have e : cA (setP (rcvL (p.1 0) p.2 X) ((cP X).set k (upd p.1 3 0, p.2))) = cA X := rcvL_A _ _ _
        rw [e] at this
        exact this
      have n3 : g3 (a + 0) = p.1 0 := by rw [← hg0, upd_ne _ _ (by omega)]; exact hrp.1 0 (by omega)
      refine ⟨_, nI_add _ 3, by omega, ?_⟩
      have fin : ∀ F, RC F i (setP (rcvP (μ.1 (r + 1) 0) (μ.1 (r + 1) 1) p X) ((cP X).set k (upd p.1 3 0, p.2))) → (∀ z, z < 51 + 2406 * i ∨ 51 + 2406 * i + 2406 ≤ z → F z = μ.1 (r + 1) z) → K (.inl none) (rW μ r F) := h
      refine ⟨i, 6, rfl, rfl, by omega, fun h2 => ?_, fun h2 => ?_⟩
      · have h2 : (up2 (rW μ r g).1 (r + 1) (a + 3) 0, (rW μ r g).2).1 (r + 1) (51 + 2406 * i + 6) ≤ 0 := h2
        rw [m3, rW_at, s6] at h2
        have q16 : (up2 (rW μ r g).1 (r + 1) (a + 3) 0, (rW μ r g).2).1 (r + 1) (51 + 2406 * i + 16) = nI (cA X).length := by rw [m3, rW_at, s16]
        refine ⟨i, 16, rfl, rfl, by omega, i, 17 + 2 * (cA X).length, rfl, ?_, _, nI_add _ 0, by omega, 51 + 2406 * i + (17 + 2 * (cA X).length), rfl, by omega, 0, rfl, by omega, 1, rfl, by omega, _, nI_add _ 1, by omega, i, 16, rfl, rfl, by omega, ?_⟩
        · show nI 17 + nI 2 * (up2 (rW μ r g).1 (r + 1) (a + 3) 0, (rW μ r g).2).1 (r + 1) (51 + 2406 * i + 16) = _
          rw [q16, nI_mul, nI_add]
        · have hR := hg3.A (by show (cA (rcvL (p.1 0) p.2 X)).length ≤ 23; rw [rcvL_A]; exact hA) (p.1 0) (μ.1 (r + 1) 0 + μ.1 (r + 1) 1)
          have eA : cA (setP (rcvL (p.1 0) p.2 X) ((cP X).set k (upd p.1 3 0, p.2))) = cA X := rcvL_A _ _ _
          rw [eA] at hR
          have eX : setA (setP (rcvL (p.1 0) p.2 X) ((cP X).set k (upd p.1 3 0, p.2))) (cA X ++ [(p.1 0, μ.1 (r + 1) 0 + μ.1 (r + 1) 1)]) = setP (rcvP (μ.1 (r + 1) 0) (μ.1 (r + 1) 1) p X) ((cP X).set k (upd p.1 3 0, p.2)) := by
            have e2 : rcvP (μ.1 (r + 1) 0) (μ.1 (r + 1) 1) p X = setA (rcvL (p.1 0) p.2 X) (cA (rcvL (p.1 0) p.2 X) ++ [(p.1 0, μ.1 (r + 1) 0 + μ.1 (r + 1) 1)]) := if_neg (Int32.not_lt.mpr h2)
            rw [e2, rcvL_A]
          rw [eX] at hR
          have := fin _ hR fun z hz => by
            rw [upd_ne _ _ (by omega), upd_ne _ _ (by omega), upd_ne _ _ (by omega)]
            exact ho3 z hz
          have o0 : g3 0 = μ.1 (r + 1) 0 := ho3 0 (by omega)
          have o1 : g3 1 = μ.1 (r + 1) 1 := ho3 1 (by omega)
          show K _ _
          simp only [iL0]
          simp only [up2_stF, stF_rW, stF_stF, stF_at, rW_rW, rW_at]
          rw [hg0]
          simp (disch := omega) only [upd_ne, upd_eq]
          rw [n3, o0, o1, s16]
          have e9 : nI (cA X).length + Int32.ofInt 1 = nI ((cA X).length + 1) := nI_add _ 1
          rw [e9]
          exact this
      · have h2 : ¬ (up2 (rW μ r g).1 (r + 1) (a + 3) 0, (rW μ r g).2).1 (r + 1) (51 + 2406 * i + 6) ≤ 0 := h2
        rw [m3, rW_at, s6] at h2
        refine ⟨i, 6, rfl, rfl, by omega, i, 11, rfl, rfl, by omega, ?_⟩
        have hR := (hg3.S (k := 6) (by omega) (cS (rcvL (p.1 0) p.2 X) 6 + -1)).S (k := 11) (by omega) (cS (rcvL (p.1 0) p.2 X) 11 + 1)
        have eX : setS (setS (setP (rcvL (p.1 0) p.2 X) ((cP X).set k (upd p.1 3 0, p.2))) 6 (cS (rcvL (p.1 0) p.2 X) 6 + -1)) 11 (cS (rcvL (p.1 0) p.2 X) 11 + 1) = setP (rcvP (μ.1 (r + 1) 0) (μ.1 (r + 1) 1) p X) ((cP X).set k (upd p.1 3 0, p.2)) := by
          have e2 : rcvP (μ.1 (r + 1) 0) (μ.1 (r + 1) 1) p X = setS (setS (rcvL (p.1 0) p.2 X) 6 (cS (rcvL (p.1 0) p.2 X) 6 + -1)) 11 (cS (rcvL (p.1 0) p.2 X) 11 + 1) := if_pos (Int32.not_le.mp h2)
          rw [e2]
        rw [eX] at hR
        have := fin _ hR fun z hz => by
          rw [upd_ne _ _ (by omega), upd_ne _ _ (by omega)]
          exact ho3 z hz
        show K _ _
        simp only [iL0]
        simp only [up2_stF, stF_rW, stF_stF, stF_at, rW_rW, rW_at]
        rw [hg0]
        simp (disch := omega) only [upd_ne, upd_eq]
        rw [s6, s11]
        exact this
    · simp only [icP, r5] at h1
      rw [nI_le_iff (by omega) (by omega)] at h1
      obtain ⟨en, hz2⟩ := at_of_lt (l := p.2) (k := z) (by omega)
      have hIz : RI (rcvL (p.1 0) (p.2.take z) X) := rcvL_RI _ _ _ hI fun en he => hen en (List.mem_of_mem_take he)
      have hok := hen en (List.mem_of_getElem? hz2)
      obtain ⟨e, he, he2⟩ := hok.2.1
      have e0 := eN_of he2 he
      refine ⟨_, nI_add _ 0, by omega, i, a + 6 + 5 * z, rcvL (p.1 0) (p.2.take z) X, en, rfl, ?_, hi, ?_, ?_, by omega, hok, ?_, ?_, fun f' hf hof => ⟨p.2.length - (z + 1), rvL r i a (z + 1), by omega, ⟨rfl, rfl, rfl, inc_tv z, trivial⟩, z + 1, f', by omega, rfl, rfl, rfl, rfl, ?_, ?_, fun y hy => ?_, rfl, rfl⟩⟩
      · show nI a + nI 6 + nI 5 * nI z = _
        rw [nI_mul, nI_add, nI_add]
      · rw [rW_at]; exact hg
      · intro y hy
        rw [rW_at]
        exact hrp.2.2.2 z en hz2 y hy
      · rw [e0]; exact (hIz e he).ap
      · rw [e0]; exact (hIz e he).2
      · rw [rW_rW]
      · rw [rcvL_S _ hz2]
        rw [r0] at hf
        exact hf
      · exact (hof y hy).trans (by rw [rW_at]; exact ho y hy)
