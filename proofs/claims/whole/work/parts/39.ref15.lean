/-! THE REFERENCE receives an acknowledgement. -/
theorem setl_P (n : Int32) (X : CS) (en : EN) : cP (setl n X en) = cP X := by
  unfold setl
  split <;> rfl
def setL' (n : Int32) (l : List EN) (X : CS) : CS := l.foldl (setl n) X
theorem setL_P (n : Int32) : ∀ (l : List EN) (X : CS), cP (setL' n l X) = cP X
  | [], _ => rfl
  | en :: l, X => (setL_P n l (setl n X en)).trans (setl_P n X en)
theorem setL_S (n : Int32) {l : List EN} {k : Nat} {en : EN} (h : l[k]? = some en) (X : CS) : setL' n (l.take (k + 1)) X = setl n (setL' n (l.take k) X) en := by
  have ht : l.take (k + 1) = l.take k ++ [en] := by rw [List.take_add_one, h]; rfl
  unfold setL'
  rw [ht, List.foldl_append]
  rfl
theorem ackF_P (n : Int32) : ∀ (l : List PK) (X : CS), cP (ackF n l X) = cP X
  | [], _ => rfl
  | p :: l, X => by
    show cP (ackF n l (if hit n p then setL' n p.2 X else X)) = cP X
    rw [ackF_P n l]
    split
    · exact setL_P n p.2 X
    · rfl
theorem ackF_S (n : Int32) {l : List PK} {k : Nat} {p : PK} (h : l[k]? = some p) (X : CS) : ackF n (l.take (k + 1)) X = if hit n p then setL' n p.2 (ackF n (l.take k) X) else ackF n (l.take k) X := by
  have ht : l.take (k + 1) = l.take k ++ [p] := by rw [List.take_add_one, h]; rfl
  unfold ackF
  rw [ht, List.foldl_append]
  rfl
theorem anyH_S (n : Int32) {l : List PK} {k : Nat} {p : PK} (h : l[k]? = some p) : anyH n (l.take (k + 1)) = (anyH n (l.take k) || decide (hit n p)) := by
  have ht : l.take (k + 1) = l.take k ++ [p] := by rw [List.take_add_one, h]; rfl
  unfold anyH
  rw [ht, List.any_append]
  simp
theorem setP_self {Y : CS} {l : List PK} (h : cP Y = l) : setP Y l = Y := by subst h; rfl
def bI (b : Bool) : Int32 := if b = true then 1 else 0
def akL (r i k : Nat) (n x : Int32) : LC := [some (.inr (.inr (20, r))), some (.inl (nI i)), some (.inl n), some (.inl x), some (.inl (nI k)), none, none]
def akM (r i k a z : Nat) (n : Int32) : LC := [some (.inr (.inr (20, r))), some (.inl (nI i)), some (.inl n), some (.inl 1), some (.inl (nI k)), some (.inl (nI a)), some (.inl (nI z))]
def ackZ (n : Int32) (X : CS) (k : Nat) : CS := setP (ackF n (cP X) (setS X 12 (cS X 12 + 1))) (mapTo (zeroF n) (cP X) k)
def sp_X10_acknowledge : SPc := fun As μ K => match As with
  | [.inr (.inr (20, r)), .inl c, .inl n] => ∃ (i : Nat) (X : CS), c = nI i ∧ i < 3 ∧ RC (μ.1 (r + 1)) i X ∧ (∀ p ∈ cP X, ∀ en ∈ p.2, enOK en) ∧ RU μ r i (ackN n X) (K (.inl none))
  | _ => False
def ct_X10_acknowledge : List (Nat × CI) := [(115, ci_X10_add), (80, ci_X10_of), (125, ci_X10_packetCell), (131, ci_X10_settle), (134, ci_X10_sweep)]
def ci_X10_acknowledge : CI := (yX10_acknowledge, cX10_acknowledge, 7, none, 3, (3, 0, 0, 69), 19, [], sp_X10_acknowledge)
set_option maxRecDepth 100000 in
theorem ck_X10_acknowledge : chkM ci_X10_acknowledge RX10 co_X10_acknowledge ct_X10_acknowledge [] false false = true := by decide +kernel
set_option maxHeartbeats 4000000 in
set_option maxRecDepth 100000 in
theorem ms_X10_acknowledge {g : GPT} {ot : OT} {l : Launch} (hl : l.stackTraces = false) : MS g ot l ci_X10_acknowledge := by
  refine ms_of hl RX10 co_X10_acknowledge ct_X10_acknowledge [] false false [13,65,110] 111 ck_X10_acknowledge (List.forall_mem_cons.mpr ⟨ms_X10_add hl, List.forall_mem_cons.mpr ⟨ms_X10_of hl, List.forall_mem_cons.mpr ⟨ms_X10_packetCell hl, List.forall_mem_cons.mpr ⟨ms_X10_settle hl, List.forall_mem_cons.mpr ⟨ms_X10_sweep hl, fun _ h => nomatch h⟩⟩⟩⟩⟩) ?_
  intro As μ K h
  simp only [ci_X10_acknowledge, sp_X10_acknowledge] at h
  split at h
  case h_2 => exact h.elim
  rename_i r c n
  obtain ⟨i, X, rfl, hi, hX, hen, h⟩ := h
  have hl2 := hX.2.2.1.2.1
  generalize hX0 : setS X 12 (cS X 12 + 1) = X0 at h
  have hP0 : cP X0 = cP X := by rw [← hX0]
  have len : ∀ {g Y}, RC g i Y → (cP Y).length = (cP X).length → (rW μ r g).1 (r + 1) (51 + 2406 * i + 65) = nI (cP X).length := fun hg e => by rw [rW_at, ← e]; exact hg.2.2.1.1
  refine ⟨Nat.le_of_ble_eq_true rfl, fun m pc lc st μ' ce sl => (∃ k g, k ≤ (cP X).length ∧ m = 100 * ((cP X).length - k) + 50 ∧ pc = 13 ∧ lc = akL r i k n (bI (anyH n ((cP X).take k))) ∧ st = [] ∧ μ' = rW μ r g ∧ RC g i (ackF n ((cP X).take k) X0) ∧ (∀ z, z < 51 + 2406 * i ∨ 51 + 2406 * i + 2406 ≤ z → g z = μ.1 (r + 1) z) ∧ ce = 0 ∧ sl = 0) ∨
    (∃ k g p z, (cP X)[k]? = some p ∧ hit n p ∧ z ≤ p.2.length ∧ m = 100 * ((cP X).length - k) + 50 - 1 - z ∧ pc = 65 ∧ lc = akM r i k (51 + 2406 * i + (66 + 86 * k)) z n ∧ st = [] ∧ μ' = rW μ r g ∧ RC g i (setL' n (p.2.take z) (ackF n ((cP X).take k) X0)) ∧ (∀ z, z < 51 + 2406 * i ∨ 51 + 2406 * i + 2406 ≤ z → g z = μ.1 (r + 1) z) ∧ ce = 0 ∧ sl = 0) ∨
    (∃ k g, k ≤ (cP X).length ∧ (k = 0 ∨ anyH n (cP X) = true) ∧ m = (cP X).length - k ∧ pc = 110 ∧ lc = akL r i k n (bI (anyH n (cP X))) ∧ st = [] ∧ μ' = rW μ r g ∧ RC g i (setP (ackF n (cP X) X0) (mapTo (zeroF n) (cP X) k)) ∧ (∀ z, z < 51 + 2406 * i ∨ 51 + 2406 * i + 2406 ≤ z → g z = μ.1 (r + 1) z) ∧ ce = 0 ∧ sl = 0), ?_, ?_⟩
  · refine ⟨i, 12, rfl, rfl, by omega, 100 * ((cP X).length - 0) + 50, akL r i 0 n 0, ⟨rfl, rfl, rfl, rfl, rfl, trivial⟩, Or.inl ⟨0, _, Nat.zero_le _, rfl, rfl, rfl, rfl, rfl, ?_, fun z hz => upd_ne _ _ (by omega), rfl, rfl⟩⟩
    have := hX.S (k := 12) (by omega) (cS X 12 + 1)
    rw [hX0] at this
    have e : μ.1 (r + 1) (51 + 2406 * i + 12) = cS X 12 := hX.1 12 (by omega)
    rw [← e] at this
    exact this
  · rintro m pc lc st μ' ce sl (⟨k, g, hk, rfl, rfl, rfl, rfl, rfl, hg, ho, rfl, rfl⟩ | ⟨k, g, p, z, hp, hh, hz, rfl, rfl, rfl, rfl, rfl, hg, ho, rfl, rfl⟩ | ⟨k, g, hk, hka, rfl, rfl, rfl, rfl, rfl, hg, ho, rfl, rfl⟩)
    · have hPk : cP (ackF n ((cP X).take k) X0) = cP X := by rw [ackF_P, hP0]
      have c65 := len hg (by rw [hPk])
      refine ⟨i, 65, rfl, rfl, by omega, fun h1 => ?_, fun h1 => ?_⟩
      · simp only [icP, c65] at h1
        rw [nI_le_iff (by omega) (by omega)] at h1
        rw [List.take_of_length_le h1] at hg ⊢
        refine ⟨(cP X).length - 0, akL r i 0 n (bI (anyH n (cP X))), by omega, ⟨rfl, rfl, rfl, rfl, rfl, trivial⟩, Or.inr (Or.inr ⟨0, g, Nat.zero_le _, Or.inl rfl, rfl, rfl, rfl, rfl, rfl, ?_, ho, rfl, rfl⟩)⟩
        rw [mapTo_0]
        rw [setP_self (by rw [ackF_P, hP0])]
        exact hg
      · simp only [icP, c65] at h1
        rw [nI_le_iff (by omega) (by omega)] at h1
        obtain ⟨p, hp⟩ := at_of_lt (l := cP X) (k := k) (by omega)
        have hrp := hg.pk (by rw [hPk]; exact hp)
        have c0 : (rW μ r g).1 (r + 1) (51 + 2406 * i + (66 + 86 * k) + 0) = p.1 0 := by rw [rW_at]; exact hrp.1 0 (by omega)
        have c4 : (rW μ r g).1 (r + 1) (51 + 2406 * i + (66 + 86 * k) + 4) = p.1 4 := by rw [rW_at]; exact hrp.1 4 (by omega)
        have nx : ¬ hit n p → RC g i (ackF n ((cP X).take (k + 1)) X0) ∧ anyH n ((cP X).take (k + 1)) = anyH n ((cP X).take k) := fun q => by
          rw [ackF_S n hp, if_neg q, anyH_S n hp, decide_eq_false q, Bool.or_false]
          exact ⟨hg, rfl⟩
        refine ⟨i, k, rfl, rfl, _, nI_add _ 0, by omega, fun h2 => ?_, fun h2 => ⟨_, nI_add _ 4, by omega, fun h3 => ?_, fun h3 => ?_⟩⟩
        · have h2 : ¬ (rW μ r g).1 (r + 1) (51 + 2406 * i + (66 + 86 * k) + 0) = n := h2
          rw [c0] at h2
          obtain ⟨q1, q2⟩ := nx fun q => h2 q.1
          refine ⟨100 * ((cP X).length - (k + 1)) + 50, akL r i (k + 1) n (bI (anyH n ((cP X).take (k + 1)))), by omega, ⟨rfl, rfl, rfl, by rw [q2], inc_tv k, trivial⟩, Or.inl ⟨k + 1, g, by omega, rfl, rfl, rfl, rfl, rfl, q1, ho, rfl, rfl⟩⟩
        · have h3 : ¬ (rW μ r g).1 (r + 1) (51 + 2406 * i + (66 + 86 * k) + 4) = 1 := h3
          rw [c4] at h3
          obtain ⟨q1, q2⟩ := nx fun q => h3 q.2
          refine ⟨100 * ((cP X).length - (k + 1)) + 50, akL r i (k + 1) n (bI (anyH n ((cP X).take (k + 1)))), by omega, ⟨rfl, rfl, rfl, by rw [q2], inc_tv k, trivial⟩, Or.inl ⟨k + 1, g, by omega, rfl, rfl, rfl, rfl, rfl, q1, ho, rfl, rfl⟩⟩
        · have h2 : ¬ ¬ (rW μ r g).1 (r + 1) (51 + 2406 * i + (66 + 86 * k) + 0) = n := h2
          have h3 : ¬ ¬ (rW μ r g).1 (r + 1) (51 + 2406 * i + (66 + 86 * k) + 4) = 1 := h3
          rw [c0, Classical.not_not] at h2
          rw [c4, Classical.not_not] at h3
          exact ⟨100 * ((cP X).length - k) + 50 - 1 - 0, akM r i k (51 + 2406 * i + (66 + 86 * k)) 0 n, by omega, ⟨rfl, rfl, rfl, rfl, rfl, rfl, rfl, trivial⟩, Or.inr (Or.inl ⟨k, g, p, 0, hp, ⟨h2, h3⟩, Nat.zero_le _, rfl, rfl, rfl, rfl, rfl, hg, ho, rfl, rfl⟩)⟩
    · have hPk : cP (setL' n (p.2.take z) (ackF n ((cP X).take k) X0)) = cP X := by rw [setL_P, ackF_P, hP0]
      have hk : k < (cP X).length := (List.getElem?_eq_some_iff.mp hp).1
      have hrp := hg.pk (by rw [hPk]; exact hp)
      have hlen := hrp.2.2.1
      have c5 : (rW μ r g).1 (r + 1) (51 + 2406 * i + (66 + 86 * k) + 5) = nI p.2.length := by rw [rW_at]; exact hrp.2.1
      refine ⟨_, nI_add _ 5, by omega, fun h1 => ?_, fun h1 => ?_⟩
      · simp only [icP, c5] at h1
        rw [nI_le_iff (by omega) (by omega)] at h1
        rw [List.take_of_length_le h1] at hg
        refine ⟨100 * ((cP X).length - (k + 1)) + 50, akL r i (k + 1) n (bI (anyH n ((cP X).take (k + 1)))), by omega, ⟨rfl, rfl, rfl, ?_, inc_tv k, trivial⟩, Or.inl ⟨k + 1, g, by omega, rfl, rfl, rfl, rfl, rfl, ?_, ho, rfl, rfl⟩⟩
        · rw [anyH_S n hp, decide_eq_true hh, Bool.or_true]
          rfl
        · rw [ackF_S n hp, if_pos hh]
          exact hg
      · simp only [icP, c5] at h1
        rw [nI_le_iff (by omega) (by omega)] at h1
        obtain ⟨en, hz2⟩ := at_of_lt (l := p.2) (k := z) (by omega)
        refine ⟨i, 51 + 2406 * i + (66 + 86 * k) + 6 + 5 * z, setL' n (p.2.take z) (ackF n ((cP X).take k) X0), en, rfl, ?_, hi, ?_, ?_, by omega, hen p (List.mem_of_getElem? hp) en (List.mem_of_getElem? hz2), fun f' hf hof => ⟨100 * ((cP X).length - k) + 50 - 1 - (z + 1), akM r i k (51 + 2406 * i + (66 + 86 * k)) (z + 1) n, by omega, ⟨rfl, rfl, rfl, rfl, rfl, rfl, inc_tv z, trivial⟩, Or.inr (Or.inl ⟨k, f', p, z + 1, hp, hh, by omega, rfl, rfl, rfl, rfl, rW_rW _ _ _ _, ?_, fun y hy => (hof y hy).trans (by rw [rW_at]; exact ho y hy), rfl, rfl⟩)⟩⟩
        · show nI _ + nI 6 + nI 5 * nI z = _
          rw [nI_mul, nI_add, nI_add]
        · rw [rW_at]; exact hg
        · intro y hy
          rw [rW_at]
          exact hrp.2.2.2 z en hz2 y hy
        · rw [setL_S n hz2]
          exact hf
    · have hPk : (cP (setP (ackF n (cP X) X0) (mapTo (zeroF n) (cP X) k))).length = (cP X).length := mapTo_len _ _ _
      have c65 := len hg hPk
      have swe : RC g i (setP (ackF n (cP X) X0) (if anyH n (cP X) = true then (cP X).map (zeroF n) else cP X)) → ∃ (i' : Nat) (Y : CS), nI i = nI i' ∧ i' < 3 ∧ RC ((rW μ r g).1 (r + 1)) i' Y ∧ RU (rW μ r g) r i' (setP Y (swp (cP Y))) (K (.inl none)) := fun hr =>
        ⟨i, _, rfl, hi, by rw [rW_at]; exact hr, fun f' hf hof => by
          rw [rW_rW]
          refine h f' ?_ fun y hy => (hof y hy).trans (by rw [rW_at]; exact ho y hy)
          unfold ackN
          rw [hX0]
          exact hf⟩
      refine ⟨i, 65, rfl, rfl, by omega, fun h1 => ?_, fun h1 => ⟨fun h2 => ?_, fun h2 => ?_⟩⟩
      · simp only [icP, c65] at h1
        rw [nI_le_iff (by omega) (by omega)] at h1
        refine swe ?_
        rw [mapTo_all _ _ h1] at hg
        rcases hka with rfl | hka
        · have e : cP X = [] := List.length_eq_zero_iff.mp (by omega)
          rw [e] at hg ⊢
          exact hg
        · rw [if_pos hka]
          exact hg
      · have h2 : bI (anyH n (cP X)) = 0 := h2
        have h3 : ¬ anyH n (cP X) = true := fun q => by rw [q] at h2; exact absurd h2 (by decide)
        refine swe ?_
        obtain rfl : k = 0 := hka.resolve_right h3
        rw [if_neg h3]
        rw [mapTo_0] at hg
        exact hg
      · have h2 : ¬ bI (anyH n (cP X)) = 0 := h2
        have h3 : anyH n (cP X) = true := by
          by_cases q : anyH n (cP X) = true
          · exact q
          · exact absurd (if_neg q) h2
        simp only [icP, c65] at h1
        rw [nI_le_iff (by omega) (by omega)] at h1
        obtain ⟨p, hp⟩ := at_of_lt (l := cP X) (k := k) (by omega)
        have hp2 : (cP (setP (ackF n (cP X) X0) (mapTo (zeroF n) (cP X) k)))[k]? = some p := mapTo_at _ hp
        have hrp := hg.pk hp2
        have c0 : (rW μ r g).1 (r + 1) (51 + 2406 * i + (66 + 86 * k) + 0) = p.1 0 := by rw [rW_at]; exact hrp.1 0 (by omega)
        have c4 : (rW μ r g).1 (r + 1) (51 + 2406 * i + (66 + 86 * k) + 4) = p.1 4 := by rw [rW_at]; exact hrp.1 4 (by omega)
        refine ⟨i, k, rfl, rfl, _, nI_add _ 0, by omega, fun h4 => ⟨_, nI_add _ 4, by omega, _, nI_add _ 4, by omega, (cP X).length - (k + 1), akL r i (k + 1) n (bI (anyH n (cP X))), by omega, ⟨rfl, rfl, rfl, rfl, inc_tv k, trivial⟩, Or.inr (Or.inr ⟨k + 1, g, by omega, Or.inr h3, rfl, rfl, rfl, rfl, ?_, ?_, ho, rfl, rfl⟩)⟩, fun h4 => ⟨_, nI_add _ 4, by omega, (cP X).length - (k + 1), akL r i (k + 1) n (bI (anyH n (cP X))), by omega, ⟨rfl, rfl, rfl, rfl, inc_tv k, trivial⟩, Or.inr (Or.inr ⟨k + 1, _, by omega, Or.inr h3, rfl, rfl, rfl, rfl, up2_rW _ _ _ _ |>.trans (rW_rW _ _ _ _), ?_, ?_, rfl, rfl⟩)⟩⟩
        · rw [up2_rW, rW_rW, rW_at, upd_self]
        · have h4 : n < (rW μ r g).1 (r + 1) (51 + 2406 * i + (66 + 86 * k) + 0) := h4
          rw [c0] at h4
          rw [mapTo_id _ hp (by unfold zeroF; rw [if_neg (Int32.not_le.mpr h4)])]
          exact hg
        · have h4 : ¬ n < (rW μ r g).1 (r + 1) (51 + 2406 * i + (66 + 86 * k) + 0) := h4
          rw [c0] at h4
          rw [rW_at]
          have e : zeroF n p = (upd p.1 4 0, p.2) := if_pos (Int32.not_lt.mp h4)
          rw [mapTo_S _ hp, e]
          exact hg.PH hp2 (by omega) 0
        · intro y hy
          rw [rW_at, upd_ne _ _ (by omega)]
          exact ho y hy
