/-! THE CLASS, a client: what is given up, priorities, their order. -/
def FRm (μ μ' : MM) (lo hi : Nat) : Prop := (∀ z, (z < lo ∨ hi ≤ z) → μ'.1 z = μ.1 z ∧ μ'.2.1 z = μ.2.1 z) ∧ μ'.2.2 = μ.2.2
def rpL (a n k : Nat) : LC := [some (.inr (.inr (14, a))), some (.inr (.inr (8, n))), some (.inl (nI k)), none, none]
def sp_X1_raisePriorities : SPc := fun As μ K => match As with
  | [.inr (.inr (14, a)), .inr (.inr (8, n))] => ∃ (X : CS) (E : Nat → Nat → Int32), CSc μ.1 a (cS X) ∧ CBs μ.1 a (cB X) ∧ SE μ.1 n E ∧ (n + 4 ≤ a ∨ a + 161 ≤ n) ∧ ∀ F', CBs F' a (cB (raiN X E 16)) → (∀ z, ¬ z = a + 2 → F' z = μ.1 z) → K (.inl none) (F', μ.2)
  | _ => False
def ct_X1_raisePriorities : List (Nat × CI) := [(135, ci_X1_entryKind), (108, ci_X6_part), (121, ci_X1_distance)]
def ci_X1_raisePriorities : CI := (yX1_raisePriorities, cX1_raisePriorities, 5, none, 2, (3, 0, 0, 69), 11, [], sp_X1_raisePriorities)
set_option maxRecDepth 100000 in
theorem ck_X1_raisePriorities : chkM ci_X1_raisePriorities RX1 co_X1_raisePriorities ct_X1_raisePriorities [] false false = true := by decide +kernel
set_option maxHeartbeats 4000000 in
set_option maxRecDepth 100000 in
theorem ms_X1_raisePriorities {g : GPT} {ot : OT} {l : Launch} (hl : l.stackTraces = false) (hot : otOK ot) : MS g ot l ci_X1_raisePriorities := by
  refine ms_of hl RX1 co_X1_raisePriorities ct_X1_raisePriorities [] false false [2] 62 ck_X1_raisePriorities (List.forall_mem_cons.mpr ⟨ms_X1_entryKind hl hot, List.forall_mem_cons.mpr ⟨ms_X6_part hl hot, List.forall_mem_cons.mpr ⟨ms_X1_distance hl hot, fun _ h => nomatch h⟩⟩⟩) ?_
  intro As μ K h
  simp only [ci_X1_raisePriorities, sp_X1_raisePriorities] at h
  split at h
  case h_2 => exact h.elim
  rename_i a n
  obtain ⟨X, E, hS, hB, hE, hn, h⟩ := h
  refine ⟨Nat.le_of_ble_eq_true rfl, fun m pc lc st μ' ce sl => ∃ k F, k ≤ 16 ∧ m = 16 - k ∧ pc = 2 ∧ lc = rpL a n k ∧ st = [] ∧ μ' = (F, μ.2) ∧ CBs F a (cB (raiN X E k)) ∧ (∀ z, ¬ z = a + 2 → F z = μ.1 z) ∧ ce = 0 ∧ sl = 0, ?_, ?_⟩
  · exact ⟨16, rpL a n 0, ⟨rfl, rfl, rfl, trivial⟩, 0, μ.1, Nat.zero_le _, rfl, rfl, rfl, rfl, rfl, hB, fun _ _ => rfl, rfl, rfl⟩
  · rintro m pc lc st μ' ce sl ⟨k, F, hk, rfl, rfl, rfl, rfl, rfl, hg, hF, rfl, rfl⟩
    refine ⟨fun h1 => ?_, fun h1 => ?_⟩
    · simp only [icP, ifP, iL, iM1] at h1
      try simp only [z_nI] at h1
      try simp only [nI_add, nI_mul] at h1
      first | rw [nI_le_iff (by omega) (by omega)] at h1 | rw [nI_lt_iff (by omega) (by omega)] at h1 | rw [nI_eq_iff (by omega) (by omega)] at h1
      obtain rfl : k = 16 := by omega
      exact h F hg hF
    · simp only [icP, ifP, iL, iM1] at h1
      try simp only [z_nI] at h1
      try simp only [nI_add, nI_mul] at h1
      first | rw [nI_le_iff (by omega) (by omega)] at h1 | rw [nI_lt_iff (by omega) (by omega)] at h1 | rw [nI_eq_iff (by omega) (by omega)] at h1
      have hS' : CSc F a (cS (raiN X E k)) := by
        rw [raiN_S]
        refine ⟨fun j hj => ?_, fun j hj j6 => ?_, hS.2.2⟩
        · rw [hF _ (by omega)]; exact hS.1 j hj
        · rw [hF _ (by omega)]; exact hS.2.1 j hj j6
      have hE' : SE F n E := fun e he => by rw [hF _ (by omega)]; exact hE e he
      obtain ⟨e1, e2⟩ := hE' k (by omega)
      obtain ⟨b0, b1, b2⟩ := hg k (by omega)
      have hR : raiN X E (k + 1) = setB (raiN X E k) k 0 (rsd (raiN X E k) E k) := rfl
      have fin : ∀ x : Int32, x = rsd (raiN X E k) E k → ∃ n' lc', n' < 16 - k ∧ subL lc' (rpL a n (k + 1)) ∧ (∃ k' F', k' ≤ 16 ∧ n' = 16 - k' ∧ 2 = 2 ∧ lc' = rpL a n k' ∧ ([] : List TV) = [] ∧ ((up2 F (a + 2) k x, μ.2) : MM) = (F', μ.2) ∧ CBs F' a (cB (raiN X E k')) ∧ (∀ z, ¬ z = a + 2 → F' z = μ.1 z) ∧ 0 = 0 ∧ 0 = 0) := fun x hx => by
        refine ⟨16 - (k + 1), rpL a n (k + 1), by omega, ⟨rfl, rfl, rfl, trivial⟩, k + 1, _, by omega, rfl, rfl, rfl, rfl, rfl, fun e he => ?_, fun z hz => ?_, rfl, rfl⟩
        · rw [hR, ← hx]
          obtain ⟨c0, c1, c2⟩ := hg e he
          refine ⟨?_, ?_, ?_⟩
          · by_cases w : e = k
            · rw [w, u2_eq]
              exact (u2_eq _ _ _ _).symm
            · rw [u2_nj _ _ w]
              refine c0.trans ?_
              show _ = up2 (cB (raiN X E k)) k 0 x e 0
              rw [u2_ne _ _ w]
          · rw [u2_ne _ _ (by omega)]
            refine c1.trans ?_
            show _ = up2 (cB (raiN X E k)) k 0 x e 1
            unfold up2
            rw [if_neg fun w => absurd w.2 (by omega)]
          · rw [u2_ne _ _ (by omega)]
            refine c2.trans ?_
            show _ = up2 (cB (raiN X E k)) k 0 x e 2
            unfold up2
            rw [if_neg fun w => absurd w.2 (by omega)]
        · rw [u2_ne _ _ hz]
          exact hF z hz
      refine ⟨k, raiN X E k, E, rfl, by omega, hS', b2, hE', fun q => ⟨fun q2 => ⟨k, rfl, by omega, 2, rfl, by omega, by dsimp only; rw [e1]; exact e2, k, rfl, by omega, k, rfl, by omega, by dsimp only; rw [e1]; exact e2, k, rfl, by omega, ?_⟩, fun q2 => ⟨k, rfl, by omega, k, rfl, by omega, ?_⟩⟩, fun q => ⟨k, rfl, by omega, ?_⟩⟩
      · have q : ¬ ekV (raiN X E k) E k = -1 := q
        have q2 : ¬ ekV (raiN X E k) E k = 0 := q2
        have hin : inA (raiN X E k) (E k 0) := by
          refine Classical.not_not.mp fun w => ?_
          unfold ekV at q q2
          rw [if_neg w] at q q2
          by_cases w2 : cB (raiN X E k) k 2 = -1
          · rw [if_pos w2] at q; exact q rfl
          · rw [if_neg w2] at q2; exact q2 rfl
        have hne : ¬ cB (raiN X E k) k 2 = E k 0 := fun w => by
          unfold ekV at q
          rw [if_pos hin] at q
          by_cases w2 : cB (raiN X E k) k 2 = -1
          · rw [w2] at w; exact hin.1 w.symm
          · rw [if_neg w2, if_pos w] at q; exact q rfl
        obtain ⟨m, m1, m2, m3⟩ := sOK_ne e2 hin.1
        obtain ⟨n', lc', i1, i2, i3⟩ := fin (F (a + 2) k + (Int32.ofInt 1 <<< (nI (pz (F (n + 1) k) 2) &&& 31)) * (nI 32 - dsV (F (n + 1) k) (F a 1) (F a 2))) (by
          have hp := prt2_lt m
          have hz : pz (F (n + 1) k) 2 = prt m 2 := by rw [e1, m2]; exact pz_nI m1 2
          rw [hz, shl1 (by omega), b0, e1]
          unfold rsd
          rw [if_pos hin, if_pos hne, m3]
          have hd : dsV (E k 0) (F a 1) (F a 2) = dstC (raiN X E k) (E k 0) := by
            unfold dsV
            rw [if_neg hin.1, hS'.1 1 (by omega), hS'.1 2 (by omega)]
            rfl
          rw [hd]
          rfl)
        refine ⟨n', lc', i1, ?_, i3⟩
        obtain ⟨k', F', j1, j2, j3, rfl, j4⟩ := i3
        exact ⟨i2.1, i2.2.1, (inc_tv k).trans i2.2.2.1, trivial⟩
      · have q : ¬ ekV (raiN X E k) E k = -1 := q
        have q2 : ¬ ¬ ekV (raiN X E k) E k = 0 := q2
        rw [Classical.not_not] at q2
        obtain ⟨n', lc', i1, i2, i3⟩ := fin (F (a + 2) k + Int32.ofInt 100) (by
          rw [b0]
          unfold ekV at q2
          unfold rsd
          by_cases w : inA (raiN X E k) (E k 0)
          · rw [if_pos w] at q2
            by_cases w2 : cB (raiN X E k) k 2 = -1
            · rw [if_pos w2] at q2; exact absurd q2 (by decide)
            · rw [if_neg w2] at q2
              by_cases w3 : cB (raiN X E k) k 2 = E k 0
              · rw [if_pos w3] at q2; exact absurd q2 (by decide)
              · rw [if_neg w3] at q2; exact absurd q2 (by decide)
          · rw [if_neg w] at q2 ⊢
            by_cases w2 : cB (raiN X E k) k 2 = -1
            · rw [if_pos w2] at q2; exact absurd q2 (by decide)
            · rw [if_pos w2]
              rfl)
        refine ⟨n', lc', i1, ?_, i3⟩
        obtain ⟨k', F', j1, j2, j3, rfl, j4⟩ := i3
        exact ⟨i2.1, i2.2.1, (inc_tv k).trans i2.2.2.1, trivial⟩
      · have q : ¬ ¬ ekV (raiN X E k) E k = -1 := q
        rw [Classical.not_not] at q
        obtain ⟨n', lc', i1, i2, i3⟩ := fin (Int32.ofInt 0) (by
          unfold ekV at q
          unfold rsd
          by_cases w : inA (raiN X E k) (E k 0)
          · rw [if_pos w] at q ⊢
            by_cases w2 : cB (raiN X E k) k 2 = -1
            · rw [if_pos w2] at q; exact absurd q (by decide)
            · rw [if_neg w2] at q
              by_cases w3 : cB (raiN X E k) k 2 = E k 0
              · rw [if_neg fun z => z w3]
                rfl
              · rw [if_neg w3] at q; exact absurd q (by decide)
          · rw [if_neg w] at q ⊢
            by_cases w2 : cB (raiN X E k) k 2 = -1
            · rw [if_neg fun z => z w2]
              rfl
            · rw [if_neg w2] at q; exact absurd q (by decide))
        refine ⟨n', lc', i1, ?_, i3⟩
        obtain ⟨k', F', j1, j2, j3, rfl, j4⟩ := i3
        exact ⟨i2.1, i2.2.1, (inc_tv k).trans i2.2.2.1, trivial⟩
theorem ins_at {B : Nat → Nat → Int32} {e : Nat} : ∀ {l : List Nat} {j : Nat}, (∀ (i x : Nat), i < j → l[i]? = some x → ¬ B x 0 < B e 0) → (∀ x, l[j]? = some x → B x 0 < B e 0) → j ≤ l.length → ins B e l = l.take j ++ e :: l.drop j
  | [], j, _, _, h => by
    have h : j ≤ 0 := h
    obtain rfl : j = 0 := by omega
    rfl
  | y :: l, 0, _, h2, _ => by
    have := h2 y rfl
    unfold ins
    rw [if_pos this]
    rfl
  | y :: l, j + 1, h1, h2, h3 => by
    have := h1 0 y (by omega) rfl
    have h3 : j + 1 ≤ l.length + 1 := h3
    unfold ins
    rw [if_neg this, ins_at (l := l) (j := j) (fun i x hi hx => h1 (i + 1) x (by omega) hx) (fun x hx => h2 x hx) (by omega)]
    rfl
theorem ins_len (B : Nat → Nat → Int32) (e : Nat) : ∀ l, (ins B e l).length = l.length + 1
  | [] => rfl
  | x :: l => by
    unfold ins
    split
    · rfl
    · show (ins B e l).length + 1 = _
      rw [ins_len B e l]
      rfl
theorem ordN_len (B : Nat → Nat → Int32) : ∀ n, (ordN B n).length ≤ n
  | 0 => Nat.le_refl _
  | n + 1 => by
    have := ordN_len B n
    unfold ordN
    split
    · rw [ins_len]; omega
    · omega
def obL (a w k : Nat) : LC := [some (.inr (.inr (14, a))), some (.inl (nI w)), some (.inl (nI k)), none]
def obM (a w k j : Nat) : LC := [some (.inr (.inr (14, a))), some (.inl (nI w)), some (.inl (nI k)), some (.inl (nI j))]
/-- a row holds a list of numbers -/
def OR (f : Nat → Int32) (l : List Nat) : Prop := ∀ (i o : Nat), l[i]? = some o → f i = nI o
def sp_X1_orderByPriority : SPc := fun As μ K => match As with
  | [.inr (.inr (14, a))] => ∃ (B : Nat → Nat → Int32), (∀ e, e < 16 → μ.1 (a + 2) e = B e 0) ∧ ∀ F', OR (F' (a + 160)) (ordN B 16) → (∀ z, ¬ z = a + 160 → F' z = μ.1 z) → K (.inl (some (.inl (nI (ordN B 16).length)))) (F', μ.2)
  | _ => False
def ct_X1_orderByPriority : List (Nat × CI) := []
def ci_X1_orderByPriority : CI := (yX1_orderByPriority, cX1_orderByPriority, 4, some .int, 1, (0, 0, 0, 0), 11, [], sp_X1_orderByPriority)
set_option maxRecDepth 100000 in
theorem ck_X1_orderByPriority : chkM ci_X1_orderByPriority RX1 co_X1_orderByPriority ct_X1_orderByPriority [] false false = true := by decide +kernel
set_option maxHeartbeats 4000000 in
set_option maxRecDepth 100000 in
theorem ms_X1_orderByPriority {g : GPT} {ot : OT} {l : Launch} (hl : l.stackTraces = false) : MS g ot l ci_X1_orderByPriority := by
  refine ms_of hl RX1 co_X1_orderByPriority ct_X1_orderByPriority [] false false [4,21] 57 ck_X1_orderByPriority (fun _ h => nomatch h) ?_
  intro As μ K h
  simp only [ci_X1_orderByPriority, sp_X1_orderByPriority] at h
  split at h
  case h_2 => exact h.elim
  rename_i a
  obtain ⟨B, hB, h⟩ := h
  refine ⟨Nat.le_of_ble_eq_true rfl, fun m pc lc st μ' ce sl => (∃ k F, k ≤ 16 ∧ m = 100 * (16 - k) + 50 ∧ pc = 4 ∧ lc = obL a (ordN B k).length k ∧ st = [] ∧ μ' = (F, μ.2) ∧ OR (F (a + 160)) (ordN B k) ∧ (∀ z, ¬ z = a + 160 → F z = μ.1 z) ∧ ce = 0 ∧ sl = 0) ∨
    (∃ k j F, k < 16 ∧ j ≤ (ordN B k).length ∧ 0 < B k 0 ∧ m = 100 * (16 - k) + j ∧ pc = 21 ∧ lc = obM a (ordN B k).length k j ∧ st = [] ∧ μ' = (F, μ.2) ∧ (∀ (i x : Nat), (ordN B k)[i]? = some x → (i < j → F (a + 160) i = nI x) ∧ (j ≤ i → F (a + 160) (i + 1) = nI x ∧ B x 0 < B k 0)) ∧ (∀ z, ¬ z = a + 160 → F z = μ.1 z) ∧ ce = 0 ∧ sl = 0), ?_, ?_⟩
  · exact ⟨100 * (16 - 0) + 50, obL a 0 0, ⟨rfl, rfl, rfl, trivial⟩, Or.inl ⟨0, μ.1, Nat.zero_le _, rfl, rfl, rfl, rfl, rfl, (fun i o ho => by cases ho), fun _ _ => rfl, rfl, rfl⟩⟩
  · rintro m pc lc st μ' ce sl (⟨k, F, hk, rfl, rfl, rfl, rfl, rfl, hg, hF, rfl, rfl⟩ | ⟨k, j, F, hk, hj, h0, rfl, rfl, rfl, rfl, rfl, hg, hF, rfl, rfl⟩)
    · have hol := ordN_len B k
      refine ⟨fun h1 => ?_, fun h1 => ?_⟩
      · simp only [icP, ifP, iL, iM1] at h1
        try simp only [z_nI] at h1
        try simp only [nI_add, nI_mul] at h1
        first | rw [nI_le_iff (by omega) (by omega)] at h1 | rw [nI_lt_iff (by omega) (by omega)] at h1 | rw [nI_eq_iff (by omega) (by omega)] at h1
        obtain rfl : k = 16 := by omega
        exact h F hg hF
      · simp only [icP, ifP, iL, iM1] at h1
        try simp only [z_nI] at h1
        try simp only [nI_add, nI_mul] at h1
        first | rw [nI_le_iff (by omega) (by omega)] at h1 | rw [nI_lt_iff (by omega) (by omega)] at h1 | rw [nI_eq_iff (by omega) (by omega)] at h1
        have bk : F (a + 2) k = B k 0 := by rw [hF _ (by omega)]; exact hB k (by omega)
        have eo : ordN B (k + 1) = if 0 < B k 0 then ins B k (ordN B k) else ordN B k := rfl
        refine ⟨k, rfl, by omega, fun q => ?_, fun q => ?_⟩
        · have q : F (a + 2) k ≤ 0 := q
          rw [bk] at q
          refine ⟨100 * (16 - (k + 1)) + 50, obL a (ordN B (k + 1)).length (k + 1), by omega, ⟨rfl, ?_, inc_tv k, trivial⟩, Or.inl ⟨k + 1, F, by omega, rfl, rfl, rfl, rfl, rfl, ?_, hF, rfl, rfl⟩⟩
          · rw [eo, if_neg (Int32.not_lt.mpr q)]
          · rw [eo, if_neg (Int32.not_lt.mpr q)]
            exact hg
        · have q : ¬ F (a + 2) k ≤ 0 := q
          rw [bk] at q
          refine ⟨100 * (16 - k) + (ordN B k).length, obM a (ordN B k).length k (ordN B k).length, by omega, ⟨rfl, rfl, rfl, rfl, trivial⟩, Or.inr ⟨k, (ordN B k).length, F, by omega, Nat.le_refl _, Int32.not_le.mp q, rfl, rfl, rfl, rfl, rfl, fun i x hx => ⟨fun _ => hg i x hx, fun w => ?_⟩, hF, rfl, rfl⟩⟩
          have := (List.getElem?_eq_some_iff.mp hx).1
          omega
    · have hol := ordN_len B k
      have bk : F (a + 2) k = B k 0 := by rw [hF _ (by omega)]; exact hB k hk
      have eo : ordN B (k + 1) = ins B k (ordN B k) := if_pos h0
      have pw := ordN_pw B k
      have out : (∀ x, (ordN B k)[j - 1]? = some x → 0 < j → ¬ B x 0 < B k 0) → ∃ n' lc', n' < 100 * (16 - k) + j ∧ subL lc' [some (.inr (.inr (14, a))), some (.inl (nI (ordN B k).length + Int32.ofInt 1)), some (.inl (nI k + Int32.ofInt 1)), some (.inl (nI j))] ∧ ((∃ k' F', k' ≤ 16 ∧ n' = 100 * (16 - k') + 50 ∧ 4 = 4 ∧ lc' = obL a (ordN B k').length k' ∧ ([] : List TV) = [] ∧ ((up2 F (a + 160) j (nI k), μ.2) : MM) = (F', μ.2) ∧ OR (F' (a + 160)) (ordN B k') ∧ (∀ z, ¬ z = a + 160 → F' z = μ.1 z) ∧ 0 = 0 ∧ 0 = 0) ∨ (∃ k' j' F', k' < 16 ∧ j' ≤ (ordN B k').length ∧ 0 < B k' 0 ∧ n' = 100 * (16 - k') + j' ∧ 4 = 21 ∧ lc' = obM a (ordN B k').length k' j' ∧ ([] : List TV) = [] ∧ ((up2 F (a + 160) j (nI k), μ.2) : MM) = (F', μ.2) ∧ (∀ (i x : Nat), (ordN B k')[i]? = some x → (i < j' → F' (a + 160) i = nI x) ∧ (j' ≤ i → F' (a + 160) (i + 1) = nI x ∧ B x 0 < B k' 0)) ∧ (∀ z, ¬ z = a + 160 → F' z = μ.1 z) ∧ 0 = 0 ∧ 0 = 0)) := fun hx => by
        have hins : ins B k (ordN B k) = (ordN B k).take j ++ k :: (ordN B k).drop j := by
          refine ins_at (fun i x hi hxi => ?_) (fun x hxj => ?_) hj
          · obtain ⟨y, hy⟩ := at_of_lt (l := ordN B k) (k := j - 1) (by omega)
            have hny := hx y hy (by omega)
            by_cases w : i = j - 1
            · rw [w, hy] at hxi
              cases hxi
              exact hny
            · have := (List.pairwise_iff_getElem.mp pw) i (j - 1) (List.getElem?_eq_some_iff.mp hxi).1 (by omega) (by omega)
              rw [(List.getElem?_eq_some_iff.mp hxi).2, (List.getElem?_eq_some_iff.mp hy).2] at this
              rcases this with t | ⟨t, _⟩
              · exact fun z => hny (Int32.lt_trans t z)
              · rw [t]; exact hny
          · exact ((hg j x hxj).2 (Nat.le_refl _)).2
        have hl1 : (ordN B (k + 1)).length = (ordN B k).length + 1 := by rw [eo, ins_len]
        refine ⟨100 * (16 - (k + 1)) + 50, obL a (ordN B (k + 1)).length (k + 1), by omega, ⟨rfl, ?_, inc_tv k, trivial⟩, Or.inl ⟨k + 1, _, by omega, rfl, rfl, rfl, rfl, rfl, fun i o ho => ?_, fun z hz => ?_, rfl, rfl⟩⟩
        · rw [hl1]
          exact inc_tv _
        · rw [eo, hins] at ho
          by_cases w1 : i < j
          · rw [List.getElem?_append_left (by rw [List.length_take]; omega), List.getElem?_take, if_pos w1] at ho
            rw [u2_nj _ _ (by omega)]
            exact (hg i o ho).1 w1
          · rw [List.getElem?_append_right (by rw [List.length_take]; omega), List.length_take, Nat.min_eq_left hj] at ho
            by_cases w2 : i = j
            · rw [w2, Nat.sub_self] at ho
              cases ho
              rw [w2, u2_eq]
            · obtain ⟨d, hd⟩ : ∃ d, i - j = d + 1 := ⟨i - j - 1, by omega⟩
              rw [hd, List.getElem?_cons_succ, List.getElem?_drop] at ho
              rw [u2_nj _ _ w2]
              have := ((hg (j + d) o ho).2 (by omega)).1
              have e : j + d + 1 = i := by omega
              rw [e] at this
              exact this
        · rw [u2_ne _ _ hz]
          exact hF z hz
      refine ⟨fun q => ⟨j, rfl, by omega, ?_⟩, fun q => ?_⟩
      · have q : nI j ≤ 0 := q
        rw [z_nI, nI_le_iff (by omega) (by omega)] at q
        exact out fun x hx w => by omega
      · have q : ¬ nI j ≤ 0 := q
        rw [z_nI, nI_le_iff (by omega) (by omega)] at q
        have ej : nI j - nI 1 = nI (j - 1) := nI_sub1 (by omega)
        obtain ⟨x, hx⟩ := at_of_lt (l := ordN B k) (k := j - 1) (by omega)
        have hx16 : x < 16 := by
          have := ((ordN_mem B x k).mp (List.mem_of_getElem? hx)).1
          omega
        have ox := (hg (j - 1) x hx).1 (by omega)
        have bx : F (a + 2) x = B x 0 := by rw [hF _ (by omega)]; exact hB x hx16
        refine ⟨j - 1, ej, by omega, x, ox, hx16, k, rfl, by omega, fun q2 => ⟨j, rfl, by omega, ?_⟩, fun q2 => ⟨j - 1, ej, by omega, j, rfl, by omega, ?_⟩⟩
        · have q2 : F (a + 2) k ≤ F (a + 2) x := q2
          rw [bk, bx] at q2
          refine out fun y hy w => ?_
          rw [hx] at hy
          cases hy
          exact Int32.not_lt.mpr q2
        · have q2 : ¬ F (a + 2) k ≤ F (a + 2) x := q2
          rw [bk, bx] at q2
          have ed : nI j + Int32.ofInt (-1) = nI (j - 1) := by
            rw [iM1, ← Int32.sub_eq_add_neg]
            exact ej
          refine ⟨100 * (16 - k) + (j - 1), obM a (ordN B k).length k (j - 1), by omega, ⟨rfl, rfl, rfl, by rw [← ed], trivial⟩, Or.inr ⟨k, j - 1, _, hk, by omega, h0, rfl, rfl, rfl, rfl, rfl, fun i y hy => ⟨fun w => ?_, fun w => ?_⟩, fun z hz => ?_, rfl, rfl⟩⟩
          · rw [u2_nj _ _ (by omega)]
            exact (hg i y hy).1 (by omega)
          · by_cases w2 : i = j - 1
            · rw [w2, hx] at hy
              cases hy
              have e : i + 1 = j := by omega
              rw [e, u2_eq]
              exact ⟨ox, Int32.not_le.mp q2⟩
            · rw [u2_nj _ _ (by omega)]
              exact (hg i y hy).2 (by omega)
          · rw [u2_ne _ _ hz]
            exact hF z hz
