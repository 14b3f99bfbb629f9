/-! THE REFERENCE: an entry is received, is settled; a priority is raised; an entry is put. -/
theorem recS_ok {l : List (Int32 × Int32)} (h : ∀ q ∈ l, sOK q.2) (n : Int32) : sOK (recS l n) := by
  unfold recS
  cases hf : l.find? (fun q => decide (q.1 = n)) with
  | none => exact Or.inl rfl
  | some q => exact h q (List.mem_of_find?_eq_some hf)
theorem eN_of {en : EN} {e : Nat} (h : en 1 = nI e) (he : e < 16) : eN en = e := by
  unfold eN
  rw [h]
  exact sN_nI (by omega)
theorem RU.self {μ : MM} {r i : Nat} {X : CS} {K : MM → Prop} (h : RU μ r i X K) (hX : RC (μ.1 (r + 1)) i X) : K μ := by
  have := h (μ.1 (r + 1)) hX fun k _ => rfl
  rw [rW_self] at this
  exact this
theorem RU.S {μ : MM} {r i k : Nat} {X : CS} {v : Int32} {K : MM → Prop} (h : RU μ r i (setS X k v) K) (hk : k < 16) (hX : RC (μ.1 (r + 1)) i X) : K (rW μ r (upd (μ.1 (r + 1)) (51 + 2406 * i + k) v)) :=
  h _ (hX.S hk v) fun z hz => upd_ne _ _ (by omega)
def sp_X10_receiveEntry : SPc := fun As μ K => match As with
  | [.inr (.inr (20, r)), .inl c, .inl n, .inl a'] => ∃ (i a : Nat) (X : CS) (en : EN), c = nI i ∧ a' = nI a ∧ i < 3 ∧ RC (μ.1 (r + 1)) i X ∧ (∀ k, k < 5 → μ.1 (r + 1) (a + k) = en k) ∧ a + 5 ≤ 7269 ∧ enOK en ∧ apN (cR X (eN en)) ∧ (∀ q ∈ cR X (eN en), sOK q.2) ∧ RU μ r i (rcvE n X en) (K (.inl none))
  | _ => False
def ct_X10_receiveEntry : List (Nat × CI) := [(108, ci_X10_lastNumber), (111, ci_X10_recordState), (115, ci_X10_add), (119, ci_X10_mixed), (122, ci_X10_addRecord)]
def ci_X10_receiveEntry : CI := (yX10_receiveEntry, cX10_receiveEntry, 7, none, 4, (3, 0, 0, 68), 19, [], sp_X10_receiveEntry)
set_option maxRecDepth 100000 in
theorem ck_X10_receiveEntry : chkM ci_X10_receiveEntry RX10 co_X10_receiveEntry ct_X10_receiveEntry [] false false = true := by decide +kernel
set_option maxHeartbeats 4000000 in
set_option maxRecDepth 100000 in
theorem ms_X10_receiveEntry {g : GPT} {ot : OT} {l : Launch} (hl : l.stackTraces = false) : MS g ot l ci_X10_receiveEntry := by
  refine ms0_of hl RX10 co_X10_receiveEntry ct_X10_receiveEntry [] false false 76 ck_X10_receiveEntry (List.forall_mem_cons.mpr ⟨ms_X10_lastNumber hl, List.forall_mem_cons.mpr ⟨ms_X10_recordState hl, List.forall_mem_cons.mpr ⟨ms_X10_add hl, List.forall_mem_cons.mpr ⟨ms_X10_mixed hl, List.forall_mem_cons.mpr ⟨ms_X10_addRecord hl, fun _ h => nomatch h⟩⟩⟩⟩⟩) ?_
  intro As μ K h
  simp only [ci_X10_receiveEntry, sp_X10_receiveEntry] at h
  split at h
  case h_2 => exact h.elim
  rename_i r c n a'
  obtain ⟨i, a, X, en, rfl, rfl, hi, hX, hen, ha, hok, hap, hs, h⟩ := h
  obtain ⟨o1, ⟨e, he, o2⟩, ⟨m, hm, o3⟩, o4, o5⟩ := hok
  have e0 := eN_of o2 he
  unfold rcvE at h
  rw [e0] at h hap hs
  have en0 : μ.1 (r + 1) a = en 0 := hen 0 (by omega)
  have en1 : μ.1 (r + 1) (a + 1) = nI e := (hen 1 (by omega)).trans o2
  have en2 : μ.1 (r + 1) (a + 2) = en 2 := hen 2 (by omega)
  have en3 : μ.1 (r + 1) (a + 3) = nI m := (hen 3 (by omega)).trans o3
  have en4 : μ.1 (r + 1) (a + 4) = en 4 := hen 4 (by omega)
  have hR : RR (μ.1 (r + 1)) (51 + 2406 * i + (2006 + 25 * e)) (cR X e) := hX.2.2.2.2 e he
  refine ⟨Nat.le_of_ble_eq_true rfl, _, nI_add _ 1, by omega, i, e, cR X e, rfl, en1, hi, he, hR, fun h1 => ?_, fun h1 => ?_⟩
  · have h1 : lastN (cR X e) < n := h1
    rw [if_neg (Int32.not_le.mpr h1)] at h
    refine ⟨_, nI_add _ 4, by omega, a, rfl, by omega, fun h2 => ?_, fun h2 => ?_⟩
    · have h2 : ¬ μ.1 (r + 1) a = 2 := h2
      rw [en0] at h2
      rw [if_neg h2] at h
      refine ⟨a, rfl, by omega, fun h3 => ?_, fun h3 => ?_⟩
      · refine ⟨i, e, cR X e, rfl, en1, hi, he, hR, fun f' hf hg => h f' (hX.R he ?_ hg) fun k hk => hg k (by omega)⟩
        rw [en4] at hf
        exact hf
      · have h3 : ¬ ¬ μ.1 (r + 1) a = 0 := h3
        rw [en0, Classical.not_not] at h3
        refine ⟨i, e, cR X e, rfl, en1, hi, he, hR, fun f' hf hg => h f' (hX.R he ?_ hg) fun k hk => hg k (by omega)⟩
        rw [o4 h3]
        exact hf
    · have h2 : ¬ ¬ μ.1 (r + 1) a = 2 := h2
      rw [en0, Classical.not_not] at h2
      have h20 : ¬ en 0 = 0 := by rw [h2]; decide
      rw [if_pos h2] at h
      refine ⟨_, nI_add _ 2, by omega, i, e, cR X e, rfl, en1, hi, he, hR, hap, fun h3 => ?_, fun h3 => ?_⟩
      · have h3 : ¬ recS (cR X e) (μ.1 (r + 1) (a + 2)) = -1 := h3
        rw [en2] at h3
        rw [if_neg h3] at h
        obtain ⟨b1, b2, b3, b4⟩ := sOK_ne (recS_ok hs (en 2)) h3
        obtain ⟨c1, c2, c3⟩ := o5 h20
        refine ⟨_, nI_add _ 3, by omega, b1, c1, m, ?_, en4.trans c3, en3, b2, c2, hm, a, rfl, by omega, fun h4 => ?_, fun h4 => ?_⟩
        · rw [en2]; exact b3
        · refine ⟨i, e, cR X e, rfl, en1, hi, he, hR, fun f' hf hg => h f' (hX.R he ?_ hg) fun k hk => hg k (by omega)⟩
          rw [b4, c3, sN_nI c2, o3, sN_nI (by omega)]
          exact hf
        · have h4 : ¬ ¬ μ.1 (r + 1) a = 0 := h4
          rw [en0, Classical.not_not] at h4
          exact absurd h4 h20
      · have h3 : ¬ ¬ recS (cR X e) (μ.1 (r + 1) (a + 2)) = -1 := h3
        rw [en2, Classical.not_not] at h3
        rw [if_pos h3] at h
        have hc : μ.1 (r + 1) (51 + 2406 * i + 13) = cS X 13 := hX.1 13 (by omega)
        refine ⟨i, 13, rfl, rfl, by omega, ?_⟩
        have := h.S (by omega) hX
        rw [← hc] at this
        exact this
  · have h1 : ¬ lastN (cR X e) < n := h1
    rw [if_pos (Int32.not_lt.mp h1)] at h
    exact h.self hX
def sp_X10_settle : SPc := fun As μ K => match As with
  | [.inr (.inr (20, r)), .inl c, .inl n, .inl a'] => ∃ (i a : Nat) (X : CS) (en : EN), c = nI i ∧ a' = nI a ∧ i < 3 ∧ RC (μ.1 (r + 1)) i X ∧ (∀ k, k < 5 → μ.1 (r + 1) (a + k) = en k) ∧ (51 + 2406 * i + 66 ≤ a ∧ a + 5 ≤ 51 + 2406 * i + 1958) ∧ enOK en ∧ RU μ r i (setl n X en) (K (.inl none))
  | _ => False
def ct_X10_settle : List (Nat × CI) := [(83, ci_X10_base)]
def ci_X10_settle : CI := (yX10_settle, cX10_settle, 5, none, 4, (2, 0, 0, 42), 19, [], sp_X10_settle)
set_option maxRecDepth 100000 in
theorem ck_X10_settle : chkM ci_X10_settle RX10 co_X10_settle ct_X10_settle [] false false = true := by decide +kernel
set_option maxHeartbeats 4000000 in
set_option maxRecDepth 100000 in
theorem ms_X10_settle {g : GPT} {ot : OT} {l : Launch} (hl : l.stackTraces = false) : MS g ot l ci_X10_settle := by
  refine ms0_of hl RX10 co_X10_settle ct_X10_settle [] false false 49 ck_X10_settle (List.forall_mem_cons.mpr ⟨ms_X10_base hl, fun _ h => nomatch h⟩) ?_
  intro As μ K h
  simp only [ci_X10_settle, sp_X10_settle] at h
  split at h
  case h_2 => exact h.elim
  rename_i r c n a'
  obtain ⟨i, a, X, en, rfl, rfl, hi, hX, hen, ⟨ha1, ha2⟩, hok, h⟩ := h
  obtain ⟨o1, ⟨e, he, o2⟩, ⟨m, hm, o3⟩, o4, o5⟩ := hok
  have e0 := eN_of o2 he
  unfold setl at h
  rw [e0] at h
  have en0 : μ.1 (r + 1) a = en 0 := hen 0 (by omega)
  have en1 : μ.1 (r + 1) (a + 1) = nI e := (hen 1 (by omega)).trans o2
  have en4 : μ.1 (r + 1) (a + 4) = en 4 := hen 4 (by omega)
  have b1 : μ.1 (r + 1) (51 + 2406 * i + (1958 + 3 * e) + 1) = cB X e 1 := hX.2.2.2.1 e he 1 (by omega)
  refine ⟨Nat.le_of_ble_eq_true rfl, _, nI_add _ 1, by omega, i, e, rfl, en1, _, nI_add _ 1, by omega, fun h1 => ?_, fun h1 => ?_⟩
  · have h1 : n ≤ μ.1 (r + 1) (51 + 2406 * i + (1958 + 3 * e) + 1) := h1
    rw [b1] at h1
    rw [if_neg (Int32.not_lt.mpr h1)] at h
    exact h.self hX
  · have h1 : ¬ n ≤ μ.1 (r + 1) (51 + 2406 * i + (1958 + 3 * e) + 1) := h1
    rw [b1] at h1
    rw [if_pos (Int32.not_le.mp h1)] at h
    have hX2 := (hX.B he (k := 1) (by omega) n).B he (k := 2) (by omega) (en 4)
    have fin := h _ hX2 fun z hz => by rw [upd_ne _ _ (by omega), upd_ne _ _ (by omega)]
    have rd : ∀ k, k < 5 → up2 μ.1 (r + 1) (51 + 2406 * i + (1958 + 3 * e) + 1) n (r + 1) (a + k) = en k := fun k hk => by
      rw [up2_at, upd_ne _ _ (by omega)]
      exact hen k hk
    have mem : ∀ x, x = en 4 → ((up2 (up2 μ.1 (r + 1) (51 + 2406 * i + (1958 + 3 * e) + 1) n) (r + 1) (51 + 2406 * i + (1958 + 3 * e) + 2) x, μ.2) : MM) = rW μ r (upd (upd (μ.1 (r + 1)) (51 + 2406 * i + (1958 + 3 * e) + 1) n) (51 + 2406 * i + (1958 + 3 * e) + 2) (en 4)) := fun x hx => by
      simp only [up2_stF, stF_stF, stF_at, hx]
      rfl
    refine ⟨_, nI_add _ 1, by omega, a, rfl, by omega, fun h2 => ?_, fun h2 => ?_⟩
    · refine ⟨_, nI_add _ 4, by omega, _, nI_add _ 2, by omega, ?_⟩
      rw [← mem _ (rd 4 (by omega))] at fin
      exact fin
    · have h2 : ¬ ¬ up2 μ.1 (r + 1) (51 + 2406 * i + (1958 + 3 * e) + 1) n (r + 1) a = 0 := h2
      have h2 : en 0 = 0 := (rd 0 (by omega)).symm.trans (Classical.not_not.mp h2)
      refine ⟨_, nI_add _ 2, by omega, ?_⟩
      rw [← mem (-1) (o4 h2).symm] at fin
      exact fin
theorem dst_sub (x : Int32) : nI 32 - x = 32 - x := rfl
theorem prt2_lt (n : Nat) : prt n 2 < 4 := by simp only [prt]; omega
def sp_X10_raise : SPc := fun As μ K => match As with
  | [.inr (.inr (20, r)), .inl c, .inl e] => ∃ (i j : Nat) (X : CS) (E : Nat → Nat → Int32), c = nI i ∧ e = nI j ∧ i < 3 ∧ j < 16 ∧ RC (μ.1 (r + 1)) i X ∧ (μ.1 (r + 1) (3 + 3 * j) = E j 0 ∧ sOK (E j 0)) ∧ RU μ r i (setB X j 0 (rsd X E j)) (K (.inl none))
  | _ => False
theorem RU.B {μ : MM} {r i e k : Nat} {X : CS} {v : Int32} {K : MM → Prop} (h : RU μ r i (setB X e k v) K) (he : e < 16) (hk : k < 3) (hX : RC (μ.1 (r + 1)) i X) : K (rW μ r (upd (μ.1 (r + 1)) (51 + 2406 * i + (1958 + 3 * e) + k) v)) :=
  h _ (hX.B he hk v) fun z hz => upd_ne _ _ (by omega)
def ct_X10_raise : List (Nat × CI) := [(83, ci_X10_base), (102, ci_X10_isInArea), (53, ci_X10_stateOf), (41, ci_X10_part), (144, ci_X10_weight), (99, ci_X10_distance)]
def ci_X10_raise : CI := (yX10_raise, cX10_raise, 6, none, 3, (4, 0, 0, 89), 19, [], sp_X10_raise)
set_option maxRecDepth 100000 in
theorem ck_X10_raise : chkM ci_X10_raise RX10 co_X10_raise ct_X10_raise [] false false = true := by decide +kernel
set_option maxHeartbeats 4000000 in
set_option maxRecDepth 100000 in
theorem ms_X10_raise {g : GPT} {ot : OT} {l : Launch} (hl : l.stackTraces = false) : MS g ot l ci_X10_raise := by
  refine ms0_of hl RX10 co_X10_raise ct_X10_raise [] false false 73 ck_X10_raise (List.forall_mem_cons.mpr ⟨ms_X10_base hl, List.forall_mem_cons.mpr ⟨ms_X10_isInArea hl, List.forall_mem_cons.mpr ⟨ms_X10_stateOf hl, List.forall_mem_cons.mpr ⟨ms_X10_part hl, List.forall_mem_cons.mpr ⟨ms_X10_weight hl, List.forall_mem_cons.mpr ⟨ms_X10_distance hl, fun _ h => nomatch h⟩⟩⟩⟩⟩⟩) ?_
  intro As μ K h
  simp only [ci_X10_raise, sp_X10_raise] at h
  split at h
  case h_2 => exact h.elim
  rename_i r c e
  obtain ⟨i, j, X, E, rfl, rfl, hi, hj, hX, ⟨e1, e2⟩, h⟩ := h
  have b0 : μ.1 (r + 1) (51 + 2406 * i + (1958 + 3 * j)) = cB X j 0 := hX.2.2.2.1 j hj 0 (by omega)
  have b2 : μ.1 (r + 1) (51 + 2406 * i + (1958 + 3 * j) + 2) = cB X j 2 := hX.2.2.2.1 j hj 2 (by omega)
  have fin : ∀ x, x = rsd X E j → K (.inl none) (up2 μ.1 (r + 1) (51 + 2406 * i + (1958 + 3 * j)) x, μ.2) := fun x hx => by
    have := h.B hj (by omega) hX
    rw [hx, up2_rW]
    exact this
  refine ⟨Nat.le_of_ble_eq_true rfl, i, j, rfl, rfl, _, nI_add _ 2, by omega, i, j, X, rfl, rfl, hi, hj, hX, e1 ▸ e2, fun h1 => ?_, fun h1 => ⟨j, rfl, hj, fun h2 => ⟨fun h3 => ?_, fun h3 => absurd rfl h3⟩, fun h2 => ⟨fun h3 => absurd (show (1 : Int32) = 0 from h3) (by decide), fun h3 => ?_⟩⟩⟩
  · have h1 : iB (inA X (μ.1 (r + 1) (3 + 3 * j))) = 0 := h1
    rw [iB_eq0, e1] at h1
    refine ⟨fun h2 => ?_, fun h2 => ⟨_, rfl, by omega, _, rfl, by omega, ?_⟩⟩
    · have h2 : μ.1 (r + 1) (51 + 2406 * i + (1958 + 3 * j) + 2) = -1 := h2
      rw [b2] at h2
      refine ⟨_, rfl, by omega, fin 0 ?_⟩
      unfold rsd
      rw [if_neg h1, if_neg (fun q => q h2)]
    · have h2 : ¬ μ.1 (r + 1) (51 + 2406 * i + (1958 + 3 * j) + 2) = -1 := h2
      rw [b2] at h2
      refine fin (μ.1 (r + 1) (51 + 2406 * i + (1958 + 3 * j)) + 100) ?_
      unfold rsd
      rw [if_neg h1, if_pos h2, b0]
  · have h1 : ¬ iB (inA X (μ.1 (r + 1) (3 + 3 * j))) = 0 := h1
    rw [iB_ne0, e1] at h1
    have h2 : μ.1 (r + 1) (51 + 2406 * i + (1958 + 3 * j) + 2) = μ.1 (r + 1) (3 + 3 * j) := h2
    rw [b2, e1] at h2
    refine ⟨_, rfl, by omega, fin 0 ?_⟩
    unfold rsd
    rw [if_pos h1, if_neg (fun q => q h2)]
  · have h1 : ¬ iB (inA X (μ.1 (r + 1) (3 + 3 * j))) = 0 := h1
    rw [iB_ne0, e1] at h1
    have h2 : ¬ μ.1 (r + 1) (51 + 2406 * i + (1958 + 3 * j) + 2) = μ.1 (r + 1) (3 + 3 * j) := h2
    rw [b2, e1] at h2
    obtain ⟨n1, n2⟩ := sOK_n e2 h1.1
    have n3 := prt2_lt (sN (E j 0))
    refine ⟨_, rfl, by omega, j, rfl, hj, sN (E j 0), 2, e1.trans n2, rfl, n1, by omega, prt (sN (E j 0)) 2, rfl, n3, i, j, sN (E j 0), X, rfl, rfl, hi, hj, hX, e1.trans n2, n1, _, rfl, by omega, ?_⟩
    refine fin (μ.1 (r + 1) (51 + 2406 * i + (1958 + 3 * j)) + nI (2 ^ prt (sN (E j 0)) 2) * (32 - dstC X (E j 0))) ?_
    unfold rsd
    rw [if_pos h1, if_pos h2, b0]
