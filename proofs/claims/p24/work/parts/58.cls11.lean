/-! THE CLASS, acknowledgements arrive. -/
def NS (l : List PK) : Prop := l.Pairwise fun p q => p.1 0 < q.1 0
theorem ackF_no (n : Int32) : ∀ (l : List PK) (X : CS), (∀ p ∈ l, ¬ hit n p) → ackF n l X = X
  | [], _, _ => rfl
  | p :: l, X, h => by
    show ackF n l (if hit n p then p.2.foldl (setl n) X else X) = X
    rw [if_neg (h p List.mem_cons_self)]
    exact ackF_no n l X fun q hq => h q (List.mem_cons_of_mem _ hq)
theorem ackF_one (n : Int32) : ∀ (l : List PK) (X : CS) (p : PK), NS l → p ∈ l → hit n p → ackF n l X = setL' n p.2 X
  | [], _, _, _, hp, _ => absurd hp List.not_mem_nil
  | q :: l, X, p, hs, hp, hh => by
    obtain ⟨s1, s2⟩ := List.pairwise_cons.mp hs
    show ackF n l (if hit n q then q.2.foldl (setl n) X else X) = _
    by_cases w : hit n q
    · rw [if_pos w, ackF_no n l _ fun z hz g => by
        have := s1 z hz
        rw [w.1, g.1] at this
        exact Int32.lt_irrefl this]
      rcases List.mem_cons.mp hp with rfl | hp
      · rfl
      · have := s1 p hp
        rw [w.1, hh.1] at this
        exact absurd this Int32.lt_irrefl
    · rw [if_neg w]
      rcases List.mem_cons.mp hp with rfl | hp
      · exact absurd hh w
      · exact ackF_one n l X p s2 hp hh
theorem zeroF_i (n : Int32) (p : PK) {k : Nat} (hk : ¬ k = 4) : (zeroF n p).1 k = p.1 k := by
  unfold zeroF
  split
  · exact upd_ne p.1 (i := 4) (k := k) 0 hk
  · rfl
abbrev fGt (n : Int32) : PK → Bool := fun p => decide (¬ p.1 0 ≤ n)
theorem dec_ff {p : Prop} [Decidable p] (h : ¬ p) : ¬ decide p = true := by rw [decide_eq_false h]; decide
theorem fly_ack (n : Int32) : ∀ l : List PK, (swp (l.map (zeroF n))).filter fFl = (l.filter fFl).filter (fGt n)
  | [] => rfl
  | p :: l => by
    have ih := fly_ack n l
    unfold swp at ih ⊢
    rw [List.map_cons]
    by_cases q : p.1 0 ≤ n
    · have e4 : (zeroF n p).1 4 = 0 := by
        unfold zeroF
        rw [if_pos q]
        exact upd_eq p.1 4 0
      have q2 : ¬ fly (zeroF n p) := fun w => by
        have w : (zeroF n p).1 4 = 1 := w
        rw [e4] at w
        exact absurd w (by decide)
      have l1 : (List.filter fKp (zeroF n p :: l.map (zeroF n))).filter fFl = ((l.map (zeroF n)).filter fKp).filter fFl := by
        by_cases q3 : kpP (zeroF n p)
        · rw [List.filter_cons_of_pos (p := fKp) (decide_eq_true q3), List.filter_cons_of_neg (p := fFl) (dec_ff q2)]
        · rw [List.filter_cons_of_neg (p := fKp) (dec_ff q3)]
      have l2 : (List.filter fFl (p :: l)).filter (fGt n) = (l.filter fFl).filter (fGt n) := by
        by_cases q3 : fly p
        · rw [List.filter_cons_of_pos (p := fFl) (decide_eq_true q3), List.filter_cons_of_neg (p := fGt n) (dec_ff fun w => w q)]
        · rw [List.filter_cons_of_neg (p := fFl) (dec_ff q3)]
      exact l1.trans (ih.trans l2.symm)
    · have e : zeroF n p = p := if_neg q
      rw [e]
      by_cases q3 : fly p
      · rw [List.filter_cons_of_pos (p := fKp) (a := p) (decide_eq_true (Or.inl q3)), List.filter_cons_of_pos (p := fFl) (a := p) (l := (l.map (zeroF n)).filter fKp) (decide_eq_true q3), List.filter_cons_of_pos (p := fFl) (a := p) (l := l) (decide_eq_true q3), List.filter_cons_of_pos (p := fGt n) (a := p) (decide_eq_true q), ih]
      · rw [List.filter_cons_of_neg (p := fFl) (a := p) (l := l) (dec_ff q3), ← ih]
        by_cases q4 : kpP p
        · rw [List.filter_cons_of_pos (p := fKp) (decide_eq_true q4), List.filter_cons_of_neg (p := fFl) (dec_ff q3)]
        · rw [List.filter_cons_of_neg (p := fKp) (dec_ff q4)]
/-- a change of what flies alone leaves those on their way -/
theorem way_map (f : PK → PK) (hf : ∀ p, (f p).1 3 = p.1 3) : ∀ l : List PK, (swp (l.map f)).filter fWy = (l.filter fWy).map f
  | [] => rfl
  | p :: l => by
    have ih := way_map f hf l
    unfold swp at ih ⊢
    rw [List.map_cons]
    by_cases q : 0 < p.1 3
    · have q2 : 0 < (f p).1 3 := by rw [hf]; exact q
      rw [List.filter_cons_of_pos (p := fKp) (decide_eq_true (Or.inr q2)), List.filter_cons_of_pos (p := fWy) (decide_eq_true q2), List.filter_cons_of_pos (p := fWy) (decide_eq_true q), List.map_cons, ih]
    · have q2 : ¬ 0 < (f p).1 3 := by rw [hf]; exact q
      rw [List.filter_cons_of_neg (p := fWy) (a := p) (l := l) (dec_ff q), ← ih]
      by_cases q3 : kpP (f p)
      · rw [List.filter_cons_of_pos (p := fKp) (decide_eq_true q3), List.filter_cons_of_neg (p := fWy) (dec_ff q2)]
      · rw [List.filter_cons_of_neg (p := fKp) (dec_ff q3)]
theorem fly_swp : ∀ l : List PK, (swp l).filter fFl = l.filter fFl := fun l => by
  show (l.filter fKp).filter fFl = _
  rw [List.filter_filter]
  congr 1
  funext p
  by_cases q : fly p
  · have q' : kpP p := Or.inl q
    show (decide (fly p) && decide (kpP p)) = decide (fly p)
    rw [decide_eq_true q, decide_eq_true q']
    rfl
  · show (decide (fly p) && decide (kpP p)) = decide (fly p)
    rw [decide_eq_false q]
    rfl
theorem way_swp : ∀ l : List PK, (swp l).filter fWy = l.filter fWy := fun l => by
  have := way_map (fun p => p) (fun _ => rfl) l
  rw [List.map_id', List.map_id'] at this
  exact this
theorem drop_gt {n : Int32} {L : List PK} {i : Nat} {p : PK} (hs : NS L) (hi : L[i]? = some p) (hp : p.1 0 = n) : L.filter (fGt n) = L.drop (i + 1) := by
  have hil : i < L.length := (List.getElem?_eq_some_iff.mp hi).1
  have hip : L[i] = p := (List.getElem?_eq_some_iff.mp hi).2
  have e : L = L.take (i + 1) ++ L.drop (i + 1) := (List.take_append_drop _ _).symm
  have e1 : (L.take (i + 1)).filter (fGt n) = [] := List.filter_eq_nil_iff.mpr fun q hq => by
    obtain ⟨j, hj⟩ := List.getElem?_of_mem hq
    rw [List.getElem?_take] at hj
    split at hj
    · next hji =>
      refine dec_ff fun w => w ?_
      by_cases g : j = i
      · rw [g, hi] at hj
        cases hj
        rw [hp]
        exact Int32.le_refl _
      · have hjl : j < L.length := (List.getElem?_eq_some_iff.mp hj).1
        have := (List.pairwise_iff_getElem.mp hs) j i hjl hil (by omega)
        rw [(List.getElem?_eq_some_iff.mp hj).2, hip, hp] at this
        exact Int32.le_of_lt this
    · cases hj
  have e2 : (L.drop (i + 1)).filter (fGt n) = L.drop (i + 1) := List.filter_eq_self.mpr fun q hq => by
    obtain ⟨j, hj⟩ := List.getElem?_of_mem hq
    rw [List.getElem?_drop] at hj
    have hjl : i + 1 + j < L.length := (List.getElem?_eq_some_iff.mp hj).1
    have := (List.pairwise_iff_getElem.mp hs) i (i + 1 + j) hil hjl (by omega)
    rw [(List.getElem?_eq_some_iff.mp hj).2, hip, hp] at this
    exact decide_eq_true (Int32.not_le.mpr this)
  have e3 : L.filter (fGt n) = (L.take (i + 1) ++ L.drop (i + 1)).filter (fGt n) := congrArg (List.filter (fGt n)) e
  rw [e3, List.filter_append, e1, e2]
  rfl
theorem setL_f (n : Int32) : ∀ (l : List EN) (X : CS), cS (setL' n l X) = cS X ∧ cR (setL' n l X) = cR X
  | [], _ => ⟨rfl, rfl⟩
  | en :: l, X => by
    have h := setL_f n l (setl n X en)
    have e : cS (setl n X en) = cS X ∧ cR (setl n X en) = cR X := by unfold setl; split <;> exact ⟨rfl, rfl⟩
    exact ⟨h.1.trans e.1, h.2.trans e.2⟩
theorem ackF_f (n : Int32) : ∀ (l : List PK) (X : CS), cS (ackF n l X) = cS X ∧ cR (ackF n l X) = cR X
  | [], _ => ⟨rfl, rfl⟩
  | p :: l, X => by
    have h := ackF_f n l (if hit n p then p.2.foldl (setl n) X else X)
    have e : cS (if hit n p then p.2.foldl (setl n) X else X) = cS X ∧ cR (if hit n p then p.2.foldl (setl n) X else X) = cR X := by
      split
      · exact setL_f n p.2 X
      · exact ⟨rfl, rfl⟩
    exact ⟨h.1.trans e.1, h.2.trans e.2⟩
theorem setL_B (n : Int32) (l : List EN) (X Y : CS) (h : cB X = cB Y) : cB (setL' n l X) = cB (setL' n l Y) := by
  induction l generalizing X Y with
  | nil => exact h
  | cons en l ih =>
    refine ih _ _ ?_
    unfold setl
    rw [h]
    split
    · show up2 (up2 (cB X) _ _ _) _ _ _ = up2 (up2 (cB Y) _ _ _) _ _ _
      rw [h]
    · exact h
/-- what an acknowledgement changes -/
theorem ackN_S (n : Int32) (X : CS) : cS (ackN n X) = upd (cS X) 12 (cS X 12 + 1) ∧ cR (ackN n X) = cR X := ackF_f n (cP X) (setS X 12 (cS X 12 + 1))
theorem ackN_no {n : Int32} {X : CS} (h : ∀ p ∈ flyL X, ¬ p.1 0 = n) : cB (ackN n X) = cB X ∧ flyL (ackN n X) = flyL X ∧ wayL (ackN n X) = wayL X := by
  have hn : ∀ p ∈ cP X, ¬ hit n p := fun p hp w => h p (List.mem_filter.mpr ⟨hp, decide_eq_true w.2⟩) w.1
  have ha : ¬ anyH n (cP X) = true := fun w => by
    obtain ⟨p, hp, hq⟩ := List.any_eq_true.mp w
    exact hn p hp (of_decide_eq_true hq)
  unfold ackN
  rw [if_neg ha, ackF_no n (cP X) _ hn]
  exact ⟨rfl, fly_swp (cP X), way_swp (cP X)⟩
theorem ackN_at {n : Int32} {X : CS} {i : Nat} {p : PK} (hs : NS (cP X)) (hi : (flyL X)[i]? = some p) (hp : p.1 0 = n) : cB (ackN n X) = cB (setL' n p.2 X) ∧ flyL (ackN n X) = (flyL X).drop (i + 1) ∧ wayL (ackN n X) = (wayL X).map (zeroF n) := by
  have hm := List.mem_filter.mp (List.mem_of_getElem? hi)
  have hh : hit n p := ⟨hp, of_decide_eq_true hm.2⟩
  have ha : anyH n (cP X) = true := List.any_eq_true.mpr ⟨p, hm.1, decide_eq_true hh⟩
  unfold ackN
  rw [if_pos ha, ackF_one n (cP X) _ p hs hm.1 hh]
  refine ⟨setL_B n p.2 _ _ rfl, (fly_ack n (cP X)).trans ?_, way_map (zeroF n) (fun q => zeroF_i n q (by omega)) (cP X)⟩
  exact drop_gt (List.Pairwise.filter _ hs) hi hp
theorem zeroF_PE (n : Int32) (p : PK) : PE true p (zeroF n p) := ⟨zeroF_i n p (by omega), zeroF_i n p (by omega), zeroF_i n p (by omega), fun _ => zeroF_i n p (by omega), zeroF_2 n p⟩
theorem NS_map {l : List PK} (h : NS l) (f : PK → PK) (hf : ∀ p, (f p).1 0 = p.1 0) : NS (swp (l.map f)) := by
  refine List.Pairwise.filter _ ?_
  refine List.pairwise_map.mpr (h.imp fun w => ?_)
  rw [hf, hf]
  exact w
theorem ackN_NS {n : Int32} {X : CS} (h : NS (cP X)) : NS (cP (ackN n X)) := by
  show NS (swp (if anyH n (cP X) = true then (cP X).map (zeroF n) else cP X))
  split
  · exact NS_map h _ fun p => zeroF_i n p (by omega)
  · exact List.Pairwise.filter _ h
def raC (a i s k : Nat) : LC := [some (.inr (.inr (14, a))), some (.inl (nI i)), some (.inr (.inr (11, s))), some (.inl (nI k)), none]
def sp_X1_receiveAck : SPc := fun As μ K => match As with
  | [.inr (.inr (14, a)), .inl x] => (x = -1 ∧ K (.inl none) μ) ∨ ∃ (X : CS) (L : List PK) (i : Nat) (p : PK), x = nI i ∧ CBs μ.1 a (cB X) ∧ PL false μ.1 μ.2.1 (a + 9) L ∧ L[i]? = some p ∧ (∀ en ∈ p.2, enOK en) ∧ ∀ F' G', CBs F' a (cB (setL' (p.1 0) p.2 X)) → PL false F' G' (a + 9) (L.drop (i + 1)) → (∀ z, ¬ z = a + 3 → ¬ z = a + 4 → ¬ z = a + 9 → F' z = μ.1 z) → (∀ z, ¬ z = a + 10 → G' z = μ.2.1 z) → K (.inl none) (F', G', μ.2.2)
  | _ => False
def ct_X1_receiveAck : List (Nat × CI) := [(245, ci_X4_removeUpTo)]
def ci_X1_receiveAck : CI := (yX1_receiveAck, cX1_receiveAck, 5, none, 2, (2, 0, 0, 45), 11, [], sp_X1_receiveAck)
set_option maxRecDepth 100000 in
theorem ck_X1_receiveAck : chkM ci_X1_receiveAck RX1 co_X1_receiveAck ct_X1_receiveAck [] false false = true := by decide +kernel
set_option maxHeartbeats 4000000 in
set_option maxRecDepth 100000 in
theorem ms_X1_receiveAck {g : GPT} {ot : OT} {l : Launch} (hl : l.stackTraces = false) : MS g ot l ci_X1_receiveAck := by
  refine ms_of hl RX1 co_X1_receiveAck ct_X1_receiveAck [] false false [28] 58 ck_X1_receiveAck (List.forall_mem_cons.mpr ⟨ms_X4_removeUpTo hl, fun _ h => nomatch h⟩) ?_
  intro As μ K h
  simp only [ci_X1_receiveAck, sp_X1_receiveAck] at h
  split at h
  case h_2 => exact h.elim
  rename_i a x
  rcases h with ⟨rfl, h⟩ | ⟨X, L, i, p, rfl, hB, hL, hi, hen, h⟩
  · refine ⟨Nat.le_of_ble_eq_true rfl, fun _ _ _ _ _ _ _ => False, ⟨fun _ => h, fun q => ?_⟩, fun _ _ _ _ _ _ _ w => w.elim⟩
    exact absurd (by decide : (-1 : Int32) < 0) q
  · have hil : i < L.length := (List.getElem?_eq_some_iff.mp hi).1
    have l12 := hL.2.1
    have r := hL.2.2.1.rng (j := i) (by omega)
    have hpc := hL.2.2.2 i p hi
    have h16 := hpc.2.2.2.2.2.1
    generalize hs : μ.2.1 (a + 9 + 1) i = s at *
    refine ⟨Nat.le_of_ble_eq_true rfl, fun m pc lc st μ' ce sl => ∃ k F, k ≤ p.2.length ∧ m = p.2.length - k ∧ pc = 28 ∧ lc = raC a i s k ∧ st = [] ∧ μ' = (F, μ.2) ∧ CBs F a (cB (setL' (p.1 0) (p.2.take k) X)) ∧ (∀ z, ¬ z = a + 3 → ¬ z = a + 4 → F z = μ.1 z) ∧ ce = 0 ∧ sl = 0, ?_, ?_⟩
    · refine ⟨fun q => ?_, fun q => ⟨fun q2 => ⟨i, rfl, by omega, by rw [hL.2.2.1.1]; omega, p.2.length, raC a i s 0, ⟨rfl, rfl, by rw [← hs], rfl, trivial⟩, 0, μ.1, Nat.zero_le _, rfl, rfl, rfl, rfl, rfl, hB, fun _ _ _ => rfl, rfl, rfl⟩, fun q2 => ?_⟩⟩
      · simp only [icP, ifP, iL, iM1] at q
        try simp only [z_nI] at q
        try simp only [nI_add, nI_mul] at q
        first | rw [nI_le_iff (by omega) (by omega)] at q | rw [nI_lt_iff (by omega) (by omega)] at q | rw [nI_eq_iff (by omega) (by omega)] at q
        omega
      · have q2 : ¬ nI i < μ.1 (a + 9) 0 := q2
        rw [hL.1, nI_lt_iff (by omega) (by omega)] at q2
        omega
    · rintro m pc lc st μ' ce sl ⟨k, F, hk, rfl, rfl, rfl, rfl, rfl, hg, hF, rfl, rfl⟩
      have hpc' : PC false F s p := hpc.keep fun z z1 z2 => hF z (by omega) (by omega)
      refine ⟨fun q => ⟨false, L, i, rfl, hil, hL.keep (fun z z1 z2 => hF z (by omega) (by omega)) rfl, fun F' G' hL' hF' hG' => ?_⟩, fun q => ?_⟩
      · have q : F s 2 ≤ nI k := q
        rw [hpc'.2.2.1, nI_le_iff (by omega) (by omega)] at q
        obtain rfl : k = p.2.length := by omega
        rw [List.take_length] at hg
        have hF' : ∀ z, ¬ z = a + 9 → F' z = F z := hF'
        exact h F' G' (hg.keep fun z z1 z2 => hF' z (by omega)) hL' (fun z h1 h2 h3 => (hF' z h3).trans (hF z h1 h2)) fun z hz => hG' z hz
      · have q : ¬ F s 2 ≤ nI k := q
        rw [hpc'.2.2.1, nI_le_iff (by omega) (by omega)] at q
        obtain ⟨en, hk2⟩ := at_of_lt (l := p.2) (k := k) (by omega)
        obtain ⟨e, he, k1⟩ := (hen en (List.mem_of_getElem? hk2)).2.1
        have ee : eN en = e := eN_of k1 he
        obtain ⟨g0, g1, g2, g3, g4⟩ := hpc'.2.2.2.2.2.2 k en hk2
        obtain ⟨b0, b1, b2⟩ := hg e he
        have hst := setL_S (p.1 0) hk2 X
        refine ⟨k, rfl, by omega, e, by rw [← k1]; exact g1, he, fun q2 => ⟨p.2.length - (k + 1), raC a i s (k + 1), by omega, ⟨rfl, rfl, rfl, inc_tv k, trivial⟩, k + 1, F, by omega, rfl, rfl, rfl, rfl, rfl, ?_, hF, rfl, rfl⟩, fun q2 => ⟨e, by rw [← k1]; exact g1, he, k, rfl, by omega, e, by rw [← k1]; exact g1, he, p.2.length - (k + 1), raC a i s (k + 1), by omega, ⟨rfl, rfl, rfl, inc_tv k, trivial⟩, k + 1, _, by omega, rfl, rfl, rfl, rfl, rfl, ?_, fun z hz hz2 => ?_, rfl, rfl⟩⟩
        · have q2 : F s 0 ≤ F (a + 3) e := q2
          rw [hpc'.1, b1] at q2
          rw [hst]
          unfold setl
          rw [ee, if_neg (Int32.not_lt.mpr q2)]
          exact hg
        · have q2 : ¬ F s 0 ≤ F (a + 3) e := q2
          rw [hpc'.1, b1] at q2
          rw [hst]
          unfold setl
          rw [ee, if_pos (Int32.not_le.mp q2)]
          intro x hx
          obtain ⟨c0, c1, c2⟩ := hg x hx
          show _ = up2 (up2 (cB (setL' (p.1 0) (p.2.take k) X)) e 1 (p.1 0)) e 2 (en 4) x 0 ∧ _ = up2 (up2 (cB (setL' (p.1 0) (p.2.take k) X)) e 1 (p.1 0)) e 2 (en 4) x 1 ∧ _ = up2 (up2 (cB (setL' (p.1 0) (p.2.take k) X)) e 1 (p.1 0)) e 2 (en 4) x 2
          dsimp only
          refine ⟨?_, ?_, ?_⟩
          · rw [u2_ne _ _ (by omega), u2_ne _ _ (by omega)]
            refine c0.trans ?_
            unfold up2
            rw [if_neg fun w => absurd w.2 (by omega), if_neg fun w => absurd w.2 (by omega)]
          · by_cases w : x = e
            · rw [w, u2_ne _ _ (by omega), u2_eq, u2_nj _ _ (by omega), u2_eq]
              exact hpc'.1
            · rw [u2_ne _ _ (by omega), u2_nj _ _ w, u2_ne _ _ w, u2_ne _ _ w]
              exact c1
          · by_cases w : x = e
            · rw [w, u2_eq, u2_eq, u2_ne _ _ (by omega)]
              exact g4
            · rw [u2_nj _ _ w, u2_ne _ _ (by omega), u2_ne _ _ w, u2_ne _ _ w]
              exact c2
        · dsimp only
          rw [u2_ne _ _ hz2, u2_ne _ _ hz]
          exact hF z hz hz2
def vaL (a k : Nat) (t : Int32) : LC := [some (.inr (.inr (14, a))), some (.inl t), some (.inl (nI k))]
theorem akA_inv (t : Int32) : ∀ (l : List (Int32 × Int32)) (X : CS), NS (cP X) → eOK X → NS (cP (akA t l X)) ∧ eOK (akA t l X) ∧ cR (akA t l X) = cR X ∧ cA (akA t l X) = cA X
  | [], _, h, g => ⟨h, g, rfl, rfl⟩
  | q :: l, X, h, g => by
    show NS (cP (akA t l (if q.2 = t then ackN q.1 X else X))) ∧ eOK (akA t l (if q.2 = t then ackN q.1 X else X)) ∧ cR (akA t l (if q.2 = t then ackN q.1 X else X)) = _ ∧ cA (akA t l (if q.2 = t then ackN q.1 X else X)) = _
    by_cases w : q.2 = t
    · rw [if_pos w]
      obtain ⟨a1, a2, a3, a4⟩ := akA_inv t l (ackN q.1 X) (ackN_NS h) (ackN_e q.1 g)
      exact ⟨a1, a2, a3.trans (ackN_S q.1 X).2, a4.trans (ackN_A q.1 X)⟩
    · rw [if_neg w]
      exact akA_inv t l X h g
def sp_X1_receiveAcks : SPc := fun As μ K => match As with
  | [.inr (.inr (14, a)), .inl t] => ∃ (X : CS), CC μ.1 μ.2.1 a X ∧ eOK X ∧ NS (cP X) ∧ ∀ μ', CC μ'.1 μ'.2.1 a (arr2 t X) → FRm μ μ' a (a + 161) → K (.inl none) μ'
  | _ => False
def ct_X1_receiveAcks : List (Nat × CI) := [(238, ci_X4_indexOf), (241, ci_X1_receiveAck), (244, ci_X0_removeArrived)]
def ci_X1_receiveAcks : CI := (yX1_receiveAcks, cX1_receiveAcks, 3, none, 2, (3, 0, 0, 69), 11, [], sp_X1_receiveAcks)
set_option maxRecDepth 100000 in
theorem ck_X1_receiveAcks : chkM ci_X1_receiveAcks RX1 co_X1_receiveAcks ct_X1_receiveAcks [] false false = true := by decide +kernel
set_option maxHeartbeats 4000000 in
set_option maxRecDepth 100000 in
theorem ms_X1_receiveAcks {g : GPT} {ot : OT} {l : Launch} (hl : l.stackTraces = false) : MS g ot l ci_X1_receiveAcks := by
  refine ms_of hl RX1 co_X1_receiveAcks ct_X1_receiveAcks [] false false [2] 44 ck_X1_receiveAcks (List.forall_mem_cons.mpr ⟨ms_X4_indexOf hl, List.forall_mem_cons.mpr ⟨ms_X1_receiveAck hl, List.forall_mem_cons.mpr ⟨ms_X0_removeArrived hl, fun _ h => nomatch h⟩⟩⟩) ?_
  intro As μ K h
  simp only [ci_X1_receiveAcks, sp_X1_receiveAcks] at h
  split at h
  case h_2 => exact h.elim
  rename_i a t
  obtain ⟨X, hX, hE, hN, h⟩ := h
  obtain ⟨x1, x2, x3, x4, x5, x6⟩ := id hX
  have l24 := x6.2.1
  refine ⟨Nat.le_of_ble_eq_true rfl, fun m pc lc st μ' ce sl => ∃ k F G, k ≤ (cA X).length ∧ m = (cA X).length - k ∧ pc = 2 ∧ lc = vaL a k t ∧ st = [] ∧ μ' = (F, G, μ.2.2) ∧ CSc F a (cS (akA t ((cA X).take k) X)) ∧ CBs F a (cB (akA t ((cA X).take k) X)) ∧ PL false F G (a + 9) (flyL (akA t ((cA X).take k) X)) ∧ PL true F G (a + 83) (wayL (akA t ((cA X).take k) X)) ∧ (∀ z, ¬ z = a + 1 → ¬ z = a + 3 → ¬ z = a + 4 → ¬ z = a + 9 → F z = μ.1 z) ∧ (∀ z, ¬ z = a + 10 → G z = μ.2.1 z) ∧ ce = 0 ∧ sl = 0, ?_, ?_⟩
  · exact ⟨(cA X).length, vaL a 0 t, ⟨rfl, rfl, rfl, trivial⟩, 0, μ.1, μ.2.1, Nat.zero_le _, rfl, rfl, rfl, rfl, rfl, x1, x2, x4, x5, fun _ _ _ _ _ => rfl, fun _ _ => rfl, rfl, rfl⟩
  · rintro m pc lc st μ' ce sl ⟨k, F, G, hk, rfl, rfl, rfl, rfl, rfl, r1, r2, r4, r5, hF, hG, rfl, rfl⟩
    have s6 : CA F (a + 157) (cA X) := x6.keep fun z z1 z2 => hF z (by omega) (by omega) (by omega) (by omega)
    refine ⟨fun w => ⟨cA X, s6, fun F' hA' hF' => ?_⟩, fun w => ?_⟩
    · have w : F (a + 157) 0 ≤ nI k := w
      rw [s6.1, nI_le_iff (by omega) (by omega)] at w
      obtain rfl : k = (cA X).length := by omega
      rw [List.take_length] at r1 r2 r4 r5
      obtain ⟨a1, a2, a3, a4⟩ := akA_inv t (cA X) X hN hE
      have hF' : ∀ z, (z < a + 157 ∨ a + 157 + 3 ≤ z) → F' z = F z := hF'
      refine h (F', G, μ.2.2) ⟨?_, ?_, ?_, ?_, ?_, hA'⟩ ⟨fun z hz => ⟨?_, hG z (by omega)⟩, rfl⟩
      · exact CSc.keep r1 fun z z1 z2 => hF' z (by omega)
      · exact CBs.keep r2 fun z z1 z2 => hF' z (by omega)
      · show CD F' (a + 5) (cR (akA t (cA X) X))
        rw [a3]
        refine x3.keep fun z z1 z2 => ?_
        rw [hF' _ (by omega)]
        exact hF z (by omega) (by omega) (by omega) (by omega)
      · exact PL.keep r4 (fun z z1 z2 => hF' z (by omega)) rfl
      · exact PL.keep r5 (fun z z1 z2 => hF' z (by omega)) rfl
      · show F' z = _
        rw [hF' _ (by omega)]
        exact hF z (by omega) (by omega) (by omega) (by omega)
    · have w : ¬ F (a + 157) 0 ≤ nI k := w
      rw [s6.1, nI_le_iff (by omega) (by omega)] at w
      obtain ⟨q, hq⟩ := at_of_lt (l := cA X) (k := k) (by omega)
      obtain ⟨b1, b2⟩ := s6.2.2 k q hq
      have hst := akA_S t hq X
      obtain ⟨a1, a2, a3, a4⟩ := akA_inv t ((cA X).take k) X hN hE
      generalize akA t ((cA X).take k) X = Y at *
      refine ⟨k, rfl, by omega, fun w2 => ⟨(cA X).length - (k + 1), vaL a (k + 1) t, by omega, ⟨rfl, rfl, inc_tv k, trivial⟩, k + 1, F, G, by omega, rfl, rfl, rfl, rfl, rfl, ?_, ?_, ?_, ?_, hF, hG, rfl, rfl⟩, fun w2 => ?_⟩
      · have w2 : ¬ F (a + 159) k = t := w2
        rw [b2] at w2
        rw [hst, if_neg w2]
        exact r1
      · have w2 : ¬ F (a + 159) k = t := w2
        rw [b2] at w2
        rw [hst, if_neg w2]
        exact r2
      · have w2 : ¬ F (a + 159) k = t := w2
        rw [b2] at w2
        rw [hst, if_neg w2]
        exact r4
      · have w2 : ¬ F (a + 159) k = t := w2
        rw [b2] at w2
        rw [hst, if_neg w2]
        exact r5
      · have w2 : ¬ ¬ F (a + 159) k = t := w2
        rw [b2, Classical.not_not] at w2
        rw [if_pos w2] at hst
        have c4 : F (a + 1) 4 = cS Y 12 := r1.2.1 4 (by omega) (by omega)
        have hS1 : CSc (up2 F (a + 1) 4 (F (a + 1) 4 + Int32.ofInt 1)) a (cS (ackN q.1 Y)) := by
          rw [(ackN_S q.1 Y).1]
          exact CSc.C (w := 4) (v := cS Y 12 + 1) r1 (by omega) (by omega) (by omega) (u2_ne _ _ (by omega)) (fun j hj => u2_nj _ _ hj) (by
            rw [u2_eq, c4]
            rfl)
        have k1 : (up2 F (a + 1) 4 (F (a + 1) 4 + Int32.ofInt 1)) (a + 158) k = q.1 := by
          rw [u2_ne _ _ (by omega)]
          exact b1
        have r4' : PL false (up2 F (a + 1) 4 (F (a + 1) 4 + Int32.ofInt 1)) G (a + 9) (flyL Y) := r4.keep (fun z z1 z2 => u2_ne _ _ (by omega)) rfl
        have r5' : PL true (up2 F (a + 1) 4 (F (a + 1) 4 + Int32.ofInt 1)) G (a + 83) (wayL Y) := r5.keep (fun z z1 z2 => u2_ne _ _ (by omega)) rfl
        have r2' : CBs (up2 F (a + 1) 4 (F (a + 1) 4 + Int32.ofInt 1)) a (cB Y) := r2.keep fun z z1 z2 => u2_ne _ _ (by omega)
        refine ⟨4, rfl, by omega, 4, rfl, by omega, k, rfl, by omega, false, flyL Y, r4', fun j p hj hp => ?_, fun hno => Or.inl ⟨rfl, ?_⟩⟩
        · have hp : p.1 0 = (up2 F (a + 1) 4 (F (a + 1) 4 + Int32.ofInt 1)) (a + 158) k := hp
          rw [k1] at hp
          obtain ⟨n1, n2, n3⟩ := ackN_at a1 hj hp
          refine Or.inr ⟨Y, flyL Y, j, p, rfl, r2', r4', hj, a2 p (flyL_mem hj), fun F' G' hB' hL' hF' hG' => ⟨(cA X).length - (k + 1), vaL a (k + 1) t, by omega, ⟨rfl, rfl, inc_tv k, trivial⟩, k + 1, F', G', by omega, rfl, rfl, rfl, rfl, rfl, ?_, ?_, ?_, ?_, fun z h1 h2 h3 h4 => ?_, fun z hz => ?_, rfl, rfl⟩⟩
          · rw [hst]
            exact hS1.keep fun z z1 z2 => hF' z (by omega) (by omega) (by omega)
          · rw [hst, n1, ← hp]
            exact hB'
          · rw [hst, n2]
            exact hL'
          · rw [hst, n3]
            exact PL.map (r5'.keep (fun z z1 z2 => hF' z (by omega) (by omega) (by omega)) (hG' _ (by omega))) _ fun p _ => zeroF_PE _ p
          · exact (hF' z h2 h3 h4).trans ((u2_ne _ _ h1).trans (hF z h1 h2 h3 h4))
          · exact (hG' z hz).trans (hG z hz)
        · have hno : ∀ p ∈ flyL Y, ¬ p.1 0 = q.1 := fun p hp => by
            obtain ⟨j, hj⟩ := List.getElem?_of_mem hp
            rw [← k1]
            exact hno j p hj
          obtain ⟨n1, n2, n3⟩ := ackN_no hno
          refine ⟨(cA X).length - (k + 1), vaL a (k + 1) t, by omega, ⟨rfl, rfl, inc_tv k, trivial⟩, k + 1, _, G, by omega, rfl, rfl, rfl, rfl, rfl, ?_, ?_, ?_, ?_, fun z h1 h2 h3 h4 => ?_, hG, rfl, rfl⟩
          · rw [hst]
            exact hS1
          · rw [hst, n1]
            exact r2'
          · rw [hst, n2]
            exact r4'
          · rw [hst, n3]
            exact r5'
          · exact (u2_ne _ _ h1).trans (hF z h1 h2 h3 h4)
