/-! THE CLASS, a client: what is given up; what is offered to a packet. -/
abbrev goB (t lim : Int32) (p : PK) : Prop := lim ≤ t - p.1 2
def remB (t lim : Int32) (L : List PK) (k : Nat) : List PK := L.take k ++ (L.drop k).filter fun p => decide (¬ goB t lim p)
def cntB (t lim : Int32) (L : List PK) (k : Nat) : Nat := ((L.drop k).filter fun p => decide (goB t lim p)).length
theorem remB_all (t lim : Int32) (L : List PK) : remB t lim L L.length = L := by
  unfold remB
  rw [List.take_length, List.drop_length]
  exact List.append_nil _
theorem cntB_all (t lim : Int32) (L : List PK) : cntB t lim L L.length = 0 := by
  unfold cntB
  rw [List.drop_length]
  rfl
theorem remB_at (t lim : Int32) {L : List PK} {k : Nat} {p : PK} (h : L[k]? = some p) : (remB t lim L (k + 1))[k]? = some p := by
  have hk : k < L.length := (List.getElem?_eq_some_iff.mp h).1
  unfold remB
  rw [List.getElem?_append_left (by rw [List.length_take]; omega), List.getElem?_take, if_pos (by omega)]
  exact h
theorem remB_S (t lim : Int32) {L : List PK} {k : Nat} {p : PK} (h : L[k]? = some p) : remB t lim L k = (if goB t lim p then (remB t lim L (k + 1)).eraseIdx k else remB t lim L (k + 1)) ∧ cntB t lim L k = cntB t lim L (k + 1) + (if goB t lim p then 1 else 0) := by
  have hk : k < L.length := (List.getElem?_eq_some_iff.mp h).1
  have e : L.drop k = p :: L.drop (k + 1) := by
    rw [List.drop_eq_getElem_cons hk]
    congr 1
    rw [List.getElem?_eq_getElem hk] at h
    exact Option.some.inj h
  have e2 : L.take (k + 1) = L.take k ++ [p] := by rw [List.take_add_one, h]; rfl
  have el : (L.take k).length = k := by rw [List.length_take]; omega
  unfold remB cntB
  rw [e, e2]
  by_cases q : goB t lim p
  · rw [if_pos q, if_pos q, List.filter_cons_of_neg (by simp [q]), List.filter_cons_of_pos (by simp [q]), List.append_assoc, List.eraseIdx_append_of_length_le (by omega), el, Nat.sub_self]
    exact ⟨rfl, rfl⟩
  · rw [if_neg q, if_neg q, List.filter_cons_of_pos (by simp [q]), List.filter_cons_of_neg (by simp [q]), List.append_assoc]
    exact ⟨rfl, rfl⟩
def guC (a k : Nat) (t lim : Int32) : LC := [some (.inr (.inr (14, a))), some (.inl t), some (.inl lim), some (.inl (nI k - 1))]
theorem CSc.C {F F' : Nat → Nat → Int32} {a w : Nat} {S : Nat → Int32} {v : Int32} (h : CSc F a S) (hw : w < 9) (hw6 : ¬ w = 6) (hw0 : ¬ w = 0) (h0 : F' a = F a) (h1 : ∀ k, ¬ k = w → F' (a + 1) k = F (a + 1) k) (h2 : F' (a + 1) w = v) : CSc F' a (upd S (cnI w) v) := by
  obtain ⟨s1, s2, s3⟩ := h
  have ci : ∀ k, k < 9 → ¬ k = 6 → 8 ≤ cnI k ∧ (¬ k = w → ¬ cnI k = cnI w) ∧ (¬ k = 0 → 8 < cnI k) := fun k hk k6 => by
    unfold cnI
    split <;> split <;> omega
  refine ⟨fun k hk => ?_, fun k hk k6 => ?_, ?_⟩
  · rw [h0, upd_ne _ _ (by have := (ci w hw hw6).1; omega)]
    exact s1 k hk
  · by_cases q : k = w
    · rw [q, upd_eq]; exact h2
    · rw [h1 k q, upd_ne _ _ ((ci k hk k6).2.1 q)]
      exact s2 k hk k6
  · rw [upd_ne _ _ (by have := (ci w hw hw6).1; omega), upd_ne _ _ (by have := (ci w hw hw6).2.2 hw0; omega)]
    exact s3
def sp_X1_giveUpOldPackets : SPc := fun As μ K => match As with
  | [.inr (.inr (14, a)), .inl t, .inl lim] => ∃ (S : Nat → Int32) (L : List PK), CSc μ.1 a S ∧ PL false μ.1 μ.2.1 (a + 9) L ∧ ∀ F' G', CSc F' a (upd S 14 (S 14 + nI (cntB t lim L 0))) → PL false F' G' (a + 9) (L.filter fun p => decide (¬ goB t lim p)) → (∀ z, ¬ z = a + 1 → ¬ z = a + 9 → F' z = μ.1 z) → (∀ z, ¬ z = a + 10 → G' z = μ.2.1 z) → K (.inl none) (F', G', μ.2.2)
  | _ => False
def ct_X1_giveUpOldPackets : List (Nat × CI) := [(154, ci_X4_removeAt)]
def ci_X1_giveUpOldPackets : CI := (yX1_giveUpOldPackets, cX1_giveUpOldPackets, 4, none, 3, (1, 0, 0, 23), 11, [], sp_X1_giveUpOldPackets)
set_option maxRecDepth 100000 in
theorem ck_X1_giveUpOldPackets : chkM ci_X1_giveUpOldPackets RX1 co_X1_giveUpOldPackets ct_X1_giveUpOldPackets [] false false = true := by decide +kernel
set_option maxHeartbeats 4000000 in
set_option maxRecDepth 100000 in
theorem ms_X1_giveUpOldPackets {g : GPT} {ot : OT} {l : Launch} (hl : l.stackTraces = false) : MS g ot l ci_X1_giveUpOldPackets := by
  refine ms_of hl RX1 co_X1_giveUpOldPackets ct_X1_giveUpOldPackets [] false false [10] 38 ck_X1_giveUpOldPackets (List.forall_mem_cons.mpr ⟨ms_X4_removeAt hl, fun _ h => nomatch h⟩) ?_
  intro As μ K h
  simp only [ci_X1_giveUpOldPackets, sp_X1_giveUpOldPackets] at h
  split at h
  case h_2 => exact h.elim
  rename_i a t lim
  obtain ⟨S, L, hS, hL, h⟩ := h
  have l12 := hL.2.1
  refine ⟨Nat.le_of_ble_eq_true rfl, fun m pc lc st μ' ce sl => ∃ k F G, k ≤ L.length ∧ m = k + 1 ∧ pc = 10 ∧ lc = guC a k t lim ∧ st = [] ∧ μ' = (F, G, μ.2.2) ∧ CSc F a (upd S 14 (S 14 + nI (cntB t lim L k))) ∧ PL false F G (a + 9) (remB t lim L k) ∧ (∀ z, ¬ z = a + 1 → ¬ z = a + 9 → F z = μ.1 z) ∧ (∀ z, ¬ z = a + 10 → G z = μ.2.1 z) ∧ ce = 0 ∧ sl = 0, ?_, ?_⟩
  · refine ⟨L.length + 1, guC a L.length t lim, ⟨rfl, rfl, rfl, ?_, trivial⟩, L.length, μ.1, μ.2.1, Nat.le_refl _, rfl, rfl, rfl, rfl, rfl, ?_, ?_, fun _ _ _ => rfl, fun _ _ => rfl, rfl, rfl⟩
    · rw [hL.1]
      rfl
    · rw [cntB_all]
      have e : S 14 + nI 0 = S 14 := Int32.add_zero _
      rw [e, upd_self]
      exact hS
    · rw [remB_all]
      exact hL
  · rintro m pc lc st μ' ce sl ⟨k, F, G, hk, rfl, rfl, rfl, rfl, rfl, hS', hg, hF, hG, rfl, rfl⟩
    refine ⟨fun q => ?_, fun q => ?_⟩
    · have q : nI k - 1 < 0 := q
      rw [sub1_lt (by omega)] at q
      subst q
      exact h F G hS' hg hF hG
    · have q : ¬ nI k - 1 < 0 := q
      rw [sub1_lt (by omega)] at q
      obtain ⟨k, rfl⟩ : ∃ k', k = k' + 1 := ⟨k - 1, by omega⟩
      obtain ⟨p, hp⟩ := at_of_lt (l := L) (k := k) (by omega)
      have hp2 := remB_at t lim hp
      obtain ⟨rs1, rs2⟩ := remB_S t lim hp
      have ek : nI (k + 1) - 1 = nI k := by
        show nI (k + 1) - nI 1 = _
        rw [nI_sub1 (by omega)]
        rfl
      have e3 := (hg.2.2.2 k p hp2).2.2.2.1
      refine ⟨k, ek, by omega, by show _ < G (a + 9 + 1) 12; rw [hg.2.2.1.1]; omega, fun q2 => ?_, fun q2 => ?_⟩
      · have q3 : t - F (G (a + 9 + 1) k) 3 < lim := q2
        rw [e3] at q3
        have q4 : ¬ goB t lim p := Int32.not_le.mpr q3
        rw [if_neg q4] at rs1 rs2
        refine ⟨k + 1, guC a k t lim, by omega, ⟨rfl, rfl, rfl, dec_tv k, trivial⟩, k, F, G, by omega, rfl, rfl, rfl, rfl, rfl, ?_, ?_, hF, hG, rfl, rfl⟩
        · rw [rs2]; exact hS'
        · rw [rs1]; exact hg
      · have q3 : ¬ t - F (G (a + 9 + 1) k) 3 < lim := q2
        rw [e3] at q3
        have q4 : goB t lim p := Int32.not_lt.mp q3
        rw [if_pos q4] at rs1 rs2
        refine ⟨false, remB t lim L (k + 1), k, ek, (List.getElem?_eq_some_iff.mp hp2).1, hg, fun F' G' hL' hF' hG' => ⟨7, rfl, by omega, 7, rfl, by omega, k + 1, guC a k t lim, by omega, ⟨rfl, rfl, rfl, dec_tv k, trivial⟩, k, _, G', by omega, rfl, rfl, rfl, rfl, rfl, ?_, ?_, fun z hz hz2 => ?_, fun z hz => ?_, rfl, rfl⟩⟩
        · have hF' : ∀ z, ¬ z = a + 9 → F' z = F z := hF'
          have c7 : F' (a + 1) 7 = S 14 + nI (cntB t lim L (k + 1)) := by
            rw [hF' _ (by omega), hS'.2.1 7 (by omega) (by omega)]
            exact upd_eq _ _ _
          have := CSc.C (F' := up2 F' (a + 1) 7 (F' (a + 1) 7 + Int32.ofInt 1)) (w := 7) (v := S 14 + nI (cntB t lim L k)) hS' (by omega) (by omega) (by omega) (by rw [u2_ne _ _ (by omega)]; exact hF' _ (by omega)) (fun j hj => by rw [u2_nj _ _ hj, hF' _ (by omega)]) (by
            rw [u2_eq, c7, rs2, Int32.add_assoc]
            congr 1
            exact nI_add _ 1)
          have e14 : cnI 7 = 14 := rfl
          rw [e14, upd_upd] at this
          exact this
        · rw [rs1]
          exact hL'.keep (fun z z1 z2 => by rw [u2_ne _ _ (by omega)]) rfl
        · rw [u2_ne _ _ hz]
          exact (hF' z hz2).trans (hF z hz hz2)
        · exact (hG' z hz).trans (hG z hz)
theorem mkEn_4 (k e b m s : Int32) {i : Nat} (hi : 4 ≤ i) : mkEn k e b m s i = s := by
  obtain ⟨d, rfl⟩ : ∃ d, i = d + 4 := ⟨i - 4, by omega⟩
  rfl
theorem mkE_4 (X : CS) (E : Nat → Nat → Int32) (j : Nat) {i : Nat} (hi : 4 ≤ i) : mkE X E j i = if inA X (E j 0) then E j 0 else -1 := by
  obtain ⟨d, rfl⟩ : ∃ d, i = d + 4 := ⟨i - 4, by omega⟩
  rfl
theorem mkE_eq {X : CS} {E : Nat → Nat → Int32} {j : Nat} (hk : ¬ ekV X E j = -1) : mkEn (ekV X E j) (nI j) (if ekV X E j = 2 then cB X j 1 else 0) (nI (emN X E j (ekV X E j))) (if ekV X E j = 0 then -1 else E j 0) = mkE X E j := by
  have f : ∀ x y : EN, (x 0 = y 0 ∧ x 1 = y 1 ∧ x 2 = y 2 ∧ x 3 = y 3) → (∀ i, 4 ≤ i → x i = y i) → x = y := fun x y h g => by
    funext i
    obtain ⟨h0, h1, h2, h3⟩ := h
    by_cases q : 4 ≤ i
    · exact g i q
    · have : i = 0 ∨ i = 1 ∨ i = 2 ∨ i = 3 := by omega
      rcases this with rfl | rfl | rfl | rfl
      · exact h0
      · exact h1
      · exact h2
      · exact h3
  by_cases q : inA X (E j 0)
  · by_cases q2 : cB X j 2 = -1
    · have ek : ekV X E j = 1 := by unfold ekV; rw [if_pos q, if_pos q2]
      rw [ek]
      refine f _ _ ⟨?_, rfl, ?_, ?_⟩ fun i hi => ?_
      · show 1 = if inA X (E j 0) then _ else _
        rw [if_pos q, if_pos q2]
      · show (if (1 : Int32) = 2 then cB X j 1 else 0) = if inA X (E j 0) ∧ ¬ cB X j 2 = -1 then cB X j 1 else 0
        rw [if_neg (by decide), if_neg fun w => w.2 q2]
      · show nI (emN X E j 1) = if inA X (E j 0) then (if cB X j 2 = -1 then 15 else _) else _
        rw [if_pos q, if_pos q2]
        have : emN X E j 1 = 15 := if_pos rfl
        rw [this]
        rfl
      · rw [mkEn_4 _ _ _ _ _ hi, mkE_4 _ _ _ hi, if_pos q, if_neg (by decide)]
    · have q3 : ¬ cB X j 2 = E j 0 := fun w => hk (by unfold ekV; rw [if_pos q, if_neg q2, if_pos w])
      have ek : ekV X E j = 2 := by unfold ekV; rw [if_pos q, if_neg q2, if_neg q3]
      rw [ek]
      refine f _ _ ⟨?_, rfl, ?_, ?_⟩ fun i hi => ?_
      · show 2 = if inA X (E j 0) then _ else _
        rw [if_pos q, if_neg q2]
      · show (if (2 : Int32) = 2 then cB X j 1 else 0) = if inA X (E j 0) ∧ ¬ cB X j 2 = -1 then cB X j 1 else 0
        rw [if_pos rfl, if_pos ⟨q, q2⟩]
      · show nI (emN X E j 2) = if inA X (E j 0) then (if cB X j 2 = -1 then 15 else nI (mkN (sN (cB X j 2)) (sN (E j 0)))) else _
        rw [if_pos q, if_neg q2]
        have : emN X E j 2 = mkN (sN (cB X j 2)) (sN (E j 0)) := by
          unfold emN
          rw [if_neg (by decide), if_pos rfl]
        rw [this]
      · rw [mkEn_4 _ _ _ _ _ hi, mkE_4 _ _ _ hi, if_pos q, if_neg (by decide)]
  · have q2 : ¬ cB X j 2 = -1 := fun w => hk (by unfold ekV; rw [if_neg q, if_pos w])
    have ek : ekV X E j = 0 := by unfold ekV; rw [if_neg q, if_neg q2]
    rw [ek]
    refine f _ _ ⟨?_, rfl, ?_, ?_⟩ fun i hi => ?_
    · show 0 = if inA X (E j 0) then _ else _
      rw [if_neg q]
    · show (if (0 : Int32) = 2 then cB X j 1 else 0) = if inA X (E j 0) ∧ ¬ cB X j 2 = -1 then cB X j 1 else 0
      rw [if_neg (by decide), if_neg fun w => q w.1]
    · show nI (emN X E j 0) = if inA X (E j 0) then _ else 0
      rw [if_neg q]
      have : emN X E j 0 = 0 := by
        unfold emN
        rw [if_neg (by decide), if_neg (by decide)]
      rw [this]
      rfl
    · rw [mkEn_4 _ _ _ _ _ hi, mkE_4 _ _ _ hi, if_neg q, if_pos rfl]
def ofL (a q n j : Nat) (k : Int32) (m : Nat) (b : Int32) : LC := [some (.inr (.inr (14, a))), some (.inr (.inr (11, q))), some (.inr (.inr (8, n))), some (.inl (nI j)), some (.inl k), some (.inl (nI m)), some (.inl b)]
def sp_X1_offerEntry : SPc := fun As μ K => match As with
  | [.inr (.inr (14, a)), .inr (.inr (11, q)), .inr (.inr (8, n)), .inl e] => ∃ (j : Nat) (X : CS) (E : Nat → Nat → Int32) (p : PK), e = nI j ∧ j < 16 ∧ CSc μ.1 a (cS X) ∧ CBs μ.1 a (cB X) ∧ SE μ.1 n E ∧ sOK (cB X j 2) ∧ ¬ ekV X E j = -1 ∧ PC true μ.1 q p ∧ p.2.length < 16 ∧ (a + 11 ≤ q ∧ q + 6 ≤ a + 83) ∧ (n + 4 ≤ a ∨ a + 161 ≤ n) ∧
      (¬ p.1 1 + nI (prc X E j) ≤ cS X 4 → K (.inl none) μ) ∧ (p.1 1 + nI (prc X E j) ≤ cS X 4 → ∀ F', PC true F' q (upd p.1 1 (p.1 1 + nI (prc X E j)), p.2 ++ [mkE X E j]) → CBs F' a (up2 (cB X) j 0 0) → (∀ z, (z < q ∨ q + 6 ≤ z) → ¬ z = a + 2 → F' z = μ.1 z) → K (.inl none) (F', μ.2))
  | _ => False
def ct_X1_offerEntry : List (Nat × CI) := [(135, ci_X1_entryKind), (138, ci_X1_entryMask), (142, ci_X3_bytesFor), (183, ci_X3_add)]
def ci_X1_offerEntry : CI := (yX1_offerEntry, cX1_offerEntry, 7, none, 4, (3, 0, 0, 69), 11, [], sp_X1_offerEntry)
set_option maxRecDepth 100000 in
theorem ck_X1_offerEntry : chkM ci_X1_offerEntry RX1 co_X1_offerEntry ct_X1_offerEntry [] false false = true := by decide +kernel
set_option maxHeartbeats 4000000 in
set_option maxRecDepth 100000 in
theorem ms_X1_offerEntry {g : GPT} {ot : OT} {l : Launch} (hl : l.stackTraces = false) (hot : otOK ot) : MS g ot l ci_X1_offerEntry := by
  refine ms_of hl RX1 co_X1_offerEntry ct_X1_offerEntry [] false false [60] 59 ck_X1_offerEntry (List.forall_mem_cons.mpr ⟨ms_X1_entryKind hl hot, List.forall_mem_cons.mpr ⟨ms_X1_entryMask hl hot, List.forall_mem_cons.mpr ⟨ms_X3_bytesFor hl, List.forall_mem_cons.mpr ⟨ms_X3_add hl, fun _ h => nomatch h⟩⟩⟩⟩) ?_
  intro As μ K h
  simp only [ci_X1_offerEntry, sp_X1_offerEntry] at h
  split at h
  case h_2 => exact h.elim
  rename_i a q n e
  obtain ⟨j, X, E, p, rfl, hj, hS, hB, hE, hs, hk, hp, hpl, hq, hn, g1, g2⟩ := h
  obtain ⟨e1, e2⟩ := hE j hj
  obtain ⟨b0, b1, b2⟩ := hB j hj
  have hpr : nI (prc X E j) = bysP (ekV X E j) (emN X E j (ekV X E j)) := by rw [prc_ek, if_neg hk]
  refine ⟨Nat.le_of_ble_eq_true rfl, fun m pc lc st μ' ce sl => p.1 1 + nI (prc X E j) ≤ cS X 4 ∧ m = 0 ∧ pc = 60 ∧ lc = [some (.inr (.inr (14, a))), some (.inr (.inr (11, q))), some (.inr (.inr (8, n))), some (.inl (nI j)), some (.inl (ekV X E j)), some (.inl (nI (emN X E j (ekV X E j)))), none] ∧ st = [.inl (if ekV X E j = 2 then cB X j 1 else 0)] ∧ μ = μ' ∧ ce = 0 ∧ sl = 0, ?_, ?_⟩
  · refine ⟨j, X, E, rfl, hj, hS, b2, hE, j, X, E, rfl, hj, b2, hE, hs, fun w => w, fun w => absurd w hk, fun _ => ⟨emN X E j (ekV X E j), rfl, emN_lt _ _ _ _, fun w => ⟨fun w2 => ?_, fun w2 => ⟨j, rfl, hj, ?_⟩⟩, fun w => ?_⟩⟩
    · have w : μ.1 q 1 + bysP (ekV X E j) (emN X E j (ekV X E j)) ≤ μ.1 a 4 := w
      rw [hp.2.1, ← hpr, hS.1 4 (by omega)] at w
      have w2 : ¬ ekV X E j = 2 := w2
      refine ⟨0, [some (.inr (.inr (14, a))), some (.inr (.inr (11, q))), some (.inr (.inr (8, n))), some (.inl (nI j)), some (.inl (ekV X E j)), some (.inl (nI (emN X E j (ekV X E j)))), none], ⟨rfl, rfl, rfl, rfl, rfl, rfl, trivial⟩, w, rfl, rfl, rfl, ?_, rfl, rfl, rfl⟩
      rw [if_neg w2]
      rfl
    · have w : μ.1 q 1 + bysP (ekV X E j) (emN X E j (ekV X E j)) ≤ μ.1 a 4 := w
      rw [hp.2.1, ← hpr, hS.1 4 (by omega)] at w
      have w2 : ¬ ¬ ekV X E j = 2 := w2
      rw [Classical.not_not] at w2
      refine ⟨0, [some (.inr (.inr (14, a))), some (.inr (.inr (11, q))), some (.inr (.inr (8, n))), some (.inl (nI j)), some (.inl (ekV X E j)), some (.inl (nI (emN X E j (ekV X E j)))), none], ⟨rfl, rfl, rfl, rfl, rfl, rfl, trivial⟩, w, rfl, rfl, rfl, ?_, rfl, rfl, rfl⟩
      rw [if_pos w2, ← b1]
      rfl
    · have w : ¬ μ.1 q 1 + bysP (ekV X E j) (emN X E j (ekV X E j)) ≤ μ.1 a 4 := w
      rw [hp.2.1, ← hpr, hS.1 4 (by omega)] at w
      exact g1 w
  · rintro m pc lc st μ' ce sl ⟨hle, rfl, rfl, rfl, rfl, rfl, rfl, rfl⟩
    have fin : ∀ s : Int32, s = (if ekV X E j = 0 then -1 else E j 0) → ∀ F', PC true F' q (upd p.1 1 (p.1 1 + bysP (ekV X E j) (emN X E j (ekV X E j))), p.2 ++ [mkEn (ekV X E j) (nI j) (if ekV X E j = 2 then cB X j 1 else 0) (nI (emN X E j (ekV X E j))) s]) → (∀ b, (b < q ∨ q + 6 ≤ b) → F' b = μ.1 b) → K (.inl none) (up2 F' (a + 2) j (Int32.ofInt 0), μ.2) := fun s hs2 F' hF hFo => by
      rw [hs2, mkE_eq hk, ← hpr] at hF
      refine g2 hle _ (hF.keep fun z z1 z2 => by rw [u2_ne _ _ (by omega)]) (fun x hx => ?_) fun z hz hz2 => ?_
      · obtain ⟨c0, c1, c2⟩ := hB x hx
        refine ⟨?_, ?_, ?_⟩
        · by_cases w : x = j
          · rw [w, u2_eq, u2_eq]
            rfl
          · rw [u2_nj _ _ w, u2_ne _ _ w, hFo _ (by omega)]
            exact c0
        · rw [u2_ne _ _ (by omega), hFo _ (by omega)]
          refine c1.trans ?_
          unfold up2
          rw [if_neg fun w => absurd w.2 (by omega)]
        · rw [u2_ne _ _ (by omega), hFo _ (by omega)]
          refine c2.trans ?_
          unfold up2
          rw [if_neg fun w => absurd w.2 (by omega)]
      · rw [u2_ne _ _ hz2]
        exact hFo z hz
    refine ⟨fun w => ⟨j, rfl, hj, true, p, emN X E j (ekV X E j), hp, hpl, rfl, emN_lt _ _ _ _, fun F' hF hFo => ⟨j, rfl, hj, fin _ ?_ F' hF hFo⟩⟩, fun w => ⟨true, p, emN X E j (ekV X E j), hp, hpl, rfl, emN_lt _ _ _ _, fun F' hF hFo => ⟨j, rfl, hj, fin _ ?_ F' hF hFo⟩⟩⟩
    · have w : ¬ ekV X E j = 0 := w
      rw [if_neg w]
      exact e1
    · have w : ¬ ¬ ekV X E j = 0 := w
      rw [if_pos (Classical.not_not.mp w)]
      rfl
