/-! THE REFERENCE serves a client, passes a tick, keeps a state. -/
theorem raiN_P (X : CS) (E : Nat → Nat → Int32) : ∀ n, cP (raiN X E n) = cP X
  | 0 => rfl
  | n + 1 => raiN_P X E n
theorem raiN_A (X : CS) (E : Nat → Nat → Int32) : ∀ n, cA (raiN X E n) = cA X
  | 0 => rfl
  | n + 1 => raiN_A X E n
theorem raiN_S (X : CS) (E : Nat → Nat → Int32) : ∀ n, cS (raiN X E n) = cS X
  | 0 => rfl
  | n + 1 => raiN_S X E n
theorem raiN_R (X : CS) (E : Nat → Nat → Int32) : ∀ n, cR (raiN X E n) = cR X
  | 0 => rfl
  | n + 1 => raiN_R X E n
theorem raiN_B (X : CS) (E : Nat → Nat → Int32) (e k : Nat) (hk : ¬ k = 0) : ∀ n, cB (raiN X E n) e k = cB X e k
  | 0 => rfl
  | n + 1 => by
    show up2 (cB (raiN X E n)) n 0 _ e k = _
    unfold up2
    rw [if_neg fun q => hk q.2]
    exact raiN_B X E e k hk n
theorem zeroO_bit {t lim : Int32} {p : PK} (h : p.1 4 = 0 ∨ p.1 4 = 1) : (zeroO t lim p).1 4 = 0 ∨ (zeroO t lim p).1 4 = 1 := by
  unfold zeroO
  split
  · refine Or.inl ?_
    show upd p.1 4 0 4 = 0
    exact upd_eq _ _ _
  · exact h
theorem giv_bit {t lim : Int32} {X : CS} (h : bitP (cP X)) : bitP (cP (giv t lim X)) := fun p hp => by
  have hp := (List.mem_filter.mp hp).1
  obtain ⟨q, hq, rfl⟩ := List.mem_map.mp hp
  exact zeroO_bit (h q hq)
def RUT (μ : MM) (r i : Nat) (X' : CS) (K : MM → Prop) : Prop := ∀ T f', RC f' i X' → (∀ k, k < 51 + 2406 * i ∨ 51 + 2406 * i + 2406 ≤ k → f' k = μ.1 (r + 1) k) → K (rW (tW μ r T) r f')
def sp_X10_serve : SPc := fun As μ K => match As with
  | [.inr (.inr (20, r)), .inl c] => ∃ (i : Nat) (X : CS) (E : Nat → Nat → Int32), c = nI i ∧ i < 3 ∧ RC (μ.1 (r + 1)) i X ∧ (∀ e, e < 16 → μ.1 (r + 1) (3 + 3 * e) = E e 0 ∧ sOK (E e 0)) ∧ (∀ e, e < 16 → sOK (cB X e 2)) ∧ bitP (cP X) ∧ ¬ μ.1 (r + 1) 2 = 0 ∧ (flyN (cP (giv (μ.1 (r + 1) 0) (4 * μ.1 (r + 1) 1 + μ.1 (r + 1) 2) X)) < 12 → (cP (giv (μ.1 (r + 1) 0) (4 * μ.1 (r + 1) 1 + μ.1 (r + 1) 2) X)).length ≤ 21) ∧ RUT μ r i (srv (μ.1 (r + 1) 0) (μ.1 (r + 1) 1) (μ.1 (r + 1) 2) E X) (K (.inl none))
  | _ => False
def svL (r i k : Nat) : LC := [some (.inr (.inr (20, r))), some (.inl (nI i)), some (.inl (nI k))]
def ct_X10_serve : List (Nat × CI) := [(165, ci_X10_giveUp), (168, ci_X10_raise), (171, ci_X10_flying), (174, ci_X10_send)]
def ci_X10_serve : CI := (yX10_serve, cX10_serve, 3, none, 2, (6, 0, 0, 139), 19, [], sp_X10_serve)
set_option maxRecDepth 100000 in
theorem ck_X10_serve : chkM ci_X10_serve RX10 co_X10_serve ct_X10_serve [] false false = true := by decide +kernel
set_option maxHeartbeats 4000000 in
set_option maxRecDepth 100000 in
theorem ms_X10_serve {g : GPT} {ot : OT} {l : Launch} (hl : l.stackTraces = false) : MS g ot l ci_X10_serve := by
  refine ms_of hl RX10 co_X10_serve ct_X10_serve [] false false [7] 38 ck_X10_serve (List.forall_mem_cons.mpr ⟨ms_X10_giveUp hl, List.forall_mem_cons.mpr ⟨ms_X10_raise hl, List.forall_mem_cons.mpr ⟨ms_X10_flying hl, List.forall_mem_cons.mpr ⟨ms_X10_send hl, fun _ h => nomatch h⟩⟩⟩⟩) ?_
  intro As μ K h
  simp only [ci_X10_serve, sp_X10_serve] at h
  split at h
  case h_2 => exact h.elim
  rename_i r c
  obtain ⟨i, X, E, rfl, hi, hX, hE, hB, hb, hz, hl, h⟩ := h
  generalize hY : giv (μ.1 (r + 1) 0) (4 * μ.1 (r + 1) 1 + μ.1 (r + 1) 2) X = Y at hl
  have hYB : ∀ e, e < 16 → sOK (cB Y e 2) := fun e he => by rw [← hY]; exact hB e he
  have hYb : bitP (cP Y) := by rw [← hY]; exact giv_bit hb
  have hS : srv (μ.1 (r + 1) 0) (μ.1 (r + 1) 1) (μ.1 (r + 1) 2) E X = if μ.1 (r + 1) 0 % μ.1 (r + 1) 2 = 0 ∧ flyN (cP (raiN Y E 16)) < 12 then snd1 (μ.1 (r + 1) 0) (μ.1 (r + 1) 1) E (raiN Y E 16) else raiN Y E 16 := by
    unfold srv
    rw [hY]
  refine ⟨Nat.le_of_ble_eq_true rfl, fun m pc lc st μ' ce sl => ∃ k g, k ≤ 16 ∧ m = 16 - k ∧ pc = 7 ∧ lc = svL r i k ∧ st = [] ∧ μ' = rW μ r g ∧ RC g i (raiN Y E k) ∧ (∀ z, z < 51 + 2406 * i ∨ 51 + 2406 * i + 2406 ≤ z → g z = μ.1 (r + 1) z) ∧ ce = 0 ∧ sl = 0, ?_, ?_⟩
  · refine ⟨i, X, rfl, hi, hX, fun f' hf hof => ⟨16 - 0, svL r i 0, ⟨rfl, rfl, rfl, trivial⟩, 0, f', Nat.zero_le _, rfl, rfl, rfl, rfl, rfl, ?_, hof, rfl, rfl⟩⟩
    rw [hY] at hf
    exact hf
  · rintro m pc lc st μ' ce sl ⟨k, g, hk, rfl, rfl, rfl, rfl, rfl, hg, ho, rfl, rfl⟩
    have g0 : (rW μ r g).1 (r + 1) 0 = μ.1 (r + 1) 0 := by rw [rW_at]; exact ho 0 (by omega)
    have g1 : (rW μ r g).1 (r + 1) 1 = μ.1 (r + 1) 1 := by rw [rW_at]; exact ho 1 (by omega)
    have g2 : (rW μ r g).1 (r + 1) 2 = μ.1 (r + 1) 2 := by rw [rW_at]; exact ho 2 (by omega)
    have hE' : ∀ e, e < 16 → (rW μ r g).1 (r + 1) (3 + 3 * e) = E e 0 ∧ sOK (E e 0) := fun e he => by
      rw [rW_at, ho _ (by omega)]
      exact hE e he
    refine ⟨fun h1 => ?_, fun h1 => ?_⟩
    · simp only [icP, ifP, iL, iM1] at h1
      try simp only [z_nI] at h1
      try simp only [nI_add, nI_mul] at h1
      first | rw [nI_le_iff (by omega) (by omega)] at h1 | rw [nI_lt_iff (by omega) (by omega)] at h1 | rw [nI_eq_iff (by omega) (by omega)] at h1
      obtain rfl : k = 16 := by omega
      have hself : rW μ r g = rW (tW μ r (μ.1 (r + 5))) r g := by rw [tW_self]
      have hb16 : bitP (cP (raiN Y E 16)) := by rw [raiN_P]; exact hYb
      refine ⟨0, rfl, by omega, 2, rfl, by omega, by rw [g2]; exact hz, fun h2 => ?_, fun h2 => ⟨i, raiN Y E 16, rfl, hi, by rw [rW_at]; exact hg, hb16, fun h3 => ?_, fun h3 => ⟨i, raiN Y E 16, E, rfl, hi, by rw [rW_at]; exact hg, hE', fun e he => by rw [raiN_B _ _ _ _ (by omega)]; exact hYB e he, ?_, fun T f' hf hof => ?_⟩⟩⟩
      · have h2 : ¬ (rW μ r g).1 (r + 1) 0 % (rW μ r g).1 (r + 1) 2 = 0 := h2
        rw [g0, g2] at h2
        rw [hself]
        refine h _ _ ?_ ho
        rw [hS, if_neg fun q => h2 q.1]
        exact hg
      · have h3 : nI 12 ≤ nI (flyN (cP (raiN Y E 16))) := h3
        rw [hself]
        refine h _ _ ?_ ho
        have hlt : flyN (cP (raiN Y E 16)) ≤ 22 := Nat.le_trans (List.length_filter_le _ _) hg.2.2.1.2.1
        rw [nI_le_iff (by omega) (by omega)] at h3
        rw [hS, if_neg fun q => absurd q.2 (by omega)]
        exact hg
      · have h3 : ¬ nI 12 ≤ nI (flyN (cP (raiN Y E 16))) := h3
        have hlt : flyN (cP (raiN Y E 16)) ≤ 22 := Nat.le_trans (List.length_filter_le _ _) hg.2.2.1.2.1
        rw [nI_le_iff (by omega) (by omega)] at h3
        rw [raiN_P] at h3 ⊢
        exact hl (by omega)
      · have h2 : ¬ ¬ (rW μ r g).1 (r + 1) 0 % (rW μ r g).1 (r + 1) 2 = 0 := h2
        have h3 : ¬ nI 12 ≤ nI (flyN (cP (raiN Y E 16))) := h3
        have hlt : flyN (cP (raiN Y E 16)) ≤ 22 := Nat.le_trans (List.length_filter_le _ _) hg.2.2.1.2.1
        rw [nI_le_iff (by omega) (by omega)] at h3
        rw [g0, g2, Classical.not_not] at h2
        show K _ _
        rw [tW_rW, rW_rW]
        rw [g0, g1] at hf
        refine h T f' ?_ fun z hz => (hof z hz).trans (by rw [rW_at]; exact ho z hz)
        rw [hS, if_pos ⟨h2, by omega⟩]
        exact hf
    · simp only [icP, ifP, iL, iM1] at h1
      try simp only [z_nI] at h1
      try simp only [nI_add, nI_mul] at h1
      first | rw [nI_le_iff (by omega) (by omega)] at h1 | rw [nI_lt_iff (by omega) (by omega)] at h1 | rw [nI_eq_iff (by omega) (by omega)] at h1
      refine ⟨i, k, raiN Y E k, E, rfl, rfl, hi, by omega, by rw [rW_at]; exact hg, hE' k (by omega), fun f' hf hof => ?_⟩
      rw [rW_rW]
      exact ⟨16 - (k + 1), svL r i (k + 1), by omega, ⟨rfl, rfl, inc_tv k, trivial⟩, k + 1, f', by omega, rfl, rfl, rfl, rfl, rfl, hf, fun z hz => (hof z hz).trans (by rw [rW_at]; exact ho z hz), rfl, rfl⟩
/-! a tick of the world -/
def mvE (E : Nat → Nat → Int32) (e k : Nat) : Int32 := if E e 0 = -1 then E e k else match k with
  | 0 => nI (mvS (mvS (sN (E e 0)) 0 (E e 1)) 1 (E e 2))
  | 1 => mvW (prt (sN (E e 0)) 0) (E e 1)
  | 2 => mvW (prt (mvS (sN (E e 0)) 0 (E e 1)) 1) (E e 2)
  | k => E e k
def tkA (W : WS) (c : Nat) : CS := arrC (wT W 0 + 1) (wT W 1) (wC W c)
def tkS (W : WS) (c : Nat) : CS := if cnn (tkA W c) then srv (wT W 0 + 1) (wT W 1) (wT W 2) (mvE (wE W)) (tkA W c) else tkA W c
def tk (W : WS) : WS := (upd (wT W) 0 (wT W 0 + 1), mvE (wE W), tkS W)
def eVK (E : Nat → Nat → Int32) : Prop := ∀ e, e < 16 → sOK (E e 0) ∧ vOK (E e 1) ∧ vOK (E e 2)
def TKP (W : WS) : Prop := eVK (wE W) ∧ ¬ wT W 2 = 0 ∧ ∀ c, c < 3 → eOK (wC W c) ∧ RI (wC W c) ∧ (cA (wC W c)).length + arN (wT W 0 + 1) (cP (wC W c)) ≤ 24 ∧ (∀ e, e < 16 → sOK (cB (tkA W c) e 2)) ∧ bitP (cP (tkA W c)) ∧ (flyN (cP (giv (wT W 0 + 1) (4 * wT W 1 + wT W 2) (tkA W c))) < 12 → (cP (giv (wT W 0 + 1) (4 * wT W 1 + wT W 2) (tkA W c))).length ≤ 21)
theorem mvE_ok {E : Nat → Nat → Int32} (h : eVK E) : eVK (mvE E) := fun e he => by
  obtain ⟨h1, h2, h3⟩ := h e he
  by_cases q : E e 0 = -1
  · have : ∀ k, mvE E e k = E e k := fun k => if_pos q
    rw [this, this, this]
    exact ⟨h1, h2, h3⟩
  · obtain ⟨n, n1, n2, n3⟩ := sOK_ne h1 q
    have e0 : mvE E e 0 = nI (mvS (mvS (sN (E e 0)) 0 (E e 1)) 1 (E e 2)) := if_neg q
    have e1 : mvE E e 1 = mvW (prt (sN (E e 0)) 0) (E e 1) := if_neg q
    have e2 : mvE E e 2 = mvW (prt (mvS (sN (E e 0)) 0 (E e 1)) 1) (E e 2) := if_neg q
    rw [e0, e1, e2, n3]
    exact ⟨Or.inr ⟨_, mvS_lt (mvS_lt n1 (by omega) h2) (by omega) h3, rfl⟩, (mv_ok (prt01 _ _ (by omega)) h2).2.2, (mv_ok (prt01 _ _ (by omega)) h3).2.2⟩
/-- another client's cells, or the same -/
theorem RW.setC {f g : Nat → Int32} {T : Nat → Int32} {E : Nat → Nat → Int32} {C D : Nat → CS} {i : Nat} (h : RW f (T, E, C)) (hi : RC g i (D i)) (hD : ∀ c, c < 3 → ¬ c = i → D c = C c) (hg : ∀ k, k < 51 + 2406 * i ∨ 51 + 2406 * i + 2406 ≤ k → g k = f k) : RW g (T, E, D) := by
  obtain ⟨h1, h2, h3⟩ := h
  refine ⟨fun k hk => (hg k (by omega)).trans (h1 k hk), fun e he k hk => (hg _ (by omega)).trans (h2 e he k hk), fun c hc => ?_⟩
  show RC g c (D c)
  by_cases q : c = i
  · rw [q]; exact hi
  · rw [hD c hc q]
    exact (h3 c hc).keep fun k k1 k2 => hg k (by omega)
def toC (C D : Nat → CS) (k c : Nat) : CS := if c < k then D c else C c
theorem toC_0 (C D : Nat → CS) : toC C D 0 = C := by funext c; unfold toC; rw [if_neg (Nat.not_lt_zero _)]
theorem toC_at (C D : Nat → CS) (k : Nat) : toC C D k k = C k := if_neg (Nat.lt_irrefl _)
theorem toC_S (C D : Nat → CS) (k : Nat) : toC C D (k + 1) k = D k := if_pos (Nat.lt_succ_self _)
theorem toC_ne (C D : Nat → CS) {k c : Nat} (h : ¬ c = k) : toC C D (k + 1) c = toC C D k c := by
  unfold toC
  by_cases q : c < k
  · rw [if_pos q, if_pos (by omega)]
  · rw [if_neg q, if_neg (by omega)]
theorem RW.all {f : Nat → Int32} {T : Nat → Int32} {E : Nat → Nat → Int32} {C D : Nat → CS} (h : RW f (T, E, toC C D 3)) : RW f (T, E, D) :=
  ⟨h.1, h.2.1, fun c hc => by
    have := h.2.2 c hc
    have e : toC C D 3 c = D c := if_pos hc
    show RC f c (D c)
    rw [← e]
    exact this⟩
def toL (r k : Nat) : LC := [some (.inr (.inr (20, r))), some (.inl (nI k))]
/-- the cells of the entities, some moved -/
def MV (f g : Nat → Int32) (E : Nat → Nat → Int32) (k : Nat) : Prop := (∀ e, e < 16 → ∀ j, j < 3 → g (3 + 3 * e + j) = if e < k then mvE E e j else E e j) ∧ ∀ z, (z < 3 ∨ 51 ≤ z) → g z = f z
def sp_X10_tickOne : SPc := fun As μ K => match As with
  | [.inr (.inr (20, r))] => ∃ (W : WS), RW (μ.1 (r + 1)) W ∧ TKP W ∧ ∀ T f', RW f' (tk W) → K (.inl none) (rW (tW μ r T) r f')
  | _ => False
def ct_X10_tickOne : List (Nat × CI) := [(68, ci_X10_exists), (177, ci_X10_moveOne), (180, ci_X10_arriveAll), (89, ci_X10_isConnected), (183, ci_X10_serve)]
def ci_X10_tickOne : CI := (yX10_tickOne, cX10_tickOne, 2, none, 1, (7, 0, 0, 161), 19, [], sp_X10_tickOne)
set_option maxRecDepth 100000 in
theorem ck_X10_tickOne : chkM ci_X10_tickOne RX10 co_X10_tickOne ct_X10_tickOne [] false false = true := by decide +kernel
set_option maxHeartbeats 4000000 in
set_option maxRecDepth 100000 in
theorem ms_X10_tickOne {g : GPT} {ot : OT} {l : Launch} (hl : l.stackTraces = false) : MS g ot l ci_X10_tickOne := by
  refine ms_of hl RX10 co_X10_tickOne ct_X10_tickOne [] false false [12,46,64] 57 ck_X10_tickOne (List.forall_mem_cons.mpr ⟨ms_X10_exists hl, List.forall_mem_cons.mpr ⟨ms_X10_moveOne hl, List.forall_mem_cons.mpr ⟨ms_X10_arriveAll hl, List.forall_mem_cons.mpr ⟨ms_X10_isConnected hl, List.forall_mem_cons.mpr ⟨ms_X10_serve hl, fun _ h => nomatch h⟩⟩⟩⟩⟩) ?_
  intro As μ K h
  simp only [ci_X10_tickOne, sp_X10_tickOne] at h
  split at h
  case h_2 => exact h.elim
  rename_i r
  obtain ⟨W, hW, ⟨p1, p2, p3⟩, h⟩ := h
  have f0 : μ.1 (r + 1) 0 = wT W 0 := hW.1 0 (by omega)
  generalize hf1 : upd (μ.1 (r + 1)) 0 (wT W 0 + 1) = f1 at *
  refine ⟨Nat.le_of_ble_eq_true rfl, fun m pc lc st μ' ce sl => (∃ k g, k ≤ 16 ∧ m = 100 + (16 - k) ∧ pc = 12 ∧ lc = toL r k ∧ st = [] ∧ μ' = rW μ r g ∧ MV f1 g (wE W) k ∧ ce = 0 ∧ sl = 0) ∨
    (∃ k g, k ≤ 3 ∧ m = 50 + (3 - k) ∧ pc = 46 ∧ lc = toL r k ∧ st = [] ∧ μ' = rW μ r g ∧ RW g (upd (wT W) 0 (wT W 0 + 1), mvE (wE W), toC (wC W) (tkA W) k) ∧ ce = 0 ∧ sl = 0) ∨
    (∃ k T g, k ≤ 3 ∧ m = 3 - k ∧ pc = 64 ∧ lc = toL r k ∧ st = [] ∧ μ' = rW (tW μ r T) r g ∧ RW g (upd (wT W) 0 (wT W 0 + 1), mvE (wE W), toC (tkA W) (tkS W) k) ∧ ce = 0 ∧ sl = 0), ?_, ?_⟩
  · refine ⟨0, rfl, by omega, 0, rfl, by omega, 100 + (16 - 0), toL r 0, ⟨rfl, rfl, trivial⟩, Or.inl ⟨0, f1, Nat.zero_le _, rfl, rfl, rfl, rfl, ?_, ⟨fun e he j hj => ?_, fun z hz => rfl⟩, rfl, rfl⟩⟩
    · show ((up2 μ.1 (r + 1) 0 (μ.1 (r + 1) 0 + Int32.ofInt 1), μ.2) : MM) = _
      rw [up2_rW, f0, ← hf1]
      rfl
    · rw [if_neg (Nat.not_lt_zero _), ← hf1, upd_ne _ _ (by omega)]
      exact hW.2.1 e he j hj
  · rintro m pc lc st μ' ce sl (⟨k, g, hk, rfl, rfl, rfl, rfl, rfl, hg, rfl, rfl⟩ | ⟨k, g, hk, rfl, rfl, rfl, rfl, rfl, hg, rfl, rfl⟩ | ⟨k, T, g, hk, rfl, rfl, rfl, rfl, rfl, hg, rfl, rfl⟩)
    · refine ⟨fun h1 => ?_, fun h1 => ?_⟩
      · simp only [icP, ifP, iL, iM1] at h1
        try simp only [z_nI] at h1
        try simp only [nI_add, nI_mul] at h1
        first | rw [nI_le_iff (by omega) (by omega)] at h1 | rw [nI_lt_iff (by omega) (by omega)] at h1 | rw [nI_eq_iff (by omega) (by omega)] at h1
        obtain rfl : k = 16 := by omega
        refine ⟨50 + (3 - 0), toL r 0, by omega, ⟨rfl, rfl, trivial⟩, Or.inr (Or.inl ⟨0, g, Nat.zero_le _, rfl, rfl, rfl, rfl, rfl, ?_, rfl, rfl⟩)⟩
        rw [toC_0]
        refine ⟨fun k hk => ?_, fun e he k hk => ?_, fun c hc => ?_⟩
        · show g k = upd (wT W) 0 _ k
          rw [hg.2 k (by omega), ← hf1]
          by_cases q : k = 0
          · rw [q, upd_eq, upd_eq]
          · rw [upd_ne _ _ q, upd_ne _ _ q]
            exact hW.1 k hk
        · rw [hg.1 e he k hk, if_pos he]
        · refine RC.keep (hW.2.2 c hc) fun z z1 z2 => ?_
          rw [hg.2 z (by omega), ← hf1, upd_ne _ _ (by omega)]
      · simp only [icP, ifP, iL, iM1] at h1
        try simp only [z_nI] at h1
        try simp only [nI_add, nI_mul] at h1
        first | rw [nI_le_iff (by omega) (by omega)] at h1 | rw [nI_lt_iff (by omega) (by omega)] at h1 | rw [nI_eq_iff (by omega) (by omega)] at h1
        have gk : ∀ j, j < 3 → (rW μ r g).1 (r + 1) (3 + 3 * k + j) = wE W k j := fun j hj => by
          rw [rW_at, hg.1 k (by omega) j hj, if_neg (Nat.lt_irrefl _)]
        have g0 := gk 0 (by omega)
        have g1 := gk 1 (by omega)
        have g2 := gk 2 (by omega)
        obtain ⟨s1, s2, s3⟩ := p1 k (by omega)
        refine ⟨k, rfl, by omega, fun h2 => ?_, fun h2 => ?_⟩
        · have h2 : iB (¬ (rW μ r g).1 (r + 1) (3 + 3 * k + 0) = -1) = 0 := h2
          rw [iB_eq0, g0, Classical.not_not] at h2
          refine ⟨100 + (16 - (k + 1)), toL r (k + 1), by omega, ⟨rfl, inc_tv k, trivial⟩, Or.inl ⟨k + 1, g, by omega, rfl, rfl, rfl, rfl, rfl, ⟨fun e he j hj => ?_, hg.2⟩, rfl, rfl⟩⟩
          rw [hg.1 e he j hj]
          by_cases q : e < k
          · rw [if_pos q, if_pos (by omega)]
          · rw [if_neg q]
            by_cases q2 : e = k
            · rw [if_pos (by omega), q2]
              exact (if_pos h2).symm
            · rw [if_neg (by omega)]
        · have h2 : ¬ iB (¬ (rW μ r g).1 (r + 1) (3 + 3 * k + 0) = -1) = 0 := h2
          rw [iB_ne0, g0] at h2
          obtain ⟨n, n1, n2, n3⟩ := sOK_ne s1 h2
          refine ⟨k, 0, n, wE W k 1, rfl, rfl, by omega, by omega, by rw [← n2]; exact g0, n1, g1, s2, ?_⟩
          rw [rW_rW]
          refine ⟨k, 1, mvS n 0 (wE W k 1), wE W k 2, rfl, rfl, by omega, by omega, by rw [rW_at, upd_eq], mvS_lt n1 (by omega) s2, ?_, s3, ?_⟩
          · rw [rW_at, upd_ne _ _ (by omega), upd_ne _ _ (by omega)]
            rw [rW_at] at g2 ⊢
            exact g2
          · rw [rW_rW, rW_at, rW_at]
            refine ⟨100 + (16 - (k + 1)), toL r (k + 1), by omega, ⟨rfl, inc_tv k, trivial⟩, Or.inl ⟨k + 1, _, by omega, rfl, rfl, rfl, rfl, rfl, ⟨fun e he j hj => ?_, fun z hz => ?_⟩, rfl, rfl⟩⟩
            · by_cases q2 : e = k
              · subst q2
                rw [if_pos (by omega)]
                have hj3 : j = 0 ∨ j = 1 ∨ j = 2 := by omega
                rcases hj3 with rfl | rfl | rfl
                · show upd _ (3 + 3 * e) _ (3 + 3 * e) = _
                  rw [upd_eq]
                  have : mvE (wE W) e 0 = nI (mvS (mvS (sN (wE W e 0)) 0 (wE W e 1)) 1 (wE W e 2)) := if_neg h2
                  rw [this, n3]
                · rw [upd_ne _ _ (by omega), upd_ne _ _ (by omega), upd_ne _ _ (by omega), upd_eq]
                  have : mvE (wE W) e 1 = mvW (prt (sN (wE W e 0)) 0) (wE W e 1) := if_neg h2
                  rw [this, n3]
                · rw [upd_ne _ _ (by omega), upd_eq]
                  have : mvE (wE W) e 2 = mvW (prt (mvS (sN (wE W e 0)) 0 (wE W e 1)) 1) (wE W e 2) := if_neg h2
                  rw [this, n3]
              · rw [upd_ne _ _ (by omega), upd_ne _ _ (by omega), upd_ne _ _ (by omega), upd_ne _ _ (by omega), hg.1 e he j hj]
                by_cases q : e < k
                · rw [if_pos q, if_pos (by omega)]
                · rw [if_neg q, if_neg (by omega)]
            · rw [upd_ne _ _ (by omega), upd_ne _ _ (by omega), upd_ne _ _ (by omega), upd_ne _ _ (by omega)]
              exact hg.2 z hz
    · refine ⟨fun h1 => ?_, fun h1 => ?_⟩
      · simp only [icP, ifP, iL, iM1] at h1
        try simp only [z_nI] at h1
        try simp only [nI_add, nI_mul] at h1
        first | rw [nI_le_iff (by omega) (by omega)] at h1 | rw [nI_lt_iff (by omega) (by omega)] at h1 | rw [nI_eq_iff (by omega) (by omega)] at h1
        obtain rfl : k = 3 := by omega
        refine ⟨3 - 0, toL r 0, by omega, ⟨rfl, rfl, trivial⟩, Or.inr (Or.inr ⟨0, μ.1 (r + 5), g, Nat.zero_le _, rfl, rfl, rfl, rfl, by rw [tW_self], ?_, rfl, rfl⟩)⟩
        rw [toC_0]
        exact hg.all
      · simp only [icP, ifP, iL, iM1] at h1
        try simp only [z_nI] at h1
        try simp only [nI_add, nI_mul] at h1
        first | rw [nI_le_iff (by omega) (by omega)] at h1 | rw [nI_lt_iff (by omega) (by omega)] at h1 | rw [nI_eq_iff (by omega) (by omega)] at h1
        obtain ⟨q1, q2, q3, q4⟩ := p3 k (by omega)
        have g0 : (rW μ r g).1 (r + 1) 0 = wT W 0 + 1 := by
          rw [rW_at]
          exact (hg.1 0 (by omega)).trans (upd_eq (wT W) 0 (wT W 0 + 1))
        have g1 : (rW μ r g).1 (r + 1) 1 = wT W 1 := by
          rw [rW_at]
          exact (hg.1 1 (by omega)).trans (upd_ne (wT W) (i := 0) (k := 1) (wT W 0 + 1) (by omega))
        have hc := hg.2.2 k (by omega)
        rw [show wC (upd (wT W) 0 (wT W 0 + 1), mvE (wE W), toC (wC W) (tkA W) k) k = wC W k from toC_at _ _ _] at hc
        refine ⟨k, wC W k, rfl, by omega, by rw [rW_at]; exact hc, q1, q2, by rw [g0]; exact q3, fun f' hf hof => ?_⟩
        rw [rW_rW]
        rw [g0, g1] at hf
        rw [rW_at] at hof
        refine ⟨50 + (3 - (k + 1)), toL r (k + 1), by omega, ⟨rfl, inc_tv k, trivial⟩, Or.inr (Or.inl ⟨k + 1, f', by omega, rfl, rfl, rfl, rfl, rfl, RW.setC hg (i := k) ?_ (fun c _ hc => toC_ne _ _ hc) hof, rfl, rfl⟩)⟩
        rw [toC_S]
        exact hf
    · refine ⟨fun h1 => ?_, fun h1 => ?_⟩
      · simp only [icP, ifP, iL, iM1] at h1
        try simp only [z_nI] at h1
        try simp only [nI_add, nI_mul] at h1
        first | rw [nI_le_iff (by omega) (by omega)] at h1 | rw [nI_lt_iff (by omega) (by omega)] at h1 | rw [nI_eq_iff (by omega) (by omega)] at h1
        obtain rfl : k = 3 := by omega
        exact h T g hg.all
      · simp only [icP, ifP, iL, iM1] at h1
        try simp only [z_nI] at h1
        try simp only [nI_add, nI_mul] at h1
        first | rw [nI_le_iff (by omega) (by omega)] at h1 | rw [nI_lt_iff (by omega) (by omega)] at h1 | rw [nI_eq_iff (by omega) (by omega)] at h1
        obtain ⟨q1, q2, q3, q4, q5, q6⟩ := p3 k (by omega)
        have g0 : (rW (tW μ r T) r g).1 (r + 1) 0 = wT W 0 + 1 := by
          rw [rW_at]
          exact (hg.1 0 (by omega)).trans (upd_eq (wT W) 0 (wT W 0 + 1))
        have g1 : (rW (tW μ r T) r g).1 (r + 1) 1 = wT W 1 := by
          rw [rW_at]
          exact (hg.1 1 (by omega)).trans (upd_ne (wT W) (i := 0) (k := 1) (wT W 0 + 1) (by omega))
        have g2 : (rW (tW μ r T) r g).1 (r + 1) 2 = wT W 2 := by
          rw [rW_at]
          exact (hg.1 2 (by omega)).trans (upd_ne (wT W) (i := 0) (k := 2) (wT W 0 + 1) (by omega))
        have hc := hg.2.2 k (by omega)
        rw [show wC (upd (wT W) 0 (wT W 0 + 1), mvE (wE W), toC (tkA W) (tkS W) k) k = tkA W k from toC_at _ _ _] at hc
        have c0 : (rW (tW μ r T) r g).1 (r + 1) (51 + 2406 * k) = cS (tkA W k) 0 := by rw [rW_at]; exact hc.1 0 (by omega)
        have mE := mvE_ok p1
        refine ⟨k, rfl, by omega, fun h2 => ?_, fun h2 => ⟨k, tkA W k, mvE (wE W), rfl, by omega, by rw [rW_at]; exact hc, fun e he => ⟨by rw [rW_at]; exact hg.2.1 e he 0 (by omega), (mE e he).1⟩, q4, q5, by rw [g2]; exact p2, by rw [g0, g1, g2]; exact q6, fun T' f' hf hof => ?_⟩⟩
        · have h2 : iB ((rW (tW μ r T) r g).1 (r + 1) (51 + 2406 * k) = 1) = 0 := h2
          rw [iB_eq0, c0] at h2
          refine ⟨3 - (k + 1), toL r (k + 1), by omega, ⟨rfl, inc_tv k, trivial⟩, Or.inr (Or.inr ⟨k + 1, T, g, by omega, rfl, rfl, rfl, rfl, rfl, RW.setC hg (i := k) ?_ (fun c _ hc => toC_ne _ _ hc) (fun z _ => rfl), rfl, rfl⟩)⟩
          rw [toC_S]
          have : tkS W k = tkA W k := if_neg h2
          rw [this]
          exact hc
        · have h2 : ¬ iB ((rW (tW μ r T) r g).1 (r + 1) (51 + 2406 * k) = 1) = 0 := h2
          rw [iB_ne0, c0] at h2
          rw [tW_rW, rW_rW, tW_tW]
          rw [g0, g1, g2] at hf
          rw [rW_at] at hof
          refine ⟨3 - (k + 1), toL r (k + 1), by omega, ⟨rfl, inc_tv k, trivial⟩, Or.inr (Or.inr ⟨k + 1, T', f', by omega, rfl, rfl, rfl, rfl, rfl, RW.setC hg (i := k) ?_ (fun c _ hc => toC_ne _ _ hc) hof, rfl, rfl⟩)⟩
          rw [toC_S]
          have : tkS W k = srv (wT W 0 + 1) (wT W 1) (wT W 2) (mvE (wE W)) (tkA W k) := if_pos h2
          rw [this]
          exact hf
