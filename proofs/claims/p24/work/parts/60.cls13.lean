/-! THE CLASS passes a tick. -/
abbrev fNb (t lim : Int32) : PK → Bool := fun p => decide (¬ goB t lim p)
theorem fly_giv (t lim : Int32) : ∀ l : List PK, (swp (l.map (zeroO t lim))).filter fFl = (l.filter fFl).filter (fNb t lim)
  | [] => rfl
  | p :: l => by
    have ih := fly_giv t lim l
    unfold swp at ih ⊢
    rw [List.map_cons]
    by_cases q : fly p
    · by_cases g : goB t lim p
      · have e4 : (zeroO t lim p).1 4 = 0 := by
          unfold zeroO
          rw [if_pos ⟨q, g⟩]
          exact upd_eq p.1 4 0
        have q2 : ¬ fly (zeroO t lim p) := fun w => by
          have w : (zeroO t lim p).1 4 = 1 := w
          rw [e4] at w
          exact absurd w (by decide)
        rw [List.filter_cons_of_pos (p := fFl) (a := p) (l := l) (decide_eq_true q), List.filter_cons_of_neg (p := fNb t lim) (a := p) (dec_ff fun w => w g), ← ih]
        by_cases q3 : kpP (zeroO t lim p)
        · rw [List.filter_cons_of_pos (p := fKp) (decide_eq_true q3), List.filter_cons_of_neg (p := fFl) (dec_ff q2)]
        · rw [List.filter_cons_of_neg (p := fKp) (dec_ff q3)]
      · have e : zeroO t lim p = p := if_neg fun w => g w.2
        rw [e, List.filter_cons_of_pos (p := fKp) (a := p) (decide_eq_true (Or.inl q)), List.filter_cons_of_pos (p := fFl) (a := p) (l := (l.map (zeroO t lim)).filter fKp) (decide_eq_true q), List.filter_cons_of_pos (p := fFl) (a := p) (l := l) (decide_eq_true q), List.filter_cons_of_pos (p := fNb t lim) (a := p) (decide_eq_true g), ih]
    · have e : zeroO t lim p = p := if_neg fun w => q w.1
      rw [e, List.filter_cons_of_neg (p := fFl) (a := p) (l := l) (dec_ff q), ← ih]
      by_cases q4 : kpP p
      · rw [List.filter_cons_of_pos (p := fKp) (decide_eq_true q4), List.filter_cons_of_neg (p := fFl) (dec_ff q)]
      · rw [List.filter_cons_of_neg (p := fKp) (dec_ff q4)]
theorem oldN_fly (t lim : Int32) (l : List PK) : oldN t lim l = cntB t lim (l.filter fFl) 0 := by
  unfold oldN cntB
  rw [List.drop_zero, List.filter_filter]
  congr 2
  funext p
  by_cases q : fly p
  · by_cases g : goB t lim p
    · rw [decide_eq_true (show old t lim p from ⟨q, g⟩), decide_eq_true g]
      show true = (true && decide (fly p))
      rw [decide_eq_true q]
      rfl
    · rw [decide_eq_false (show ¬ old t lim p from fun w => g w.2), decide_eq_false g]
      rfl
  · rw [decide_eq_false (show ¬ old t lim p from fun w => q w.1)]
    show false = (_ && decide (fly p))
    rw [decide_eq_false q, Bool.and_false]
theorem zeroO_i (t lim : Int32) (p : PK) {k : Nat} (hk : ¬ k = 4) : (zeroO t lim p).1 k = p.1 k := by
  unfold zeroO
  split
  · exact upd_ne p.1 (i := 4) (k := k) 0 hk
  · rfl
theorem flyL_giv (t lim : Int32) (X : CS) : flyL (giv t lim X) = (flyL X).filter (fNb t lim) := fly_giv t lim (cP X)
theorem wayL_giv (t lim : Int32) (X : CS) : wayL (giv t lim X) = (wayL X).map (zeroO t lim) := way_map (zeroO t lim) (fun q => zeroO_i t lim q (by omega)) (cP X)
theorem zeroO_PE (t lim : Int32) (p : PK) : PE true p (zeroO t lim p) := ⟨zeroO_i t lim p (by omega), zeroO_i t lim p (by omega), zeroO_i t lim p (by omega), fun _ => zeroO_i t lim p (by omega), zeroO_2 t lim p⟩
theorem raiN_0 (X : CS) (E : Nat → Nat → Int32) (e : Nat) : ∀ n, e < n → cB (raiN X E n) e 0 = rsd (raiN X E e) E e
  | 0, h => absurd h (Nat.not_lt_zero _)
  | n + 1, h => by
    show up2 (cB (raiN X E n)) n 0 (rsd (raiN X E n) E n) e 0 = _
    by_cases q : e = n
    · rw [q, u2_eq]
    · rw [u2_ne _ _ q]
      exact raiN_0 X E e n (by omega)
theorem rsd_ek {X : CS} {E : Nat → Nat → Int32} {e : Nat} (h : 0 < rsd X E e) (hs : sOK (E e 0)) : ¬ ekV X E e = -1 := by
  intro q
  unfold ekV at q
  unfold rsd at h
  by_cases w : inA X (E e 0)
  · rw [if_pos w] at q h
    by_cases w2 : cB X e 2 = -1
    · rw [if_pos w2] at q; exact absurd q (by decide)
    · rw [if_neg w2] at q
      by_cases w3 : cB X e 2 = E e 0
      · rw [if_neg fun z => z w3] at h; exact absurd h (by decide)
      · rw [if_neg w3] at q; exact absurd q (by decide)
  · rw [if_neg w] at q h
    by_cases w2 : cB X e 2 = -1
    · rw [if_neg fun z => z w2] at h; exact absurd h (by decide)
    · rw [if_neg w2] at q; exact absurd q (by decide)
theorem rai_ek {X : CS} {E : Nat → Nat → Int32} {e : Nat} (he : e < 16) (hs : sOK (E e 0)) (h : 0 < cB (raiN X E 16) e 0) : ¬ ekV (raiN X E 16) E e = -1 := by
  rw [raiN_0 X E e 16 he] at h
  have := rsd_ek h hs
  rw [ekV_same (X := raiN X E e) (Y := raiN X E 16) ((raiN_S X E 16).trans (raiN_S X E e).symm) ((raiN_B X E e 2 (by omega) 16).trans (raiN_B X E e 2 (by omega) e).symm)]
  exact this
def TKC (W : WS) : Prop := 0 < wT W 0 + 1 ∧ 0 < wT W 2 ∧ 0 < wT W 0 + 1 + wT W 1 ∧ ∀ c, c < 3 → c01 (tkA W c) ∧ NS (cP (wC W c)) ∧ (wayL (tkA W c)).length < 12
theorem arr1_NS {t d : Int32} {X : CS} (h : NS (cP X)) : NS (cP (arr1 t d X)) := NS_map h _ fun p => (zeroA_PE t p).1
theorem arr1_e {t d : Int32} {X : CS} (h : eOK X) : eOK (arr1 t d X) := fun p hp en he => by
  have hp := (List.mem_filter.mp hp).1
  obtain ⟨q, hq, rfl⟩ := List.mem_map.mp hp
  rw [zeroA_2] at he
  exact h q hq en he
theorem CW.setC {F F' : Nat → Nat → Int32} {G G' : Nat → Nat → Nat} {w i : Nat} {T : Nat → Int32} {E : Nat → Nat → Int32} {C D : Nat → CS} (h : CW F G w (T, E, C)) (hi : CC F' G' (w + 6 + 161 * i) (D i)) (hi3 : i < 3) (hD : ∀ c, c < 3 → ¬ c = i → D c = C c) (hF : ∀ z, (z < w + 6 + 161 * i ∨ w + 6 + 161 * i + 161 ≤ z) → F' z = F z ∧ G' z = G z) : CW F' G' w (T, E, D) := by
  obtain ⟨h1, h2, h3, h4⟩ := h
  refine ⟨fun k hk => by rw [(hF _ (by omega)).1]; exact h1 k hk, h2.keep fun z z1 z2 => (hF z (by omega)).1, by rw [(hF _ (by omega)).2]; exact h3, fun c hc => ?_⟩
  show CC F' G' _ (D c)
  by_cases q : c = i
  · rw [q]; exact hi
  · rw [hD c hc q]
    exact (h4 c hc).keep (fun z z1 z2 => (hF z (by omega)).1) fun z z1 z2 => (hF z (by omega)).2
theorem CW.all {F : Nat → Nat → Int32} {G : Nat → Nat → Nat} {w : Nat} {T : Nat → Int32} {E : Nat → Nat → Int32} {C D : Nat → CS} (h : CW F G w (T, E, toC C D 3)) : CW F G w (T, E, D) :=
  ⟨h.1, h.2.1, h.2.2.1, fun c hc => by
    have := h.2.2.2 c hc
    have e : toC C D 3 c = D c := if_pos hc
    show CC F G _ (D c)
    rw [← e]
    exact this⟩
def psL (w k : Nat) : LC := [some (.inr (.inr (16, w))), some (.inl (nI k)), none, none]
def psM (w k : Nat) (x : Int32) : LC := [some (.inr (.inr (16, w))), some (.inl x), some (.inl (nI k)), none]
theorem FRm.mono {μ μ' : MM} {lo hi lo' hi' : Nat} (h : FRm μ μ' lo hi) (h1 : lo' ≤ lo) (h2 : hi ≤ hi') : FRm μ μ' lo' hi' := ⟨fun z hz => h.1 z (by omega), h.2⟩
theorem FRm.trans {μ μ' μ'' : MM} {lo hi : Nat} (h : FRm μ μ' lo hi) (g : FRm μ' μ'' lo hi) : FRm μ μ'' lo hi := ⟨fun z hz => ⟨((g.1 z hz).1).trans (h.1 z hz).1, ((g.1 z hz).2).trans (h.1 z hz).2⟩, g.2.trans h.2⟩
def sp_X8_pass : SPc := fun As μ K => match As with
  | [.inr (.inr (16, w))] => ∃ (W : WS), CW μ.1 μ.2.1 w W ∧ TKP W ∧ TKC W ∧ ∀ μ', CW μ'.1 μ'.2.1 w (tk W) → FRm μ μ' w (w + 489) → K (.inl none) μ'
  | _ => False
def ct_X8_pass : List (Nat × CI) := [(42, ci_X2_move), (45, ci_X1_receivePackets), (49, ci_X1_receiveAcks), (57, ci_X1_giveUpOldPackets), (60, ci_X1_raisePriorities), (63, ci_X1_sendPacket)]
def ci_X8_pass : CI := (yX8_pass, cX8_pass, 4, none, 1, (6, 0, 0, 135), 17, [], sp_X8_pass)
set_option maxRecDepth 100000 in
theorem ck_X8_pass : chkM ci_X8_pass RX8 co_X8_pass ct_X8_pass [] false false = true := by decide +kernel
set_option maxHeartbeats 4000000 in
set_option maxRecDepth 100000 in
theorem ms_X8_pass {g : GPT} {ot : OT} {l : Launch} (hl : l.stackTraces = false) (hot : otOK ot) : MS g ot l ci_X8_pass := by
  refine ms_of hl RX8 co_X8_pass ct_X8_pass [] false false [19,87] 91 ck_X8_pass (List.forall_mem_cons.mpr ⟨ms_X2_move hl hot, List.forall_mem_cons.mpr ⟨ms_X1_receivePackets hl hot, List.forall_mem_cons.mpr ⟨ms_X1_receiveAcks hl, List.forall_mem_cons.mpr ⟨ms_X1_giveUpOldPackets hl, List.forall_mem_cons.mpr ⟨ms_X1_raisePriorities hl hot, List.forall_mem_cons.mpr ⟨ms_X1_sendPacket hl hot, fun _ h => nomatch h⟩⟩⟩⟩⟩⟩) ?_
  intro As μ K h
  simp only [ci_X8_pass, sp_X8_pass] at h
  split at h
  case h_2 => exact h.elim
  rename_i w
  obtain ⟨W, hW, ⟨p1, p2, p3⟩, ⟨q1, q2, q2b, q3⟩, h⟩ := h
  obtain ⟨w1, w2, w3, w4⟩ := id hW
  have mE := mvE_ok p1
  have f0 : μ.1 w 0 = wT W 0 := w1 0 (by omega)
  refine ⟨Nat.le_of_ble_eq_true rfl, fun m pc lc st μ' ce sl => (∃ k, k ≤ 3 ∧ m = 50 + (3 - k) ∧ pc = 19 ∧ lc = psL w k ∧ st = [] ∧ CW μ'.1 μ'.2.1 w (upd (wT W) 0 (wT W 0 + 1), mvE (wE W), toC (wC W) (tkA W) k) ∧ FRm μ μ' w (w + 489) ∧ ce = 0 ∧ sl = 0) ∨
    (∃ k, k ≤ 3 ∧ m = 3 - k ∧ pc = 87 ∧ lc = psM w k (iB ((wT W 0 + 1) % wT W 2 = 0)) ∧ st = [] ∧ CW μ'.1 μ'.2.1 w (upd (wT W) 0 (wT W 0 + 1), mvE (wE W), toC (tkA W) (tkS W) k) ∧ FRm μ μ' w (w + 489) ∧ ce = 0 ∧ sl = 0), ?_, ?_⟩
  · refine ⟨wE W, w2.keep fun z z1 z2 => u2_ne _ _ (by omega), p1, fun F1 hF1 hF1o => ⟨50 + (3 - 0), psL w 0, ⟨rfl, rfl, trivial⟩, Or.inl ⟨0, Nat.zero_le _, rfl, rfl, rfl, rfl, ?_, ⟨fun z hz => ⟨?_, rfl⟩, rfl⟩, rfl, rfl⟩⟩⟩
    · have hF1o : ∀ b, (b < w + 1 ∨ w + 1 + 4 ≤ b) → F1 b = (up2 μ.1 w 0 (μ.1 w 0 + Int32.ofInt 1)) b := hF1o
      rw [toC_0]
      refine ⟨fun k hk => ?_, hF1, w3, fun c hc => ?_⟩
      · show F1 w k = upd (wT W) 0 _ k
        rw [hF1o _ (by omega)]
        by_cases q : k = 0
        · rw [q, u2_eq, upd_eq, f0]; rfl
        · rw [u2_nj _ _ q, upd_ne _ _ q]
          exact w1 k hk
      · refine (w4 c hc).keep (fun z z1 z2 => ?_) fun _ _ _ => rfl
        show F1 z = _
        rw [hF1o _ (by omega), u2_ne _ _ (by omega)]
    · have hF1o : ∀ b, (b < w + 1 ∨ w + 1 + 4 ≤ b) → F1 b = (up2 μ.1 w 0 (μ.1 w 0 + Int32.ofInt 1)) b := hF1o
      show F1 z = _
      rw [hF1o _ (by omega), u2_ne _ _ (by omega)]
  · rintro m pc lc st ν ce sl (⟨k, hk, rfl, rfl, rfl, rfl, hg, hF, rfl, rfl⟩ | ⟨k, hk, rfl, rfl, rfl, rfl, hg, hF, rfl, rfl⟩)
    · have t0 : ν.1 w 0 = wT W 0 + 1 := (hg.1 0 (by omega)).trans (upd_eq (wT W) 0 (wT W 0 + 1))
      have t1 : ν.1 w 1 = wT W 1 := (hg.1 1 (by omega)).trans (upd_ne (wT W) (i := 0) (k := 1) (wT W 0 + 1) (by omega))
      have t2 : ν.1 w 2 = wT W 2 := (hg.1 2 (by omega)).trans (upd_ne (wT W) (i := 0) (k := 2) (wT W 0 + 1) (by omega))
      refine ⟨fun q => ?_, fun q => ?_⟩
      · simp only [icP, ifP, iL, iM1] at q
        try simp only [z_nI] at q
        try simp only [nI_add, nI_mul] at q
        first | rw [nI_le_iff (by omega) (by omega)] at q | rw [nI_lt_iff (by omega) (by omega)] at q | rw [nI_eq_iff (by omega) (by omega)] at q
        obtain rfl : k = 3 := by omega
        have go : ∀ x : Int32, x = iB ((wT W 0 + 1) % wT W 2 = 0) → subL (psM w 0 (iB ((wT W 0 + 1) % wT W 2 = 0))) [some (.inr (.inr (16, w))), some (.inl x), some (.inl (nI 0)), none] := fun x hx => ⟨rfl, by rw [hx], rfl, trivial⟩
        have fin : CW ν.1 ν.2.1 w (upd (wT W) 0 (wT W 0 + 1), mvE (wE W), toC (tkA W) (tkS W) 0) := by rw [toC_0]; exact hg.all
        refine ⟨fun z => ?_, fun z => ⟨by rw [t2]; exact p2, fun z2 => ?_, fun z2 => ?_⟩⟩
        · have z : ν.1 w 2 ≤ 0 := z
          rw [t2] at z
          exact absurd q2 (Int32.not_lt.mpr z)
        · have z2 : ¬ ν.1 w 0 % ν.1 w 2 = 0 := z2
          rw [t0, t2] at z2
          exact ⟨3 - 0, _, by omega, go 0 (iB_0 z2).symm, Or.inr ⟨0, Nat.zero_le _, rfl, rfl, rfl, rfl, fin, hF, rfl, rfl⟩⟩
        · have z2 : ¬ ¬ ν.1 w 0 % ν.1 w 2 = 0 := z2
          rw [t0, t2, Classical.not_not] at z2
          exact ⟨3 - 0, _, by omega, go 1 (iB_1 z2).symm, Or.inr ⟨0, Nat.zero_le _, rfl, rfl, rfl, rfl, fin, hF, rfl, rfl⟩⟩
      · simp only [icP, ifP, iL, iM1] at q
        try simp only [z_nI] at q
        try simp only [nI_add, nI_mul] at q
        first | rw [nI_le_iff (by omega) (by omega)] at q | rw [nI_lt_iff (by omega) (by omega)] at q | rw [nI_eq_iff (by omega) (by omega)] at q
        obtain ⟨r1, r2, r3, r4⟩ := p3 k (by omega)
        obtain ⟨v1, v2, v3⟩ := q3 k (by omega)
        have ea : w + 5 + 1 + 161 * k = w + 6 + 161 * k := by omega
        have hc := hg.2.2.2 k (by omega)
        rw [show wC (upd (wT W) 0 (wT W 0 + 1), mvE (wE W), toC (wC W) (tkA W) k) k = wC W k from toC_at _ _ _] at hc
        refine ⟨k, rfl, by omega, by rw [hg.2.2.1]; omega, wC W k, by rw [ea]; exact hc, r1, r2, by rw [t0]; exact r3, by rw [t0]; exact q1, fun ν1 hν1 hf1 => ?_⟩
        rw [t0, t1] at hν1
        rw [ea] at hf1 hν1
        have u0 : ν1.1 w 0 = wT W 0 + 1 := by rw [(hf1.1 w (by omega)).1]; exact t0
        refine ⟨k, rfl, by omega, by rw [(hf1.1 (w + 5) (by omega)).2, hg.2.2.1]; omega, arr1 (wT W 0 + 1) (wT W 1) (wC W k), by rw [ea]; exact hν1, arr1_e r1, arr1_NS v2, fun ν2 hν2 hf2 => ?_⟩
        rw [u0] at hν2
        rw [ea] at hf2 hν2
        refine ⟨50 + (3 - (k + 1)), psL w (k + 1), by omega, ⟨rfl, inc_tv k, trivial⟩, Or.inl ⟨k + 1, by omega, rfl, rfl, rfl, rfl, CW.setC hg (i := k) ?_ (by omega) (fun c _ hc => toC_ne _ _ hc) (fun z hz => ?_), hF.trans ((hf1.trans hf2).mono (by omega) (by omega)), rfl, rfl⟩⟩
        · rw [toC_S]
          exact hν2
        · exact (hf1.trans hf2).1 z hz
    · have t0 : ν.1 w 0 = wT W 0 + 1 := (hg.1 0 (by omega)).trans (upd_eq (wT W) 0 (wT W 0 + 1))
      have t1 : ν.1 w 1 = wT W 1 := (hg.1 1 (by omega)).trans (upd_ne (wT W) (i := 0) (k := 1) (wT W 0 + 1) (by omega))
      have t2 : ν.1 w 2 = wT W 2 := (hg.1 2 (by omega)).trans (upd_ne (wT W) (i := 0) (k := 2) (wT W 0 + 1) (by omega))
      refine ⟨fun q => ?_, fun q => ?_⟩
      · simp only [icP, ifP, iL, iM1] at q
        try simp only [z_nI] at q
        try simp only [nI_add, nI_mul] at q
        first | rw [nI_le_iff (by omega) (by omega)] at q | rw [nI_lt_iff (by omega) (by omega)] at q | rw [nI_eq_iff (by omega) (by omega)] at q
        obtain rfl : k = 3 := by omega
        exact h ν hg.all hF
      · simp only [icP, ifP, iL, iM1] at q
        try simp only [z_nI] at q
        try simp only [nI_add, nI_mul] at q
        first | rw [nI_le_iff (by omega) (by omega)] at q | rw [nI_lt_iff (by omega) (by omega)] at q | rw [nI_eq_iff (by omega) (by omega)] at q
        obtain ⟨r1, r2, r3, r4, r5, r6⟩ := p3 k (by omega)
        obtain ⟨v1, v2, v3⟩ := q3 k (by omega)
        have ea : w + 5 + 1 + 161 * k = w + 6 + 161 * k := by omega
        have hc := hg.2.2.2 k (by omega)
        rw [show wC (upd (wT W) 0 (wT W 0 + 1), mvE (wE W), toC (tkA W) (tkS W) k) k = tkA W k from toC_at _ _ _] at hc
        have hSE : SE ν.1 (w + 1) (mvE (wE W)) := SE.of hg.2.1 mE
        have c0 : ν.1 (w + 6 + 161 * k) 0 = cS (tkA W k) 0 := hc.1.1 0 (by omega)
        have eD : ∀ Y, CC Y.1 Y.2.1 (w + 6 + 161 * k) (tkS W k) → FRm ν Y (w + 6 + 161 * k) (w + 6 + 161 * k + 161) → ∃ n' lc', n' < 3 - k ∧ subL lc' [some (.inr (.inr (16, w))), some (.inl (iB ((wT W 0 + 1) % wT W 2 = 0))), some (.inl (nI k + Int32.ofInt 1)), some (.inr (.inr (14, w + 5 + 1 + 161 * k)))] ∧ ((∃ k', k' ≤ 3 ∧ n' = 50 + (3 - k') ∧ 87 = 19 ∧ lc' = psL w k' ∧ ([] : List TV) = [] ∧ CW Y.1 Y.2.1 w (upd (wT W) 0 (wT W 0 + 1), mvE (wE W), toC (wC W) (tkA W) k') ∧ FRm μ Y w (w + 489) ∧ 0 = 0 ∧ 0 = 0) ∨ (∃ k', k' ≤ 3 ∧ n' = 3 - k' ∧ 87 = 87 ∧ lc' = psM w k' (iB ((wT W 0 + 1) % wT W 2 = 0)) ∧ ([] : List TV) = [] ∧ CW Y.1 Y.2.1 w (upd (wT W) 0 (wT W 0 + 1), mvE (wE W), toC (tkA W) (tkS W) k') ∧ FRm μ Y w (w + 489) ∧ 0 = 0 ∧ 0 = 0)) := fun Y hY hfY => by
          refine ⟨3 - (k + 1), psM w (k + 1) (iB ((wT W 0 + 1) % wT W 2 = 0)), by omega, ⟨rfl, rfl, inc_tv k, trivial⟩, Or.inr ⟨k + 1, by omega, rfl, rfl, rfl, rfl, CW.setC hg (i := k) ?_ (by omega) (fun c _ hc => toC_ne _ _ hc) (fun z hz => hfY.1 z hz), hF.trans (hfY.mono (by omega) (by omega)), rfl, rfl⟩⟩
          rw [toC_S]
          exact hY
        refine ⟨k, rfl, by omega, by rw [hg.2.2.1]; omega, fun z => ?_, fun z => ?_⟩
        · have z : ν.1 (w + 5 + 1 + 161 * k) 0 = 0 := z
          rw [ea, c0] at z
          have e : tkS W k = tkA W k := if_neg fun w => by
            have w : cS (tkA W k) 0 = 1 := w
            rw [z] at w
            exact absurd w (by decide)
          exact eD ν (by rw [e]; exact hc) ⟨fun _ _ => ⟨rfl, rfl⟩, rfl⟩
        · have z : ¬ ν.1 (w + 5 + 1 + 161 * k) 0 = 0 := z
          rw [ea, c0] at z
          have hcn : cnn (tkA W k) := v1.resolve_left z
          obtain ⟨x1, x2, x3, x4, x5, x6⟩ := id hc
          refine ⟨cS (tkA W k), flyL (tkA W k), by rw [ea]; exact x1, by rw [ea]; exact x4, fun F1 G1 hS1 hL1 hF1 hG1 => ?_⟩
          rw [ea] at hS1 hL1 hF1 hG1
          have hlim : nI 4 * ν.1 w 1 + ν.1 w 2 = 4 * wT W 1 + wT W 2 := by rw [t1, t2]; rfl
          have hlim' : Int32.ofInt 4 * ν.1 w 1 + ν.1 w 2 = 4 * wT W 1 + wT W 2 := hlim
          rw [t0, hlim'] at hS1 hL1
          generalize hY : giv (wT W 0 + 1) (4 * wT W 1 + wT W 2) (tkA W k) = Y at r6
          have yS : cS Y = upd (cS (tkA W k)) 14 (cS (tkA W k) 14 + nI (cntB (wT W 0 + 1) (4 * wT W 1 + wT W 2) (flyL (tkA W k)) 0)) := by
            rw [← hY]
            show upd _ 14 (_ + nI (oldN _ _ (cP (tkA W k)))) = _
            rw [oldN_fly]
            rfl
          have yF : flyL Y = (flyL (tkA W k)).filter (fNb (wT W 0 + 1) (4 * wT W 1 + wT W 2)) := by rw [← hY]; exact flyL_giv _ _ _
          have yW : wayL Y = (wayL (tkA W k)).map (zeroO (wT W 0 + 1) (4 * wT W 1 + wT W 2)) := by rw [← hY]; exact wayL_giv _ _ _
          have yB : cB Y = cB (tkA W k) := by rw [← hY]; rfl
          have yR : cR Y = cR (tkA W k) := by rw [← hY]; rfl
          have yA : cA Y = cA (tkA W k) := by rw [← hY]; rfl
          have hCY : CC F1 G1 (w + 6 + 161 * k) Y := by
            refine ⟨by rw [yS]; exact hS1, by rw [yB]; exact x2.keep fun z z1 z2 => hF1 z (by omega) (by omega), by rw [yR]; exact x3.keep fun z z1 z2 => hF1 z (by omega) (by omega), by rw [yF]; exact hL1, ?_, by rw [yA]; exact x6.keep fun z z1 z2 => hF1 z (by omega) (by omega)⟩
            rw [yW]
            exact PL.map (x5.keep (fun z z1 z2 => hF1 z (by omega) (by omega)) (hG1 _ (by omega))) _ fun p _ => zeroO_PE _ _ p
          have hSE1 : SE F1 (w + 1) (mvE (wE W)) := fun e he => by
            rw [hF1 _ (by omega) (by omega)]
            exact hSE e he
          refine ⟨Y, mvE (wE W), by rw [ea]; exact hCY.1, by rw [ea]; exact hCY.2.1, hSE1, by rw [ea]; omega, fun F2 hB2 hF2 => ?_⟩
          rw [ea] at hB2 hF2
          have hF2 : ∀ z, ¬ z = w + 6 + 161 * k + 2 → F2 z = F1 z := hF2
          have hCZ : CC F2 G1 (w + 6 + 161 * k) (raiN Y (mvE (wE W)) 16) := by
            obtain ⟨y1, y2, y3, y4, y5, y6⟩ := hCY
            refine ⟨?_, hB2, ?_, ?_, ?_, ?_⟩
            · rw [raiN_S]; exact y1.keep fun z z1 z2 => hF2 z (by omega)
            · rw [raiN_R]; exact y3.keep fun z z1 z2 => hF2 z (by omega)
            · have e : flyL (raiN Y (mvE (wE W)) 16) = flyL Y := by unfold flyL; rw [raiN_P]
              rw [e]; exact y4.keep (fun z z1 z2 => hF2 z (by omega)) rfl
            · have e : wayL (raiN Y (mvE (wE W)) 16) = wayL Y := by unfold wayL; rw [raiN_P]
              rw [e]; exact y5.keep (fun z z1 z2 => hF2 z (by omega)) rfl
            · rw [raiN_A]; exact y6.keep fun z z1 z2 => hF2 z (by omega)
          have hfr : FRm ν (F2, G1, ν.2.2) (w + 6 + 161 * k) (w + 6 + 161 * k + 161) := ⟨fun z hz => ⟨(hF2 z (by omega)).trans (hF1 z (by omega) (by omega)), hG1 z (by omega)⟩, rfl⟩
          have hSk : tkS W k = if (wT W 0 + 1) % wT W 2 = 0 ∧ flyN (cP (raiN Y (mvE (wE W)) 16)) < 12 then snd1 (wT W 0 + 1) (wT W 1) (mvE (wE W)) (raiN Y (mvE (wE W)) 16) else raiN Y (mvE (wE W)) 16 := by
            have e : tkS W k = srv (wT W 0 + 1) (wT W 1) (wT W 2) (mvE (wE W)) (tkA W k) := if_pos hcn
            rw [e]
            unfold srv
            rw [hY]
          refine ⟨fun z2 => eD (F2, G1, ν.2.2) ?_ hfr, fun z2 => ?_⟩
          · have z2 := (iB_eq0 _).mp z2
            rw [hSk, if_neg fun w => z2 w.1]
            exact hCZ
          · have z2 : ¬ iB ((wT W 0 + 1) % wT W 2 = 0) = 0 := z2
            rw [iB_ne0] at z2
            have s0 : F2 w 0 = wT W 0 + 1 := by rw [hF2 _ (by omega), hF1 _ (by omega) (by omega)]; exact t0
            have s1 : F2 w 1 = wT W 1 := by rw [hF2 _ (by omega), hF1 _ (by omega) (by omega)]; exact t1
            refine ⟨raiN Y (mvE (wE W)) 16, mvE (wE W), by rw [ea]; exact hCZ, fun e he => ?_, by rw [ea]; omega, fun e he => ?_, fun e he => rai_ek he (mE e he).1, ?_, ?_, fun ν3 hν3 hf3 => ?_⟩
            · show F2 (w + 1 + 1) e = _ ∧ _
              rw [hF2 _ (by omega)]
              exact hSE1 e he
            · rw [raiN_B _ _ _ _ (by omega), yB]
              exact r4 e he
            · have e : wayL (raiN Y (mvE (wE W)) 16) = wayL Y := by unfold wayL; rw [raiN_P]
              rw [e, yW, List.length_map]
              exact v3
            · show 0 < F2 w 0 + F2 w 1
              rw [s0, s1]
              exact q2b
            · have hν3 : CC ν3.1 ν3.2.1 (w + 5 + 1 + 161 * k) (if (flyL (raiN Y (mvE (wE W)) 16)).length < 12 then snd1 (F2 w 0) (F2 w 1) (mvE (wE W)) (raiN Y (mvE (wE W)) 16) else raiN Y (mvE (wE W)) 16) := hν3
              rw [ea, s0, s1] at hν3
              rw [ea] at hf3
              refine eD ν3 ?_ (hfr.trans hf3)
              rw [hSk]
              by_cases g : flyN (cP (raiN Y (mvE (wE W)) 16)) < 12
              · rw [if_pos ⟨z2, g⟩]
                have g' : (flyL (raiN Y (mvE (wE W)) 16)).length < 12 := g
                rw [if_pos g'] at hν3
                exact hν3
              · rw [if_neg fun w => g w.2]
                have g' : ¬ (flyL (raiN Y (mvE (wE W)) 16)).length < 12 := g
                rw [if_neg g'] at hν3
                exact hν3
