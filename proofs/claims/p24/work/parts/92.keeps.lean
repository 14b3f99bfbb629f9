/-! THE LAW: keeps. -/
theorem iB_n1 {p : Prop} [Decidable p] (h : ¬ iB p = 1) : (0 : Int32) = iB p := ((iB_01 p).resolve_right h).symm
theorem iB_y1 {p : Prop} [Decidable p] (h : ¬ ¬ iB p = 1) : (1 : Int32) = iB p := (Classical.not_not.mp h).symm
def kpL (x i b N : Nat) (s : Int32) (e : Nat) (o6 o7 o8 o9 o10 : Option TV) : LC := [some (.inr (.inr (19, x))), some (.inl (nI i)), some (.inl (nI b)), some (.inl (nI N)), some (.inl s), some (.inl (nI e)), o6, o7, o8, o9, o10]
def dueI (X : CS) (E : Nat → Nat → Int32) (e : Nat) : Int32 := if inA X (E e 0) then (if cB X e 2 = -1 then 6 else if E e 0 = cB X e 2 then 0 else -1) else (if cB X e 2 = -1 then 0 else 2)
abbrev inI (X : CS) (E : Nat → Nat → Int32) (e : Nat) : Int32 := iB (inA X (E e 0))
abbrev baI (X : CS) (e : Nat) : Int32 := iB (¬ cB X e 2 = -1)
abbrev haI (X : CS) (e : Nat) : Int32 := iB (¬ lastS (cR X e) = -1)
abbrev stI (X : CS) (E : Nat → Nat → Int32) (e : Nat) : Int32 := nI (cntN (stP X E) (fun _ => inferInstance) e)
def keI (x i b N : Nat) (W : WS) (U : List WS) (μ : MM) (m pc : Nat) (lc : LC) (st : List TV) (μ' : MM) (ce sl : Nat) : Prop :=
  CXo μ' x W U ∧ FRq μ μ' x ∧ ∃ e, e ≤ 16 ∧ ((pc = 13 ∧ st = [] ∧ lc = kpL x i b N (stI (wC W i) (wE W) e) e none none none none none ∧ m = 20 * (16 - e) + 19 ∧ ce ≤ 2 + 110 * e ∧ sl ≤ 12 + 660 * e) ∨
    (e < 16 ∧ pc = 40 ∧ st = [] ∧ lc = kpL x i b N (stI (wC W i) (wE W) e) e (some (.inl (inI (wC W i) (wE W) e))) none none none none ∧ m = 20 * (16 - e) + 18 ∧ ce ≤ 6 + 110 * e ∧ sl ≤ 36 + 660 * e) ∨
    (e < 16 ∧ pc = 59 ∧ st = [] ∧ lc = kpL x i b N (stI (wC W i) (wE W) e) e (some (.inl (inI (wC W i) (wE W) e))) (some (.inl (baI (wC W i) e))) none none none ∧ m = 20 * (16 - e) + 17 ∧ ce ≤ 10 + 110 * e ∧ sl ≤ 60 + 660 * e) ∨
    (e < 16 ∧ pc = 78 ∧ st = [] ∧ lc = kpL x i b N (stI (wC W i) (wE W) e) e (some (.inl (inI (wC W i) (wE W) e))) (some (.inl (baI (wC W i) e))) (some (.inl (haI (wC W i) e))) none none ∧ m = 20 * (16 - e) + 16 ∧ ce ≤ 13 + 110 * e ∧ sl ≤ 78 + 660 * e) ∨
    (e < 16 ∧ pc = 122 ∧ st = [.inl (dueI (wC W i) (wE W) e)] ∧ lc = kpL x i b N (stI (wC W i) (wE W) e) e (some (.inl (inI (wC W i) (wE W) e))) (some (.inl (baI (wC W i) e))) (some (.inl (haI (wC W i) e))) none none ∧ m = 20 * (16 - e) + 15 ∧ ce ≤ 37 + 110 * e ∧ sl ≤ 222 + 660 * e) ∨
    (e < 16 ∧ pc = 174 ∧ st = [.inl (iB (stP (wC W i) (wE W) e)), .inl (stI (wC W i) (wE W) e)] ∧ lc = kpL x i b N (stI (wC W i) (wE W) e) e (some (.inl (inI (wC W i) (wE W) e))) (some (.inl (baI (wC W i) e))) (some (.inl (haI (wC W i) e))) (some (.inl (dueI (wC W i) (wE W) e))) (some (.inl (nI (prc (wC W i) (wE W) e)))) ∧ m = 20 * (16 - e) + 14 ∧ ce ≤ 64 + 110 * e ∧ sl ≤ 384 + 660 * e) ∨
    (e < 16 ∧ pc = 207 ∧ st = [] ∧ lc = kpL x i b N (stI (wC W i) (wE W) (e + 1)) e (some (.inl (inI (wC W i) (wE W) e))) (some (.inl (baI (wC W i) e))) (some (.inl (haI (wC W i) e))) none none ∧ m = 20 * (16 - e) + 13 ∧ ce ≤ 64 + 110 * e ∧ sl ≤ 384 + 660 * e) ∨
    (e < 16 ∧ pc = 273 ∧ st = [] ∧ lc = kpL x i b N (stI (wC W i) (wE W) (e + 1)) e (some (.inl (inI (wC W i) (wE W) e))) (some (.inl (baI (wC W i) e))) (some (.inl (haI (wC W i) e))) none none ∧ m = 20 * (16 - e) + 12 ∧ ce ≤ 82 + 110 * e ∧ sl ≤ 492 + 660 * e) ∨
    (e < 16 ∧ pc = 291 ∧ st = [] ∧ lc = kpL x i b N (stI (wC W i) (wE W) (e + 1)) e (some (.inl (inI (wC W i) (wE W) e))) (some (.inl (baI (wC W i) e))) (some (.inl (haI (wC W i) e))) none none ∧ m = 20 * (16 - e) + 11 ∧ ce ≤ 85 + 110 * e ∧ sl ≤ 510 + 660 * e) ∨
    (e < 16 ∧ pc = 310 ∧ st = [] ∧ lc = kpL x i b N (stI (wC W i) (wE W) (e + 1)) e (some (.inl (inI (wC W i) (wE W) e))) (some (.inl (baI (wC W i) e))) (some (.inl (haI (wC W i) e))) none none ∧ m = 20 * (16 - e) + 10 ∧ ce ≤ 89 + 110 * e ∧ sl ≤ 534 + 660 * e))
theorem due_prc {X : CS} {E : Nat → Nat → Int32} {e : Nat} (hs : sOK (E e 0)) (hs2 : sOK (cB X e 2)) : (0 ≤ dueI X E e → nI (prc X E e) = dueI X E e) ∧ (¬ 0 ≤ dueI X E e → 3 ≤ prc X E e ∧ prc X E e ≤ 6) := by
  unfold dueI prc
  by_cases a : inA X (E e 0)
  · rw [if_pos a, if_pos a]
    by_cases c : cB X e 2 = -1
    · rw [if_pos c, if_pos c]
      exact ⟨fun _ => rfl, fun w => (w (by decide)).elim⟩
    · rw [if_neg c, if_neg c]
      by_cases q : E e 0 = cB X e 2
      · rw [if_pos q, if_pos q.symm]
        exact ⟨fun _ => rfl, fun w => (w (by decide)).elim⟩
      · rw [if_neg q, if_neg fun w => q w.symm]
        refine ⟨fun w => absurd w (by decide), fun _ => ?_⟩
        obtain ⟨n, n1, n2, n3⟩ := sOK_ne hs a.1
        obtain ⟨m, m1, m2, m3⟩ := sOK_ne hs2 c
        rw [n3, m3]
        have := bts_all _ (mkN_lt m n) (mk_pos fun w => q (by rw [n2, m2, w]))
        omega
  · rw [if_neg a, if_neg a]
    by_cases c : cB X e 2 = -1
    · rw [if_pos c, if_pos c]
      exact ⟨fun _ => rfl, fun w => (w (by decide)).elim⟩
    · rw [if_neg c, if_neg c]
      exact ⟨fun _ => rfl, fun w => (w (by decide)).elim⟩
def sp_L_keeps : SPc := fun As μ K => match As with
  | [.inr (.inr (19, x)), .inl c, .inl bb] => ∃ (M : Nat) (W : WS) (U : List WS) (i S N b : Nat), WKS M W U ∧ M + 200 < 2 ^ 31 ∧ CXo μ x W U ∧ i < 3 ∧ c = nI i ∧ bb = nI b ∧ b ≤ 64 ∧ N < 1000000 ∧ S < 1000000 ∧ GX S N b (wC W i) ∧ cnn (wC W i) ∧ ∀ μ', CXo μ' x W U → FRq μ μ' x → K (.inl (some (.inl 1))) μ'
  | _ => False
def ct_L_keeps : List (Nat × CI) := [(90, ci_L_count), (85, ci_L_kept), (88, ci_L_copy), (97, ci_L_same), (101, ci_L_price), (103, ci_L_stale)]
def ci_L_keeps : CI := (yL_keeps, cL_keeps, 11, some .boolean, 3, (10, 1800, 10800, 185), 0, [], sp_L_keeps)
set_option maxRecDepth 100000 in
theorem ck_L_keeps : chkM ci_L_keeps RL co_L_keeps ct_L_keeps [] true false = true := by decide +kernel
set_option maxHeartbeats 4000000 in
set_option maxRecDepth 100000 in
theorem ms_L_keeps {g : GPT} {ot : OT} {l : Launch} (hl : l.stackTraces = false) (hot : otOK ot) : MS g ot l ci_L_keeps := by
  refine ms_of hl RL co_L_keeps ct_L_keeps [] true false [13,40,59,78,122,174,207,273,291,310] 271 ck_L_keeps (List.forall_mem_cons.mpr ⟨ms_L_count hl, List.forall_mem_cons.mpr ⟨ms_L_kept hl hot, List.forall_mem_cons.mpr ⟨ms_L_copy hl hot, List.forall_mem_cons.mpr ⟨ms_L_same hl hot, List.forall_mem_cons.mpr ⟨ms_L_price hl hot, List.forall_mem_cons.mpr ⟨ms_L_stale hl hot, fun _ h => nomatch h⟩⟩⟩⟩⟩⟩) ?_
  intro As μ K h
  simp only [ci_L_keeps, sp_L_keeps] at h
  split at h
  case h_2 => exact h.elim
  rename_i x c bb
  obtain ⟨M, W, U, i, S, N, b, hK, hM, hX, hi, rfl, rfl, hb, hN, hS, hG, hcn, h⟩ := h
  obtain ⟨T, tM, t0, hc⟩ := hK.1.cl hi
  have hI := hc.2.1
  have hs2 := hc.2.2.1
  have hE := hK.1.1
  have hRl : ∀ e, e < 16 → (cR (wC W i) e).length ≤ 12 := fun e he => ((hX.cl hi).2.2.1 e he).2.1
  obtain ⟨⟨⟨s7, s8, s4, sb⟩, cx, cy, sn⟩, ⟨Bt, LP, LA, AR, GU, Es, ⟨c9, c10, c11, c12, c14, c15⟩, cb, cl, cg, ce0⟩, hp, hbl, hr⟩ := hG
  have e0 : ansR xc0 (oCnt (nI i) (nI 0) W U) = nI N := (an_cnt hi (by omega) W U).trans s8
  refine ⟨Nat.le_of_ble_eq_true rfl, keI x i b N W U μ, ⟨⟨by decide, by decide⟩, M, W, U, hK, hM, hX, fun μ1 hX1 hF1 => ?_⟩, ?_⟩
  · exact ⟨20 * (16 - 0) + 19, kpL x i b N (stI (wC W i) (wE W) 0) 0 none none none none none, ⟨rfl, rfl, rfl, tvE e0, rfl, rfl, trivial⟩, hX1, hF1, 0, Nat.zero_le _, Or.inl ⟨rfl, rfl, rfl, rfl, by decide, by decide⟩⟩
  · rintro m pc lc st μ' ce sl ⟨hX', hF, e, he, (⟨rfl, rfl, rfl, rfl, hce, hsl⟩ | ⟨he2, rfl, rfl, rfl, rfl, hce, hsl⟩ | ⟨he2, rfl, rfl, rfl, rfl, hce, hsl⟩ | ⟨he2, rfl, rfl, rfl, rfl, hce, hsl⟩ | ⟨he2, rfl, rfl, rfl, rfl, hce, hsl⟩ | ⟨he2, rfl, rfl, rfl, rfl, hce, hsl⟩ | ⟨he2, rfl, rfl, rfl, rfl, hce, hsl⟩ | ⟨he2, rfl, rfl, rfl, rfl, hce, hsl⟩ | ⟨he2, rfl, rfl, rfl, rfl, hce, hsl⟩ | ⟨he2, rfl, rfl, rfl, rfl, hce, hsl⟩)⟩
    · refine ⟨fun q => ?_, fun q => ?_⟩
      · simp only [icP, ifP, iL, iM1] at q
        try simp only [z_nI] at q
        try simp only [nI_add, nI_mul] at q
        first | rw [nI_le_iff (by omega) (by omega)] at q | rw [nI_lt_iff (by omega) (by omega)] at q | rw [nI_eq_iff (by omega) (by omega)] at q
        obtain rfl : e = 16 := by omega
        have k1 : ansR xc0 (oCnt (nI i) (nI 1) W U) = nI Bt := (an_cnt hi (by omega) W U).trans c9
        have k2 : ansR xc0 (oCnt (nI i) (nI 2) W U) = nI LP := (an_cnt hi (by omega) W U).trans c10
        have k3 : ansR xc0 (oCnt (nI i) (nI 3) W U) = nI LA := (an_cnt hi (by omega) W U).trans c11
        have k4 : ansR xc0 (oCnt (nI i) (nI 4) W U) = nI AR := (an_cnt hi (by omega) W U).trans c12
        have k7 : ansR xc0 (oCnt (nI i) (nI 7) W U) = nI GU := (an_cnt hi (by omega) W U).trans c14
        have k8 : ansR xc0 (oCnt (nI i) (nI 8) W U) = nI Es := (an_cnt hi (by omega) W U).trans c15
        have ks : ansR xc3 (oStale (nI i) W U) = stI (wC W i) (wE W) 16 := an_stale hi hcn U
        have hbN : b * N ≤ 64 * N := Nat.mul_le_mul_right _ hb
        have m16 : Int32.ofInt 16 * nI N = nI (16 * N) := nI_mul 16 N
        have m6 : Int32.ofInt 6 * nI N = nI (6 * N) := nI_mul 6 N
        have mb : nI b * nI N = nI (b * N) := nI_mul b N
        refine ⟨⟨by show ce + 2 ≤ 1800; omega, by show sl + 12 ≤ 10800; omega⟩, M, W, U, hK, hM, hX', fun μ2 hX2 hF2 => ⟨fun w => ?_, fun _ => ⟨⟨by show ce + 2 + 2 ≤ 1800; omega, by show sl + 12 + 12 ≤ 10800; omega⟩, M, W, U, hK, hM, hX2, fun μ3 hX3 hF3 => ⟨fun w => ?_, fun _ => ⟨⟨by show ce + 2 + 2 + 2 ≤ 1800; omega, by show sl + 12 + 12 + 12 ≤ 10800; omega⟩, M, W, U, hK, hM, hX3, fun μ4 hX4 hF4 => ⟨fun w => ?_, fun _ => ⟨⟨by show ce + 2 + 2 + 2 + 2 ≤ 1800; omega, by show sl + 12 + 12 + 12 + 12 ≤ 10800; omega⟩, M, W, U, hK, hM, hX4, fun μ5 hX5 hF5 => ⟨fun w => ?_, fun _ => ⟨⟨by show ce + 2 + 2 + 2 + 2 + 2 ≤ 1800; omega, by show sl + 12 + 12 + 12 + 12 + 12 ≤ 10800; omega⟩, M, W, U, hK, hM, hX5, fun μ6 hX6 hF6 => ⟨fun w => ?_, fun _ => ⟨⟨by show ce + 2 + 2 + 2 + 2 + 2 + 2 ≤ 1800; omega, by show sl + 12 + 12 + 12 + 12 + 12 + 12 ≤ 10800; omega⟩, M, W, U, hK, hM, hX6, fun μ7 hX7 hF7 => ⟨⟨by show ce + 2 + 2 + 2 + 2 + 2 + 2 + 2 ≤ 1800; omega, by show sl + 12 + 12 + 12 + 12 + 12 + 12 + 12 ≤ 10800; omega⟩, M, W, U, hK, hM, hX7, fun μ8 hX8 hF8 => ⟨⟨by show ce + 2 + 2 + 2 + 2 + 2 + 2 + 2 + 2 ≤ 1800; omega, by show sl + 12 + 12 + 12 + 12 + 12 + 12 + 12 + 12 ≤ 10800; omega⟩, M, W, U, hK, hM, hX8, fun μ9 hX9 hF9 => ⟨fun w => ?_, fun _ => ⟨⟨by show ce + 2 + 2 + 2 + 2 + 2 + 2 + 2 + 2 + 2 ≤ 1800; omega, by show sl + 12 + 12 + 12 + 12 + 12 + 12 + 12 + 12 + 12 ≤ 10800; omega⟩, M, W, U, hK, hM, hX9, fun μa hXa hFa => ⟨fun w => ?_, fun _ => ⟨⟨by show ce + 2 + 2 + 2 + 2 + 2 + 2 + 2 + 2 + 2 + 2 ≤ 1800; omega, by show sl + 12 + 12 + 12 + 12 + 12 + 12 + 12 + 12 + 12 + 12 ≤ 10800; omega⟩, M, W, U, hK, hM, hXa, fun μb hXb hFb => ⟨fun w => (w ks).elim, fun _ => ⟨fun w => absurd (show (1 : Int32) = 0 from w) (by decide), fun _ => ⟨Or.inr rfl, h μb hXb (hF.trans (hF2.trans (hF3.trans (hF4.trans (hF5.trans (hF6.trans (hF7.trans (hF8.trans (hF9.trans (hFa.trans hFb))))))))))⟩⟩⟩⟩⟩⟩⟩⟩⟩⟩⟩⟩⟩⟩⟩⟩⟩⟩⟩⟩
        · have w : nI N < ansR xc0 (oCnt (nI i) (nI 2) W U) := w
          rw [k2, nI_lt_iff (by omega) (by omega)] at w
          omega
        · have w : ansR xc0 (oCnt (nI i) (nI 8) W U) < nI N := w
          rw [k8, nI_lt_iff (by omega) (by omega)] at w
          omega
        · have w : Int32.ofInt 16 * nI N < ansR xc0 (oCnt (nI i) (nI 8) W U) := w
          rw [m16, k8, nI_lt_iff (by omega) (by omega)] at w
          omega
        · have w : ansR xc0 (oCnt (nI i) (nI 1) W U) < Int32.ofInt 6 * nI N := w
          rw [m6, k1, nI_lt_iff (by omega) (by omega)] at w
          omega
        · have w : nI b * nI N < ansR xc0 (oCnt (nI i) (nI 1) W U) := w
          rw [mb, k1, nI_lt_iff (by omega) (by omega)] at w
          omega
        · have w : nI N - ansR xc0 (oCnt (nI i) (nI 2) W U) < ansR xc0 (oCnt (nI i) (nI 3) W U) + ansR xc0 (oCnt (nI i) (nI 4) W U) := w
          rw [k2, k3, k4, nI_sub1 (by omega), nI_add, nI_lt_iff (by omega) (by omega)] at w
          omega
        · have w : nI N < ansR xc0 (oCnt (nI i) (nI 7) W U) := w
          rw [k7, nI_lt_iff (by omega) (by omega)] at w
          omega
      · simp only [icP, ifP, iL, iM1] at q
        try simp only [z_nI] at q
        try simp only [nI_add, nI_mul] at q
        first | rw [nI_le_iff (by omega) (by omega)] at q | rw [nI_lt_iff (by omega) (by omega)] at q | rw [nI_eq_iff (by omega) (by omega)] at q
        have k7 : ansR xc0 (oKept (nI i) (nI e) (nI 7) W U) = inI (wC W i) (wE W) e := an_kept hi (by omega) (by omega) hcn U
        refine ⟨⟨by show ce + 4 ≤ 1800; omega, by show sl + 24 ≤ 10800; omega⟩, M, W, U, hK, hM, hX', fun μ2 hX2 hF2 => ⟨fun w => ?_, fun w => ?_⟩⟩
        · have w : ¬ ansR xc0 (oKept (nI i) (nI e) (nI 7) W U) = 1 := w
          rw [k7] at w
          exact ⟨20 * (16 - e) + 18, kpL x i b N (stI (wC W i) (wE W) e) e (some (.inl (inI (wC W i) (wE W) e))) none none none none, by omega, ⟨rfl, rfl, rfl, rfl, rfl, rfl, tvE (iB_n1 w), trivial⟩, hX2, hF.trans hF2, e, he, Or.inr (Or.inl ⟨by omega, rfl, rfl, rfl, rfl, by omega, by omega⟩)⟩
        · have w : ¬ ¬ ansR xc0 (oKept (nI i) (nI e) (nI 7) W U) = 1 := w
          rw [k7] at w
          exact ⟨20 * (16 - e) + 18, kpL x i b N (stI (wC W i) (wE W) e) e (some (.inl (inI (wC W i) (wE W) e))) none none none none, by omega, ⟨rfl, rfl, rfl, rfl, rfl, rfl, tvE (iB_y1 w), trivial⟩, hX2, hF.trans hF2, e, he, Or.inr (Or.inl ⟨by omega, rfl, rfl, rfl, rfl, by omega, by omega⟩)⟩
    · have k2 : ansR xc0 (oKept (nI i) (nI e) (nI 2) W U) = baI (wC W i) e := an_kept hi he2 (by omega) hcn U
      refine ⟨⟨by show ce + 4 ≤ 1800; omega, by show sl + 24 ≤ 10800; omega⟩, M, W, U, hK, hM, hX', fun μ2 hX2 hF2 => ⟨fun w => ?_, fun w => ?_⟩⟩
      · have w : ¬ ansR xc0 (oKept (nI i) (nI e) (nI 2) W U) = 1 := w
        rw [k2] at w
        exact ⟨20 * (16 - e) + 17, kpL x i b N (stI (wC W i) (wE W) e) e (some (.inl (inI (wC W i) (wE W) e))) (some (.inl (baI (wC W i) e))) none none none, by omega, ⟨rfl, rfl, rfl, rfl, rfl, rfl, rfl, tvE (iB_n1 w), trivial⟩, hX2, hF.trans hF2, e, he, Or.inr (Or.inr (Or.inl ⟨by omega, rfl, rfl, rfl, rfl, by omega, by omega⟩))⟩
      · have w : ¬ ¬ ansR xc0 (oKept (nI i) (nI e) (nI 2) W U) = 1 := w
        rw [k2] at w
        exact ⟨20 * (16 - e) + 17, kpL x i b N (stI (wC W i) (wE W) e) e (some (.inl (inI (wC W i) (wE W) e))) (some (.inl (baI (wC W i) e))) none none none, by omega, ⟨rfl, rfl, rfl, rfl, rfl, rfl, rfl, tvE (iB_y1 w), trivial⟩, hX2, hF.trans hF2, e, he, Or.inr (Or.inr (Or.inl ⟨by omega, rfl, rfl, rfl, rfl, by omega, by omega⟩))⟩
    · have k0 : ansR xc0 (oCopy (nI i) (nI e) (nI 0) W U) = haI (wC W i) e := an_copy hi he2 (by omega) W U
      refine ⟨⟨by show ce + 3 ≤ 1800; omega, by show sl + 18 ≤ 10800; omega⟩, M, W, U, hK, hM, hX', fun μ2 hX2 hF2 => ⟨fun w => ?_, fun w => ?_⟩⟩
      · have w : ¬ ansR xc0 (oCopy (nI i) (nI e) (nI 0) W U) = 1 := w
        rw [k0] at w
        exact ⟨20 * (16 - e) + 16, kpL x i b N (stI (wC W i) (wE W) e) e (some (.inl (inI (wC W i) (wE W) e))) (some (.inl (baI (wC W i) e))) (some (.inl (haI (wC W i) e))) none none, by omega, ⟨rfl, rfl, rfl, rfl, rfl, rfl, rfl, rfl, tvE (iB_n1 w), trivial⟩, hX2, hF.trans hF2, e, he, Or.inr (Or.inr (Or.inr (Or.inl ⟨by omega, rfl, rfl, rfl, rfl, by omega, by omega⟩)))⟩
      · have w : ¬ ¬ ansR xc0 (oCopy (nI i) (nI e) (nI 0) W U) = 1 := w
        rw [k0] at w
        exact ⟨20 * (16 - e) + 16, kpL x i b N (stI (wC W i) (wE W) e) e (some (.inl (inI (wC W i) (wE W) e))) (some (.inl (baI (wC W i) e))) (some (.inl (haI (wC W i) e))) none none, by omega, ⟨rfl, rfl, rfl, rfl, rfl, rfl, rfl, rfl, tvE (iB_y1 w), trivial⟩, hX2, hF.trans hF2, e, he, Or.inr (Or.inr (Or.inr (Or.inl ⟨by omega, rfl, rfl, rfl, rfl, by omega, by omega⟩)))⟩
    · refine ⟨fun w => ⟨fun w2 => ?_, fun w2 => ?_⟩, fun w => ⟨fun w2 => ?_, fun w2 => ?_⟩⟩
      · have a : ¬ inA (wC W i) (wE W e 0) := iB_n w
        have c : cB (wC W i) e 2 = -1 := Classical.not_not.mp (iB_n w2)
        have hd : dueI (wC W i) (wE W) e = 0 := by
          unfold dueI
          rw [if_neg a, if_pos c]
        exact ⟨20 * (16 - e) + 15, kpL x i b N (stI (wC W i) (wE W) e) e (some (.inl (inI (wC W i) (wE W) e))) (some (.inl (baI (wC W i) e))) (some (.inl (haI (wC W i) e))) none none, by omega, subL_rf, hX', hF, e, he, Or.inr (Or.inr (Or.inr (Or.inr (Or.inl ⟨he2, rfl, by rw [hd]; rfl, rfl, rfl, by omega, by omega⟩))))⟩
      · have a : ¬ inA (wC W i) (wE W e 0) := iB_n w
        have c : ¬ cB (wC W i) e 2 = -1 := iB_y w2
        have hd : dueI (wC W i) (wE W) e = 2 := by
          unfold dueI
          rw [if_neg a, if_neg c]
        exact ⟨20 * (16 - e) + 15, kpL x i b N (stI (wC W i) (wE W) e) e (some (.inl (inI (wC W i) (wE W) e))) (some (.inl (baI (wC W i) e))) (some (.inl (haI (wC W i) e))) none none, by omega, subL_rf, hX', hF, e, he, Or.inr (Or.inr (Or.inr (Or.inr (Or.inl ⟨he2, rfl, by rw [hd]; rfl, rfl, rfl, by omega, by omega⟩))))⟩
      · have a : inA (wC W i) (wE W e 0) := iB_y w
        have c : ¬ cB (wC W i) e 2 = -1 := iB_y w2
        refine ⟨⟨by show ce + 24 ≤ 1800; omega, by show sl + 144 ≤ 10800; omega⟩, M, W, U, i, e, cB (wC W i) e 2, hK, hM, hX', hi, he2, rfl, rfl, Or.inl ⟨rfl, hcn, rfl⟩, ⟨hs2 e he2, c⟩, ⟨(hE e he2).1, a.1⟩, fun μ2 hX2 hF2 => ⟨fun w3 => ?_, fun w3 => ?_⟩⟩
        · have q : ¬ wE W e 0 = cB (wC W i) e 2 := iB_n w3
          have hd : dueI (wC W i) (wE W) e = -1 := by
            unfold dueI
            rw [if_pos a, if_neg c, if_neg q]
          exact ⟨20 * (16 - e) + 15, kpL x i b N (stI (wC W i) (wE W) e) e (some (.inl (inI (wC W i) (wE W) e))) (some (.inl (baI (wC W i) e))) (some (.inl (haI (wC W i) e))) none none, by omega, subL_rf, hX2, hF.trans hF2, e, he, Or.inr (Or.inr (Or.inr (Or.inr (Or.inl ⟨he2, rfl, by rw [hd]; rfl, rfl, rfl, by omega, by omega⟩))))⟩
        · have q : wE W e 0 = cB (wC W i) e 2 := iB_y w3
          have hd : dueI (wC W i) (wE W) e = 0 := by
            unfold dueI
            rw [if_pos a, if_neg c, if_pos q]
          exact ⟨20 * (16 - e) + 15, kpL x i b N (stI (wC W i) (wE W) e) e (some (.inl (inI (wC W i) (wE W) e))) (some (.inl (baI (wC W i) e))) (some (.inl (haI (wC W i) e))) none none, by omega, subL_rf, hX2, hF.trans hF2, e, he, Or.inr (Or.inr (Or.inr (Or.inr (Or.inl ⟨he2, rfl, by rw [hd]; rfl, rfl, rfl, by omega, by omega⟩))))⟩
      · have a : inA (wC W i) (wE W e 0) := iB_y w
        have c : cB (wC W i) e 2 = -1 := Classical.not_not.mp (iB_nn w2)
        have hd : dueI (wC W i) (wE W) e = 6 := by
          unfold dueI
          rw [if_pos a, if_pos c]
        exact ⟨20 * (16 - e) + 15, kpL x i b N (stI (wC W i) (wE W) e) e (some (.inl (inI (wC W i) (wE W) e))) (some (.inl (baI (wC W i) e))) (some (.inl (haI (wC W i) e))) none none, by omega, subL_rf, hX', hF, e, he, Or.inr (Or.inr (Or.inr (Or.inr (Or.inl ⟨he2, rfl, by rw [hd]; rfl, rfl, rfl, by omega, by omega⟩))))⟩
    · have kp : ansR xc3 (oPrice (nI i) (nI e) W U) = nI (prc (wC W i) (wE W) e) := an_price hi he2 hcn U
      have sl1 : sOK (lastS (cR (wC W i) e)) := sOK_last (hI e he2).2
      refine ⟨⟨by show ce + 3 ≤ 1800; omega, by show sl + 18 ≤ 10800; omega⟩, M, W, U, hK, hM, hX', fun μ2 hX2 hF2 => ⟨fun w => ⟨fun w2 => ?_, fun w2 => ?_⟩, fun w => ⟨fun w2 => ?_, fun w2 => ?_⟩⟩⟩
      · have a : ¬ inA (wC W i) (wE W e 0) := iB_n w
        have c : lastS (cR (wC W i) e) = -1 := Classical.not_not.mp (iB_n w2)
        have hd : iB (stP (wC W i) (wE W) e) = 0 := iB_0 fun z => z (by rw [if_neg a]; exact c)
        exact ⟨20 * (16 - e) + 14, kpL x i b N (stI (wC W i) (wE W) e) e (some (.inl (inI (wC W i) (wE W) e))) (some (.inl (baI (wC W i) e))) (some (.inl (haI (wC W i) e))) (some (.inl (dueI (wC W i) (wE W) e))) (some (.inl (nI (prc (wC W i) (wE W) e)))), by omega, ⟨rfl, rfl, rfl, rfl, rfl, rfl, rfl, rfl, rfl, rfl, tvE kp, trivial⟩, hX2, hF.trans hF2, e, he, Or.inr (Or.inr (Or.inr (Or.inr (Or.inr (Or.inl ⟨he2, rfl, by rw [hd]; rfl, rfl, rfl, by omega, by omega⟩)))))⟩
      · have a : ¬ inA (wC W i) (wE W e 0) := iB_n w
        have c : ¬ lastS (cR (wC W i) e) = -1 := iB_y w2
        have hd : iB (stP (wC W i) (wE W) e) = 1 := iB_1 fun z => c (by rw [if_neg a] at z; exact z)
        exact ⟨20 * (16 - e) + 14, kpL x i b N (stI (wC W i) (wE W) e) e (some (.inl (inI (wC W i) (wE W) e))) (some (.inl (baI (wC W i) e))) (some (.inl (haI (wC W i) e))) (some (.inl (dueI (wC W i) (wE W) e))) (some (.inl (nI (prc (wC W i) (wE W) e)))), by omega, ⟨rfl, rfl, rfl, rfl, rfl, rfl, rfl, rfl, rfl, rfl, tvE kp, trivial⟩, hX2, hF.trans hF2, e, he, Or.inr (Or.inr (Or.inr (Or.inr (Or.inr (Or.inl ⟨he2, rfl, by rw [hd]; rfl, rfl, rfl, by omega, by omega⟩)))))⟩
      · have a : inA (wC W i) (wE W e 0) := iB_y w
        have c : lastS (cR (wC W i) e) = -1 := Classical.not_not.mp (iB_n w2)
        have hd : iB (stP (wC W i) (wE W) e) = 1 := iB_1 fun z => a.1 (by rw [if_pos a] at z; exact z.symm.trans c)
        exact ⟨20 * (16 - e) + 14, kpL x i b N (stI (wC W i) (wE W) e) e (some (.inl (inI (wC W i) (wE W) e))) (some (.inl (baI (wC W i) e))) (some (.inl (haI (wC W i) e))) (some (.inl (dueI (wC W i) (wE W) e))) (some (.inl (nI (prc (wC W i) (wE W) e)))), by omega, ⟨rfl, rfl, rfl, rfl, rfl, rfl, rfl, rfl, rfl, rfl, tvE kp, trivial⟩, hX2, hF.trans hF2, e, he, Or.inr (Or.inr (Or.inr (Or.inr (Or.inr (Or.inl ⟨he2, rfl, by rw [hd]; rfl, rfl, rfl, by omega, by omega⟩)))))⟩
      · have a : inA (wC W i) (wE W e 0) := iB_y w
        have c : ¬ lastS (cR (wC W i) e) = -1 := iB_y w2
        refine ⟨⟨by show ce + 3 + 24 ≤ 1800; omega, by show sl + 18 + 144 ≤ 10800; omega⟩, M, W, U, i, e, lastS (cR (wC W i) e), hK, hM, hX2, hi, he2, rfl, rfl, Or.inr ⟨rfl, rfl⟩, ⟨sl1, c⟩, ⟨(hE e he2).1, a.1⟩, fun μ3 hX3 hF3 => ⟨fun w3 => ?_, fun w3 => ?_⟩⟩
        · have q : ¬ wE W e 0 = lastS (cR (wC W i) e) := iB_n w3
          have hd : iB (stP (wC W i) (wE W) e) = 1 := iB_1 fun z => q (by rw [if_pos a] at z; exact z.symm)
          exact ⟨20 * (16 - e) + 14, kpL x i b N (stI (wC W i) (wE W) e) e (some (.inl (inI (wC W i) (wE W) e))) (some (.inl (baI (wC W i) e))) (some (.inl (haI (wC W i) e))) (some (.inl (dueI (wC W i) (wE W) e))) (some (.inl (nI (prc (wC W i) (wE W) e)))), by omega, ⟨rfl, rfl, rfl, rfl, rfl, rfl, rfl, rfl, rfl, rfl, tvE kp, trivial⟩, hX3, hF.trans (hF2.trans hF3), e, he, Or.inr (Or.inr (Or.inr (Or.inr (Or.inr (Or.inl ⟨he2, rfl, by rw [hd]; rfl, rfl, rfl, by omega, by omega⟩)))))⟩
        · have q : wE W e 0 = lastS (cR (wC W i) e) := iB_y w3
          have hd : iB (stP (wC W i) (wE W) e) = 0 := iB_0 fun z => z (by rw [if_pos a]; exact q.symm)
          exact ⟨20 * (16 - e) + 14, kpL x i b N (stI (wC W i) (wE W) e) e (some (.inl (inI (wC W i) (wE W) e))) (some (.inl (baI (wC W i) e))) (some (.inl (haI (wC W i) e))) (some (.inl (dueI (wC W i) (wE W) e))) (some (.inl (nI (prc (wC W i) (wE W) e)))), by omega, ⟨rfl, rfl, rfl, rfl, rfl, rfl, rfl, rfl, rfl, rfl, tvE kp, trivial⟩, hX3, hF.trans (hF2.trans hF3), e, he, Or.inr (Or.inr (Or.inr (Or.inr (Or.inr (Or.inl ⟨he2, rfl, by rw [hd]; rfl, rfl, rfl, by omega, by omega⟩)))))⟩
    · obtain ⟨d1, d2⟩ := due_prc (hE e he2).1 (hs2 e he2)
      have cs : stI (wC W i) (wE W) e + iB (stP (wC W i) (wE W) e) = stI (wC W i) (wE W) (e + 1) := cntN_step (stP (wC W i) (wE W)) (fun _ => inferInstance) e
      refine ⟨fun w => ?_, fun w => ?_⟩
      · have w : dueI (wC W i) (wE W) e < 0 := w
        obtain ⟨d3, d4⟩ := d2 (Int32.not_le.mpr w)
        refine ⟨fun w2 => ?_, fun _ => ⟨fun _ => ?_, fun w2 => ?_⟩⟩
        · have w2 : nI (prc (wC W i) (wE W) e) < nI 3 := w2
          rw [nI_lt_iff (by omega) (by omega)] at w2
          omega
        · exact ⟨20 * (16 - e) + 13, kpL x i b N (stI (wC W i) (wE W) (e + 1)) e (some (.inl (inI (wC W i) (wE W) e))) (some (.inl (baI (wC W i) e))) (some (.inl (haI (wC W i) e))) none none, by omega, ⟨rfl, rfl, rfl, rfl, tvE cs, rfl, rfl, rfl, rfl, trivial⟩, hX', hF, e, he, Or.inr (Or.inr (Or.inr (Or.inr (Or.inr (Or.inr (Or.inl ⟨he2, rfl, rfl, rfl, rfl, by omega, by omega⟩))))))⟩
        · have w2 : ¬ nI (prc (wC W i) (wE W) e) ≤ nI 6 := w2
          rw [nI_le_iff (by omega) (by omega)] at w2
          omega
      · have w : ¬ dueI (wC W i) (wE W) e < 0 := w
        have d3 := d1 (Int32.not_lt.mp w)
        refine ⟨fun _ => ?_, fun w2 => (w2 d3).elim⟩
        exact ⟨20 * (16 - e) + 13, kpL x i b N (stI (wC W i) (wE W) (e + 1)) e (some (.inl (inI (wC W i) (wE W) e))) (some (.inl (baI (wC W i) e))) (some (.inl (haI (wC W i) e))) none none, by omega, ⟨rfl, rfl, rfl, rfl, tvE cs, rfl, rfl, rfl, rfl, trivial⟩, hX', hF, e, he, Or.inr (Or.inr (Or.inr (Or.inr (Or.inr (Or.inr (Or.inl ⟨he2, rfl, rfl, rfl, rfl, by omega, by omega⟩))))))⟩
    · obtain ⟨⟨q0, q1, q2⟩, n, n1, n2, n3⟩ := hbl e he2
      have k1 : ansR xc0 (oKept (nI i) (nI e) (nI 1) W U) = nI n := (an_kept hi he2 (by omega) hcn U).trans n2
      have k0 : ansR xc0 (oKept (nI i) (nI e) (nI 0) W U) = nI q0 := (an_kept hi he2 (by omega) hcn U).trans q1
      have k5 : ansR xc0 (oCopy (nI i) (nI e) (nI 5) W U) = lastN (cR (wC W i) e) := an_copy hi he2 (by omega) W U
      have k6 : ansR xc0 (oCopy (nI i) (nI e) (nI 6) W U) = nI (cR (wC W i) e).length := an_copy hi he2 (by omega) W U
      have hln : lastN (cR (wC W i) e) ≤ nI N := by
        unfold lastN
        cases hg : (cR (wC W i) e).getLast? with
        | none =>
          show (0 : Int32) ≤ nI N
          exact nI_0le (by omega)
        | some r =>
          show r.1 ≤ nI N
          obtain ⟨z, z1, z2⟩ := hr e he2 r (List.mem_of_getLast? hg)
          rw [z2, nI_le_iff (by omega) (by omega)]
          exact z1
      have hl12 := hRl e he2
      refine ⟨⟨by show ce + 4 ≤ 1800; omega, by show sl + 24 ≤ 10800; omega⟩, M, W, U, hK, hM, hX', fun μ2 hX2 hF2 => ⟨fun w => ?_, fun _ => ⟨⟨by show ce + 4 + 4 ≤ 1800; omega, by show sl + 24 + 24 ≤ 10800; omega⟩, M, W, U, hK, hM, hX2, fun μ3 hX3 hF3 => ⟨fun w => ?_, fun _ => ⟨⟨by show ce + 4 + 4 + 3 ≤ 1800; omega, by show sl + 24 + 24 + 18 ≤ 10800; omega⟩, M, W, U, hK, hM, hX3, fun μ4 hX4 hF4 => ⟨fun w => ?_, fun _ => ⟨⟨by show ce + 4 + 4 + 3 + 3 ≤ 1800; omega, by show sl + 24 + 24 + 18 + 18 ≤ 10800; omega⟩, M, W, U, hK, hM, hX4, fun μ5 hX5 hF5 => ⟨fun w => ?_, fun _ => ⟨fun w => ?_, fun w => ?_⟩⟩⟩⟩⟩⟩⟩⟩⟩
      · have w : nI N < ansR xc0 (oKept (nI i) (nI e) (nI 1) W U) := w
        rw [k1, nI_lt_iff (by omega) (by omega)] at w
        omega
      · have w : ansR xc0 (oKept (nI i) (nI e) (nI 0) W U) < 0 := w
        rw [k0] at w
        exact absurd (nI_0le (j := q0) (by omega)) (Int32.not_le.mpr w)
      · have w : nI N < ansR xc0 (oCopy (nI i) (nI e) (nI 5) W U) := w
        rw [k5] at w
        exact absurd hln (Int32.not_le.mpr w)
      · have w : nI 12 < ansR xc0 (oCopy (nI i) (nI e) (nI 6) W U) := w
        rw [k6, nI_lt_iff (by omega) (by omega)] at w
        omega
      · exact ⟨20 * (16 - e) + 12, kpL x i b N (stI (wC W i) (wE W) (e + 1)) e (some (.inl (inI (wC W i) (wE W) e))) (some (.inl (baI (wC W i) e))) (some (.inl (haI (wC W i) e))) none none, by omega, subL_rf, hX5, hF.trans (hF2.trans (hF3.trans (hF4.trans hF5))), e, he, Or.inr (Or.inr (Or.inr (Or.inr (Or.inr (Or.inr (Or.inr (Or.inl ⟨he2, rfl, rfl, rfl, rfl, by omega, by omega⟩)))))))⟩
      · have a : inA (wC W i) (wE W e 0) := iB_y w
        refine ⟨⟨by show ce + 4 + 4 + 3 + 3 + 4 ≤ 1800; omega, by show sl + 24 + 24 + 18 + 18 + 24 ≤ 10800; omega⟩, M, W, U, hK, hM, hX5, fun μ6 hX6 hF6 => ⟨fun w => ?_, fun _ => ?_⟩⟩
        · have w : ansR xc0 (oKept (nI i) (nI e) (nI 8) W U) < 0 := w
          obtain ⟨cx1, x1, x2⟩ := cx
          obtain ⟨cy1, y1, y2⟩ := cy
          obtain ⟨D, d1, d2⟩ := dst_ok (n := sN (wE W e 0)) x1 y1
          have hd : dstC (wC W i) (wE W e 0) = nI D := by
            unfold dstC
            rw [x2, y2]
            exact d2
          have k8 : ansR xc0 (oKept (nI i) (nI e) (nI 8) W U) = nI D := (an_kept hi he2 (by omega) hcn U).trans (by
            show (if wE W e 0 = -1 then -1 else dstC (wC W i) (wE W e 0)) = _
            rw [if_neg a.1, hd])
          rw [k8] at w
          exact absurd (nI_0le (j := D) (by omega)) (Int32.not_le.mpr w)
        · exact ⟨20 * (16 - e) + 12, kpL x i b N (stI (wC W i) (wE W) (e + 1)) e (some (.inl (inI (wC W i) (wE W) e))) (some (.inl (baI (wC W i) e))) (some (.inl (haI (wC W i) e))) none none, by omega, subL_rf, hX6, hF.trans (hF2.trans (hF3.trans (hF4.trans (hF5.trans hF6)))), e, he, Or.inr (Or.inr (Or.inr (Or.inr (Or.inr (Or.inr (Or.inr (Or.inl ⟨he2, rfl, rfl, rfl, rfl, by omega, by omega⟩)))))))⟩
    · refine ⟨fun w => ?_, fun w => ?_⟩
      · exact ⟨20 * (16 - e) + 11, kpL x i b N (stI (wC W i) (wE W) (e + 1)) e (some (.inl (inI (wC W i) (wE W) e))) (some (.inl (baI (wC W i) e))) (some (.inl (haI (wC W i) e))) none none, by omega, subL_rf, hX', hF, e, he, Or.inr (Or.inr (Or.inr (Or.inr (Or.inr (Or.inr (Or.inr (Or.inr (Or.inl ⟨he2, rfl, rfl, rfl, rfl, by omega, by omega⟩))))))))⟩
      · have c : ¬ lastS (cR (wC W i) e) = -1 := iB_y w
        have k6 : ansR xc0 (oCopy (nI i) (nI e) (nI 6) W U) = nI (cR (wC W i) e).length := an_copy hi he2 (by omega) W U
        have hl12 := hRl e he2
        have hl1 : 1 ≤ (cR (wC W i) e).length := by
          rcases Nat.eq_zero_or_pos (cR (wC W i) e).length with z | z
          · exact (c (by rw [List.length_eq_zero_iff.mp z]; rfl)).elim
          · exact z
        refine ⟨⟨by show ce + 3 ≤ 1800; omega, by show sl + 18 ≤ 10800; omega⟩, M, W, U, hK, hM, hX', fun μ2 hX2 hF2 => ⟨fun w => ?_, fun _ => ?_⟩⟩
        · have w : ansR xc0 (oCopy (nI i) (nI e) (nI 6) W U) < nI 1 := w
          rw [k6, nI_lt_iff (by omega) (by omega)] at w
          omega
        · exact ⟨20 * (16 - e) + 11, kpL x i b N (stI (wC W i) (wE W) (e + 1)) e (some (.inl (inI (wC W i) (wE W) e))) (some (.inl (baI (wC W i) e))) (some (.inl (haI (wC W i) e))) none none, by omega, subL_rf, hX2, hF.trans hF2, e, he, Or.inr (Or.inr (Or.inr (Or.inr (Or.inr (Or.inr (Or.inr (Or.inr (Or.inl ⟨he2, rfl, rfl, rfl, rfl, by omega, by omega⟩))))))))⟩
    · refine ⟨fun w => ?_, fun w => ?_⟩
      · exact ⟨20 * (16 - e) + 10, kpL x i b N (stI (wC W i) (wE W) (e + 1)) e (some (.inl (inI (wC W i) (wE W) e))) (some (.inl (baI (wC W i) e))) (some (.inl (haI (wC W i) e))) none none, by omega, subL_rf, hX', hF, e, he, Or.inr (Or.inr (Or.inr (Or.inr (Or.inr (Or.inr (Or.inr (Or.inr (Or.inr (⟨he2, rfl, rfl, rfl, rfl, by omega, by omega⟩)))))))))⟩
      · have c : ¬ cB (wC W i) e 2 = -1 := iB_y w
        obtain ⟨_, n, n1, n2, n3⟩ := hbl e he2
        have k1 : ansR xc0 (oKept (nI i) (nI e) (nI 1) W U) = nI n := (an_kept hi he2 (by omega) hcn U).trans n2
        have n4 := n3 c
        refine ⟨⟨by show ce + 4 ≤ 1800; omega, by show sl + 24 ≤ 10800; omega⟩, M, W, U, hK, hM, hX', fun μ2 hX2 hF2 => ⟨fun _ => ?_, fun w => ?_⟩⟩
        · exact ⟨20 * (16 - e) + 10, kpL x i b N (stI (wC W i) (wE W) (e + 1)) e (some (.inl (inI (wC W i) (wE W) e))) (some (.inl (baI (wC W i) e))) (some (.inl (haI (wC W i) e))) none none, by omega, subL_rf, hX2, hF.trans hF2, e, he, Or.inr (Or.inr (Or.inr (Or.inr (Or.inr (Or.inr (Or.inr (Or.inr (Or.inr (⟨he2, rfl, rfl, rfl, rfl, by omega, by omega⟩)))))))))⟩
        · have w : ¬ nI 1 ≤ ansR xc0 (oKept (nI i) (nI e) (nI 1) W U) := w
          rw [k1, nI_le_iff (by omega) (by omega)] at w
          omega
    · refine ⟨fun w => ?_, fun w => ?_⟩
      · exact ⟨20 * (16 - (e + 1)) + 19, kpL x i b N (stI (wC W i) (wE W) (e + 1)) (e + 1) none none none none none, by omega, ⟨rfl, rfl, rfl, rfl, rfl, inc_tv e, trivial⟩, hX', hF, e + 1, by omega, Or.inl ⟨rfl, rfl, rfl, rfl, by omega, by omega⟩⟩
      · have c : cB (wC W i) e 2 = -1 := Classical.not_not.mp (iB_nn w)
        have kz : ∀ k, 3 ≤ k → k < 7 → ansR xc0 (oKept (nI i) (nI e) (nI k) W U) = nI 0 := fun k h3 h7 => (an_kept hi he2 (by omega) hcn U).trans ((kpV_d _ _ _ h3 h7).trans (by
          unfold pz
          rw [if_pos c]))
        refine ⟨⟨by show ce + 4 ≤ 1800; omega, by show sl + 24 ≤ 10800; omega⟩, M, W, U, hK, hM, hX', fun μ2 hX2 hF2 => ⟨⟨by show ce + 4 + 4 ≤ 1800; omega, by show sl + 24 + 24 ≤ 10800; omega⟩, M, W, U, hK, hM, hX2, fun μ3 hX3 hF3 => ⟨⟨by show ce + 4 + 4 + 4 ≤ 1800; omega, by show sl + 24 + 24 + 24 ≤ 10800; omega⟩, M, W, U, hK, hM, hX3, fun μ4 hX4 hF4 => ⟨⟨by show ce + 4 + 4 + 4 + 4 ≤ 1800; omega, by show sl + 24 + 24 + 24 + 24 ≤ 10800; omega⟩, M, W, U, hK, hM, hX4, fun μ5 hX5 hF5 => ⟨fun _ => ?_, fun w => (w ?_).elim⟩⟩⟩⟩⟩
        · exact ⟨20 * (16 - (e + 1)) + 19, kpL x i b N (stI (wC W i) (wE W) (e + 1)) (e + 1) none none none none none, by omega, ⟨rfl, rfl, rfl, rfl, rfl, inc_tv e, trivial⟩, hX5, hF.trans (hF2.trans (hF3.trans (hF4.trans hF5))), e + 1, by omega, Or.inl ⟨rfl, rfl, rfl, rfl, by omega, by omega⟩⟩
        · show ansR xc0 (oKept (nI i) (nI e) (nI 3) W U) + ansR xc0 (oKept (nI i) (nI e) (nI 4) W U) + ansR xc0 (oKept (nI i) (nI e) (nI 5) W U) + ansR xc0 (oKept (nI i) (nI e) (nI 6) W U) = 0
          rw [kz 3 (by omega) (by omega), kz 4 (by omega) (by omega), kz 5 (by omega) (by omega), kz 6 (by omega) (by omega)]
          rfl
