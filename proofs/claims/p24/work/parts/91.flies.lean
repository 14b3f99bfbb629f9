/-! THE LAW: flies. -/
def flX (x i b n : Nat) (v : Int32) (p : Nat) : LC := [some (.inr (.inr (19, x))), some (.inl (nI i)), some (.inl (nI b)), some (.inl (nI n)), some (.inl v), some (.inl (nI p)), none, none, none, none, none, none, none, none, none, none, none, none]
def flY (x i b n : Nat) (v : Int32) (p : Nat) (nu : Int32) (l y t k : Nat) : LC := [some (.inr (.inr (19, x))), some (.inl (nI i)), some (.inl (nI b)), some (.inl (nI n)), some (.inl v), some (.inl (nI p)), some (.inl nu), some (.inl (nI l)), some (.inl (nI y)), some (.inl (nI t)), some (.inl (nI k)), none, none, none, none, none, none, none]
def flZ (x i b n : Nat) (v : Int32) (p : Nat) (nu : Int32) (l y t k : Nat) (kd : Int32) (e due : Nat) : LC := [some (.inr (.inr (19, x))), some (.inl (nI i)), some (.inl (nI b)), some (.inl (nI n)), some (.inl v), some (.inl (nI p)), some (.inl nu), some (.inl (nI l)), some (.inl (nI y)), some (.inl (nI t)), some (.inl (nI k)), some (.inl kd), some (.inl (nI e)), none, none, some (.inl (nI due)), some (.inl 1), none]
theorem tvE {a b : Int32} (h : a = b) : (some (.inl a) : Option TV) = some (.inl b) := by rw [h]
def sp_L_flies : SPc := fun As μ K => match As with
  | [.inr (.inr (19, x)), .inl c, .inl bb] => ∃ (M : Nat) (W : WS) (U : List WS) (i S N b : Nat), WKS M W U ∧ M + 200 < 2 ^ 31 ∧ CXo μ x W U ∧ i < 3 ∧ c = nI i ∧ bb = nI b ∧ b ≤ 64 ∧ N < 2 ^ 31 ∧ GX S N b (wC W i) ∧ ∀ μ', CXo μ' x W U → FRq μ μ' x → K (.inl (some (.inl 1))) μ'
  | _ => False
def ct_L_flies : List (Nat × CI) := [(90, ci_L_count), (92, ci_L_packet), (94, ci_L_entry)]
def ci_L_flies : CI := (yL_flies, cL_flies, 18, some .boolean, 3, (9, 4100, 24600, 162), 0, [], sp_L_flies)
set_option maxRecDepth 100000 in
theorem ck_L_flies : chkM ci_L_flies RL co_L_flies ct_L_flies [] true false = true := by decide +kernel
set_option maxHeartbeats 4000000 in
set_option maxRecDepth 100000 in
theorem ms_L_flies {g : GPT} {ot : OT} {l : Launch} (hl : l.stackTraces = false) : MS g ot l ci_L_flies := by
  refine ms_of hl RL co_L_flies ct_L_flies [] true false [14,49,209] 240 ck_L_flies (List.forall_mem_cons.mpr ⟨ms_L_count hl, List.forall_mem_cons.mpr ⟨ms_L_packet hl, List.forall_mem_cons.mpr ⟨ms_L_entry hl, fun _ h => nomatch h⟩⟩⟩) ?_
  intro As μ K h
  simp only [ci_L_flies, sp_L_flies] at h
  split at h
  case h_2 => exact h.elim
  rename_i x c bb
  obtain ⟨M, W, U, i, S, N, b, hK, hM, hX, hi, rfl, rfl, hb, hN, hG, h⟩ := h
  have l12 : (flyL (wC W i)).length ≤ 12 := (hX.cl hi).2.2.2.1.2.1
  obtain ⟨T, tM, t0, hc⟩ := hK.1.cl hi
  have hbit := hc.bit
  have hen := hc.en
  obtain ⟨_, _, _, ⟨N', _, _, n3⟩, hNS, _, _⟩ := hc
  have fly_in : ∀ (p : Nat) (X : PK), (flyL (wC W i))[p]? = some X → X ∈ cP (wC W i) := fun p X hp => flyL_mem hp
  have cnt6 : cnV (wC W i) 6 = nI (flyL (wC W i)).length := rfl
  have hNSL : NS (flyL (wC W i)) := List.Pairwise.filter _ hNS
  have hpk := hG.2.2.1
  have e6 : ansR xc0 (oCnt (nI i) (nI 6) W U) = nI (flyL (wC W i)).length := (an_cnt hi (by omega) W U).trans cnt6
  have e0 : ansR xc0 (oCnt (nI i) (nI 0) W U) = nI N := (an_cnt hi (by omega) W U).trans hG.1.1.2.1
  refine ⟨Nat.le_of_ble_eq_true rfl, fun m pc lc st μ' ce sl => CXo μ' x W U ∧ FRq μ μ' x ∧ st = [] ∧ ∃ p v, p ≤ (flyL (wC W i)).length ∧ bfP (flyL (wC W i)) p v ∧ ((pc = 14 ∧ lc = flX x i b (flyL (wC W i)).length v p ∧ m = 1000 * (13 - p) ∧ ce ≤ 2 + 336 * p ∧ sl ≤ 12 + 2016 * p) ∨
    (∃ X, (flyL (wC W i))[p]? = some X ∧ ∃ k, k ≤ X.2.length ∧ ((pc = 49 ∧ lc = flY x i b (flyL (wC W i)).length v p (X.1 0) X.2.length (4 + sumD (X.2.take k)) (orE ((X.2.take k).map eN)) k ∧ m = 1000 * (13 - p) - 10 - 3 * k ∧ ce ≤ 8 + 336 * p + 20 * k ∧ sl ≤ 48 + 2016 * p + 120 * k) ∨
      (∃ en, X.2[k]? = some en ∧ pc = 209 ∧ lc = flZ x i b (flyL (wC W i)).length v p (X.1 0) X.2.length (4 + sumD (X.2.take k)) (orE ((X.2.take k).map eN)) k (en 0) (eN en) (dueN en) ∧ m = 1000 * (13 - p) - 11 - 3 * k ∧ ce ≤ 20 + 336 * p + 20 * k ∧ sl ≤ 120 + 2016 * p + 120 * k)))), ⟨⟨by decide, by decide⟩, M, W, U, hK, hM, hX, fun μ1 hX1 hF1 => ?_⟩, ?_⟩
  · exact ⟨1000 * (13 - 0), flX x i b (flyL (wC W i)).length 0 0, ⟨rfl, rfl, rfl, tvE e6, rfl, rfl, trivial⟩, hX1, hF1, rfl, 0, 0, Nat.zero_le _, Or.inl ⟨rfl, rfl⟩, Or.inl ⟨rfl, rfl, rfl, by decide, by decide⟩⟩
  · rintro m pc lc st μ' ce sl ⟨hX', hF, rfl, p, v, hp, hv, (⟨rfl, rfl, rfl, hce, hsl⟩ | ⟨X, hXp, k, hk, (⟨rfl, rfl, rfl, hce, hsl⟩ | ⟨en, hek, rfl, rfl, rfl, hce, hsl⟩)⟩)⟩
    · refine ⟨fun q => ?_, fun q => ?_⟩
      · -- all packets are seen
        simp only [icP, ifP, iL, iM1] at q
        try simp only [z_nI] at q
        try simp only [nI_add, nI_mul] at q
        first | rw [nI_le_iff (by omega) (by omega)] at q | rw [nI_lt_iff (by omega) (by omega)] at q | rw [nI_eq_iff (by omega) (by omega)] at q
        have hv2 : v ≤ nI N := by
          rcases hv with ⟨_, rfl⟩ | ⟨q1, Y, _, hY, rfl⟩
          · rw [z_nI, nI_le_iff (by omega) hN]
            omega
          · obtain ⟨n, ⟨_, m2, m3⟩, _⟩ := hpk Y (fly_in _ Y hY)
            rw [m3, nI_le_iff (by omega) hN]
            exact m2
        have el : (flyL (wC W i)).length < 2 ^ 31 := by omega
        refine ⟨fun w => ?_, fun _ => ⟨⟨by show ce + 2 ≤ 4100; omega, by show sl + 12 ≤ 24600; omega⟩, M, W, U, hK, hM, hX', fun μ2 hX2 hF2 => ⟨fun w => ?_, fun _ => ⟨⟨by show ce + 2 + 3 ≤ 4100; omega, by show sl + 12 + 18 ≤ 24600; omega⟩, M, W, U, hK, hM, hX2, fun μ3 hX3 hF3 => ⟨fun w => (w (an_pktn hi (flyA_len _ rfl el) U)).elim, fun _ => ⟨⟨by show ce + 2 + 3 + 3 ≤ 4100; omega, by show sl + 12 + 18 + 18 ≤ 24600; omega⟩, M, W, U, hK, hM, hX3, fun μ4 hX4 hF4 => ⟨fun w => (w (an_pktn hi (flyA_m1 _) U)).elim, fun _ => ⟨Or.inr rfl, h μ4 hX4 (hF.trans (hF2.trans (hF3.trans hF4)))⟩⟩⟩⟩⟩⟩⟩⟩
        · have w : nI 12 < nI (flyL (wC W i)).length := w
          rw [nI_lt_iff (by omega) (by omega)] at w
          omega
        · have w : ansR xc0 (oCnt (nI i) (nI 0) W U) < v := w
          rw [e0] at w
          exact absurd hv2 (Int32.not_le.mpr w)
      · -- the next packet
        simp only [icP, ifP, iL, iM1] at q
        try simp only [z_nI] at q
        try simp only [nI_add, nI_mul] at q
        first | rw [nI_le_iff (by omega) (by omega)] at q | rw [nI_lt_iff (by omega) (by omega)] at q | rw [nI_eq_iff (by omega) (by omega)] at q
        obtain ⟨X, hXp⟩ := at_of_lt (l := flyL (wC W i)) (k := p) (by omega)
        have p0 : ansR xc0 (oPkt (nI i) (nI p) (nI 0) W U) = X.1 0 := an_pkt hi hXp (by omega) (by omega) U
        have p2 : ansR xc0 (oPkt (nI i) (nI p) (nI 2) W U) = nI X.2.length := an_pkt hi hXp (by omega) (by omega) U
        refine ⟨⟨by show ce + 3 ≤ 4100; omega, by show sl + 18 ≤ 24600; omega⟩, M, W, U, hK, hM, hX', fun μ2 hX2 hF2 => ⟨⟨by show ce + 3 + 3 ≤ 4100; omega, by show sl + 18 + 18 ≤ 24600; omega⟩, M, W, U, hK, hM, hX2, fun μ3 hX3 hF3 => ?_⟩⟩
        exact ⟨1000 * (13 - p) - 10 - 3 * 0, flY x i b (flyL (wC W i)).length v p (X.1 0) X.2.length (4 + sumD (X.2.take 0)) (orE ((X.2.take 0).map eN)) 0, by omega, ⟨rfl, rfl, rfl, rfl, rfl, rfl, tvE p0, tvE p2, rfl, rfl, rfl, trivial⟩, hX3, hF.trans (hF2.trans hF3), rfl, p, v, hp, hv, Or.inr ⟨X, hXp, 0, Nat.zero_le _, Or.inl ⟨rfl, rfl, rfl, by omega, by omega⟩⟩⟩
    · have hXc := fly_in p X hXp
      have h16 : X.2.length ≤ 16 := (n3 X hXc).2.2.1
      have hpl : p < (flyL (wC W i)).length := (List.getElem?_eq_some_iff.mp hXp).1
      obtain ⟨n, ⟨m1, m2, m3⟩, m4, m5, m6, m7, m8⟩ := hpk X hXc
      refine ⟨fun q => ?_, fun q => ?_⟩
      · -- its entries are seen
        simp only [icP, ifP, iL, iM1] at q
        try simp only [z_nI] at q
        try simp only [nI_add, nI_mul] at q
        first | rw [nI_le_iff (by omega) (by omega)] at q | rw [nI_lt_iff (by omega) (by omega)] at q | rw [nI_eq_iff (by omega) (by omega)] at q
        obtain rfl : k = X.2.length := by omega
        have hv2 : v < X.1 0 := by
          rcases hv with ⟨_, rfl⟩ | ⟨q1, Y, hq, hY, rfl⟩
          · rw [m3, z_nI, nI_lt_iff (by omega) (by omega)]
            omega
          · exact NS_at hNSL hY hXp (by omega)
        have hl1 : 1 ≤ X.2.length := by
          rcases Nat.eq_zero_or_pos X.2.length with w | w
          · exact (m4 (List.length_eq_zero_iff.mp w)).elim
          · exact w
        have eb : sumD (X.2.take X.2.length) = sumD X.2 := by rw [List.take_length]
        have p1 : ansR xc0 (oPkt (nI i) (nI p) (nI 1) W U) = nI (4 + sumD (X.2.take X.2.length)) := (an_pkt hi hXp (by omega) (by omega) U).trans (by rw [eb]; exact m5)
        obtain ⟨_, _, _, _, _, s, s1, s2, _⟩ := n3 X hXc
        have p3 : ansR xc0 (oPkt (nI i) (nI p) (nI 3) W U) = nI (T - s) := (an_pkt hi hXp (by omega) (by omega) U).trans (by
          show wT W 0 - X.1 2 = _
          rw [t0, s2, nI_sub1 s1])
        refine ⟨fun w => absurd w (Int32.not_le.mpr hv2), fun _ => ⟨fun w => ?_, fun _ => ⟨⟨by show ce + 3 ≤ 4100; omega, by show sl + 18 ≤ 24600; omega⟩, M, W, U, hK, hM, hX', fun μ2 hX2 hF2 => ⟨fun w => (w p1.symm).elim, fun _ => ⟨fun w => ?_, fun _ => ⟨⟨by show ce + 3 + 3 ≤ 4100; omega, by show sl + 18 + 18 ≤ 24600; omega⟩, M, W, U, hK, hM, hX2, fun μ3 hX3 hF3 => ⟨fun w => ?_, fun _ => ⟨⟨by show ce + 3 + 3 + 4 ≤ 4100; omega, by show sl + 18 + 18 + 24 ≤ 24600; omega⟩, M, W, U, hK, hM, hX3, fun μ4 hX4 hF4 => ⟨fun _ => ?_, fun w => (w (an_etrn hi hXp (by omega) (by omega) U)).elim⟩⟩⟩⟩⟩⟩⟩⟩⟩
        · have w : nI X.2.length < nI 1 := w
          rw [nI_lt_iff (by omega) (by omega)] at w
          omega
        · have w : nI b < nI (4 + sumD (X.2.take X.2.length)) := w
          rw [eb, nI_lt_iff (by omega) (by omega)] at w
          omega
        · have w : ansR xc0 (oPkt (nI i) (nI p) (nI 3) W U) < 0 := w
          rw [p3, z_nI, nI_lt_iff (by omega) (by omega)] at w
          omega
        · exact ⟨1000 * (13 - (p + 1)), flX x i b (flyL (wC W i)).length (X.1 0) (p + 1), by omega, ⟨rfl, rfl, rfl, rfl, rfl, inc_tv p, trivial⟩, hX4, hF.trans (hF2.trans (hF3.trans hF4)), rfl, p + 1, X.1 0, by omega, Or.inr ⟨p, X, rfl, hXp, rfl⟩, Or.inl ⟨rfl, rfl, rfl, by omega, by omega⟩⟩
      · -- the next entry
        simp only [icP, ifP, iL, iM1] at q
        try simp only [z_nI] at q
        try simp only [nI_add, nI_mul] at q
        first | rw [nI_le_iff (by omega) (by omega)] at q | rw [nI_lt_iff (by omega) (by omega)] at q | rw [nI_eq_iff (by omega) (by omega)] at q
        obtain ⟨en, hek⟩ := at_of_lt (l := X.2) (k := k) (by omega)
        have hmem := List.mem_of_getElem? hek
        obtain ⟨o1, ⟨e, he, o2⟩, ⟨mm, hmm, o3⟩, _⟩ := (hen X hXc en hmem).1
        have hg := m8 en hmem
        have r0 : ansR xc0 (oEntry (nI i) (nI p) (nI k) (nI 0) W U) = en 0 := an_etr hi hXp (by omega) hek (by omega) (by omega) U
        have r1 : ansR xc0 (oEntry (nI i) (nI p) (nI k) (nI 1) W U) = nI (eN en) := (an_etr hi hXp (by omega) hek (by omega) (by omega) U).trans (by rw [eN_of o2 he]; exact o2)
        have r4 : ansR xc0 (oEntry (nI i) (nI p) (nI k) (nI 4) W U) = en 3 := an_etr hi hXp (by omega) hek (by omega) (by omega) U
        refine ⟨⟨by show ce + 4 ≤ 4100; omega, by show sl + 24 ≤ 24600; omega⟩, M, W, U, hK, hM, hX', fun μ2 hX2 hF2 => ⟨⟨by show ce + 4 + 4 ≤ 4100; omega, by show sl + 24 + 24 ≤ 24600; omega⟩, M, W, U, hK, hM, hX2, fun μ3 hX3 hF3 => ⟨⟨by show ce + 4 + 4 + 4 ≤ 4100; omega, by show sl + 24 + 24 + 24 ≤ 24600; omega⟩, M, W, U, hK, hM, hX3, fun μ4 hX4 hF4 => ?_⟩⟩⟩
        have hFF := hF.trans (hF2.trans (hF3.trans hF4))
        rcases hg with ⟨g0, g3, g2⟩ | ⟨g0, g3, g2⟩ | ⟨g0, ⟨m', g4, g5, g3⟩, g2⟩
        · have ed : dueN en = 2 := by
            unfold dueN
            rw [if_pos g0]
          refine ⟨fun w => (w (r0.trans g0)).elim, fun _ => ⟨fun w => (w (r0.trans g0)).elim, fun _ => ⟨fun w => (w (r4.trans g3)).elim, fun _ => ?_⟩⟩⟩
          exact ⟨1000 * (13 - p) - 11 - 3 * k, flZ x i b (flyL (wC W i)).length v p (X.1 0) X.2.length (4 + sumD (X.2.take k)) (orE ((X.2.take k).map eN)) k (en 0) (eN en) (dueN en), by omega, ⟨rfl, rfl, rfl, rfl, rfl, rfl, rfl, rfl, rfl, rfl, rfl, tvE r0, tvE r1, by rw [ed]; rfl, rfl, trivial⟩, hX4, hFF, rfl, p, v, hp, hv, Or.inr ⟨X, hXp, k, hk, Or.inr ⟨en, hek, rfl, rfl, rfl, by omega, by omega⟩⟩⟩
        · have ed : dueN en = 6 := by
            unfold dueN
            rw [g0, if_neg (by decide), if_pos rfl]
          have n0 : ¬ ansR xc0 (oEntry (nI i) (nI p) (nI k) (nI 0) W U) = 0 := by
            rw [r0, g0]
            decide
          refine ⟨fun _ => ⟨fun w => (w (r0.trans g0)).elim, fun _ => ⟨fun _ => ⟨fun w => (w (r0.trans g0)).elim, fun _ => ⟨fun w => (w (r4.trans g3)).elim, fun _ => ?_⟩⟩, fun w => (w n0).elim⟩⟩, fun w => (w n0).elim⟩
          exact ⟨1000 * (13 - p) - 11 - 3 * k, flZ x i b (flyL (wC W i)).length v p (X.1 0) X.2.length (4 + sumD (X.2.take k)) (orE ((X.2.take k).map eN)) k (en 0) (eN en) (dueN en), by omega, ⟨rfl, rfl, rfl, rfl, rfl, rfl, rfl, rfl, rfl, rfl, rfl, tvE r0, tvE r1, by rw [ed]; rfl, rfl, trivial⟩, hX4, hFF, rfl, p, v, hp, hv, Or.inr ⟨X, hXp, k, hk, Or.inr ⟨en, hek, rfl, rfl, rfl, by omega, by omega⟩⟩⟩
        · have ed : dueN en = 2 + bts m' := by
            unfold dueN
            rw [g0, if_neg (by decide), if_neg (by decide), g3, sN_nI (n := m') (by omega)]
          have n0 : ¬ ansR xc0 (oEntry (nI i) (nI p) (nI k) (nI 0) W U) = 0 := by
            rw [r0, g0]
            decide
          have n1 : ¬ ansR xc0 (oEntry (nI i) (nI p) (nI k) (nI 0) W U) = Int32.ofInt 1 := by
            rw [r0, g0]
            decide
          have es : Int32.ofInt 2 + setI (ansR xc0 (oEntry (nI i) (nI p) (nI k) (nI 4) W U)) = nI (dueN en) := by
            rw [r4, g3, setI_16 m' g5, ed]
            exact nI_add 2 (bts m')
          refine ⟨fun _ => ⟨fun _ => ⟨fun _ => ⟨fun _ => ⟨fun w => (w (r0.trans g0)).elim, fun _ => ⟨fun w => ?_, fun _ => ⟨fun w => ?_, fun _ => ?_⟩⟩⟩, fun w => (w n1).elim⟩, fun w => (w n0).elim⟩, fun w => (w n1).elim⟩, fun w => (w n0).elim⟩
          · have w : ansR xc0 (oEntry (nI i) (nI p) (nI k) (nI 4) W U) ≤ 0 := w
            rw [r4, g3, z_nI, nI_le_iff (by omega) (by omega)] at w
            omega
          · have w : nI 16 ≤ ansR xc0 (oEntry (nI i) (nI p) (nI k) (nI 4) W U) := w
            rw [r4, g3, nI_le_iff (by omega) (by omega)] at w
            omega
          · exact ⟨1000 * (13 - p) - 11 - 3 * k, flZ x i b (flyL (wC W i)).length v p (X.1 0) X.2.length (4 + sumD (X.2.take k)) (orE ((X.2.take k).map eN)) k (en 0) (eN en) (dueN en), by omega, ⟨rfl, rfl, rfl, rfl, rfl, rfl, rfl, rfl, rfl, rfl, rfl, tvE r0, tvE r1, tvE es, rfl, trivial⟩, hX4, hFF, rfl, p, v, hp, hv, Or.inr ⟨X, hXp, k, hk, Or.inr ⟨en, hek, rfl, rfl, rfl, by omega, by omega⟩⟩⟩
    · -- an entry's end
      have hXc := fly_in p X hXp
      have h16 : X.2.length ≤ 16 := (n3 X hXc).2.2.1
      have hpl : p < (flyL (wC W i)).length := (List.getElem?_eq_some_iff.mp hXp).1
      have hkl : k < X.2.length := (List.getElem?_eq_some_iff.mp hek).1
      obtain ⟨n, ⟨m1, m2, m3⟩, m4, m5, m6, m7, m8⟩ := hpk X hXc
      have hmem := List.mem_of_getElem? hek
      have he16 := eN_lt (hen X hXc en hmem).1
      have hg := m8 en hmem
      have r3 : ansR xc0 (oEntry (nI i) (nI p) (nI k) (nI 3) W U) = en 2 := an_etr hi hXp (by omega) hek (by omega) (by omega) U
      have r2 : ansR xc0 (oEntry (nI i) (nI p) (nI k) (nI 2) W U) = nI (dueN en) := (an_etr hi hXp (by omega) hek (by omega) (by omega) U).trans (etV_2 hg)
      have ho : orE ((X.2.take k).map eN) < 2 ^ 16 := orE_lt _ fun e he => by
        obtain ⟨en2, h1, rfl⟩ := List.mem_map.mp he
        exact eN_lt (hen X hXc en2 (List.mem_of_mem_take h1)).1
      have ht : nI (orE ((X.2.take k).map eN)) >>> (nI (eN en) &&& 31) &&& Int32.ofInt 1 = nI 0 := by
        rw [told_1 ho he16, orE_bit _ _ (nd_take hek m7)]
      have nxt : ∀ (ν : MM) (ce' sl' : Nat) (a b2 c2 d2 f2 g2 h2 : Int32), CXo ν x W U → FRq μ ν x → ce' ≤ 8 + 336 * p + 20 * (k + 1) → sl' ≤ 48 + 2016 * p + 120 * (k + 1) → ∃ n' lc', n' < 1000 * (13 - p) - 11 - 3 * k ∧ subL lc' [some (.inr (.inr (19, x))), some (.inl (nI i)), some (.inl (nI b)), some (.inl (nI (flyL (wC W i)).length)), some (.inl v), some (.inl (nI p)), some (.inl (X.1 0)), some (.inl (nI X.2.length)), some (.inl (nI (4 + sumD (X.2.take k)) + nI (dueN en))), some (.inl (nI (orE ((X.2.take k).map eN)) ||| Int32.ofInt 1 <<< (nI (eN en) &&& 31))), some (.inl (nI k + Int32.ofInt 1)), some (.inl a), some (.inl b2), none, none, some (.inl c2), some (.inl d2), some (.inl f2)] ∧ CXo ν x W U ∧ FRq μ ν x ∧ ([] : List TV) = [] ∧ ∃ p v, p ≤ (flyL (wC W i)).length ∧ bfP (flyL (wC W i)) p v ∧ ((49 = 14 ∧ lc' = flX x i b (flyL (wC W i)).length v p ∧ n' = 1000 * (13 - p) ∧ ce' ≤ 2 + 336 * p ∧ sl' ≤ 12 + 2016 * p) ∨
          (∃ X, (flyL (wC W i))[p]? = some X ∧ ∃ k, k ≤ X.2.length ∧ ((49 = 49 ∧ lc' = flY x i b (flyL (wC W i)).length v p (X.1 0) X.2.length (4 + sumD (X.2.take k)) (orE ((X.2.take k).map eN)) k ∧ n' = 1000 * (13 - p) - 10 - 3 * k ∧ ce' ≤ 8 + 336 * p + 20 * k ∧ sl' ≤ 48 + 2016 * p + 120 * k) ∨
            (∃ en, X.2[k]? = some en ∧ 49 = 209 ∧ lc' = flZ x i b (flyL (wC W i)).length v p (X.1 0) X.2.length (4 + sumD (X.2.take k)) (orE ((X.2.take k).map eN)) k (en 0) (eN en) (dueN en) ∧ n' = 1000 * (13 - p) - 11 - 3 * k ∧ ce' ≤ 20 + 336 * p + 20 * k ∧ sl' ≤ 120 + 2016 * p + 120 * k)))) := by
        intro ν ce' sl' a b2 c2 d2 f2 g2 h2 hν hf hc' hs'
        refine ⟨1000 * (13 - p) - 10 - 3 * (k + 1), flY x i b (flyL (wC W i)).length v p (X.1 0) X.2.length (4 + sumD (X.2.take (k + 1))) (orE ((X.2.take (k + 1)).map eN)) (k + 1), by omega, ⟨rfl, rfl, rfl, rfl, rfl, rfl, rfl, rfl, tvE ?_, tvE ?_, inc_tv k, trivial⟩, hν, hf, rfl, p, v, hp, hv, Or.inr ⟨X, hXp, k + 1, by omega, Or.inl ⟨rfl, rfl, rfl, hc', hs'⟩⟩⟩
        · rw [nI_add, sumD_take hek, Nat.add_assoc]
        · rw [told_2 _ he16, eNt_take hek]
      refine ⟨⟨by show ce + 4 ≤ 4100; omega, by show sl + 24 ≤ 24600; omega⟩, M, W, U, hK, hM, hX', fun μ2 hX2 hF2 => ⟨fun w => absurd (show (1 : Int32) = 0 from w) (by decide), fun _ => ⟨⟨by show ce + 4 + 4 ≤ 4100; omega, by show sl + 24 + 24 ≤ 24600; omega⟩, M, W, U, hK, hM, hX2, fun μ3 hX3 hF3 => ⟨fun w => (w r2).elim, fun _ => ⟨fun w => absurd (ht.symm.trans w) (by decide), fun _ => ?_⟩⟩⟩⟩⟩
      have hFF := hF.trans (hF2.trans hF3)
      have z0 : en 0 = 0 ∨ en 0 = 1 → en 2 = 0 → ¬ en 0 = Int32.ofInt 2 := fun w _ => by
        rcases w with w | w
        · rw [w]
          decide
        · rw [w]
          decide
      have hlt : ansR xc0 (oEntry (nI i) (nI p) (nI k) (nI 3) W U) < X.1 0 := by
        rw [r3, m3]
        rcases hg with ⟨_, _, g2⟩ | ⟨_, _, g2⟩ | ⟨_, _, bb, b1, b2, g2⟩
        · rw [g2, z_nI, nI_lt_iff (by omega) (by omega)]
          omega
        · rw [g2, z_nI, nI_lt_iff (by omega) (by omega)]
          omega
        · rw [g2, nI_lt_iff (by omega) (by omega)]
          exact b2
      have hk01 : (¬ en 0 = Int32.ofInt 2 ∧ en 2 ≤ 0) ∨ (en 0 = Int32.ofInt 2 ∧ ¬ en 2 ≤ 0) := by
        rcases hg with ⟨g0, _, g2⟩ | ⟨g0, _, g2⟩ | ⟨g0, _, bb, b1, b2, g2⟩
        · exact Or.inl ⟨z0 (Or.inl g0) g2, by rw [g2]; decide⟩
        · exact Or.inl ⟨z0 (Or.inr g0) g2, by rw [g2]; decide⟩
        · refine Or.inr ⟨g0, ?_⟩
          rw [g2, z_nI, nI_le_iff (by omega) (by omega)]
          omega
      rcases hk01 with ⟨k1, k2⟩ | ⟨k1, k2⟩
      · have k3 : ansR xc0 (oEntry (nI i) (nI p) (nI k) (nI 3) W U) ≤ 0 := by
          rw [r3]
          exact k2
        exact ⟨fun _ => ⟨fun _ => ⟨fun w => (w rfl).elim, fun _ => ⟨fun _ => nxt μ3 _ _ _ _ _ _ _ 0 0 hX3 hFF (by omega) (by omega), fun w => (w hlt).elim⟩⟩, fun w => (w k3).elim⟩, fun w => (w k1).elim⟩
      · have k3 : ¬ ansR xc0 (oEntry (nI i) (nI p) (nI k) (nI 3) W U) ≤ 0 := by
          rw [r3]
          exact k2
        exact ⟨fun w => (w k1).elim, fun _ => ⟨fun w => (k3 w).elim, fun _ => ⟨fun w => (w rfl).elim, fun _ => ⟨fun _ => nxt μ3 _ _ _ _ _ _ _ 0 0 hX3 hFF (by omega) (by omega), fun w => (w hlt).elim⟩⟩⟩⟩
