/-! THE REFERENCE, packets by their index; the digest. -/
theorem nn_nat {i : Int32} (h : 0 ≤ i) : ∃ j, j < 2 ^ 31 ∧ i = nI j ∧ sN i = j := by
  rw [Int32.le_iff_toInt_le] at h
  have z : (0 : Int32).toInt = 0 := rfl
  rw [z] at h
  have hb := Int32.toInt_lt i
  have e : i = nI i.toInt.toNat := by
    apply Int32.toInt_inj.mp
    rw [nI_toInt (by omega)]
    omega
  refine ⟨i.toInt.toNat, by omega, e, ?_⟩
  rw [e, sNi (by omega), nI_toInt (by omega)]
  omega
theorem flyA_some {X : CS} {i : Int32} {p : PK} (h : flyA X i = some p) : ∃ j, i = nI j ∧ j < 2 ^ 31 ∧ (flyL X)[j]? = some p := by
  unfold flyA at h
  by_cases q : 0 ≤ i
  · rw [if_pos q] at h
    obtain ⟨j, j1, j2, j3⟩ := nn_nat q
    rw [j3] at h
    exact ⟨j, j2, j1, h⟩
  · rw [if_neg q] at h
    cases h
theorem nI_0le {j : Nat} (h : j < 2 ^ 31) : (0 : Int32) ≤ nI j := by
  rw [z_nI, nI_le_iff (by omega) h]
  omega
theorem flyA_at {X : CS} {j : Nat} {p : PK} (h : (flyL X)[j]? = some p) (hj : j < 2 ^ 31) : flyA X (nI j) = some p := by
  unfold flyA
  rw [if_pos (nI_0le hj), sNi hj]
  exact h
theorem flyA_none {X : CS} {i : Int32} (h : flyA X i = none) {j : Nat} (hj : j < (flyL X).length) (hl : (flyL X).length ≤ 22) : ¬ i = nI j := fun w => by
  obtain ⟨p, hp⟩ := at_of_lt hj
  rw [w, flyA_at hp (by omega)] at h
  cases h
theorem oPkt_1 {c i w : Int32} {W : WS} {U : List WS} (h : ¬ isC c) : oPkt c i w W U = (1, 0, W, U) := if_pos h
theorem oPkt_n {c i w : Int32} {W : WS} {U : List WS} (h : isC c) (g : flyA (wC W (sN c)) i = none) : oPkt c i w W U = (2, 0, W, U) := by
  unfold oPkt
  rw [if_neg (nn h), g]
theorem oPkt_r {c i w : Int32} {W : WS} {U : List WS} {p : PK} (h : isC c) (g : flyA (wC W (sN c)) i = some p) (q : ¬ inR 0 3 w) : oPkt c i w W U = (2, 0, W, U) := by
  unfold oPkt
  rw [if_neg (nn h), g]
  exact if_pos q
theorem oPkt_0 {c i w : Int32} {W : WS} {U : List WS} {p : PK} (h : isC c) (g : flyA (wC W (sN c)) i = some p) (q : inR 0 3 w) : oPkt c i w W U = (0, pkV (wT W 0) p (sN w), W, U) := by
  unfold oPkt
  rw [if_neg (nn h), g]
  exact if_neg (nn q)
theorem flyN_le {f : Nat → Int32} {i : Nat} {X : CS} (h : RC f i X) : (flyL X).length ≤ 22 := Nat.le_trans (List.length_filter_le _ _) h.2.2.1.2.1
theorem up2_up2 {α : Type} (F : Nat → Nat → α) (a j : Nat) (x y : α) : up2 (up2 F a j x) a j y = up2 F a j y := by
  funext b k
  unfold up2
  by_cases q : b = a ∧ k = j
  · rw [if_pos q, if_pos q]
  · rw [if_neg q, if_neg q, if_neg q]
def sp_X10_packet : SPc := fun As μ K => match As with
  | [.inr (.inr (20, r)), .inl c, .inl i, .inl x] => ∃ (W : WS) (U : List WS), REF μ r W U ∧ refK (oPkt c i x W U) μ r W U K
  | _ => False
def ct_X10_packet : List (Nat × CI) := [(86, ci_X10_isClient), (204, ci_X10_fails), (207, ci_X10_flyingCell), (49, ci_X10_in), (210, ci_X10_packetValue)]
def ci_X10_packet : CI := (yX10_packet, cX10_packet, 5, some .int, 4, (3, 0, 0, 68), 19, [], sp_X10_packet)
set_option maxRecDepth 100000 in
theorem ck_X10_packet : chkM ci_X10_packet RX10 co_X10_packet ct_X10_packet [] false false = true := by decide +kernel
set_option maxHeartbeats 4000000 in
set_option maxRecDepth 100000 in
theorem ms_X10_packet {g : GPT} {ot : OT} {l : Launch} (hl : l.stackTraces = false) : MS g ot l ci_X10_packet := by
  refine ms0_of hl RX10 co_X10_packet ct_X10_packet [] false false 37 ck_X10_packet (List.forall_mem_cons.mpr ⟨ms_X10_isClient hl, List.forall_mem_cons.mpr ⟨ms_X10_fails hl, List.forall_mem_cons.mpr ⟨ms_X10_flyingCell hl, List.forall_mem_cons.mpr ⟨ms_X10_in hl, List.forall_mem_cons.mpr ⟨ms_X10_packetValue hl, fun _ h => nomatch h⟩⟩⟩⟩⟩) ?_
  intro As μ K h
  simp only [ci_X10_packet, sp_X10_packet] at h
  split at h
  case h_2 => exact h.elim
  rename_i r c i x
  obtain ⟨W, U, hR, h⟩ := h
  have ff : ∀ cd : Nat, ¬ cd = 0 → oPkt c i x W U = (cd, 0, W, U) → K (.inl (some (.inl 0))) (up2 (up2 μ.1 r 5 (nI 0)) r 5 (nI cd), μ.2) := fun cd h0 e => by
    rw [up2_up2]
    exact refF h hR e h0
  have cr : (up2 μ.1 r 5 (nI 0)) (r + 1) = μ.1 (r + 1) := cod_r _ _ _
  refine ⟨Nat.le_of_ble_eq_true rfl, fun q => ?_, fun q => ff 1 (by omega) (oPkt_1 (iB_nn q))⟩
  have C := iB_y q
  obtain ⟨k, hk, rfl, sk⟩ := c_nat C
  have hX := hR.1.2.2 k hk
  refine ⟨k, wC W k, rfl, hk, by dsimp only; rw [cod_r]; exact hX, fun a j p hj hp hm hrp ha ha2 => ⟨fun q2 => absurd q2 (nI_ne_m1 (by omega)), fun q2 => ⟨fun q3 => ?_, fun q3 => ff 2 (by omega) (oPkt_r C (by rw [sk, hj]; exact flyA_at hp (by have q1 := (List.getElem?_eq_some_iff.mp hp).1; have q2 := flyN_le hX; omega)) (iB_nn q3))⟩⟩, fun hno => ⟨fun q2 => ff 2 (by omega) (oPkt_n C ?_), fun q2 => absurd rfl q2⟩⟩
  · have hj2 : j < (flyL (wC W k)).length := (List.getElem?_eq_some_iff.mp hp).1
    have hl := flyN_le hX
    have P := iB_y q3
    obtain ⟨d, hd, rfl, sd⟩ := r_nat (n := 3) (by omega) P
    have ex := oPkt_0 (i := i) (W := W) (U := U) C (by rw [sk, hj]; exact flyA_at hp (by omega)) P
    rw [sd] at ex
    have t0 : μ.1 (r + 1) 0 = wT W 0 := hR.1.1 0 (by omega)
    refine ⟨a, d, p, rfl, rfl, by omega, ha2, hrp, ?_⟩
    show K (.inl (some (.inl (pkV ((up2 μ.1 r 5 (nI 0)) (r + 1) 0) p d)))) (up2 μ.1 r 5 (nI 0), μ.2)
    rw [cr, t0]
    exact refR h hR ex
  · rw [sk]
    cases hq : flyA (wC W k) i with
    | none => rfl
    | some p =>
      obtain ⟨j, j1, j2, j3⟩ := flyA_some hq
      exact absurd j1 (hno j (List.getElem?_eq_some_iff.mp j3).1)
/-- an entry by its index -/
def entA (p : PK) (j : Int32) : Option EN := if 0 ≤ j then p.2[sN j]? else none
theorem oEntry_1 {c i j w : Int32} {W : WS} {U : List WS} (h : ¬ isC c) : oEntry c i j w W U = (1, 0, W, U) := if_pos h
theorem oEntry_n {c i j w : Int32} {W : WS} {U : List WS} (h : isC c) (g : flyA (wC W (sN c)) i = none) : oEntry c i j w W U = (2, 0, W, U) := by
  unfold oEntry
  rw [if_neg (nn h), g]
theorem oEntry_e {c i j w : Int32} {W : WS} {U : List WS} {p : PK} (h : isC c) (g : flyA (wC W (sN c)) i = some p) (e : entA p j = none) : oEntry c i j w W U = (2, 0, W, U) := by
  unfold oEntry
  rw [if_neg (nn h), g]
  show (match entA p j with | none => _ | some en => _) = _
  rw [e]
theorem oEntry_r {c i j w : Int32} {W : WS} {U : List WS} {p : PK} {en : EN} (h : isC c) (g : flyA (wC W (sN c)) i = some p) (e : entA p j = some en) (q : ¬ inR 0 4 w) : oEntry c i j w W U = (2, 0, W, U) := by
  unfold oEntry
  rw [if_neg (nn h), g]
  show (match entA p j with | none => _ | some en => _) = _
  rw [e]
  exact if_pos q
theorem oEntry_0 {c i j w : Int32} {W : WS} {U : List WS} {p : PK} {en : EN} (h : isC c) (g : flyA (wC W (sN c)) i = some p) (e : entA p j = some en) (q : inR 0 4 w) : oEntry c i j w W U = (0, etV en (sN w), W, U) := by
  unfold oEntry
  rw [if_neg (nn h), g]
  show (match entA p j with | none => _ | some en => _) = _
  rw [e]
  exact if_neg (nn q)
/-- the range of an entry's index -/
theorem entA_in {p : PK} {j : Int32} (hl : p.2.length ≤ 16) (h : inR 0 (nI p.2.length - nI 1) j) : ∃ k en, j = nI k ∧ k < 16 ∧ p.2[k]? = some en ∧ entA p j = some en := by
  obtain ⟨k, k1, k2, k3⟩ := nn_nat h.1
  have hk : k < p.2.length := by
    have h2 := h.2
    by_cases q : p.2.length = 0
    · rw [q, k2, Int32.le_iff_toInt_le, nI_toInt k1] at h2
      have z : (nI 0 - nI 1).toInt = -1 := by decide
      rw [z] at h2
      omega
    · rw [nI_sub1 (by omega), k2, nI_le_iff k1 (by omega)] at h2
      omega
  obtain ⟨en, he⟩ := at_of_lt (l := p.2) hk
  refine ⟨k, en, k2, by omega, he, ?_⟩
  unfold entA
  rw [if_pos h.1, k3]
  exact he
theorem entA_out {p : PK} {j : Int32} (hl : p.2.length ≤ 16) (h : ¬ inR 0 (nI p.2.length - nI 1) j) : entA p j = none := by
  cases hq : entA p j with
  | none => rfl
  | some en =>
    exfalso
    unfold entA at hq
    by_cases q : 0 ≤ j
    · rw [if_pos q] at hq
      have hk : sN j < p.2.length := (List.getElem?_eq_some_iff.mp hq).1
      obtain ⟨k, k1, k2, k3⟩ := nn_nat q
      rw [k3] at hk
      refine h ⟨q, ?_⟩
      rw [nI_sub1 (by omega), k2, nI_le_iff k1 (by omega)]
      omega
    · rw [if_neg q] at hq
      cases hq
def sp_X10_entry : SPc := fun As μ K => match As with
  | [.inr (.inr (20, r)), .inl c, .inl i, .inl j, .inl x] => ∃ (M : Nat) (W : WS) (U : List WS), WOK M W ∧ REF μ r W U ∧ refK (oEntry c i j x W U) μ r W U K
  | _ => False
def ct_X10_entry : List (Nat × CI) := [(86, ci_X10_isClient), (204, ci_X10_fails), (207, ci_X10_flyingCell), (49, ci_X10_in), (213, ci_X10_entryValue)]
def ci_X10_entry : CI := (yX10_entry, cX10_entry, 7, some .int, 5, (3, 0, 0, 68), 19, [], sp_X10_entry)
set_option maxRecDepth 100000 in
theorem ck_X10_entry : chkM ci_X10_entry RX10 co_X10_entry ct_X10_entry [] false false = true := by decide +kernel
set_option maxHeartbeats 4000000 in
set_option maxRecDepth 100000 in
theorem ms_X10_entry {g : GPT} {ot : OT} {l : Launch} (hl : l.stackTraces = false) : MS g ot l ci_X10_entry := by
  refine ms_of hl RX10 co_X10_entry ct_X10_entry [] false false [76] 61 ck_X10_entry (List.forall_mem_cons.mpr ⟨ms_X10_isClient hl, List.forall_mem_cons.mpr ⟨ms_X10_fails hl, List.forall_mem_cons.mpr ⟨ms_X10_flyingCell hl, List.forall_mem_cons.mpr ⟨ms_X10_in hl, List.forall_mem_cons.mpr ⟨ms_X10_entryValue hl, fun _ h => nomatch h⟩⟩⟩⟩⟩) ?_
  intro As μ K h
  simp only [ci_X10_entry, sp_X10_entry] at h
  split at h
  case h_2 => exact h.elim
  rename_i r c i j x
  obtain ⟨M, W, U, hM, hR, h⟩ := h
  have ff : ∀ cd : Nat, ¬ cd = 0 → oEntry c i j x W U = (cd, 0, W, U) → K (.inl (some (.inl 0))) (up2 (up2 μ.1 r 5 (nI 0)) r 5 (nI cd), μ.2) := fun cd h0 e => by
    rw [up2_up2]
    exact refF h hR e h0
  have cr : (up2 μ.1 r 5 (nI 0)) (r + 1) = μ.1 (r + 1) := cod_r _ _ _
  refine ⟨Nat.le_of_ble_eq_true rfl, fun m pc lc st μ' ce sl => m = 0 ∧ pc = 76 ∧ st.length = 1 ∧ μ' = (up2 μ.1 r 5 (nI 0), μ.2) ∧ ce = 0 ∧ sl = 0 ∧ ((st = [.inl 0] ∧ lc = [some (.inr (.inr (20, r))), none, none, none, none, none, none] ∧ oEntry c i j x W U = (2, 0, W, U)) ∨ (∃ a p k en d, st = [.inl 1] ∧ lc = [some (.inr (.inr (20, r))), none, none, some (.inl (nI k)), some (.inl (nI d)), some (.inl (nI a)), none] ∧ a + 86 ≤ 7269 ∧ RP (μ.1 (r + 1)) a p ∧ p.2[k]? = some en ∧ enOK en ∧ d < 5 ∧ oEntry c i j x W U = (0, etV en d, W, U))), ?_, ?_⟩
  · refine ⟨fun q => ?_, fun q => ff 1 (by omega) (oEntry_1 (iB_nn q))⟩
    have C := iB_y q
    obtain ⟨k, hk, rfl, sk⟩ := c_nat C
    have hX := hR.1.2.2 k hk
    obtain ⟨T, _, _, hc⟩ := hM.cl hk
    have no : ∀ v : Int32, v = 0 → oEntry (nI k) i j x W U = (2, 0, W, U) → ∀ w, ∃ n' lc', subL lc' [some (.inr (.inr (20, r))), some (.inl (nI k)), some (.inl i), some (.inl j), some (.inl x), some (.inl w), none] ∧ (n' = 0 ∧ 76 = 76 ∧ ([.inl v] : List TV).length = 1 ∧ ((up2 μ.1 r 5 (nI 0), μ.2) : MM) = (up2 μ.1 r 5 (nI 0), μ.2) ∧ 0 = 0 ∧ 0 = 0 ∧ ((([.inl v] : List TV) = [.inl 0] ∧ lc' = [some (.inr (.inr (20, r))), none, none, none, none, none, none] ∧ oEntry (nI k) i j x W U = (2, 0, W, U)) ∨ (∃ a p k' en d, ([.inl v] : List TV) = [.inl 1] ∧ lc' = [some (.inr (.inr (20, r))), none, none, some (.inl (nI k')), some (.inl (nI d)), some (.inl (nI a)), none] ∧ a + 86 ≤ 7269 ∧ RP (μ.1 (r + 1)) a p ∧ p.2[k']? = some en ∧ enOK en ∧ d < 5 ∧ oEntry (nI k) i j x W U = (0, etV en d, W, U)))) := fun v hv e w =>
      ⟨0, [some (.inr (.inr (20, r))), none, none, none, none, none, none], ⟨rfl, trivial⟩, rfl, rfl, rfl, rfl, rfl, rfl, Or.inl ⟨by rw [hv], rfl, e⟩⟩
    refine ⟨k, wC W k, rfl, hk, by dsimp only; rw [cod_r]; exact hX, fun a n p hn hp hm hrp ha ha2 => ⟨fun q2 => absurd q2 (nI_ne_m1 (by omega)), fun q2 => ⟨fun q3 => ⟨a + 5, nI_add a 5, by omega, fun q4 => ?_, fun q4 => ⟨fun q5 => ?_, fun q5 => ?_⟩⟩, fun q3 => absurd q2 q3⟩⟩, fun hno => ⟨fun q2 => no 0 rfl (oEntry_n C ?_) _, fun q2 => absurd rfl q2⟩⟩
    all_goals try
      have hn2 : n < (flyL (wC W k)).length := (List.getElem?_eq_some_iff.mp hp).1
      have hl := flyN_le hX
      have fa : flyA (wC W (sN (nI k))) i = some p := by rw [sk, hn]; exact flyA_at hp (by omega)
      have h16 := hrp.2.2.1
      have a5 : (up2 μ.1 r 5 (nI 0)) (r + 1) (a + 5) = nI p.2.length := hrp.2.1
    · have q4 : iB (inR 0 ((up2 μ.1 r 5 (nI 0)) (r + 1) (a + 5) - nI 1) j) = 0 := q4
      rw [a5] at q4
      exact no 0 rfl (oEntry_e C fa (entA_out h16 (iB_n q4))) _
    · have q4 : ¬ iB (inR 0 ((up2 μ.1 r 5 (nI 0)) (r + 1) (a + 5) - nI 1) j) = 0 := q4
      rw [a5] at q4
      obtain ⟨y, en, y1, y2, y3, y4⟩ := entA_in h16 (iB_y q4)
      exact no 0 rfl (oEntry_r C fa y4 (iB_n q5)) _
    · have q4 : ¬ iB (inR 0 ((up2 μ.1 r 5 (nI 0)) (r + 1) (a + 5) - nI 1) j) = 0 := q4
      rw [a5] at q4
      obtain ⟨y, en, y1, y2, y3, y4⟩ := entA_in h16 (iB_y q4)
      have P := iB_y q5
      obtain ⟨d, hd, rfl, sd⟩ := r_nat (n := 4) (by omega) P
      have ex := oEntry_0 (U := U) C fa y4 P
      rw [sd] at ex
      subst y1
      have hrp' : RP (μ.1 (r + 1)) a p := by rw [← cr]; exact hrp
      exact ⟨0, [some (.inr (.inr (20, r))), none, none, some (.inl (nI y)), some (.inl (nI d)), some (.inl (nI a)), none], ⟨rfl, rfl, rfl, rfl, trivial⟩, rfl, rfl, rfl, rfl, rfl, rfl, Or.inr ⟨a, p, y, en, d, rfl, rfl, ha2, hrp', y3, (hc.en p hm en (List.mem_of_getElem? y3)).1, by omega, ex⟩⟩
    · rw [sk]
      cases hq : flyA (wC W k) i with
      | none => rfl
      | some p =>
        obtain ⟨n, j1, j2, j3⟩ := flyA_some hq
        exact absurd j1 (hno n (List.getElem?_eq_some_iff.mp j3).1)
  · rintro m pc lc st μ' ce sl ⟨rfl, rfl, _, rfl, rfl, rfl, (⟨rfl, rfl, ex⟩ | ⟨a, p, k, en, d, rfl, rfl, ha2, hrp, hk, hen, hd, ex⟩)⟩
    · exact ⟨fun q => ff 2 (by omega) ex, fun q => absurd rfl q⟩
    · refine ⟨fun q => absurd (show (1 : Int32) = 0 from q) (by decide), fun q => ⟨a, k, d, p, en, rfl, rfl, rfl, hd, ha2, by dsimp only; rw [cod_r]; exact hrp, hk, hen, refR h hR ex⟩⟩
theorem hE7_S (E : Nat → Nat → Int32) (h : Int64) (n : Nat) : hE7 E h (n + 1) = hsR (enV E n) (hE7 E h n) 7 := rfl
def dgL2 (r k : Nat) : LC := [some (.inr (.inr (20, r))), some (.inl (nI k)), none]
def dgM2 (r k j : Nat) : LC := [some (.inr (.inr (20, r))), some (.inl (nI k)), some (.inl (nI j))]
def sp_X10_digest : SPc := fun As μ K => match As with
  | [.inr (.inr (20, r))] => ∃ (M : Nat) (W : WS) (U : List WS), WOK M W ∧ REF μ r W U ∧ ∀ μ', REF μ' r W U → μ'.1 r 5 = 0 → FRM μ μ' r → K (.inl (some (.inr (.inl (oDig W U))))) μ'
  | _ => False
def dg0 (W : WS) (U : List WS) : Int64 := hs (hs (hs (hs (Int64.ofNat 18582) (nI U.length)) (wT W 0)) (wT W 1)) (wT W 2)
theorem hs_eq (h : Int64) (v : Int32) : Int64.ofNat 31 * h + v.toInt64 = hs h v := rfl
def mixM (ν : MM) (r : Nat) (v : Int32) : MM := hW ν r (Int64.ofNat 31 * ν.2.2.1 r 7 + v.toInt64)
theorem mixM_h (ν : MM) (r : Nat) (h : Int64) (v : Int32) : mixM (hW ν r h) r v = hW ν r (hs h v) := by
  unfold mixM
  rw [hW_hW, hW_at]
  rfl
def ct_X10_digest : List (Nat × CI) := [(222, ci_X10_mix), (74, ci_X10_entityValue), (235, ci_X10_mixClient)]
def ci_X10_digest : CI := (yX10_digest, cX10_digest, 3, some .long, 1, (7, 0, 0, 160), 19, [], sp_X10_digest)
set_option maxRecDepth 100000 in
theorem ck_X10_digest : chkM ci_X10_digest RX10 co_X10_digest ct_X10_digest [] false false = true := by decide +kernel
set_option maxHeartbeats 4000000 in
set_option maxRecDepth 100000 in
theorem ms_X10_digest {g : GPT} {ot : OT} {l : Launch} (hl : l.stackTraces = false) : MS g ot l ci_X10_digest := by
  refine ms_of hl RX10 co_X10_digest ct_X10_digest [] false false [56,64,95] 71 ck_X10_digest (List.forall_mem_cons.mpr ⟨ms_X10_mix hl, List.forall_mem_cons.mpr ⟨ms_X10_entityValue hl, List.forall_mem_cons.mpr ⟨ms_X10_mixClient hl, fun _ h => nomatch h⟩⟩⟩) ?_
  intro As μ K h
  simp only [ci_X10_digest, sp_X10_digest] at h
  split at h
  case h_2 => exact h.elim
  rename_i r
  obtain ⟨M, W, U, hM, hR, h⟩ := h
  have cr : (up2 μ.1 r 5 (nI 0)) (r + 1) = μ.1 (r + 1) := cod_r _ _ _
  have hRc := hR.cod (nI 0)
  refine ⟨Nat.le_of_ble_eq_true rfl, fun m pc lc st μ' ce sl => (∃ k, k ≤ 16 ∧ m = 1000 + 20 * (16 - k) ∧ pc = 56 ∧ lc = dgL2 r k ∧ st = [] ∧ μ' = hW (codM μ r (nI 0)) r (hE7 (wE W) (dg0 W U) k) ∧ ce = 0 ∧ sl = 0) ∨
    (∃ k j, k < 16 ∧ j ≤ 7 ∧ m = 1000 + 20 * (16 - (k + 1)) + 8 + (7 - j) ∧ pc = 64 ∧ lc = dgM2 r k j ∧ st = [] ∧ μ' = hW (codM μ r (nI 0)) r (hsR (enV (wE W) k) (hE7 (wE W) (dg0 W U) k) j) ∧ ce = 0 ∧ sl = 0) ∨
    (∃ k, k ≤ 3 ∧ m = 3 - k ∧ pc = 95 ∧ lc = dgL2 r k ∧ st = [] ∧ μ' = hW (codM μ r (nI 0)) r (hC3 W (hE7 (wE W) (dg0 W U) 16) k) ∧ ce = 0 ∧ sl = 0), ?_, ?_⟩
  · have t0 : (codM μ r (nI 0)).1 (r + 1) 0 = wT W 0 := hRc.1.1 0 (by omega)
    have t1 : (codM μ r (nI 0)).1 (r + 1) 1 = wT W 1 := hRc.1.1 1 (by omega)
    have t2 : (codM μ r (nI 0)).1 (r + 1) 2 = wT W 2 := hRc.1.1 2 (by omega)
    have t4 : (codM μ r (nI 0)).1 r 4 = nI U.length := hRc.2.2.1
    refine ⟨0, rfl, by omega, 1, rfl, by omega, 2, rfl, by omega, 1000 + 20 * (16 - 0), dgL2 r 0, ⟨rfl, rfl, trivial⟩, Or.inl ⟨0, Nat.zero_le _, rfl, rfl, rfl, rfl, ?_, rfl, rfl⟩⟩
    show mixM (mixM (mixM (mixM (hW (codM μ r (nI 0)) r (Int64.ofNat 18582)) r ((codM μ r (nI 0)).1 r 4)) r ((codM μ r (nI 0)).1 (r + 1) 0)) r ((codM μ r (nI 0)).1 (r + 1) 1)) r ((codM μ r (nI 0)).1 (r + 1) 2) = _
    rw [mixM_h, mixM_h, mixM_h, mixM_h, t4, t0, t1, t2]
    rfl
  · rintro m pc lc st μ' ce sl (⟨k, hk, rfl, rfl, rfl, rfl, rfl, rfl, rfl⟩ | ⟨k, j, hk, hj, rfl, rfl, rfl, rfl, rfl, rfl, rfl⟩ | ⟨k, hk, rfl, rfl, rfl, rfl, rfl, rfl, rfl⟩)
    · refine ⟨fun q => ?_, fun q => ?_⟩
      · simp only [icP, ifP, iL, iM1] at q
        try simp only [z_nI] at q
        try simp only [nI_add, nI_mul] at q
        first | rw [nI_le_iff (by omega) (by omega)] at q | rw [nI_lt_iff (by omega) (by omega)] at q | rw [nI_eq_iff (by omega) (by omega)] at q
        obtain rfl : k = 16 := by omega
        exact ⟨3 - 0, dgL2 r 0, by omega, ⟨rfl, rfl, trivial⟩, Or.inr (Or.inr ⟨0, Nat.zero_le _, rfl, rfl, rfl, rfl, rfl, rfl, rfl⟩)⟩
      · simp only [icP, ifP, iL, iM1] at q
        try simp only [z_nI] at q
        try simp only [nI_add, nI_mul] at q
        first | rw [nI_le_iff (by omega) (by omega)] at q | rw [nI_lt_iff (by omega) (by omega)] at q | rw [nI_eq_iff (by omega) (by omega)] at q
        exact ⟨1000 + 20 * (16 - (k + 1)) + 8 + (7 - 0), dgM2 r k 0, by omega, ⟨rfl, rfl, rfl, trivial⟩, Or.inr (Or.inl ⟨k, 0, by omega, Nat.zero_le _, rfl, rfl, rfl, rfl, rfl, rfl, rfl⟩)⟩
    · refine ⟨fun q => ?_, fun q => ?_⟩
      · simp only [icP, ifP, iL, iM1] at q
        try simp only [z_nI] at q
        try simp only [nI_add, nI_mul] at q
        first | rw [nI_le_iff (by omega) (by omega)] at q | rw [nI_lt_iff (by omega) (by omega)] at q | rw [nI_eq_iff (by omega) (by omega)] at q
        obtain rfl : j = 7 := by omega
        exact ⟨1000 + 20 * (16 - (k + 1)), dgL2 r (k + 1), by omega, ⟨rfl, inc_tv k, trivial⟩, Or.inl ⟨k + 1, by omega, rfl, rfl, rfl, rfl, rfl, rfl, rfl⟩⟩
      · simp only [icP, ifP, iL, iM1] at q
        try simp only [z_nI] at q
        try simp only [nI_add, nI_mul] at q
        first | rw [nI_le_iff (by omega) (by omega)] at q | rw [nI_lt_iff (by omega) (by omega)] at q | rw [nI_eq_iff (by omega) (by omega)] at q
        refine ⟨k, j, wE W, rfl, rfl, hk, by omega, fun z hz => hRc.1.2.1 k hk z hz, (hM.1 k hk).1, 1000 + 20 * (16 - (k + 1)) + 8 + (7 - (j + 1)), dgM2 r k (j + 1), by omega, ⟨rfl, rfl, inc_tv j, trivial⟩, Or.inr (Or.inl ⟨k, j + 1, hk, by omega, rfl, rfl, rfl, rfl, ?_, rfl, rfl⟩)⟩
        rw [hW_hW, hW_at]
        rfl
    · refine ⟨fun q => ?_, fun q => ?_⟩
      · simp only [icP, ifP, iL, iM1] at q
        try simp only [z_nI] at q
        try simp only [nI_add, nI_mul] at q
        first | rw [nI_le_iff (by omega) (by omega)] at q | rw [nI_lt_iff (by omega) (by omega)] at q | rw [nI_eq_iff (by omega) (by omega)] at q
        obtain rfl : k = 3 := by omega
        have := h (hW (codM μ r (nI 0)) r (hC3 W (hE7 (wE W) (dg0 W U) 16) 3)) hRc (codM_5 _ _ _) ⟨(codM_f μ r (nI 0)).1, rfl, fun b hb => by
          funext z
          show up2 μ.2.2.1 r 7 _ b z = _
          unfold up2
          rw [if_neg fun w => hb w.1], rfl⟩
        show K (.inl (some (.inr (.inl ((hW (codM μ r (nI 0)) r (hC3 W (hE7 (wE W) (dg0 W U) 16) 3)).2.2.1 r 7))))) _
        rw [hW_at]
        exact this
      · simp only [icP, ifP, iL, iM1] at q
        try simp only [z_nI] at q
        try simp only [nI_add, nI_mul] at q
        first | rw [nI_le_iff (by omega) (by omega)] at q | rw [nI_lt_iff (by omega) (by omega)] at q | rw [nI_eq_iff (by omega) (by omega)] at q
        obtain ⟨T, _, _, hc⟩ := hM.cl (c := k) (by omega)
        refine ⟨k, wC W k, wE W, rfl, by omega, hRc.1.2.2 k (by omega), hc.bit, hc.e, wOK_e hM hRc, fun e he => ⟨hc.2.2.1 e he, (hc.2.1 e he).2⟩, 3 - (k + 1), dgL2 r (k + 1), by omega, ⟨rfl, inc_tv k, trivial⟩, Or.inr (Or.inr ⟨k + 1, by omega, rfl, rfl, rfl, rfl, ?_, rfl, rfl⟩)⟩
        rw [hW_hW, hW_at]
        have t0 : (hW (codM μ r (nI 0)) r (hC3 W (hE7 (wE W) (dg0 W U) 16) k)).1 (r + 1) 0 = wT W 0 := hRc.1.1 0 (by omega)
        rw [t0]
        rfl
