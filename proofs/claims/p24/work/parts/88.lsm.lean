/-! THE LAW'S small methods. -/
theorem nI_mod {a b : Nat} (ha : a < 2 ^ 31) (hb : b < 2 ^ 31) : nI a % nI b = nI (a % b) := by
  apply Int32.toInt_inj.mp
  have h1 : a % b < 2 ^ 31 := Nat.lt_of_le_of_lt (Nat.mod_le _ _) ha
  rw [Int32.toInt_mod, nI_toInt ha, nI_toInt hb, nI_toInt h1]
  exact (Int.ofNat_tmod a b).symm
theorem nI_all (v : Int32) : ∃ n, n < 2 ^ 32 ∧ v = nI n := ⟨v.toBitVec.toNat, v.toBitVec.isLt, by
  apply Int32.toBitVec_inj.1
  show v.toBitVec = BitVec.ofNat 32 v.toBitVec.toNat
  apply BitVec.eq_of_toNat_eq
  rw [BitVec.toNat_ofNat, Nat.mod_eq_of_lt v.toBitVec.isLt]⟩
def sp_L_low : SPc := fun As μ K => match As with
  | [.inl v, .inl w] => ∃ k, 1 ≤ k ∧ k < 2 ^ 31 ∧ w = nI k ∧ ∀ r, r < k → K (.inl (some (.inl (nI r)))) μ
  | _ => False
def ct_L_low : List (Nat × CI) := []
def ci_L_low : CI := (yL_low, cL_low, 2, some .int, 2, (0, 0, 0, 0), 0, [], sp_L_low)
set_option maxRecDepth 100000 in
theorem ck_L_low : chkM ci_L_low RL co_L_low ct_L_low [] false false = true := by decide +kernel
set_option maxHeartbeats 4000000 in
set_option maxRecDepth 100000 in
theorem ms_L_low {g : GPT} {ot : OT} {l : Launch} (hl : l.stackTraces = false) : MS g ot l ci_L_low := by
  refine ms0_of hl RL co_L_low ct_L_low [] false false 11 ck_L_low (fun _ h => nomatch h) ?_
  intro As μ K h
  simp only [ci_L_low, sp_L_low] at h
  split at h
  case h_2 => exact h.elim
  rename_i v w
  obtain ⟨k, k1, k2, rfl, h⟩ := h
  refine ⟨Nat.le_of_ble_eq_true rfl, ?_, ?_⟩
  · show ¬ nI k = 0
    rw [z_nI, nI_eq_iff (by omega) (by omega)]
    omega
  · obtain ⟨n, n1, rfl⟩ := nI_all v
    show K (.inl (some (.inl ((nI n &&& Int32.ofNat 2147483647) % nI k)))) μ
    rw [pk_andN n1 31 (by decide +kernel), nI_mod (by omega) (by omega)]
    exact h _ (Nat.mod_lt _ k1)
def sp_L_cell : SPc := fun As μ K => match As with
  | [.inr (.inr (90, a)), .inl c] => ∃ j, j < 2 ^ 31 ∧ c = nI j ∧ ∀ v, K (.inl (some (.inl v))) μ
  | _ => False
def ct_L_cell : List (Nat × CI) := []
def ci_L_cell : CI := (yL_cell, cL_cell, 2, some .int, 2, (0, 0, 0, 0), 0, [], sp_L_cell)
set_option maxRecDepth 100000 in
theorem ck_L_cell : chkM ci_L_cell RL co_L_cell ct_L_cell [] false false = true := by decide +kernel
set_option maxHeartbeats 4000000 in
set_option maxRecDepth 100000 in
theorem ms_L_cell {g : GPT} {ot : OT} {l : Launch} (hl : l.stackTraces = false) (h90 : ot.1 90 ≤ 260) : MS g ot l ci_L_cell := by
  refine ms0_of hl RL co_L_cell ct_L_cell [] false false 21 ck_L_cell (fun _ h => nomatch h) ?_
  intro As μ K h
  simp only [ci_L_cell, sp_L_cell] at h
  split at h
  case h_2 => exact h.elim
  rename_i a c
  obtain ⟨j, j1, rfl, h⟩ := h
  refine ⟨Nat.le_of_ble_eq_true rfl, fun _ => h _, fun q => ⟨j, rfl, ?_, h _⟩⟩
  have q : ¬ nI (ot.1 90) ≤ nI j := q
  rw [nI_le_iff (by omega) (by omega)] at q
  omega
theorem inR_n {k n : Nat} (h : k ≤ n) (hn : n < 2 ^ 31) : inR 0 (nI n) (nI k) := ⟨by rw [z_nI, nI_le_iff (by omega) (by omega)]; omega, by rw [nI_le_iff (by omega) (by omega)]; exact h⟩
theorem isE_n {e : Nat} (h : e < 16) : isE (nI e) := inR_n (n := 15) (by omega) (by omega)
theorem isC_m {c : Nat} (h : c < 3) : isC (nI c) := inR_n (n := 2) (by omega) (by omega)
theorem an_ent {e k : Nat} (he : e < 16) (hk : k ≤ 6) (W : WS) (U : List WS) : ansR xc0 (oEnt (nI e) (nI k) W U) = enV (wE W) e k := by
  have P : inR 0 6 (nI k) := inR_n (n := 6) hk (by omega)
  rw [oEnt_0 _ _ W U (nn (isE_n he)) (nn P), ansR_0 rfl]
  show enV (wE W) (sN (nI e)) (sN (nI k)) = _
  rw [sNi (by omega), sNi (by omega)]
theorem an_copy {c e k : Nat} (hc : c < 3) (he : e < 16) (hk : k ≤ 6) (W : WS) (U : List WS) : ansR xc0 (oCopy (nI c) (nI e) (nI k) W U) = cpV (cR (wC W c) e) k := by
  have P : inR 0 6 (nI k) := inR_n (n := 6) hk (by omega)
  rw [oCopy_0 _ _ _ W U (nn ⟨isC_m hc, isE_n he⟩) (nn P), ansR_0 rfl]
  show cpV (cR (wC W (sN (nI c))) (sN (nI e))) (sN (nI k)) = _
  rw [sNi (by omega), sNi (by omega), sNi (by omega)]
theorem an_kept {c e k : Nat} (hc : c < 3) (he : e < 16) (hk : k ≤ 8) {W : WS} (hcn : cnn (wC W c)) (U : List WS) : ansR xc0 (oKept (nI c) (nI e) (nI k) W U) = kpV (wC W c) (wE W) e k := by
  have P : inR 0 8 (nI k) := inR_n (n := 8) hk (by omega)
  have hcn2 : cnn (wC W (sN (nI c))) := by rw [sNi (by omega)]; exact hcn
  rw [oKept_0 _ _ _ W U (nn ⟨isC_m hc, isE_n he⟩) (nn P) (nn hcn2), ansR_0 rfl]
  show kpV (wC W (sN (nI c))) (wE W) (sN (nI e)) (sN (nI k)) = _
  rw [sNi (by omega), sNi (by omega), sNi (by omega)]
theorem an_cnt {c k : Nat} (hc : c < 3) (hk : k ≤ 8) (W : WS) (U : List WS) : ansR xc0 (oCnt (nI c) (nI k) W U) = cnV (wC W c) k := by
  have P : inR 0 8 (nI k) := inR_n (n := 8) hk (by omega)
  rw [oCnt_0 _ _ W U (nn (isC_m hc)) (nn P), ansR_0 rfl]
  show cnV (wC W (sN (nI c))) (sN (nI k)) = _
  rw [sNi (by omega), sNi (by omega)]
theorem an_price {c e : Nat} (hc : c < 3) (he : e < 16) {W : WS} (hcn : cnn (wC W c)) (U : List WS) : ansR xc3 (oPrice (nI c) (nI e) W U) = nI (prc (wC W c) (wE W) e) := by
  have hcn2 : cnn (wC W (sN (nI c))) := by rw [sNi (by omega)]; exact hcn
  rw [oPrice_0 _ _ W U (nn ⟨isC_m hc, isE_n he⟩) (nn hcn2), ansR_0 rfl]
  show nI (prc (wC W (sN (nI c))) (wE W) (sN (nI e))) = _
  rw [sNi (by omega), sNi (by omega)]
theorem an_stale {c : Nat} (hc : c < 3) {W : WS} (hcn : cnn (wC W c)) (U : List WS) : ansR xc3 (oStale (nI c) W U) = nI (staleN (wC W c) (wE W)) := by
  have hcn2 : cnn (wC W (sN (nI c))) := by rw [sNi (by omega)]; exact hcn
  rw [oStale_0 _ W U (nn (isC_m hc)) (nn hcn2), ansR_0 rfl]
  show nI (staleN (wC W (sN (nI c))) (wE W)) = _
  rw [sNi (by omega)]
/-! world -/
def wdL (x e : Nat) : LC := [some (.inr (.inr (19, x))), some (.inl (nI e)), none, none, none, none, none]
def wdK (x e : Nat) (is : Int32) (k : Nat) : LC := [some (.inr (.inr (19, x))), some (.inl (nI e)), some (.inl is), some (.inl (nI k)), none, none, none]
def wdM (x e : Nat) (is : Int32) (k : Nat) (v l m : Int32) : LC := [some (.inr (.inr (19, x))), some (.inl (nI e)), some (.inl is), some (.inl (nI k)), some (.inl v), some (.inl l), some (.inl m)]
def wLo (k : Nat) : Int32 := if k < 5 then 0 else Int32.ofInt (-3)
def wHi (k : Nat) : Int32 := if k < 3 then 31 else if k = 3 then 3 else if k = 4 then 100 else 3
theorem prt_h {n : Nat} (h : n / 4096 ≤ 100) (h2 : n < 524288) : prt n 0 ≤ 31 ∧ prt n 1 ≤ 31 ∧ prt n 2 ≤ 3 ∧ prt n 3 ≤ 100 := by
  simp only [prt]
  omega
theorem wd_in {E : Nat → Nat → Int32} (h : eV2 E) (hv : eVK E) {e : Nat} (he : e < 16) : ∀ k, 1 ≤ k → k ≤ 6 → wLo k ≤ enV E e k ∧ enV E e k ≤ wHi k ∧ (E e 0 = -1 → enV E e k = 0) := fun k h1 h6 => by
  rcases h e he with ⟨a, b, c⟩ | ⟨n, n1, n2, n3⟩
  · have z : enV E e k = 0 := by
      unfold enV
      rw [if_neg (by omega)]
      by_cases q : k < 5
      · rw [if_pos q]
        unfold pz
        rw [if_pos a]
        exact nI_0
      · rw [if_neg q]
        have : k - 4 = 1 ∨ k - 4 = 2 := by omega
        rcases this with w | w
        · rw [w, b]
        · rw [w, c]
    rw [z]
    refine ⟨?_, ?_, fun _ => rfl⟩
    · unfold wLo
      split <;> decide
    · unfold wHi
      split
      · decide
      · split
        · decide
        · split <;> decide
  · have ne : ¬ E e 0 = -1 := by rw [n3]; exact nI_ne_m1 (by omega)
    obtain ⟨p0, p1, p2, p3⟩ := prt_h n2 n1
    obtain ⟨_, ⟨v1, v2⟩, v3, v4⟩ := hv e he
    have z : ∀ j, pz (E e 0) j = prt n j := fun j => by
      unfold pz
      rw [if_neg ne, n3, sN_nI n1]
    have lt : ∀ a b : Nat, a ≤ b → b < 2 ^ 31 → (0 : Int32) ≤ nI a ∧ nI a ≤ nI b := fun a b hab hb => ⟨by rw [z_nI, nI_le_iff (by omega) (by omega)]; omega, by rw [nI_le_iff (by omega) (by omega)]; exact hab⟩
    have : k = 1 ∨ k = 2 ∨ k = 3 ∨ k = 4 ∨ k = 5 ∨ k = 6 := by omega
    rcases this with rfl | rfl | rfl | rfl | rfl | rfl
    · have e1 : enV E e 1 = nI (prt n 0) := congrArg nI (z 0)
      rw [e1]
      exact ⟨(lt _ 31 p0 (by omega)).1, (lt _ 31 p0 (by omega)).2, fun w => (ne w).elim⟩
    · have e1 : enV E e 2 = nI (prt n 1) := congrArg nI (z 1)
      rw [e1]
      exact ⟨(lt _ 31 p1 (by omega)).1, (lt _ 31 p1 (by omega)).2, fun w => (ne w).elim⟩
    · have e1 : enV E e 3 = nI (prt n 2) := congrArg nI (z 2)
      rw [e1]
      exact ⟨(lt _ 3 p2 (by omega)).1, (lt _ 3 p2 (by omega)).2, fun w => (ne w).elim⟩
    · have e1 : enV E e 4 = nI (prt n 3) := congrArg nI (z 3)
      rw [e1]
      exact ⟨(lt _ 100 p3 (by omega)).1, (lt _ 100 p3 (by omega)).2, fun w => (ne w).elim⟩
    · exact ⟨v1, v2, fun w => (ne w).elim⟩
    · exact ⟨v3, v4, fun w => (ne w).elim⟩
def sp_L_world : SPc := fun As μ K => match As with
  | [.inr (.inr (19, x))] => ∃ (M : Nat) (W : WS) (U : List WS), WKS M W U ∧ M + 200 < 2 ^ 31 ∧ CXo μ x W U ∧ eV2 (wE W) ∧ ∀ μ', CXo μ' x W U → FRq μ μ' x → K (.inl (some (.inl 1))) μ'
  | _ => False
def ct_L_world : List (Nat × CI) := [(80, ci_L_entity)]
def ci_L_world : CI := (yL_world, cL_world, 7, some .boolean, 1, (9, 224, 1344, 157), 0, [], sp_L_world)
set_option maxRecDepth 100000 in
theorem ck_L_world : chkM ci_L_world RL co_L_world ct_L_world [] true false = true := by decide +kernel
set_option maxHeartbeats 4000000 in
set_option maxRecDepth 100000 in
theorem ms_L_world {g : GPT} {ot : OT} {l : Launch} (hl : l.stackTraces = false) (hot : otOK ot) : MS g ot l ci_L_world := by
  refine ms_of hl RL co_L_world ct_L_world [] true false [2,26,85] 72 ck_L_world (List.forall_mem_cons.mpr ⟨ms_L_entity hl hot, fun _ h => nomatch h⟩) ?_
  intro As μ K h
  simp only [ci_L_world, sp_L_world] at h
  split at h
  case h_2 => exact h.elim
  rename_i x
  obtain ⟨M, W, U, hK, hM, hX, hE, h⟩ := h
  refine ⟨Nat.le_of_ble_eq_true rfl, fun m pc lc st μ' ce sl => CXo μ' x W U ∧ FRq μ μ' x ∧ st = [] ∧ ∃ e, e ≤ 16 ∧ ((pc = 2 ∧ lc = wdL x e ∧ m = 100 * (16 - e) ∧ ce ≤ 14 * e ∧ sl ≤ 84 * e) ∨
    (∃ k is, e < 16 ∧ 1 ≤ k ∧ k ≤ 7 ∧ (is = 1 ∨ (is = 0 ∧ wE W e 0 = -1)) ∧ pc = 26 ∧ lc = wdK x e is k ∧ m = 100 * (16 - e) - 2 * k ∧ ce ≤ 14 * e + 2 * k ∧ sl ≤ 84 * e + 12 * k) ∨
    (∃ k is, e < 16 ∧ 1 ≤ k ∧ k < 7 ∧ (is = 1 ∨ (is = 0 ∧ wE W e 0 = -1)) ∧ pc = 85 ∧ lc = wdM x e is k (enV (wE W) e k) (wLo k) (wHi k) ∧ m = 100 * (16 - e) - 2 * k - 1 ∧ ce ≤ 14 * e + 2 * k + 2 ∧ sl ≤ 84 * e + 12 * k + 12)), ?_, ?_⟩
  · exact ⟨100 * (16 - 0), wdL x 0, ⟨rfl, rfl, trivial⟩, hX, FRq.refl _ _, rfl, 0, Nat.zero_le _, Or.inl ⟨rfl, rfl, rfl, by decide, by decide⟩⟩
  · rintro m pc lc st μ' ce sl ⟨hX', hF, rfl, e, he, (⟨rfl, rfl, rfl, hce, hsl⟩ | ⟨k, is, he2, hk1, hk2, his, rfl, rfl, rfl, hce, hsl⟩ | ⟨k, is, he2, hk1, hk2, his, rfl, rfl, rfl, hce, hsl⟩)⟩
    · refine ⟨fun q => ⟨Or.inr rfl, h μ' hX' hF⟩, fun q => ⟨⟨?_, ?_⟩, M, W, U, hK, hM, hX', fun μ2 hX2 hF2 => ⟨fun q2 => ?_, fun q2 => ?_⟩⟩⟩
      · simp only [icP, ifP, iL, iM1] at q
        try simp only [z_nI] at q
        try simp only [nI_add, nI_mul] at q
        first | rw [nI_le_iff (by omega) (by omega)] at q | rw [nI_lt_iff (by omega) (by omega)] at q | rw [nI_eq_iff (by omega) (by omega)] at q
        show ce + 2 ≤ 224
        omega
      · simp only [icP, ifP, iL, iM1] at q
        try simp only [z_nI] at q
        try simp only [nI_add, nI_mul] at q
        first | rw [nI_le_iff (by omega) (by omega)] at q | rw [nI_lt_iff (by omega) (by omega)] at q | rw [nI_eq_iff (by omega) (by omega)] at q
        show sl + 12 ≤ 1344
        omega
      · simp only [icP, ifP, iL, iM1] at q
        try simp only [z_nI] at q
        try simp only [nI_add, nI_mul] at q
        first | rw [nI_le_iff (by omega) (by omega)] at q | rw [nI_lt_iff (by omega) (by omega)] at q | rw [nI_eq_iff (by omega) (by omega)] at q
        have q2 : ¬ ansR xc0 (oEnt (nI e) (nI 0) W U) = nI 1 := q2
        rw [an_ent (by omega) (by omega)] at q2
        have ne : wE W e 0 = -1 := Classical.byContradiction fun w => q2 (iB_1 w)
        exact ⟨100 * (16 - e) - 2 * 1, wdK x e 0 1, by omega, ⟨rfl, rfl, rfl, rfl, trivial⟩, hX2, hF.trans hF2, rfl, e, he, Or.inr (Or.inl ⟨1, 0, by omega, by omega, by omega, Or.inr ⟨rfl, ne⟩, rfl, rfl, rfl, by omega, by omega⟩)⟩
      · simp only [icP, ifP, iL, iM1] at q
        try simp only [z_nI] at q
        try simp only [nI_add, nI_mul] at q
        first | rw [nI_le_iff (by omega) (by omega)] at q | rw [nI_lt_iff (by omega) (by omega)] at q | rw [nI_eq_iff (by omega) (by omega)] at q
        exact ⟨100 * (16 - e) - 2 * 1, wdK x e 1 1, by omega, ⟨rfl, rfl, rfl, rfl, trivial⟩, hX2, hF.trans hF2, rfl, e, he, Or.inr (Or.inl ⟨1, 1, by omega, by omega, by omega, Or.inl rfl, rfl, rfl, rfl, by omega, by omega⟩)⟩
    · refine ⟨fun q => ?_, fun q => ⟨⟨?_, ?_⟩, M, W, U, hK, hM, hX', fun μ2 hX2 hF2 => ?_⟩⟩
      · simp only [icP, ifP, iL, iM1] at q
        try simp only [z_nI] at q
        try simp only [nI_add, nI_mul] at q
        first | rw [nI_le_iff (by omega) (by omega)] at q | rw [nI_lt_iff (by omega) (by omega)] at q | rw [nI_eq_iff (by omega) (by omega)] at q
        exact ⟨100 * (16 - (e + 1)), wdL x (e + 1), by omega, ⟨rfl, inc_tv e, trivial⟩, hX', hF, rfl, e + 1, by omega, Or.inl ⟨rfl, rfl, rfl, by omega, by omega⟩⟩
      · simp only [icP, ifP, iL, iM1] at q
        try simp only [z_nI] at q
        try simp only [nI_add, nI_mul] at q
        first | rw [nI_le_iff (by omega) (by omega)] at q | rw [nI_lt_iff (by omega) (by omega)] at q | rw [nI_eq_iff (by omega) (by omega)] at q
        show ce + 2 ≤ 224
        omega
      · simp only [icP, ifP, iL, iM1] at q
        try simp only [z_nI] at q
        try simp only [nI_add, nI_mul] at q
        first | rw [nI_le_iff (by omega) (by omega)] at q | rw [nI_lt_iff (by omega) (by omega)] at q | rw [nI_eq_iff (by omega) (by omega)] at q
        show sl + 12 ≤ 1344
        omega
      · simp only [icP, ifP, iL, iM1] at q
        try simp only [z_nI] at q
        try simp only [nI_add, nI_mul] at q
        first | rw [nI_le_iff (by omega) (by omega)] at q | rw [nI_lt_iff (by omega) (by omega)] at q | rw [nI_eq_iff (by omega) (by omega)] at q
        have go : ∀ l u : Int32, l = wLo k → u = wHi k → ∃ n' lc', n' < 100 * (16 - e) - 2 * k ∧ subL lc' (wdM x e is k (ansR xc0 (oEnt (nI e) (nI k) W U)) l u) ∧ CXo μ2 x W U ∧ FRq μ μ2 x ∧ ([] : List TV) = [] ∧ ∃ e, e ≤ 16 ∧ ((85 = 2 ∧ lc' = wdL x e ∧ n' = 100 * (16 - e) ∧ ce + 2 ≤ 14 * e ∧ sl + 12 ≤ 84 * e) ∨
            (∃ k is, e < 16 ∧ 1 ≤ k ∧ k ≤ 7 ∧ (is = 1 ∨ (is = 0 ∧ wE W e 0 = -1)) ∧ 85 = 26 ∧ lc' = wdK x e is k ∧ n' = 100 * (16 - e) - 2 * k ∧ ce + 2 ≤ 14 * e + 2 * k ∧ sl + 12 ≤ 84 * e + 12 * k) ∨
            (∃ k is, e < 16 ∧ 1 ≤ k ∧ k < 7 ∧ (is = 1 ∨ (is = 0 ∧ wE W e 0 = -1)) ∧ 85 = 85 ∧ lc' = wdM x e is k (enV (wE W) e k) (wLo k) (wHi k) ∧ n' = 100 * (16 - e) - 2 * k - 1 ∧ ce + 2 ≤ 14 * e + 2 * k + 2 ∧ sl + 12 ≤ 84 * e + 12 * k + 12)) := by
          intro l u hl hu
          rw [hl, hu, an_ent (by omega) (by omega)]
          exact ⟨100 * (16 - e) - 2 * k - 1, _, by omega, subL_rf, hX2, hF.trans hF2, rfl, e, he, Or.inr (Or.inr ⟨k, is, he2, hk1, by omega, his, rfl, rfl, rfl, by omega, by omega⟩)⟩
        have : k = 1 ∨ k = 2 ∨ k = 3 ∨ k = 4 ∨ k = 5 ∨ k = 6 := by omega
        rcases this with rfl | rfl | rfl | rfl | rfl | rfl
        · exact ⟨fun w => absurd (show Int32.ofInt 5 ≤ nI 1 from w) (by decide), fun _ => ⟨fun w => absurd (show Int32.ofInt 3 ≤ nI 1 from w) (by decide), fun _ => go _ _ rfl rfl⟩⟩
        · exact ⟨fun w => absurd (show Int32.ofInt 5 ≤ nI 2 from w) (by decide), fun _ => ⟨fun w => absurd (show Int32.ofInt 3 ≤ nI 2 from w) (by decide), fun _ => go _ _ rfl rfl⟩⟩
        · exact ⟨fun w => absurd (show Int32.ofInt 5 ≤ nI 3 from w) (by decide), fun _ => ⟨fun _ => ⟨fun w => absurd (show nI 3 = Int32.ofInt 3 from rfl) w, fun _ => go _ _ rfl rfl⟩, fun w => absurd (show Int32.ofInt 3 ≤ nI 3 by decide) w⟩⟩
        · exact ⟨fun w => absurd (show Int32.ofInt 5 ≤ nI 4 from w) (by decide), fun _ => ⟨fun _ => ⟨fun _ => ⟨fun w => absurd (show nI 4 = Int32.ofInt 4 from rfl) w, fun _ => go _ _ rfl rfl⟩, fun w => absurd (show ¬ nI 4 = Int32.ofInt 3 by decide) w⟩, fun w => absurd (show Int32.ofInt 3 ≤ nI 4 by decide) w⟩⟩
        · exact ⟨fun _ => ⟨fun _ => ⟨fun _ => ⟨fun _ => go _ _ rfl rfl, fun w => absurd (show ¬ nI 5 = Int32.ofInt 4 by decide) w⟩, fun w => absurd (show ¬ nI 5 = Int32.ofInt 3 by decide) w⟩, fun w => absurd (show Int32.ofInt 3 ≤ nI 5 by decide) w⟩, fun w => absurd (show Int32.ofInt 5 ≤ nI 5 by decide) w⟩
        · exact ⟨fun _ => ⟨fun _ => ⟨fun _ => ⟨fun _ => go _ _ rfl rfl, fun w => absurd (show ¬ nI 6 = Int32.ofInt 4 by decide) w⟩, fun w => absurd (show ¬ nI 6 = Int32.ofInt 3 by decide) w⟩, fun w => absurd (show Int32.ofInt 3 ≤ nI 6 by decide) w⟩, fun w => absurd (show Int32.ofInt 5 ≤ nI 6 by decide) w⟩
    · obtain ⟨b1, b2, b3⟩ := wd_in hE hK.1.1 he2 k hk1 (by omega)
      have nxt : ∃ n' lc', n' < 100 * (16 - e) - 2 * k - 1 ∧ subL lc' [some (.inr (.inr (19, x))), some (.inl (nI e)), some (.inl is), some (.inl (nI k + Int32.ofInt 1)), some (.inl (enV (wE W) e k)), some (.inl (wLo k)), some (.inl (wHi k))] ∧ CXo μ' x W U ∧ FRq μ μ' x ∧ ([] : List TV) = [] ∧ ∃ e, e ≤ 16 ∧ ((26 = 2 ∧ lc' = wdL x e ∧ n' = 100 * (16 - e) ∧ ce ≤ 14 * e ∧ sl ≤ 84 * e) ∨
          (∃ k is, e < 16 ∧ 1 ≤ k ∧ k ≤ 7 ∧ (is = 1 ∨ (is = 0 ∧ wE W e 0 = -1)) ∧ 26 = 26 ∧ lc' = wdK x e is k ∧ n' = 100 * (16 - e) - 2 * k ∧ ce ≤ 14 * e + 2 * k ∧ sl ≤ 84 * e + 12 * k) ∨
          (∃ k is, e < 16 ∧ 1 ≤ k ∧ k < 7 ∧ (is = 1 ∨ (is = 0 ∧ wE W e 0 = -1)) ∧ 26 = 85 ∧ lc' = wdM x e is k (enV (wE W) e k) (wLo k) (wHi k) ∧ n' = 100 * (16 - e) - 2 * k - 1 ∧ ce ≤ 14 * e + 2 * k + 2 ∧ sl ≤ 84 * e + 12 * k + 12)) :=
        ⟨100 * (16 - e) - 2 * (k + 1), wdK x e is (k + 1), by omega, ⟨rfl, rfl, rfl, inc_tv k, trivial⟩, hX', hF, rfl, e, he, Or.inr (Or.inl ⟨k + 1, is, he2, by omega, by omega, his, rfl, rfl, rfl, by omega, by omega⟩)⟩
      refine ⟨fun w => absurd b1 (Int32.not_le.mpr w), fun _ => ⟨fun w => absurd b2 (Int32.not_le.mpr w), fun _ => ⟨fun _ => nxt, fun w => ⟨fun _ => nxt, fun w2 => ?_⟩⟩⟩⟩
      rcases his with rfl | ⟨rfl, ne⟩
      · exact absurd (by decide : ¬ (1 : Int32) = 0) w
      · exact absurd (b3 ne) w2
