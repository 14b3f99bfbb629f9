/-! THE LAW: the class beside the reference, call for call. -/
theorem law_g {k n : Nat} (hn : n ≤ 3072) (hk : 6 * k ≤ 3072) (q : ¬ nI (6 * k) > Int32.ofNat n - 6) : 6 * k + 6 ≤ n := by
  by_cases w : 6 ≤ n
  · obtain ⟨m, rfl⟩ : ∃ m, n = m + 6 := ⟨n - 6, by omega⟩
    have e : Int32.ofNat (m + 6) - 6 = nI m := by
      show nI (m + 6) - 6 = nI m
      rw [← nI_add]
      show nI m + 6 - 6 = nI m
      exact Int32.add_sub_cancel _ _
    rw [e] at q
    have : ¬ m < 6 * k := fun w2 => q ((nI_lt_iff (by omega) (by omega)).mpr w2)
    omega
  · exfalso
    apply q
    have h2 : ∀ n : Fin 6, Int32.ofNat n.1 - 6 < 0 := by decide
    have h0 : (0 : Int32) ≤ nI (6 * k) := by
      rw [Int32.le_iff_toInt_le, nI_toInt (by omega)]
      show (0 : Int) ≤ _
      omega
    exact Int32.lt_of_lt_of_le (h2 ⟨n, by omega⟩) h0
def lwL (s x k : Nat) : LC := [some (.inr (.inr (90, s))), some (.inr (.inr (19, x))), some (.inr (.inr (20, x + 1959))), some (.inr (.inr (7, x + 1965))), some (.inl (nI (6 * k))), none, none]
/-- class and reference stand for one state -/
def LI (μ : MM) (x k : Nat) : Prop := x + 1966 ≤ μ.2.2.2.2 ∧ ∃ (M : Nat) (W : WS) (U : List WS), M ≤ 50 * k ∧ WKS M W U ∧ CXo μ x W U ∧ REF μ (x + 1959) W U
theorem LI.next {μ μ1 μ2 : MM} {x k : Nat} {M : Nat} {W : WS} {U : List WS} {R : RS4} (hz : x + 1966 ≤ μ.2.2.2.2) (hM : M ≤ 50 * k) (hK : KPT M R) (hK0 : WKS M W U) (hO : WO R W U μ μ1 x (x + 1965)) (h1 : R.1 = 0 → REF μ2 (x + 1959) R.2.2.1 R.2.2.2) (h2 : ¬ R.1 = 0 → REF μ2 (x + 1959) W U) (hF : FRM μ1 μ2 (x + 1959)) : LI μ2 x (k + 1) := by
  obtain ⟨o1, o2, o3, o4, o5⟩ := hO
  have hc : ∀ {V : WS} {Q : List WS}, CXo μ1 x V Q → CXo μ2 x V Q := fun h => ⟨h.1.keep (fun z z1 z2 => hF.1 z (by omega)) fun z z1 z2 => by rw [hF.2.1], h.2.keep (fun z z1 z2 => hF.1 z (by omega)) fun z z1 z2 => by rw [hF.2.1]⟩
  refine ⟨by rw [hF.2.2.2]; omega, ?_⟩
  rcases o1 with ⟨h0, hX, _⟩ | ⟨h0, hX⟩
  · exact ⟨M + 50, _, _, by omega, hK, hc hX, h1 h0⟩
  · exact ⟨M, W, U, by omega, hK0, hc hX, h2 h0⟩
theorem REF.fr {μ μ1 : MM} {R : RS4} {W : WS} {U : List WS} {x o : Nat} (h : REF μ (x + 1959) W U) (hO : WO R W U μ μ1 x o) : REF μ1 (x + 1959) W U := by
  have e : ∀ z, x + 1959 ≤ z → μ1.1 z = μ.1 z := fun z hz => (hO.2.1 z (Or.inr hz)).1
  obtain ⟨h1, h2, h3, h4⟩ := h
  exact ⟨by rw [e _ (by omega)]; exact h1, h2, by rw [e _ (by omega)]; exact h3, fun j V hj => by rw [e _ (by omega)]; exact h4 j V hj⟩
theorem lroom1 {ce a k : Nat} (h : ce ≤ 2000 + 5 * k) (hk : k ≤ 511) (ha : a ≤ 5) : ce + a ≤ 601024 := by omega
theorem lroom2 {sl a k : Nat} (h : sl ≤ 63000 + 30 * k) (hk : k ≤ 511) (ha : a ≤ 30) : sl + a ≤ 7293034 := by omega
def sp_L_law : SPc := fun As μ K => match As with
  | [.inr (.inr (90, s))] => ∀ μ', K (.inl (some (.inl 1))) μ'
  | _ => False
def ct_L_law : List (Nat × CI) := [(78, ci_X9_init), (81, ci_X10_init), (82, ci_L_place), (87, ci_X10_place), (88, ci_X10_thrown), (91, ci_L_setVelocity), (94, ci_X10_setVelocity), (95, ci_L_setHealth), (98, ci_X10_setHealth), (99, ci_L_destroy), (102, ci_X10_destroy), (103, ci_L_entity), (105, ci_X10_entity), (106, ci_L_connect), (108, ci_X10_connect), (109, ci_L_look), (112, ci_X10_look), (113, ci_L_disconnect), (115, ci_X10_disconnect), (116, ci_L_setTimes), (118, ci_X10_setTimes), (119, ci_L_lose), (121, ci_X10_lose), (122, ci_L_tick), (124, ci_X10_tick), (125, ci_X9_time), (128, ci_X10_time), (129, ci_L_copy), (131, ci_X10_copy), (132, ci_L_kept), (134, ci_X10_kept), (135, ci_L_count), (137, ci_X10_count), (138, ci_L_stale), (140, ci_X10_stale), (141, ci_L_packet), (143, ci_X10_packet), (144, ci_L_entry), (146, ci_X10_entry), (147, ci_L_price), (149, ci_X10_price), (150, ci_L_undo), (153, ci_X10_undo), (154, ci_X9_digest), (158, ci_X10_digest)]
def ci_L_law : CI := (yL_law, cL_law, 7, some .boolean, 1, (9, 601024, 7293034, 204), 0, [], sp_L_law)
theorem all_cut {α : Type} {f : α → Bool} {l : List α} (n : Nat) (h1 : (l.take n).all f = true) (h2 : (l.drop n).all f = true) : l.all f = true := by
  rw [← List.take_append_drop n l, List.all_append, h1, h2]
  rfl
set_option maxRecDepth 100000 in
theorem cl_0 : ((co_L_law.drop 0).take 50).all (chkE RL ci_L_law.2.1 ct_L_law ci_L_law.2.2.2.2.2.1.1 ci_L_law.2.2.2.2.2.1.2.2.2 false true ci_L_law.2.2.2.1) = true := by decide +kernel
set_option maxRecDepth 100000 in
theorem cl_50 : ((co_L_law.drop 50).take 50).all (chkE RL ci_L_law.2.1 ct_L_law ci_L_law.2.2.2.2.2.1.1 ci_L_law.2.2.2.2.2.1.2.2.2 false true ci_L_law.2.2.2.1) = true := by decide +kernel
set_option maxRecDepth 100000 in
theorem cl_100 : ((co_L_law.drop 100).take 50).all (chkE RL ci_L_law.2.1 ct_L_law ci_L_law.2.2.2.2.2.1.1 ci_L_law.2.2.2.2.2.1.2.2.2 false true ci_L_law.2.2.2.1) = true := by decide +kernel
set_option maxRecDepth 100000 in
theorem cl_150 : ((co_L_law.drop 150).take 50).all (chkE RL ci_L_law.2.1 ct_L_law ci_L_law.2.2.2.2.2.1.1 ci_L_law.2.2.2.2.2.1.2.2.2 false true ci_L_law.2.2.2.1) = true := by decide +kernel
set_option maxRecDepth 100000 in
theorem cl_200 : ((co_L_law.drop 200).take 50).all (chkE RL ci_L_law.2.1 ct_L_law ci_L_law.2.2.2.2.2.1.1 ci_L_law.2.2.2.2.2.1.2.2.2 false true ci_L_law.2.2.2.1) = true := by decide +kernel
set_option maxRecDepth 100000 in
theorem cl_250 : ((co_L_law.drop 250).take 50).all (chkE RL ci_L_law.2.1 ct_L_law ci_L_law.2.2.2.2.2.1.1 ci_L_law.2.2.2.2.2.1.2.2.2 false true ci_L_law.2.2.2.1) = true := by decide +kernel
set_option maxRecDepth 100000 in
theorem cl_300 : ((co_L_law.drop 300).take 50).all (chkE RL ci_L_law.2.1 ct_L_law ci_L_law.2.2.2.2.2.1.1 ci_L_law.2.2.2.2.2.1.2.2.2 false true ci_L_law.2.2.2.1) = true := by decide +kernel
set_option maxRecDepth 100000 in
theorem cl_350 : ((co_L_law.drop 350).take 50).all (chkE RL ci_L_law.2.1 ct_L_law ci_L_law.2.2.2.2.2.1.1 ci_L_law.2.2.2.2.2.1.2.2.2 false true ci_L_law.2.2.2.1) = true := by decide +kernel
set_option maxRecDepth 100000 in
theorem cl_400 : ((co_L_law.drop 400).take 50).all (chkE RL ci_L_law.2.1 ct_L_law ci_L_law.2.2.2.2.2.1.1 ci_L_law.2.2.2.2.2.1.2.2.2 false true ci_L_law.2.2.2.1) = true := by decide +kernel
set_option maxRecDepth 100000 in
theorem cl_450 : ((co_L_law.drop 450).take 50).all (chkE RL ci_L_law.2.1 ct_L_law ci_L_law.2.2.2.2.2.1.1 ci_L_law.2.2.2.2.2.1.2.2.2 false true ci_L_law.2.2.2.1) = true := by decide +kernel
set_option maxRecDepth 100000 in
theorem cl_500 : ((co_L_law.drop 500).take 50).all (chkE RL ci_L_law.2.1 ct_L_law ci_L_law.2.2.2.2.2.1.1 ci_L_law.2.2.2.2.2.1.2.2.2 false true ci_L_law.2.2.2.1) = true := by decide +kernel
set_option maxRecDepth 100000 in
theorem cl_550 : ((co_L_law.drop 550).take 50).all (chkE RL ci_L_law.2.1 ct_L_law ci_L_law.2.2.2.2.2.1.1 ci_L_law.2.2.2.2.2.1.2.2.2 false true ci_L_law.2.2.2.1) = true := by decide +kernel
set_option maxRecDepth 100000 in
theorem cl_600 : ((co_L_law.drop 600).take 50).all (chkE RL ci_L_law.2.1 ct_L_law ci_L_law.2.2.2.2.2.1.1 ci_L_law.2.2.2.2.2.1.2.2.2 false true ci_L_law.2.2.2.1) = true := by decide +kernel
set_option maxRecDepth 100000 in
theorem cl_650 : ((co_L_law.drop 650).take 50).all (chkE RL ci_L_law.2.1 ct_L_law ci_L_law.2.2.2.2.2.1.1 ci_L_law.2.2.2.2.2.1.2.2.2 false true ci_L_law.2.2.2.1) = true := by decide +kernel
set_option maxRecDepth 100000 in
theorem cl_700 : ((co_L_law.drop 700).take 50).all (chkE RL ci_L_law.2.1 ct_L_law ci_L_law.2.2.2.2.2.1.1 ci_L_law.2.2.2.2.2.1.2.2.2 false true ci_L_law.2.2.2.1) = true := by decide +kernel
set_option maxRecDepth 100000 in
theorem cl_750 : ((co_L_law.drop 750).take 50).all (chkE RL ci_L_law.2.1 ct_L_law ci_L_law.2.2.2.2.2.1.1 ci_L_law.2.2.2.2.2.1.2.2.2 false true ci_L_law.2.2.2.1) = true := by decide +kernel
set_option maxRecDepth 100000 in
theorem cl_800 : ((co_L_law.drop 800).take 50).all (chkE RL ci_L_law.2.1 ct_L_law ci_L_law.2.2.2.2.2.1.1 ci_L_law.2.2.2.2.2.1.2.2.2 false true ci_L_law.2.2.2.1) = true := by decide +kernel
set_option maxRecDepth 100000 in
theorem cl_850 : ((co_L_law.drop 850).take 50).all (chkE RL ci_L_law.2.1 ct_L_law ci_L_law.2.2.2.2.2.1.1 ci_L_law.2.2.2.2.2.1.2.2.2 false true ci_L_law.2.2.2.1) = true := by decide +kernel
set_option maxRecDepth 100000 in
theorem cl_900 : ((co_L_law.drop 900).take 50).all (chkE RL ci_L_law.2.1 ct_L_law ci_L_law.2.2.2.2.2.1.1 ci_L_law.2.2.2.2.2.1.2.2.2 false true ci_L_law.2.2.2.1) = true := by decide +kernel
set_option maxRecDepth 100000 in
theorem cl_950 : ((co_L_law.drop 950).take 50).all (chkE RL ci_L_law.2.1 ct_L_law ci_L_law.2.2.2.2.2.1.1 ci_L_law.2.2.2.2.2.1.2.2.2 false true ci_L_law.2.2.2.1) = true := by decide +kernel
theorem ca_950 : (co_L_law.drop 950).all (chkE RL ci_L_law.2.1 ct_L_law ci_L_law.2.2.2.2.2.1.1 ci_L_law.2.2.2.2.2.1.2.2.2 false true ci_L_law.2.2.2.1) = true := all_cut 50 cl_950 (by rw [List.drop_drop]; decide +kernel)
theorem ca_900 : (co_L_law.drop 900).all (chkE RL ci_L_law.2.1 ct_L_law ci_L_law.2.2.2.2.2.1.1 ci_L_law.2.2.2.2.2.1.2.2.2 false true ci_L_law.2.2.2.1) = true := all_cut 50 cl_900 (by rw [List.drop_drop]; exact ca_950)
theorem ca_850 : (co_L_law.drop 850).all (chkE RL ci_L_law.2.1 ct_L_law ci_L_law.2.2.2.2.2.1.1 ci_L_law.2.2.2.2.2.1.2.2.2 false true ci_L_law.2.2.2.1) = true := all_cut 50 cl_850 (by rw [List.drop_drop]; exact ca_900)
theorem ca_800 : (co_L_law.drop 800).all (chkE RL ci_L_law.2.1 ct_L_law ci_L_law.2.2.2.2.2.1.1 ci_L_law.2.2.2.2.2.1.2.2.2 false true ci_L_law.2.2.2.1) = true := all_cut 50 cl_800 (by rw [List.drop_drop]; exact ca_850)
theorem ca_750 : (co_L_law.drop 750).all (chkE RL ci_L_law.2.1 ct_L_law ci_L_law.2.2.2.2.2.1.1 ci_L_law.2.2.2.2.2.1.2.2.2 false true ci_L_law.2.2.2.1) = true := all_cut 50 cl_750 (by rw [List.drop_drop]; exact ca_800)
theorem ca_700 : (co_L_law.drop 700).all (chkE RL ci_L_law.2.1 ct_L_law ci_L_law.2.2.2.2.2.1.1 ci_L_law.2.2.2.2.2.1.2.2.2 false true ci_L_law.2.2.2.1) = true := all_cut 50 cl_700 (by rw [List.drop_drop]; exact ca_750)
theorem ca_650 : (co_L_law.drop 650).all (chkE RL ci_L_law.2.1 ct_L_law ci_L_law.2.2.2.2.2.1.1 ci_L_law.2.2.2.2.2.1.2.2.2 false true ci_L_law.2.2.2.1) = true := all_cut 50 cl_650 (by rw [List.drop_drop]; exact ca_700)
theorem ca_600 : (co_L_law.drop 600).all (chkE RL ci_L_law.2.1 ct_L_law ci_L_law.2.2.2.2.2.1.1 ci_L_law.2.2.2.2.2.1.2.2.2 false true ci_L_law.2.2.2.1) = true := all_cut 50 cl_600 (by rw [List.drop_drop]; exact ca_650)
theorem ca_550 : (co_L_law.drop 550).all (chkE RL ci_L_law.2.1 ct_L_law ci_L_law.2.2.2.2.2.1.1 ci_L_law.2.2.2.2.2.1.2.2.2 false true ci_L_law.2.2.2.1) = true := all_cut 50 cl_550 (by rw [List.drop_drop]; exact ca_600)
theorem ca_500 : (co_L_law.drop 500).all (chkE RL ci_L_law.2.1 ct_L_law ci_L_law.2.2.2.2.2.1.1 ci_L_law.2.2.2.2.2.1.2.2.2 false true ci_L_law.2.2.2.1) = true := all_cut 50 cl_500 (by rw [List.drop_drop]; exact ca_550)
theorem ca_450 : (co_L_law.drop 450).all (chkE RL ci_L_law.2.1 ct_L_law ci_L_law.2.2.2.2.2.1.1 ci_L_law.2.2.2.2.2.1.2.2.2 false true ci_L_law.2.2.2.1) = true := all_cut 50 cl_450 (by rw [List.drop_drop]; exact ca_500)
theorem ca_400 : (co_L_law.drop 400).all (chkE RL ci_L_law.2.1 ct_L_law ci_L_law.2.2.2.2.2.1.1 ci_L_law.2.2.2.2.2.1.2.2.2 false true ci_L_law.2.2.2.1) = true := all_cut 50 cl_400 (by rw [List.drop_drop]; exact ca_450)
theorem ca_350 : (co_L_law.drop 350).all (chkE RL ci_L_law.2.1 ct_L_law ci_L_law.2.2.2.2.2.1.1 ci_L_law.2.2.2.2.2.1.2.2.2 false true ci_L_law.2.2.2.1) = true := all_cut 50 cl_350 (by rw [List.drop_drop]; exact ca_400)
theorem ca_300 : (co_L_law.drop 300).all (chkE RL ci_L_law.2.1 ct_L_law ci_L_law.2.2.2.2.2.1.1 ci_L_law.2.2.2.2.2.1.2.2.2 false true ci_L_law.2.2.2.1) = true := all_cut 50 cl_300 (by rw [List.drop_drop]; exact ca_350)
theorem ca_250 : (co_L_law.drop 250).all (chkE RL ci_L_law.2.1 ct_L_law ci_L_law.2.2.2.2.2.1.1 ci_L_law.2.2.2.2.2.1.2.2.2 false true ci_L_law.2.2.2.1) = true := all_cut 50 cl_250 (by rw [List.drop_drop]; exact ca_300)
theorem ca_200 : (co_L_law.drop 200).all (chkE RL ci_L_law.2.1 ct_L_law ci_L_law.2.2.2.2.2.1.1 ci_L_law.2.2.2.2.2.1.2.2.2 false true ci_L_law.2.2.2.1) = true := all_cut 50 cl_200 (by rw [List.drop_drop]; exact ca_250)
theorem ca_150 : (co_L_law.drop 150).all (chkE RL ci_L_law.2.1 ct_L_law ci_L_law.2.2.2.2.2.1.1 ci_L_law.2.2.2.2.2.1.2.2.2 false true ci_L_law.2.2.2.1) = true := all_cut 50 cl_150 (by rw [List.drop_drop]; exact ca_200)
theorem ca_100 : (co_L_law.drop 100).all (chkE RL ci_L_law.2.1 ct_L_law ci_L_law.2.2.2.2.2.1.1 ci_L_law.2.2.2.2.2.1.2.2.2 false true ci_L_law.2.2.2.1) = true := all_cut 50 cl_100 (by rw [List.drop_drop]; exact ca_150)
theorem ca_50 : (co_L_law.drop 50).all (chkE RL ci_L_law.2.1 ct_L_law ci_L_law.2.2.2.2.2.1.1 ci_L_law.2.2.2.2.2.1.2.2.2 false true ci_L_law.2.2.2.1) = true := all_cut 50 cl_50 (by rw [List.drop_drop]; exact ca_100)
theorem ca_0 : (co_L_law.drop 0).all (chkE RL ci_L_law.2.1 ct_L_law ci_L_law.2.2.2.2.2.1.1 ci_L_law.2.2.2.2.2.1.2.2.2 false true ci_L_law.2.2.2.1) = true := all_cut 50 cl_0 (by rw [List.drop_drop]; exact ca_50)
theorem ck_L_law : chkM ci_L_law RL co_L_law ct_L_law [] true false = true := by
  have h : co_L_law.all (chkE RL ci_L_law.2.1 ct_L_law ci_L_law.2.2.2.2.2.1.1 ci_L_law.2.2.2.2.2.1.2.2.2 false true ci_L_law.2.2.2.1) = true := ca_0
  unfold chkM
  rw [h]
  decide +kernel
