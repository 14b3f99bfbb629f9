/-! THE REFERENCE, its public methods on clients. -/
theorem clr_o {f : Nat → Int32} {c k : Nat} (h : k < 51 + 2406 * c ∨ 51 + 2406 * c + 2406 ≤ k) : clrF f c k = f k := by
  unfold clrF
  rw [if_neg (by omega)]
theorem clr_0 {f : Nat → Int32} {c k : Nat} (h : k < 2406) (hk : ¬ ∃ e, e < 16 ∧ k = (1958 + 3 * e) + 2) : clrF f c (51 + 2406 * c + k) = 0 := by
  unfold clrF
  rw [if_pos (by omega), if_neg fun ⟨e, he, hq⟩ => hk ⟨e, he, by omega⟩]
theorem clr_RC (f : Nat → Int32) (c : Nat) : RC (clrF f c) c cs0 := by
  refine ⟨fun k hk => clr_0 (by omega) fun ⟨e, he, hq⟩ => by omega, ⟨clr_0 (by omega) fun ⟨e, he, hq⟩ => by omega, Nat.zero_le _, fun i q hq => by cases hq⟩, ⟨clr_0 (by omega) fun ⟨e, he, hq⟩ => by omega, Nat.zero_le _, fun i q hq => by cases hq⟩, fun e he k hk => ?_, fun e he => ⟨?_, Nat.zero_le _, fun i q hq => by cases hq⟩⟩
  · show clrF f c (51 + 2406 * c + (1958 + 3 * e) + k) = if k = 2 then -1 else 0
    by_cases q : k = 2
    · rw [if_pos q, q]
      unfold clrF
      rw [if_pos (by omega), if_pos ⟨e, he, rfl⟩]
    · rw [if_neg q, Nat.add_assoc]
      exact clr_0 (by omega) fun ⟨x, hx, hq⟩ => by omega
  · exact clr_0 (by omega) fun ⟨x, hx, hq⟩ => by omega
theorem csN_eq (x y r b : Int32) : setS (setS (setS (setS (setS cs0 0 1) 1 x) 2 y) 3 r) 4 b = csN x y r b := by
  refine Prod.ext ?_ rfl
  funext k
  show upd (upd (upd (upd (upd (fun _ => 0) 0 1) 1 x) 2 y) 3 r) 4 b k = _
  match k with
  | 0 => rfl
  | 1 => rfl
  | 2 => rfl
  | 3 => rfl
  | 4 => rfl
  | k + 5 =>
    rw [upd_ne _ _ (by omega), upd_ne _ _ (by omega), upd_ne _ _ (by omega), upd_ne _ _ (by omega), upd_ne _ _ (by omega)]
    rfl
theorem REF.c0 {μ : MM} {r : Nat} {W : WS} {U : List WS} (h : REF μ r W U) {j : Nat} (hj : j < 3) : μ.1 (r + 1) (51 + 2406 * j) = cS (wC W j) 0 := (h.1.2.2 j hj).1 0 (by omega)
def sp_X10_connect : SPc := fun As μ K => match As with
  | [.inr (.inr (20, r)), .inl c, .inl x, .inl y, .inl z, .inl b] => ∃ (W : WS) (U : List WS), REF μ r W U ∧ refK (oCon c x y z b W U) μ r W U K
  | _ => False
def ct_X10_connect : List (Nat × CI) := [(86, ci_X10_isClient), (61, ci_X10_isPosition), (49, ci_X10_in), (65, ci_X10_keep), (89, ci_X10_isConnected), (26, ci_X10_clear), (77, ci_X10_cell), (92, ci_X10_aim)]
def ci_X10_connect : CI := (yX10_connect, cX10_connect, 7, some .boolean, 6, (3, 0, 0, 64), 19, [], sp_X10_connect)
set_option maxRecDepth 100000 in
theorem ck_X10_connect : chkM ci_X10_connect RX10 co_X10_connect ct_X10_connect [] true false = true := by decide +kernel
set_option maxHeartbeats 4000000 in
set_option maxRecDepth 100000 in
theorem ms_X10_connect {g : GPT} {ot : OT} {l : Launch} (hl : l.stackTraces = false) : MS g ot l ci_X10_connect := by
  refine ms_of hl RX10 co_X10_connect ct_X10_connect [] true false [48] 65 ck_X10_connect (List.forall_mem_cons.mpr ⟨ms_X10_isClient hl, List.forall_mem_cons.mpr ⟨ms_X10_isPosition hl, List.forall_mem_cons.mpr ⟨ms_X10_in hl, List.forall_mem_cons.mpr ⟨ms_X10_keep hl, List.forall_mem_cons.mpr ⟨ms_X10_isConnected hl, List.forall_mem_cons.mpr ⟨ms_X10_clear hl, List.forall_mem_cons.mpr ⟨ms_X10_cell hl, List.forall_mem_cons.mpr ⟨ms_X10_aim hl, fun _ h => nomatch h⟩⟩⟩⟩⟩⟩⟩⟩) ?_
  intro As μ K h
  simp only [ci_X10_connect, sp_X10_connect] at h
  split at h
  case h_2 => exact h.elim
  rename_i r c x y z b
  obtain ⟨W, U, hR, h⟩ := h
  refine ⟨Nat.le_of_ble_eq_true rfl, fun m pc lc st μ' ce sl => m = 0 ∧ pc = 48 ∧ lc = [some (.inr (.inr (20, r))), some (.inl c), some (.inl x), some (.inl y), some (.inl z), some (.inl b), none] ∧ joinP (oCon c x y z b W U) (isC c ∧ isP x y ∧ inR 1 31 z ∧ inR 12 64 b) W U st r ∧ μ = μ' ∧ ce = 0 ∧ sl = 0, ?_, ?_⟩
  · refine ⟨fun q => ⟨fun q2 => ?_, fun q2 => ⟨fun q3 => ?_, fun q3 => ⟨fun q4 => ?_, fun q4 => ?_⟩⟩⟩, fun q => ?_⟩
    · exact ⟨0, [some (.inr (.inr (20, r))), some (.inl c), some (.inl x), some (.inl y), some (.inl z), some (.inl b), none], ⟨rfl, rfl, rfl, rfl, rfl, rfl, trivial⟩, rfl, rfl, rfl, Or.inr ⟨2, by omega, by omega, oCon_2 _ _ _ _ _ W U (nn (iB_y q)) (fun w => iB_n q2 w.1), rfl⟩, rfl, rfl, rfl⟩
    · exact ⟨0, [some (.inr (.inr (20, r))), some (.inl c), some (.inl x), some (.inl y), some (.inl z), some (.inl b), none], ⟨rfl, rfl, rfl, rfl, rfl, rfl, trivial⟩, rfl, rfl, rfl, Or.inr ⟨2, by omega, by omega, oCon_2 _ _ _ _ _ W U (nn (iB_y q)) (fun w => iB_n q3 w.2.1), rfl⟩, rfl, rfl, rfl⟩
    · exact ⟨0, [some (.inr (.inr (20, r))), some (.inl c), some (.inl x), some (.inl y), some (.inl z), some (.inl b), none], ⟨rfl, rfl, rfl, rfl, rfl, rfl, trivial⟩, rfl, rfl, rfl, Or.inr ⟨2, by omega, by omega, oCon_2 _ _ _ _ _ W U (nn (iB_y q)) (fun w => iB_n q4 w.2.2), rfl⟩, rfl, rfl, rfl⟩
    · exact ⟨0, [some (.inr (.inr (20, r))), some (.inl c), some (.inl x), some (.inl y), some (.inl z), some (.inl b), none], ⟨rfl, rfl, rfl, rfl, rfl, rfl, trivial⟩, rfl, rfl, rfl, Or.inl ⟨⟨iB_y q, iB_y q2, iB_y q3, iB_y q4⟩, rfl⟩, rfl, rfl, rfl⟩
    · exact ⟨0, [some (.inr (.inr (20, r))), some (.inl c), some (.inl x), some (.inl y), some (.inl z), some (.inl b), none], ⟨rfl, rfl, rfl, rfl, rfl, rfl, trivial⟩, rfl, rfl, rfl, Or.inr ⟨1, by omega, by omega, oCon_1 _ _ _ _ _ W U (iB_nn q), rfl⟩, rfl, rfl, rfl⟩
  · rintro m pc lc st μ' ce sl ⟨rfl, rfl, rfl, (⟨⟨E, P, P2, P3⟩, rfl⟩ | ⟨cd, d1, d2, d3, rfl⟩), rfl, rfl, rfl⟩
    · obtain ⟨j, hj, rfl, sj⟩ := c_nat E
      have ex := oCon_0 (nI j) x y z b W U (nn E) (nn ⟨P, P2, P3⟩)
      rw [sj] at ex
      rw [ex] at h
      refine ⟨fun q => ⟨W, U, hR.cod (nI 0), fun ν hν h5 hr1 hf => ⟨j, rfl, hj, j, rfl, hj, j, 0, rfl, rfl, 51 + 2406 * j + 0, rfl, by omega, j, rfl, hj, j, 4, rfl, rfl, 51 + 2406 * j + 4, rfl, by omega, iB_01 _, ?_⟩⟩, fun q => absurd (cod5 μ r (nI 0)) q⟩
      have c0 := hν.c0 hj
      rw [c0]
      have e3 : ((up2 (rW (up2 (rW ν r (clrF (ν.1 (r + 1)) j)).1 (r + 1) (51 + 2406 * j + 0) (Int32.ofInt 1), (rW ν r (clrF (ν.1 (r + 1)) j)).2) r (upd (upd (upd ((up2 (rW ν r (clrF (ν.1 (r + 1)) j)).1 (r + 1) (51 + 2406 * j + 0) (Int32.ofInt 1)) (r + 1)) (51 + 2406 * j + 1) x) (51 + 2406 * j + 2) y) (51 + 2406 * j + 3) z)).1 (r + 1) (51 + 2406 * j + 4) b, (rW (up2 (rW ν r (clrF (ν.1 (r + 1)) j)).1 (r + 1) (51 + 2406 * j + 0) (Int32.ofInt 1), (rW ν r (clrF (ν.1 (r + 1)) j)).2) r (upd (upd (upd ((up2 (rW ν r (clrF (ν.1 (r + 1)) j)).1 (r + 1) (51 + 2406 * j + 0) (Int32.ofInt 1)) (r + 1)) (51 + 2406 * j + 1) x) (51 + 2406 * j + 2) y) (51 + 2406 * j + 3) z)).2) : MM) = rW ν r (upd (upd (upd (upd (upd (clrF (ν.1 (r + 1)) j) (51 + 2406 * j + 0) 1) (51 + 2406 * j + 1) x) (51 + 2406 * j + 2) y) (51 + 2406 * j + 3) z) (51 + 2406 * j + 4) b) := by
        simp only [up2_stF, stF_rW, stF_stF, stF_at, rW_rW, rW_at]
        rfl
      show K _ (up2 (rW (up2 (rW ν r (clrF (ν.1 (r + 1)) j)).1 (r + 1) (51 + 2406 * j + 0) (Int32.ofInt 1), (rW ν r (clrF (ν.1 (r + 1)) j)).2) r (upd (upd (upd ((up2 (rW ν r (clrF (ν.1 (r + 1)) j)).1 (r + 1) (51 + 2406 * j + 0) (Int32.ofInt 1)) (r + 1)) (51 + 2406 * j + 1) x) (51 + 2406 * j + 2) y) (51 + 2406 * j + 3) z)).1 (r + 1) (51 + 2406 * j + 4) b, (rW (up2 (rW ν r (clrF (ν.1 (r + 1)) j)).1 (r + 1) (51 + 2406 * j + 0) (Int32.ofInt 1), (rW ν r (clrF (ν.1 (r + 1)) j)).2) r (upd (upd (upd ((up2 (rW ν r (clrF (ν.1 (r + 1)) j)).1 (r + 1) (51 + 2406 * j + 0) (Int32.ofInt 1)) (r + 1)) (51 + 2406 * j + 1) x) (51 + 2406 * j + 2) y) (51 + 2406 * j + 3) z)).2)
      rw [e3]
      have hRC := (((((clr_RC (ν.1 (r + 1)) j).S (k := 0) (by omega) 1).S (k := 1) (by omega) x).S (k := 2) (by omega) y).S (k := 3) (by omega) z).S (k := 4) (by omega) b
      rw [csN_eq] at hRC
      exact h.1 rfl _ (hν.w (hν.1.cl hRC fun k hk => by rw [upd_ne _ _ (by omega), upd_ne _ _ (by omega), upd_ne _ _ (by omega), upd_ne _ _ (by omega), upd_ne _ _ (by omega)]; exact clr_o hk)) (by rw [rW_ne _ _ _ (by omega)]; exact h5.trans (cod5 _ _ _)) ((codM_f μ r (nI 0)).trans (hf.trans (rW_f _ _ _)))
    · exact ⟨fun q => (cd_ne d1 d2 ((cod5 μ r (nI cd)).symm.trans q)).elim, fun _ => ⟨Or.inl rfl, refF h hR d3 d1⟩⟩
def sp_X10_look : SPc := fun As μ K => match As with
  | [.inr (.inr (20, r)), .inl c, .inl x, .inl y, .inl z] => ∃ (M : Nat) (W : WS) (U : List WS), WOK M W ∧ REF μ r W U ∧ refK (oLook c x y z W U) μ r W U K
  | _ => False
def rlL (r j n k : Nat) : LC := [some (.inr (.inr (20, r))), some (.inl (nI j)), none, none, none, some (.inl (nI n)), some (.inl (nI k))]
def ct_X10_look : List (Nat × CI) := [(86, ci_X10_isClient), (61, ci_X10_isPosition), (49, ci_X10_in), (89, ci_X10_isConnected), (65, ci_X10_keep), (92, ci_X10_aim), (102, ci_X10_isInArea)]
def ci_X10_look : CI := (yX10_look, cX10_look, 7, some .int, 5, (4, 0, 0, 89), 19, [], sp_X10_look)
set_option maxRecDepth 100000 in
theorem ck_X10_look : chkM ci_X10_look RX10 co_X10_look ct_X10_look [] false false = true := by decide +kernel
set_option maxHeartbeats 4000000 in
set_option maxRecDepth 100000 in
theorem ms_X10_look {g : GPT} {ot : OT} {l : Launch} (hl : l.stackTraces = false) : MS g ot l ci_X10_look := by
  refine ms_of hl RX10 co_X10_look ct_X10_look [] false false [48,79] 65 ck_X10_look (List.forall_mem_cons.mpr ⟨ms_X10_isClient hl, List.forall_mem_cons.mpr ⟨ms_X10_isPosition hl, List.forall_mem_cons.mpr ⟨ms_X10_in hl, List.forall_mem_cons.mpr ⟨ms_X10_isConnected hl, List.forall_mem_cons.mpr ⟨ms_X10_keep hl, List.forall_mem_cons.mpr ⟨ms_X10_aim hl, List.forall_mem_cons.mpr ⟨ms_X10_isInArea hl, fun _ h => nomatch h⟩⟩⟩⟩⟩⟩⟩) ?_
  intro As μ K h
  simp only [ci_X10_look, sp_X10_look] at h
  split at h
  case h_2 => exact h.elim
  rename_i r c x y z
  obtain ⟨M, W, U, hM, hR, h⟩ := h
  refine ⟨Nat.le_of_ble_eq_true rfl, fun m pc lc st μ' ce sl => (m = 100 ∧ pc = 48 ∧ lc = [some (.inr (.inr (20, r))), some (.inl c), some (.inl x), some (.inl y), some (.inl z), none, none] ∧ joinP (oLook c x y z W U) (isC c ∧ (isP x y ∧ inR 1 31 z) ∧ cnn (wC W (sN c))) W U st r ∧ μ = μ' ∧ ce = 0 ∧ sl = 0) ∨ (∃ k j, k ≤ 16 ∧ j < 3 ∧ m = 16 - k ∧ pc = 79 ∧ (oLook c x y z W U).1 = 0 ∧ (oLook c x y z W U).2.1 = nI (inN (aimC (wC W j) x y z) (wE W) 16) ∧ (oLook c x y z W U).2.2 = (setCl W j (aimC (wC W j) x y z), pushU W U) ∧ REF μ' r (setCl W j (aimC (wC W j) x y z)) (pushU W U) ∧ μ'.1 r 5 = 0 ∧ FRM μ μ' r ∧ lc = rlL r j (inN (aimC (wC W j) x y z) (wE W) k) k ∧ st = [] ∧ ce = 0 ∧ sl = 0), ?_, ?_⟩
  · refine ⟨fun q => ⟨fun q2 => ?_, fun q2 => ⟨fun q3 => ?_, fun q3 => ?_⟩⟩, fun q => ?_⟩
    · exact ⟨100, [some (.inr (.inr (20, r))), some (.inl c), some (.inl x), some (.inl y), some (.inl z), none, none], ⟨rfl, rfl, rfl, rfl, rfl, trivial⟩, Or.inl ⟨rfl, rfl, rfl, Or.inr ⟨2, by omega, by omega, oLook_2 _ _ _ _ W U (nn (iB_y q)) (fun w => iB_n q2 w.1), rfl⟩, rfl, rfl, rfl⟩⟩
    · obtain ⟨j, hj, rfl, sj⟩ := c_nat (iB_y q)
      have E0 := hR.c0 hj
      refine ⟨j, rfl, hj, fun q4 => ?_, fun q4 => ?_⟩
      · have q4 := iB_n q4
        rw [E0] at q4
        exact ⟨100, [some (.inr (.inr (20, r))), some (.inl (nI j)), some (.inl x), some (.inl y), some (.inl z), none, none], ⟨rfl, rfl, rfl, rfl, rfl, trivial⟩, Or.inl ⟨rfl, rfl, rfl, Or.inr ⟨3, by omega, by omega, oLook_3 _ _ _ _ W U (nn (iB_y q)) (nn ⟨iB_y q2, iB_y q3⟩) (by rw [sj]; exact q4), rfl⟩, rfl, rfl, rfl⟩⟩
      · have q4 := iB_y q4
        rw [E0] at q4
        exact ⟨100, [some (.inr (.inr (20, r))), some (.inl (nI j)), some (.inl x), some (.inl y), some (.inl z), none, none], ⟨rfl, rfl, rfl, rfl, rfl, trivial⟩, Or.inl ⟨rfl, rfl, rfl, Or.inl ⟨⟨iB_y q, ⟨iB_y q2, iB_y q3⟩, by rw [sj]; exact q4⟩, rfl⟩, rfl, rfl, rfl⟩⟩
    · exact ⟨100, [some (.inr (.inr (20, r))), some (.inl c), some (.inl x), some (.inl y), some (.inl z), none, none], ⟨rfl, rfl, rfl, rfl, rfl, trivial⟩, Or.inl ⟨rfl, rfl, rfl, Or.inr ⟨2, by omega, by omega, oLook_2 _ _ _ _ W U (nn (iB_y q)) (fun w => iB_nn q3 w.2), rfl⟩, rfl, rfl, rfl⟩⟩
    · exact ⟨100, [some (.inr (.inr (20, r))), some (.inl c), some (.inl x), some (.inl y), some (.inl z), none, none], ⟨rfl, rfl, rfl, rfl, rfl, trivial⟩, Or.inl ⟨rfl, rfl, rfl, Or.inr ⟨1, by omega, by omega, oLook_1 _ _ _ _ W U (iB_nn q), rfl⟩, rfl, rfl, rfl⟩⟩
  · rintro m pc lc st μ' ce sl (⟨rfl, rfl, rfl, (⟨⟨E, P, P2⟩, rfl⟩ | ⟨cd, d1, d2, d3, rfl⟩), rfl, rfl, rfl⟩ | ⟨k, j, hk, hj, rfl, rfl, o1, o2, o3, hν, h5, hf, rfl, rfl, rfl, rfl⟩)
    · obtain ⟨j, hj, rfl, sj⟩ := c_nat E
      have ex := oLook_0 (nI j) x y z W U (nn E) (nn P) (nn P2)
      rw [sj] at ex
      refine ⟨fun q => ⟨W, U, hR.cod (nI 0), fun ν hν h5 hr1 hf => ⟨j, rfl, hj, 16, rlL r j 0 0, by omega, ⟨rfl, rfl, rfl, rfl, trivial⟩, Or.inr ⟨0, j, Nat.zero_le _, hj, rfl, rfl, by rw [ex], by rw [ex], by rw [ex], ?_, ?_, (codM_f μ r (nI 0)).trans (hf.trans (rW_f _ _ _)), rfl, rfl, rfl, rfl⟩⟩⟩, fun q => absurd (cod5 μ r (nI 0)) q⟩
      · have hRC := (((hν.1.2.2 j hj).S (k := 1) (by omega) x).S (k := 2) (by omega) y).S (k := 3) (by omega) z
        exact hν.w (hν.1.cl hRC fun k hk => by rw [upd_ne _ _ (by omega), upd_ne _ _ (by omega), upd_ne _ _ (by omega)])
      · rw [rW_ne _ _ _ (by omega)]
        exact h5.trans (cod5 _ _ _)
    · exact ⟨fun q => (cd_ne d1 d2 ((cod5 μ r (nI cd)).symm.trans q)).elim, fun _ => refF h hR d3 d1⟩
    · refine ⟨fun q => ?_, fun q => ?_⟩
      · simp only [icP, ifP, iL, iM1] at q
        try simp only [z_nI] at q
        try simp only [nI_add, nI_mul] at q
        first | rw [nI_le_iff (by omega) (by omega)] at q | rw [nI_lt_iff (by omega) (by omega)] at q | rw [nI_eq_iff (by omega) (by omega)] at q
        obtain rfl : k = 16 := by omega
        have := h.1 o1 μ' (by rw [o3]; exact hν) h5 hf
        rw [o2] at this
        exact this
      · simp only [icP, ifP, iL, iM1] at q
        try simp only [z_nI] at q
        try simp only [nI_add, nI_mul] at q
        first | rw [nI_le_iff (by omega) (by omega)] at q | rw [nI_lt_iff (by omega) (by omega)] at q | rw [nI_eq_iff (by omega) (by omega)] at q
        have v0 : μ'.1 (r + 1) (3 + 3 * k) = wE W k 0 := hν.1.2.1 k (by omega) 0 (by omega)
        have hX := hν.1.2.2 j hj
        have eX : wC (setCl W j (aimC (wC W j) x y z)) j = aimC (wC W j) x y z := up1_eq' _ _ _
        rw [eX] at hX
        have fin : ∀ w : Int32, w = iB (inA (aimC (wC W j) x y z) (wE W k 0)) → (some (.inl (nI (inN (aimC (wC W j) x y z) (wE W) k) + w)) : Option TV) = some (.inl (nI (inN (aimC (wC W j) x y z) (wE W) (k + 1)))) := fun w hw => by rw [hw, inN_S]
        refine ⟨j, k, aimC (wC W j) x y z, rfl, rfl, hj, by omega, hX, by rw [v0]; exact (hM.1 k (by omega)).1, fun q2 => ⟨16 - (k + 1), rlL r j (inN (aimC (wC W j) x y z) (wE W) (k + 1)) (k + 1), by omega, ⟨rfl, rfl, fin 0 ?_, inc_tv k, trivial⟩, Or.inr ⟨k + 1, j, by omega, hj, rfl, rfl, o1, o2, o3, hν, h5, hf, rfl, rfl, rfl, rfl⟩⟩, fun q2 => ⟨16 - (k + 1), rlL r j (inN (aimC (wC W j) x y z) (wE W) (k + 1)) (k + 1), by omega, ⟨rfl, rfl, fin 1 ?_, inc_tv k, trivial⟩, Or.inr ⟨k + 1, j, by omega, hj, rfl, rfl, o1, o2, o3, hν, h5, hf, rfl, rfl, rfl, rfl⟩⟩⟩
        · have q2 := iB_n q2
          rw [v0] at q2
          exact (iB_0 q2).symm
        · have q2 := iB_y q2
          rw [v0] at q2
          exact (iB_1 (p := inA (aimC (wC W j) x y z) (wE W k 0)) q2).symm
def sp_X10_disconnect : SPc := fun As μ K => match As with
  | [.inr (.inr (20, r)), .inl c] => ∃ (W : WS) (U : List WS), REF μ r W U ∧ refK (oDis c W U) μ r W U K
  | _ => False
def ct_X10_disconnect : List (Nat × CI) := [(86, ci_X10_isClient), (89, ci_X10_isConnected), (65, ci_X10_keep), (80, ci_X10_of), (26, ci_X10_clear)]
def ci_X10_disconnect : CI := (yX10_disconnect, cX10_disconnect, 3, some .int, 2, (3, 0, 0, 64), 19, [], sp_X10_disconnect)
set_option maxRecDepth 100000 in
theorem ck_X10_disconnect : chkM ci_X10_disconnect RX10 co_X10_disconnect ct_X10_disconnect [] false false = true := by decide +kernel
set_option maxHeartbeats 4000000 in
set_option maxRecDepth 100000 in
theorem ms_X10_disconnect {g : GPT} {ot : OT} {l : Launch} (hl : l.stackTraces = false) : MS g ot l ci_X10_disconnect := by
  refine ms_of hl RX10 co_X10_disconnect ct_X10_disconnect [] false false [25] 36 ck_X10_disconnect (List.forall_mem_cons.mpr ⟨ms_X10_isClient hl, List.forall_mem_cons.mpr ⟨ms_X10_isConnected hl, List.forall_mem_cons.mpr ⟨ms_X10_keep hl, List.forall_mem_cons.mpr ⟨ms_X10_of hl, List.forall_mem_cons.mpr ⟨ms_X10_clear hl, fun _ h => nomatch h⟩⟩⟩⟩⟩) ?_
  intro As μ K h
  simp only [ci_X10_disconnect, sp_X10_disconnect] at h
  split at h
  case h_2 => exact h.elim
  rename_i r c
  obtain ⟨W, U, hR, h⟩ := h
  refine ⟨Nat.le_of_ble_eq_true rfl, fun m pc lc st μ' ce sl => m = 0 ∧ pc = 25 ∧ lc = [some (.inr (.inr (20, r))), some (.inl c), none] ∧ joinP (oDis c W U) (isC c ∧ cnn (wC W (sN c))) W U st r ∧ μ = μ' ∧ ce = 0 ∧ sl = 0, ?_, ?_⟩
  · refine ⟨fun q => ?_, fun q => ?_⟩
    · obtain ⟨j, hj, rfl, sj⟩ := c_nat (iB_y q)
      have E0 := hR.c0 hj
      refine ⟨j, rfl, hj, fun q4 => ?_, fun q4 => ?_⟩
      · have q4 := iB_n q4
        rw [E0] at q4
        exact ⟨0, [some (.inr (.inr (20, r))), some (.inl (nI j)), none], ⟨rfl, rfl, trivial⟩, rfl, rfl, rfl, Or.inr ⟨2, by omega, by omega, oDis_2 _ W U (nn (iB_y q)) (by rw [sj]; exact q4), rfl⟩, rfl, rfl, rfl⟩
      · have q4 := iB_y q4
        rw [E0] at q4
        exact ⟨0, [some (.inr (.inr (20, r))), some (.inl (nI j)), none], ⟨rfl, rfl, trivial⟩, rfl, rfl, rfl, Or.inl ⟨⟨iB_y q, by rw [sj]; exact q4⟩, rfl⟩, rfl, rfl, rfl⟩
    · exact ⟨0, [some (.inr (.inr (20, r))), some (.inl c), none], ⟨rfl, rfl, trivial⟩, rfl, rfl, rfl, Or.inr ⟨1, by omega, by omega, oDis_1 _ W U (iB_nn q), rfl⟩, rfl, rfl, rfl⟩
  · rintro m pc lc st μ' ce sl ⟨rfl, rfl, rfl, (⟨⟨E, P⟩, rfl⟩ | ⟨cd, d1, d2, d3, rfl⟩), rfl, rfl, rfl⟩
    · obtain ⟨j, hj, rfl, sj⟩ := c_nat E
      have ex := oDis_0 (nI j) W U (nn E) (nn P)
      rw [sj] at ex
      rw [ex] at h
      refine ⟨fun q => ⟨W, U, hR.cod (nI 0), fun ν hν h5 hr1 hf => ⟨j, 8, rfl, rfl, by omega, j, rfl, hj, ?_⟩⟩, fun q => absurd (cod5 μ r (nI 0)) q⟩
      have c8 : ν.1 (r + 1) (51 + 2406 * j + 8) = cS (wC W j) 8 := (hν.1.2.2 j hj).1 8 (by omega)
      rw [c8]
      exact h.1 rfl _ (hν.w (hν.1.cl (clr_RC _ _) fun k hk => clr_o hk)) (by rw [rW_ne _ _ _ (by omega)]; exact h5.trans (cod5 _ _ _)) ((codM_f μ r (nI 0)).trans (hf.trans (rW_f _ _ _)))
    · exact ⟨fun q => (cd_ne d1 d2 ((cod5 μ r (nI cd)).symm.trans q)).elim, fun _ => refF h hR d3 d1⟩
def sp_X10_setTimes : SPc := fun As μ K => match As with
  | [.inr (.inr (20, r)), .inl d, .inl i] => ∃ (W : WS) (U : List WS), REF μ r W U ∧ refK (oTimes d i W U) μ r W U K
  | _ => False
def ct_X10_setTimes : List (Nat × CI) := [(49, ci_X10_in), (65, ci_X10_keep)]
def ci_X10_setTimes : CI := (yX10_setTimes, cX10_setTimes, 4, some .int, 3, (2, 0, 0, 42), 19, [], sp_X10_setTimes)
set_option maxRecDepth 100000 in
theorem ck_X10_setTimes : chkM ci_X10_setTimes RX10 co_X10_setTimes ct_X10_setTimes [] false false = true := by decide +kernel
set_option maxHeartbeats 4000000 in
set_option maxRecDepth 100000 in
theorem ms_X10_setTimes {g : GPT} {ot : OT} {l : Launch} (hl : l.stackTraces = false) : MS g ot l ci_X10_setTimes := by
  refine ms_of hl RX10 co_X10_setTimes ct_X10_setTimes [] false false [26] 44 ck_X10_setTimes (List.forall_mem_cons.mpr ⟨ms_X10_in hl, List.forall_mem_cons.mpr ⟨ms_X10_keep hl, fun _ h => nomatch h⟩⟩) ?_
  intro As μ K h
  simp only [ci_X10_setTimes, sp_X10_setTimes] at h
  split at h
  case h_2 => exact h.elim
  rename_i r d i
  obtain ⟨W, U, hR, h⟩ := h
  refine ⟨Nat.le_of_ble_eq_true rfl, fun m pc lc st μ' ce sl => m = 0 ∧ pc = 26 ∧ lc = [some (.inr (.inr (20, r))), some (.inl d), some (.inl i), none] ∧ joinP (oTimes d i W U) (inR 1 10 d ∧ inR 1 10 i) W U st r ∧ μ = μ' ∧ ce = 0 ∧ sl = 0, ?_, ?_⟩
  · refine ⟨fun q => ?_, fun q => ⟨fun q2 => ?_, fun q2 => ?_⟩⟩
    · exact ⟨0, [some (.inr (.inr (20, r))), some (.inl d), some (.inl i), none], ⟨rfl, rfl, rfl, trivial⟩, rfl, rfl, rfl, Or.inr ⟨1, by omega, by omega, oTimes_1 _ _ W U (fun w => iB_n q w.1), rfl⟩, rfl, rfl, rfl⟩
    · exact ⟨0, [some (.inr (.inr (20, r))), some (.inl d), some (.inl i), none], ⟨rfl, rfl, rfl, trivial⟩, rfl, rfl, rfl, Or.inr ⟨1, by omega, by omega, oTimes_1 _ _ W U (fun w => iB_n q2 w.2), rfl⟩, rfl, rfl, rfl⟩
    · exact ⟨0, [some (.inr (.inr (20, r))), some (.inl d), some (.inl i), none], ⟨rfl, rfl, rfl, trivial⟩, rfl, rfl, rfl, Or.inl ⟨⟨iB_y q, iB_y q2⟩, rfl⟩, rfl, rfl, rfl⟩
  · rintro m pc lc st μ' ce sl ⟨rfl, rfl, rfl, (⟨P, rfl⟩ | ⟨cd, d1, d2, d3, rfl⟩), rfl, rfl, rfl⟩
    · have ex := oTimes_0 d i W U (nn P)
      rw [ex] at h
      refine ⟨fun q => ⟨W, U, hR.cod (nI 0), fun ν hν h5 hr1 hf => ⟨1, rfl, by omega, 1, rfl, by omega, 2, rfl, by omega, ?_⟩⟩, fun q => absurd (cod5 μ r (nI 0)) q⟩
      have c1 : ν.1 (r + 1) 1 = wT W 1 := hν.1.1 1 (by omega)
      rw [c1]
      show K _ (up2 (up2 ν.1 (r + 1) 1 d) (r + 1) 2 i, ν.2)
      simp only [up2_stF, stF_stF, stF_at]
      exact h.1 rfl (rW ν r (upd (upd (ν.1 (r + 1)) 1 d) 2 i)) (hν.w (RW.setT (k := 2) (RW.setT (k := 1) hν.1 (by omega) d) (by omega) i)) (by rw [rW_ne _ _ _ (by omega)]; exact h5.trans (cod5 _ _ _)) ((codM_f μ r (nI 0)).trans (hf.trans (rW_f _ _ _)))
    · exact ⟨fun q => (cd_ne d1 d2 ((cod5 μ r (nI cd)).symm.trans q)).elim, fun _ => refF h hR d3 d1⟩
def sp_X10_lose : SPc := fun As μ K => match As with
  | [.inr (.inr (20, r)), .inl c, .inl x, .inl y] => ∃ (W : WS) (U : List WS), REF μ r W U ∧ refK (oLose c x y W U) μ r W U K
  | _ => False
def ct_X10_lose : List (Nat × CI) := [(86, ci_X10_isClient), (49, ci_X10_in), (89, ci_X10_isConnected), (65, ci_X10_keep), (80, ci_X10_of), (77, ci_X10_cell)]
def ci_X10_lose : CI := (yX10_lose, cX10_lose, 5, some .int, 4, (3, 0, 0, 64), 19, [], sp_X10_lose)
set_option maxRecDepth 100000 in
theorem ck_X10_lose : chkM ci_X10_lose RX10 co_X10_lose ct_X10_lose [] false false = true := by decide +kernel
set_option maxHeartbeats 4000000 in
set_option maxRecDepth 100000 in
theorem ms_X10_lose {g : GPT} {ot : OT} {l : Launch} (hl : l.stackTraces = false) : MS g ot l ci_X10_lose := by
  refine ms_of hl RX10 co_X10_lose ct_X10_lose [] false false [49] 59 ck_X10_lose (List.forall_mem_cons.mpr ⟨ms_X10_isClient hl, List.forall_mem_cons.mpr ⟨ms_X10_in hl, List.forall_mem_cons.mpr ⟨ms_X10_isConnected hl, List.forall_mem_cons.mpr ⟨ms_X10_keep hl, List.forall_mem_cons.mpr ⟨ms_X10_of hl, List.forall_mem_cons.mpr ⟨ms_X10_cell hl, fun _ h => nomatch h⟩⟩⟩⟩⟩⟩) ?_
  intro As μ K h
  simp only [ci_X10_lose, sp_X10_lose] at h
  split at h
  case h_2 => exact h.elim
  rename_i r c x y
  obtain ⟨W, U, hR, h⟩ := h
  refine ⟨Nat.le_of_ble_eq_true rfl, fun m pc lc st μ' ce sl => m = 0 ∧ pc = 49 ∧ lc = [some (.inr (.inr (20, r))), some (.inl c), some (.inl x), some (.inl y), none] ∧ joinP (oLose c x y W U) (isC c ∧ (inR 0 50 x ∧ inR 0 50 y) ∧ cnn (wC W (sN c))) W U st r ∧ μ = μ' ∧ ce = 0 ∧ sl = 0, ?_, ?_⟩
  · refine ⟨fun q => ⟨fun q2 => ?_, fun q2 => ⟨fun q3 => ?_, fun q3 => ?_⟩⟩, fun q => ?_⟩
    · exact ⟨0, [some (.inr (.inr (20, r))), some (.inl c), some (.inl x), some (.inl y), none], ⟨rfl, rfl, rfl, rfl, trivial⟩, rfl, rfl, rfl, Or.inr ⟨2, by omega, by omega, oLose_2 _ _ _ W U (nn (iB_y q)) (fun w => iB_n q2 w.1), rfl⟩, rfl, rfl, rfl⟩
    · obtain ⟨j, hj, rfl, sj⟩ := c_nat (iB_y q)
      have E0 := hR.c0 hj
      refine ⟨j, rfl, hj, fun q4 => ?_, fun q4 => ?_⟩
      · have q4 := iB_n q4
        rw [E0] at q4
        exact ⟨0, [some (.inr (.inr (20, r))), some (.inl (nI j)), some (.inl x), some (.inl y), none], ⟨rfl, rfl, rfl, rfl, trivial⟩, rfl, rfl, rfl, Or.inr ⟨3, by omega, by omega, oLose_3 _ _ _ W U (nn (iB_y q)) (nn ⟨iB_y q2, iB_y q3⟩) (by rw [sj]; exact q4), rfl⟩, rfl, rfl, rfl⟩
      · have q4 := iB_y q4
        rw [E0] at q4
        exact ⟨0, [some (.inr (.inr (20, r))), some (.inl (nI j)), some (.inl x), some (.inl y), none], ⟨rfl, rfl, rfl, rfl, trivial⟩, rfl, rfl, rfl, Or.inl ⟨⟨iB_y q, ⟨iB_y q2, iB_y q3⟩, by rw [sj]; exact q4⟩, rfl⟩, rfl, rfl, rfl⟩
    · exact ⟨0, [some (.inr (.inr (20, r))), some (.inl c), some (.inl x), some (.inl y), none], ⟨rfl, rfl, rfl, rfl, trivial⟩, rfl, rfl, rfl, Or.inr ⟨2, by omega, by omega, oLose_2 _ _ _ W U (nn (iB_y q)) (fun w => iB_nn q3 w.2), rfl⟩, rfl, rfl, rfl⟩
    · exact ⟨0, [some (.inr (.inr (20, r))), some (.inl c), some (.inl x), some (.inl y), none], ⟨rfl, rfl, rfl, rfl, trivial⟩, rfl, rfl, rfl, Or.inr ⟨1, by omega, by omega, oLose_1 _ _ _ W U (iB_nn q), rfl⟩, rfl, rfl, rfl⟩
  · rintro m pc lc st μ' ce sl ⟨rfl, rfl, rfl, (⟨⟨E, P, P2⟩, rfl⟩ | ⟨cd, d1, d2, d3, rfl⟩), rfl, rfl, rfl⟩
    · obtain ⟨j, hj, rfl, sj⟩ := c_nat E
      have ex := oLose_0 (nI j) x y W U (nn E) (nn P) (nn P2)
      rw [sj] at ex
      rw [ex] at h
      refine ⟨fun q => ⟨W, U, hR.cod (nI 0), fun ν hν h5 hr1 hf => ⟨j, 5, rfl, rfl, by omega, j, 5, rfl, rfl, 51 + 2406 * j + 5, rfl, by omega, j, 6, rfl, rfl, 51 + 2406 * j + 6, rfl, by omega, ?_⟩⟩, fun q => absurd (cod5 μ r (nI 0)) q⟩
      have c5 : ν.1 (r + 1) (51 + 2406 * j + 5) = cS (wC W j) 5 := (hν.1.2.2 j hj).1 5 (by omega)
      rw [c5]
      show K _ (up2 (up2 ν.1 (r + 1) (51 + 2406 * j + 5) x) (r + 1) (51 + 2406 * j + 6) y, ν.2)
      simp only [up2_stF, stF_stF, stF_at]
      have hRC := ((hν.1.2.2 j hj).S (k := 5) (by omega) x).S (k := 6) (by omega) y
      exact h.1 rfl (rW ν r (upd (upd (ν.1 (r + 1)) (51 + 2406 * j + 5) x) (51 + 2406 * j + 6) y)) (hν.w (hν.1.cl hRC fun k hk => by rw [upd_ne _ _ (by omega), upd_ne _ _ (by omega)])) (by rw [rW_ne _ _ _ (by omega)]; exact h5.trans (cod5 _ _ _)) ((codM_f μ r (nI 0)).trans (hf.trans (rW_f _ _ _)))
    · exact ⟨fun q => (cd_ne d1 d2 ((cod5 μ r (nI cd)).symm.trans q)).elim, fun _ => refF h hR d3 d1⟩
