/-! THE CLASS, its public methods. -/
def CXo (μ : MM) (x : Nat) (W : WS) (U : List WS) : Prop := CW μ.1 μ.2.1 (x + 1) W ∧ CU μ.1 μ.2.1 (x + 490) U
def xc0 : Nat → Nat := fun k => k
def xc3 : Nat → Nat := fun k => if k = 1 then 1 else 3
def xc2 : Nat → Nat := fun _ => 2
def xcU : Nat → Nat := fun _ => 3
theorem WOK.c01 {M : Nat} {W : WS} (h : WOK M W) : ∀ c, c < 3 → c01 (wC W c) := fun c hc => by
  obtain ⟨T, _, _, h1⟩ := h.cl hc
  exact h1.1
/-- how a refused call ends in the class -/
theorem clsF {ex : Nat → Nat} {R : RS4} {μ : MM} {x : Nat} {W : WS} {U : List WS} {K : OC → MM → Prop} (h : clsK ex R μ x K) {cd : Nat} (e : R = (cd, 0, W, U)) (h0 : ¬ cd = 0) : thr μ (ex cd) K := by
  have := h.2 (by rw [e]; exact h0)
  rw [e] at this
  exact this
theorem clsR {ex : Nat → Nat} {R : RS4} {μ : MM} {x : Nat} {W : WS} {U : List WS} {K : OC → MM → Prop} (h : clsK ex R μ x K) (hX : CXo μ x W U) {v : Int32} (e : R = (0, v, W, U)) : K (.inl (some (.inl v))) μ := by
  have := h.1 (by rw [e]) μ (by rw [e]; exact hX.1) (by rw [e]; exact hX.2) ⟨fun _ _ => ⟨rfl, rfl⟩, rfl⟩
  rw [e] at this
  exact this
theorem CXo.pushed {μ ν : MM} {x : Nat} {W : WS} {U V : List WS} (h : CXo μ x W U) (g : CU ν.1 ν.2.1 (x + 490) V) (f : FRm μ ν (x + 490) (x + 490 + 1469)) : CXo ν x W V := ⟨h.1.keep (fun z z1 z2 => (f.1 z (by omega)).1) fun z z1 z2 => (f.1 z (by omega)).2, g⟩
theorem CW.en {F : Nat → Nat → Int32} {G : Nat → Nat → Nat} {w : Nat} {W : WS} (h : CW F G w W) {j k : Nat} (hk : k < 3) (v : Int32) : CW (up2 F (w + 2 + k) j v) G w (setEn W j k v) := by
  obtain ⟨h1, h2, h3, h4⟩ := h
  refine ⟨fun i hi => by rw [u2_ne _ _ (by omega)]; exact h1 i hi, fun e he => ?_, h3, fun c hc => (h4 c hc).keep (fun z z1 z2 => u2_ne _ _ (by omega)) fun _ _ _ => rfl⟩
  obtain ⟨e0, e1, e2⟩ := h2 e he
  have go : ∀ i, i < 3 → F (w + 2 + i) e = wE W e i → (up2 F (w + 2 + k) j v) (w + 2 + i) e = up2 (wE W) j k v e i := fun i hi hF => by
    unfold up2
    by_cases q : w + 2 + i = w + 2 + k ∧ e = j
    · rw [if_pos q, if_pos ⟨q.2, by omega⟩]
    · rw [if_neg q, if_neg (by omega)]
      exact hF
  exact ⟨go 0 (by omega) e0, go 1 (by omega) e1, go 2 (by omega) e2⟩
theorem CC.s6 {F : Nat → Nat → Int32} {G : Nat → Nat → Nat} {a : Nat} {X : CS} (h : CC F G a X) {k : Nat} (hk : k < 7) (v : Int32) : CC (up2 F a k v) G a (setS X k v) := by
  obtain ⟨x1, x2, x3, x4, x5, x6⟩ := h
  have o : ∀ z, ¬ z = a → (up2 F a k v) z = F z := fun z hz => u2_ne _ _ hz
  exact ⟨CSc.S6 x1 hk (fun j hj => u2_nj _ _ hj) (o _ (by omega)) (u2_eq _ _ _ _), x2.keep fun z z1 z2 => o z (by omega), x3.keep fun z z1 z2 => o z (by omega), x4.keep (fun z z1 z2 => o z (by omega)) rfl, x5.keep (fun z z1 z2 => o z (by omega)) rfl, x6.keep fun z z1 z2 => o z (by omega)⟩
theorem CW.cl {F F' : Nat → Nat → Int32} {G G' : Nat → Nat → Nat} {w c : Nat} {W : WS} {X : CS} (h : CW F G w W) (hc : c < 3) (hX : CC F' G' (w + 6 + 161 * c) X) (hF : ∀ z, (z < w + 6 + 161 * c ∨ w + 6 + 161 * c + 161 ≤ z) → F' z = F z ∧ G' z = G z) : CW F' G' w (setCl W c X) := by
  refine CW.setC (D := up1 (wC W) c X) h ?_ hc (fun d _ hd => up1_ne' _ _ hd) hF
  rw [up1_eq']
  exact hX
theorem CU.up {F : Nat → Nat → Int32} {G : Nat → Nat → Nat} {u : Nat} {U : List WS} (h : CU F G u U) {a j : Nat} (ha : a < u) (v : Int32) : CU (up2 F a j v) G u U := h.keep (fun z z1 z2 => u2_ne _ _ (by omega)) fun _ _ _ => rfl
theorem FRm.up {μ ν : MM} {lo hi : Nat} (h : FRm μ ν lo hi) {a j : Nat} (ha : lo ≤ a ∧ a < hi) (v : Int32) : FRm μ (up2 ν.1 a j v, ν.2) lo hi := ⟨fun z hz => ⟨(u2_ne _ _ (by omega)).trans (h.1 z hz).1, (h.1 z hz).2⟩, h.2⟩
theorem nat_E {j : Nat} (h : isE (nI j)) (hj : j < 2 ^ 31) : j < 16 := by
  have := h.2
  have h2 : nI j ≤ nI 15 := this
  rw [nI_le_iff hj (by omega)] at h2
  omega
def sp_X9_place : SPc := fun As μ K => match As with
  | [.inr (.inr (19, x)), .inl e, .inl a, .inl b, .inl k, .inl h] => ∃ (M : Nat) (W : WS) (U : List WS), WOK M W ∧ CXo μ x W U ∧ clsK xc0 (oPlace e a b k h W U) μ x K
  | _ => False
def ct_X9_place : List (Nat × CI) := [(23, ci_X9_checkEntity), (27, ci_X9_checkRange), (31, ci_X7_push), (39, ci_X6_of), (45, ci_X2_put)]
def ci_X9_place : CI := (yX9_place, cX9_place, 6, some .boolean, 6, (7, 5, 30, 125), 18, [], sp_X9_place)
set_option maxRecDepth 100000 in
theorem ck_X9_place : chkM ci_X9_place RX9 co_X9_place ct_X9_place [] true false = true := by decide +kernel
set_option maxHeartbeats 4000000 in
set_option maxRecDepth 100000 in
theorem ms_X9_place {g : GPT} {ot : OT} {l : Launch} (hl : l.stackTraces = false) (hot : otOK ot) : MS g ot l ci_X9_place := by
  refine ms0_of hl RX9 co_X9_place ct_X9_place [] true false 39 ck_X9_place (List.forall_mem_cons.mpr ⟨ms_X9_checkEntity hl, List.forall_mem_cons.mpr ⟨ms_X9_checkRange hl, List.forall_mem_cons.mpr ⟨ms_X7_push hl, List.forall_mem_cons.mpr ⟨ms_X6_of hl hot, List.forall_mem_cons.mpr ⟨ms_X2_put hl, fun _ h => nomatch h⟩⟩⟩⟩⟩) ?_
  intro As μ K h
  simp only [ci_X9_place, sp_X9_place] at h
  split at h
  case h_2 => exact h.elim
  rename_i x e a b k hh
  obtain ⟨M, W, U, hM, hX, h⟩ := h
  refine ⟨Nat.le_of_ble_eq_true rfl, ⟨by decide, fun E => ⟨by decide, fun P1 => ⟨by decide, fun P2 => ⟨by decide, fun P3 => ⟨by decide, fun P4 => ?_, fun n => clsF h (oPlace_2 _ _ _ _ _ W U (nn E) fun w => n w.2.2) (by decide)⟩, fun n => clsF h (oPlace_2 _ _ _ _ _ W U (nn E) fun w => n w.2.1) (by decide)⟩, fun n => clsF h (oPlace_2 _ _ _ _ _ W U (nn E) fun w => n w.1.2) (by decide)⟩, fun n => clsF h (oPlace_2 _ _ _ _ _ W U (nn E) fun w => n w.1.1) (by decide)⟩, fun n => clsF h (oPlace_1 _ _ _ _ _ W U n) (by decide)⟩⟩
  obtain ⟨j, hj, rfl, sj⟩ := e_nat E
  obtain ⟨a, ha, rfl, sa⟩ := r_nat (n := 31) (by omega) P1
  obtain ⟨b, hb, rfl, sb⟩ := r_nat (n := 31) (by omega) P2
  obtain ⟨c, hc, rfl, sc⟩ := r_nat (n := 3) (by omega) P3
  obtain ⟨d, hd, rfl, sd⟩ := r_nat (n := 100) (by omega) P4
  have ex := oPlace_0 (nI j) (nI a) (nI b) (nI c) (nI d) W U (nn E) (nn ⟨⟨P1, P2⟩, P3, P4⟩)
  rw [sj, sa, sb, sc, sd] at ex
  rw [ex] at h
  refine ⟨U, W, hX.2, hX.1, hM.c01, Or.inl (by omega), fun ν hν hf => ⟨a, b, c, d, rfl, rfl, rfl, rfl, by omega, by omega, by omega, by omega, j, rfl, hj, iB_01 _, ?_⟩⟩
  have hY := hX.pushed hν hf
  have e0 : ν.1 (x + 3) j = wE W j 0 := (hY.1.2.1 j hj).1
  show K (.inl (some (.inl (iB (¬ ν.1 (x + 3) j = -1))))) (up2 ν.1 (x + 3) j (nI (pkN a b c d)), ν.2)
  rw [e0]
  exact h.1 rfl _ (hY.1.en (k := 0) (by omega) _) (hY.2.up (by omega) _) ((hf.mono (by omega) (by omega)).up (by omega) _)
def sp_X9_setVelocity : SPc := fun As μ K => match As with
  | [.inr (.inr (19, x)), .inl e, .inl a, .inl b] => ∃ (M : Nat) (W : WS) (U : List WS), WOK M W ∧ CXo μ x W U ∧ clsK xc0 (oSetV e a b W U) μ x K
  | _ => False
def ct_X9_setVelocity : List (Nat × CI) := [(23, ci_X9_checkEntity), (27, ci_X9_checkRange), (51, ci_X9_checkExists), (31, ci_X7_push), (54, ci_X2_changeVelocity)]
def ci_X9_setVelocity : CI := (yX9_setVelocity, cX9_setVelocity, 4, some .int, 4, (7, 4, 24, 125), 18, [], sp_X9_setVelocity)
set_option maxRecDepth 100000 in
theorem ck_X9_setVelocity : chkM ci_X9_setVelocity RX9 co_X9_setVelocity ct_X9_setVelocity [] false false = true := by decide +kernel
set_option maxHeartbeats 4000000 in
set_option maxRecDepth 100000 in
theorem ms_X9_setVelocity {g : GPT} {ot : OT} {l : Launch} (hl : l.stackTraces = false) : MS g ot l ci_X9_setVelocity := by
  refine ms0_of hl RX9 co_X9_setVelocity ct_X9_setVelocity [] false false 31 ck_X9_setVelocity (List.forall_mem_cons.mpr ⟨ms_X9_checkEntity hl, List.forall_mem_cons.mpr ⟨ms_X9_checkRange hl, List.forall_mem_cons.mpr ⟨ms_X9_checkExists hl, List.forall_mem_cons.mpr ⟨ms_X7_push hl, List.forall_mem_cons.mpr ⟨ms_X2_changeVelocity hl, fun _ h => nomatch h⟩⟩⟩⟩⟩) ?_
  intro As μ K h
  simp only [ci_X9_setVelocity, sp_X9_setVelocity] at h
  split at h
  case h_2 => exact h.elim
  rename_i x e a b
  obtain ⟨M, W, U, hM, hX, h⟩ := h
  refine ⟨Nat.le_of_ble_eq_true rfl, ⟨by decide, fun E => ⟨by decide, fun P1 => ⟨by decide, fun P2 => ?_, fun n => clsF h (oSetV_2 _ _ _ W U (nn E) fun w => n w.2) (by decide)⟩, fun n => clsF h (oSetV_2 _ _ _ W U (nn E) fun w => n w.1) (by decide)⟩, fun n => clsF h (oSetV_1 _ _ _ W U n) (by decide)⟩⟩
  obtain ⟨j, hj, rfl, sj⟩ := e_nat E
  have E0 : μ.1 (x + 3) j = wE W j 0 := (hX.1.2.1 j hj).1
  refine ⟨by decide, j, rfl, hj, fun q => ?_, fun q => clsF h (oSetV_3 _ _ _ W U (nn E) (nn ⟨P1, P2⟩) (by rw [sj, ← E0]; exact q)) (by decide)⟩
  rw [E0, ← sj] at q
  have ex := oSetV_0 (nI j) a b W U (nn E) (nn ⟨P1, P2⟩) q
  rw [sj] at ex
  rw [ex] at h
  refine ⟨U, W, hX.2, hX.1, hM.c01, Or.inl (by omega), fun ν hν hf => ⟨j, rfl, hj, ?_⟩⟩
  have hY := hX.pushed hν hf
  have e1 : ν.1 (x + 4) j = wE W j 1 := (hY.1.2.1 j hj).2.1
  have e2 : ν.1 (x + 5) j = wE W j 2 := (hY.1.2.1 j hj).2.2
  show K (.inl (some (.inl (10 * (ν.1 (x + 4) j + 3) + (ν.1 (x + 5) j + 3))))) (up2 (up2 ν.1 (x + 4) j a) (x + 5) j b, ν.2)
  rw [e1, e2]
  exact h.1 rfl _ ((hY.1.en (k := 1) (by omega) _).en (k := 2) (by omega) _) ((hY.2.up (by omega) _).up (by omega) _) (FRm.up (ν := (up2 ν.1 (x + 4) j a, ν.2)) ((hf.mono (by omega) (by omega)).up (by omega) _) (by omega) _)
def sp_X9_setHealth : SPc := fun As μ K => match As with
  | [.inr (.inr (19, x)), .inl e, .inl a] => ∃ (M : Nat) (W : WS) (U : List WS), WOK M W ∧ CXo μ x W U ∧ clsK xc0 (oSetH e a W U) μ x K
  | _ => False
def ct_X9_setHealth : List (Nat × CI) := [(23, ci_X9_checkEntity), (27, ci_X9_checkRange), (51, ci_X9_checkExists), (31, ci_X7_push), (58, ci_X2_changeHealth)]
def ci_X9_setHealth : CI := (yX9_setHealth, cX9_setHealth, 3, some .int, 3, (7, 3, 18, 125), 18, [], sp_X9_setHealth)
set_option maxRecDepth 100000 in
theorem ck_X9_setHealth : chkM ci_X9_setHealth RX9 co_X9_setHealth ct_X9_setHealth [] false false = true := by decide +kernel
set_option maxHeartbeats 4000000 in
set_option maxRecDepth 100000 in
theorem ms_X9_setHealth {g : GPT} {ot : OT} {l : Launch} (hl : l.stackTraces = false) (hot : otOK ot) : MS g ot l ci_X9_setHealth := by
  refine ms0_of hl RX9 co_X9_setHealth ct_X9_setHealth [] false false 26 ck_X9_setHealth (List.forall_mem_cons.mpr ⟨ms_X9_checkEntity hl, List.forall_mem_cons.mpr ⟨ms_X9_checkRange hl, List.forall_mem_cons.mpr ⟨ms_X9_checkExists hl, List.forall_mem_cons.mpr ⟨ms_X7_push hl, List.forall_mem_cons.mpr ⟨ms_X2_changeHealth hl hot, fun _ h => nomatch h⟩⟩⟩⟩⟩) ?_
  intro As μ K h
  simp only [ci_X9_setHealth, sp_X9_setHealth] at h
  split at h
  case h_2 => exact h.elim
  rename_i x e a
  obtain ⟨M, W, U, hM, hX, h⟩ := h
  refine ⟨Nat.le_of_ble_eq_true rfl, ⟨by decide, fun E => ⟨by decide, fun P => ?_, fun n => clsF h (oSetH_2 _ _ W U (nn E) n) (by decide)⟩, fun n => clsF h (oSetH_1 _ _ W U n) (by decide)⟩⟩
  obtain ⟨j, hj, rfl, sj⟩ := e_nat E
  have E0 : μ.1 (x + 3) j = wE W j 0 := (hX.1.2.1 j hj).1
  refine ⟨by decide, j, rfl, hj, fun q => ?_, fun q => clsF h (oSetH_3 _ _ W U (nn E) (nn P) (by rw [sj, ← E0]; exact q)) (by decide)⟩
  rw [E0, ← sj] at q
  obtain ⟨d, hd, rfl, sd⟩ := r_nat (n := 100) (by omega) P
  have ex := oSetH_0 (nI j) (nI d) W U (nn E) (nn P) q
  rw [sj] at q
  obtain ⟨n, n1, n2, n3⟩ := sOK_ne (hM.1 j hj).1 q
  rw [sj, sd, n3] at ex
  rw [ex] at h
  refine ⟨U, W, hX.2, hX.1, hM.c01, Or.inl (by omega), fun ν hν hf => ?_⟩
  have hY := hX.pushed hν hf
  have e0 : ν.1 (x + 3) j = nI n := (hY.1.2.1 j hj).1.trans n2
  exact ⟨j, n, d, rfl, hj, e0, n1, rfl, by omega, h.1 rfl _ (hY.1.en (k := 0) (by omega) _) (hY.2.up (by omega) _) ((hf.mono (by omega) (by omega)).up (by omega) _)⟩
def sp_X9_destroy : SPc := fun As μ K => match As with
  | [.inr (.inr (19, x)), .inl e] => ∃ (M : Nat) (W : WS) (U : List WS), WOK M W ∧ CXo μ x W U ∧ clsK xc3 (oDel e W U) μ x K
  | _ => False
theorem cntN_ext {P Q : Nat → Prop} {d : ∀ e, Decidable (P e)} {f : ∀ e, Decidable (Q e)} : ∀ n, (∀ e, e < n → (P e ↔ Q e)) → cntN P d n = cntN Q f n
  | 0, _ => rfl
  | n + 1, h => by
    have ih := cntN_ext (d := d) (f := f) n fun e he => h e (by omega)
    show cntN P d n + (if P n then 1 else 0) = cntN Q f n + (if Q n then 1 else 0)
    rw [ih]
    congr 1
    by_cases q : P n
    · rw [if_pos q, if_pos ((h n (by omega)).mp q)]
    · rw [if_neg q, if_neg fun w => q ((h n (by omega)).mpr w)]
def ct_X9_destroy : List (Nat × CI) := [(23, ci_X9_checkEntity), (51, ci_X9_checkExists), (31, ci_X7_push), (62, ci_X2_remove)]
def ci_X9_destroy : CI := (yX9_destroy, cX9_destroy, 2, some .int, 2, (7, 2, 12, 125), 18, [], sp_X9_destroy)
set_option maxRecDepth 100000 in
theorem ck_X9_destroy : chkM ci_X9_destroy RX9 co_X9_destroy ct_X9_destroy [] false false = true := by decide +kernel
set_option maxHeartbeats 4000000 in
set_option maxRecDepth 100000 in
theorem ms_X9_destroy {g : GPT} {ot : OT} {l : Launch} (hl : l.stackTraces = false) : MS g ot l ci_X9_destroy := by
  refine ms0_of hl RX9 co_X9_destroy ct_X9_destroy [] false false 21 ck_X9_destroy (List.forall_mem_cons.mpr ⟨ms_X9_checkEntity hl, List.forall_mem_cons.mpr ⟨ms_X9_checkExists hl, List.forall_mem_cons.mpr ⟨ms_X7_push hl, List.forall_mem_cons.mpr ⟨ms_X2_remove hl, fun _ h => nomatch h⟩⟩⟩⟩) ?_
  intro As μ K h
  simp only [ci_X9_destroy, sp_X9_destroy] at h
  split at h
  case h_2 => exact h.elim
  rename_i x e
  obtain ⟨M, W, U, hM, hX, h⟩ := h
  refine ⟨Nat.le_of_ble_eq_true rfl, ⟨by decide, fun E => ?_, fun n => clsF h (oDel_1 _ W U n) (by decide)⟩⟩
  obtain ⟨j, hj, rfl, sj⟩ := e_nat E
  have E0 : μ.1 (x + 3) j = wE W j 0 := (hX.1.2.1 j hj).1
  refine ⟨by decide, j, rfl, hj, fun q => ?_, fun q => clsF h (oDel_2 _ W U (nn E) (by rw [sj, ← E0]; exact q)) (by decide)⟩
  rw [E0, ← sj] at q
  have ex := oDel_0 (nI j) W U (nn E) q
  rw [sj] at ex
  rw [ex] at h
  refine ⟨U, W, hX.2, hX.1, hM.c01, Or.inl (by omega), fun ν hν hf => ⟨j, rfl, hj, ?_⟩⟩
  have hY := hX.pushed hν hf
  have hZ := ((hY.1.en (j := j) (k := 0) (by omega) (-1)).en (j := j) (k := 1) (by omega) 0).en (j := j) (k := 2) (by omega) 0
  have en : exiN (upd (ν.1 (x + 3)) j (-1)) = livN (wE (delE W j)) 16 := by
    refine cntN_ext 16 fun i hi => ?_
    have v := (hZ.2.1 i hi).1
    have v2 : (up2 (up2 (up2 ν.1 (x + 3) j (-1)) (x + 4) j 0) (x + 5) j 0) (x + 3) i = wE (delE W j) i 0 := v
    rw [u2_ne _ _ (by omega), u2_ne _ _ (by omega), up2_at] at v2
    rw [v2]
  show K (.inl (some (.inl (nI (exiN (upd (ν.1 (x + 3)) j (-1))))))) (up2 (up2 (up2 ν.1 (x + 3) j (-1)) (x + 4) j 0) (x + 5) j 0, ν.2)
  rw [en]
  exact h.1 rfl _ hZ (((hY.2.up (by omega) _).up (by omega) _).up (by omega) _) (FRm.up (ν := (up2 (up2 ν.1 (x + 3) j (-1)) (x + 4) j 0, ν.2)) (FRm.up (ν := (up2 ν.1 (x + 3) j (-1), ν.2)) ((hf.mono (by omega) (by omega)).up (by omega) _) (by omega) _) (by omega) _)
def sp_X9_entity : SPc := fun As μ K => match As with
  | [.inr (.inr (19, x)), .inl e, .inl w] => ∃ (M : Nat) (W : WS) (U : List WS), WOK M W ∧ CXo μ x W U ∧ clsK xc0 (oEnt e w W U) μ x K
  | _ => False
def ct_X9_entity : List (Nat × CI) := [(23, ci_X9_checkEntity), (27, ci_X9_checkRange), (66, ci_X2_value)]
def ci_X9_entity : CI := (yX9_entity, cX9_entity, 3, some .int, 3, (7, 2, 12, 112), 18, [], sp_X9_entity)
set_option maxRecDepth 100000 in
theorem ck_X9_entity : chkM ci_X9_entity RX9 co_X9_entity ct_X9_entity [] false false = true := by decide +kernel
set_option maxHeartbeats 4000000 in
set_option maxRecDepth 100000 in
theorem ms_X9_entity {g : GPT} {ot : OT} {l : Launch} (hl : l.stackTraces = false) (hot : otOK ot) : MS g ot l ci_X9_entity := by
  refine ms0_of hl RX9 co_X9_entity ct_X9_entity [] false false 18 ck_X9_entity (List.forall_mem_cons.mpr ⟨ms_X9_checkEntity hl, List.forall_mem_cons.mpr ⟨ms_X9_checkRange hl, List.forall_mem_cons.mpr ⟨ms_X2_value hl hot, fun _ h => nomatch h⟩⟩⟩) ?_
  intro As μ K h
  simp only [ci_X9_entity, sp_X9_entity] at h
  split at h
  case h_2 => exact h.elim
  rename_i x e w
  obtain ⟨M, W, U, hM, hX, h⟩ := h
  refine ⟨Nat.le_of_ble_eq_true rfl, ⟨by decide, fun E => ⟨by decide, fun P => ?_, fun n => clsF h (oEnt_2 _ _ W U (nn E) n) (by decide)⟩, fun n => clsF h (oEnt_1 _ _ W U n) (by decide)⟩⟩
  obtain ⟨j, hj, rfl, sj⟩ := e_nat E
  obtain ⟨d, hd, rfl, sd⟩ := r_nat (n := 6) (by omega) P
  have ex := oEnt_0 (nI j) (nI d) W U (nn E) (nn P)
  rw [sj, sd] at ex
  exact ⟨j, d, wE W, rfl, rfl, hj, by omega, hX.1.2.1, (hM.1 j hj).1, clsR h hX ex⟩
def sp_X9_connect : SPc := fun As μ K => match As with
  | [.inr (.inr (19, x)), .inl c, .inl a, .inl b, .inl r, .inl y] => ∃ (M : Nat) (W : WS) (U : List WS), WOK M W ∧ CXo μ x W U ∧ clsK xc0 (oCon c a b r y W U) μ x K
  | _ => False
theorem CXo.a {x i : Nat} : x + 1 + 6 + 161 * i = x + 7 + 161 * i := by omega
theorem cnn_iff {X : CS} (h : c01 X) : cS X 0 = iB (cnn X) := by
  rcases h with h | h
  · rw [iB_0 fun w => by
      have w : cS X 0 = 1 := w
      rw [h] at w
      exact absurd w (by decide)]
    exact h
  · rw [iB_1 (p := cnn X) h]
    exact h
theorem cnn_ne {X : CS} (h : c01 X) : ¬ cS X 0 = 0 ↔ cnn X := by
  rw [cnn_iff h, iB_ne0]
def ct_X9_connect : List (Nat × CI) := [(69, ci_X9_clientOf), (27, ci_X9_checkRange), (31, ci_X7_push), (79, ci_X1_reset), (82, ci_X1_turnTo)]
def ci_X9_connect : CI := (yX9_connect, cX9_connect, 8, some .boolean, 6, (7, 5, 30, 125), 18, [], sp_X9_connect)
set_option maxRecDepth 100000 in
theorem ck_X9_connect : chkM ci_X9_connect RX9 co_X9_connect ct_X9_connect [] true false = true := by decide +kernel
set_option maxHeartbeats 4000000 in
set_option maxRecDepth 100000 in
theorem ms_X9_connect {g : GPT} {ot : OT} {l : Launch} (hl : l.stackTraces = false) : MS g ot l ci_X9_connect := by
  refine ms0_of hl RX9 co_X9_connect ct_X9_connect [] true false 48 ck_X9_connect (List.forall_mem_cons.mpr ⟨ms_X9_clientOf hl, List.forall_mem_cons.mpr ⟨ms_X9_checkRange hl, List.forall_mem_cons.mpr ⟨ms_X7_push hl, List.forall_mem_cons.mpr ⟨ms_X1_reset hl, List.forall_mem_cons.mpr ⟨ms_X1_turnTo hl, fun _ h => nomatch h⟩⟩⟩⟩⟩) ?_
  intro As μ K h
  simp only [ci_X9_connect, sp_X9_connect] at h
  split at h
  case h_2 => exact h.elim
  rename_i x c a b r y
  obtain ⟨M, W, U, hM, hX, h⟩ := h
  refine ⟨Nat.le_of_ble_eq_true rfl, ⟨by decide, hX.1.2.2.1, fun i hi hi3 => ?_, fun n => clsF h (oCon_1 _ _ _ _ _ W U n) (by decide)⟩⟩
  subst hi
  have C : isC (nI i) := ⟨nI_0le (by omega), by
    show nI i ≤ nI 2
    rw [nI_le_iff (by omega) (by omega)]
    omega⟩
  refine ⟨by decide, fun P1 => ⟨by decide, fun P2 => ⟨by decide, fun P3 => ⟨by decide, fun P4 => ?_, fun n => clsF h (oCon_2 _ _ _ _ _ W U (nn C) fun w => n w.2.2) (by decide)⟩, fun n => clsF h (oCon_2 _ _ _ _ _ W U (nn C) fun w => n w.2.1) (by decide)⟩, fun n => clsF h (oCon_2 _ _ _ _ _ W U (nn C) fun w => n w.1.2) (by decide)⟩, fun n => clsF h (oCon_2 _ _ _ _ _ W U (nn C) fun w => n w.1.1) (by decide)⟩
  have ex := oCon_0 (nI i) a b r y W U (nn C) (nn ⟨⟨P1, P2⟩, P3, P4⟩)
  rw [sNi (by omega)] at ex
  rw [ex] at h
  refine ⟨U, W, hX.2, hX.1, hM.c01, Or.inl (by omega), fun ν hν hf => ?_⟩
  have hY := hX.pushed hν hf
  have hC := hY.1.2.2.2 i hi3
  rw [CXo.a] at hC
  have e0 : ν.1 (x + 7 + 161 * i) 0 = iB (cnn (wC W i)) := (hC.1.1 0 (by omega)).trans (cnn_iff (hM.c01 i hi3))
  refine ⟨hC.sl, fun F' hF' hFo => ⟨Or.inr rfl, by rw [e0]; exact iB_01 _, ?_⟩⟩
  have hZ := ((((hF'.s6 (k := 0) (by omega) 1).s6 (k := 1) (by omega) a).s6 (k := 2) (by omega) b).s6 (k := 3) (by omega) r).s6 (k := 4) (by omega) y
  rw [csN_eq] at hZ
  have o : ∀ z, (z < x + 7 + 161 * i ∨ x + 7 + 161 * i + 161 ≤ z) → (up2 (up2 (up2 (up2 (up2 F' (x + 7 + 161 * i) 0 1) (x + 7 + 161 * i) 1 a) (x + 7 + 161 * i) 2 b) (x + 7 + 161 * i) 3 r) (x + 7 + 161 * i) 4 y) z = ν.1 z := fun z hz => by
    rw [u2_ne _ _ (by omega), u2_ne _ _ (by omega), u2_ne _ _ (by omega), u2_ne _ _ (by omega), u2_ne _ _ (by omega)]
    exact hFo z hz
  show K (.inl (some (.inl (ν.1 (x + 7 + 161 * i) 0)))) (up2 (up2 (up2 (up2 (up2 F' (x + 7 + 161 * i) 0 1) (x + 7 + 161 * i) 1 a) (x + 7 + 161 * i) 2 b) (x + 7 + 161 * i) 3 r) (x + 7 + 161 * i) 4 y, ν.2)
  rw [e0]
  refine h.1 rfl _ (hY.1.cl hi3 (by rw [CXo.a]; exact hZ) fun z hz => ⟨o z (by omega), rfl⟩) (hY.2.keep (fun z z1 z2 => o z (by omega)) fun _ _ _ => rfl) ⟨fun z hz => ⟨?_, ?_⟩, hf.2⟩
  · exact (o z (by omega)).trans (hf.1 z (by omega)).1
  · exact (hf.1 z (by omega)).2
