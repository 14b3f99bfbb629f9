/-! THE LAW, its loop. -/
theorem lr3 {ce a b c k : Nat} (h : ce ≤ 2000 + 5 * k) (h2 : a + b + c ≤ 5) : ce + a + b + c ≤ 2000 + 5 * (k + 1) := by omega
theorem ls3 {ce a b c k : Nat} (h : ce ≤ 63000 + 30 * k) (h2 : a + b + c ≤ 30) : ce + a + b + c ≤ 63000 + 30 * (k + 1) := by omega
theorem lq2 {ce a b k : Nat} (h : ce ≤ 2000 + 5 * k) (hk : k ≤ 511) (h2 : a + b ≤ 5) : ce + a + b ≤ 601024 := by omega
theorem lt2 {ce a b k : Nat} (h : ce ≤ 63000 + 30 * k) (hk : k ≤ 511) (h2 : a + b ≤ 30) : ce + a + b ≤ 7293034 := by omega
theorem lq3 {ce a b c k : Nat} (h : ce ≤ 2000 + 5 * k) (hk : k ≤ 511) (h2 : a + b + c ≤ 5) : ce + a + b + c ≤ 601024 := by omega
theorem lt3 {ce a b c k : Nat} (h : ce ≤ 63000 + 30 * k) (hk : k ≤ 511) (h2 : a + b + c ≤ 30) : ce + a + b + c ≤ 7293034 := by omega
theorem lr2 {ce a b k : Nat} (h : ce ≤ 2000 + 5 * k) (h2 : a + b ≤ 5) : ce + a + b ≤ 2000 + 5 * (k + 1) := by omega
theorem ls2 {ce a b k : Nat} (h : ce ≤ 63000 + 30 * k) (h2 : a + b ≤ 30) : ce + a + b ≤ 63000 + 30 * (k + 1) := by omega
theorem lc_self (v : Int64) : lg_cmp v v = 0 := by
  unfold lg_cmp
  rw [if_neg fun w : v > v => absurd w (by simp), if_pos rfl]
theorem lc_out {μ μ1 μ2 : MM} {x : Nat} {W : WS} {U : List WS} {R : RS4} (hO : WO R W U μ μ1 x (x + 1965)) (h0 : R.1 = 0) (hF : FRM μ1 μ2 (x + 1959)) : lg_cmp (μ2.2.2.1 (x + 1965) 0) R.2.1.toInt64 = 0 := by
  rw [hF.2.2.1 _ (by omega)]
  rcases hO.1 with ⟨_, _, e⟩ | ⟨w, _⟩
  · rw [e]
    exact lc_self _
  · exact (w h0).elim
theorem LI.same {μ μ2 : MM} {x k : Nat} {M : Nat} {W : WS} {U : List WS} (hz : x + 1966 ≤ μ.2.2.2.2) (hM : M ≤ 50 * k) (hK : WKS M W U) (hX : CXo μ x W U) (hR : REF μ2 (x + 1959) W U) (hF : FRM μ μ2 (x + 1959)) : LI μ2 x (k + 1) := by
  refine ⟨by rw [hF.2.2.2]; omega, M, W, U, by omega, hK, ⟨hX.1.keep (fun z z1 z2 => hF.1 z (by omega)) fun z z1 z2 => by rw [hF.2.1], hX.2.keep (fun z z1 z2 => hF.1 z (by omega)) fun z z1 z2 => by rw [hF.2.1]⟩, hR⟩
theorem W00_ok : WKS 0 W00 [] := by
  refine ⟨⟨fun e he => ⟨Or.inl rfl, v0, v0⟩, 0, 2, 2, Nat.le_refl _, rfl, rfl, rfl, ⟨by omega, by omega⟩, ⟨by omega, by omega⟩, fun c hc => cOK_new 0 (Or.inl rfl) rfl⟩, fun V hV => by cases hV⟩
set_option maxHeartbeats 4000000 in
set_option maxRecDepth 100000 in
theorem ms_L_law {g : GPT} {ot : OT} {l : Launch} (hl : l.stackTraces = false) (hot : otOK ot) (h90 : ot.1 90 ≤ 3072) : MS g ot l ci_L_law := by
  refine ms_of hl RL co_L_law ct_L_law [] true false [23,1581] 1000 ck_L_law (List.forall_mem_cons.mpr ⟨ms_X9_init hl, List.forall_mem_cons.mpr ⟨ms_X10_init hl, List.forall_mem_cons.mpr ⟨ms_L_place hl hot, List.forall_mem_cons.mpr ⟨ms_X10_place hl, List.forall_mem_cons.mpr ⟨ms_X10_thrown hl, List.forall_mem_cons.mpr ⟨ms_L_setVelocity hl, List.forall_mem_cons.mpr ⟨ms_X10_setVelocity hl, List.forall_mem_cons.mpr ⟨ms_L_setHealth hl hot, List.forall_mem_cons.mpr ⟨ms_X10_setHealth hl, List.forall_mem_cons.mpr ⟨ms_L_destroy hl, List.forall_mem_cons.mpr ⟨ms_X10_destroy hl, List.forall_mem_cons.mpr ⟨ms_L_entity hl hot, List.forall_mem_cons.mpr ⟨ms_X10_entity hl, List.forall_mem_cons.mpr ⟨ms_L_connect hl, List.forall_mem_cons.mpr ⟨ms_X10_connect hl, List.forall_mem_cons.mpr ⟨ms_L_look hl hot, List.forall_mem_cons.mpr ⟨ms_X10_look hl, List.forall_mem_cons.mpr ⟨ms_L_disconnect hl, List.forall_mem_cons.mpr ⟨ms_X10_disconnect hl, List.forall_mem_cons.mpr ⟨ms_L_setTimes hl, List.forall_mem_cons.mpr ⟨ms_X10_setTimes hl, List.forall_mem_cons.mpr ⟨ms_L_lose hl, List.forall_mem_cons.mpr ⟨ms_X10_lose hl, List.forall_mem_cons.mpr ⟨ms_L_tick hl hot, List.forall_mem_cons.mpr ⟨ms_X10_tick hl, List.forall_mem_cons.mpr ⟨ms_X9_time hl, List.forall_mem_cons.mpr ⟨ms_X10_time hl, List.forall_mem_cons.mpr ⟨ms_L_copy hl hot, List.forall_mem_cons.mpr ⟨ms_X10_copy hl, List.forall_mem_cons.mpr ⟨ms_L_kept hl hot, List.forall_mem_cons.mpr ⟨ms_X10_kept hl, List.forall_mem_cons.mpr ⟨ms_L_count hl, List.forall_mem_cons.mpr ⟨ms_X10_count hl, List.forall_mem_cons.mpr ⟨ms_L_stale hl hot, List.forall_mem_cons.mpr ⟨ms_X10_stale hl, List.forall_mem_cons.mpr ⟨ms_L_packet hl, List.forall_mem_cons.mpr ⟨ms_X10_packet hl, List.forall_mem_cons.mpr ⟨ms_L_entry hl, List.forall_mem_cons.mpr ⟨ms_X10_entry hl, List.forall_mem_cons.mpr ⟨ms_L_price hl hot, List.forall_mem_cons.mpr ⟨ms_X10_price hl, List.forall_mem_cons.mpr ⟨ms_L_undo hl, List.forall_mem_cons.mpr ⟨ms_X10_undo hl, List.forall_mem_cons.mpr ⟨ms_X9_digest hl hot, List.forall_mem_cons.mpr ⟨ms_X10_digest hl, fun _ h => nomatch h⟩⟩⟩⟩⟩⟩⟩⟩⟩⟩⟩⟩⟩⟩⟩⟩⟩⟩⟩⟩⟩⟩⟩⟩⟩⟩⟩⟩⟩⟩⟩⟩⟩⟩⟩⟩⟩⟩⟩⟩⟩⟩⟩⟩⟩) ?_
  intro As μ K h
  simp only [ci_L_law, sp_L_law] at h
  split at h
  case h_2 => exact h.elim
  rename_i s
  refine ⟨Nat.le_of_ble_eq_true rfl, fun m pc lc st μ' ce sl => ∃ x k, st = [] ∧ ((pc = 23 ∧ lc = lwL s x k ∧ LI μ' x k ∧ 6 * k ≤ 3072 ∧ m = 2 * (513 - k) ∧ ce ≤ 2000 + 5 * k ∧ sl ≤ 63000 + 30 * k) ∨ (pc = 1581 ∧ lc = lwL s x k ∧ LI μ' x (k + 1) ∧ 6 * k + 6 ≤ 3072 ∧ m = 2 * (513 - k) - 1 ∧ ce ≤ 2000 + 5 * (k + 1) ∧ sl ≤ 63000 + 30 * (k + 1))), ?_, ?_⟩
  · refine ⟨by decide, rfl, Or.inr (Nat.le_refl _), by decide, mN_0 μ 47 rfl, fun μ1 hX hw => ⟨hw.2.2.1, ?_⟩⟩
    have e1 : μ1.2.2.2.2 = μ.2.2.2.2 + 1959 := hw.2.1
    refine ⟨by decide, rfl, Or.inr (by show μ.2.2.2.2 ≤ μ1.2.2.2.2; omega), by decide, mN_0 μ1 49 rfl, fun μ2 hR hv => ⟨hv.2.2.1, ?_⟩⟩
    have e2 : μ2.2.2.2.2 = μ.2.2.2.2 + 1965 := by rw [hv.2.1]; omega
    refine ⟨rfl, by decide, 1026, lwL s μ.2.2.2.2 0, ⟨rfl, rfl, by rw [← e1], by rw [← e2], rfl, trivial⟩, μ.2.2.2.2, 0, rfl, Or.inl ⟨rfl, rfl, ⟨?_, 0, W00, [], Nat.le_refl _, W00_ok, ⟨?_, ?_⟩, ?_⟩, by omega, rfl, by decide, by decide⟩⟩
    · show μ.2.2.2.2 + 1966 ≤ μ2.2.2.2.2 + 1
      omega
    · exact hX.1.keep (fun z z1 z2 => (clrX_ne _ _ (by omega)).trans (((hv.1 z (by omega)).1).trans (clrX_ne _ _ (by omega)))) fun z z1 z2 => (hv.1 z (by omega)).2.1
    · exact hX.2.keep (fun z z1 z2 => (clrX_ne _ _ (by omega)).trans (((hv.1 z (by omega)).1).trans (clrX_ne _ _ (by omega)))) fun z z1 z2 => (hv.1 z (by omega)).2.1
    · rw [← e1]
      obtain ⟨r1, r2, r3, r4⟩ := hR
      refine ⟨?_, r2, ?_, fun j V hj => ?_⟩
      · show RW (clr μ2.1 μ2.2.2.2.2 0 (μ1.2.2.2.2 + 1)) W00
        rw [clrX_ne _ _ (by omega)]
        exact r1
      · show clr μ2.1 μ2.2.2.2.2 0 μ1.2.2.2.2 4 = _
        rw [clrX_ne _ _ (by omega)]
        exact r3
      · cases hj
  · rintro m pc lc st μ' ce sl ⟨x, k, rfl, (⟨rfl, rfl, hI, h6, rfl, hce, hsl⟩ | ⟨rfl, rfl, hI, h6, rfl, hce, hsl⟩)⟩
    · refine ⟨fun _ => ⟨Or.inr rfl, h μ'⟩, fun q => ?_⟩
      have hn : 6 * k + 6 ≤ ot.1 90 := law_g h90 h6 q
      have hk : k ≤ 511 := by omega
      have hz := hI.1
      obtain ⟨_, M, W, U, hM, hK, hX, hR⟩ := hI
      refine ⟨6 * k, rfl, by omega, fun q => ?_, fun q => ?_, fun q => ?_, fun q => ?_, fun q => ?_, fun q => ?_, fun q => ?_, fun q => ?_, fun q => ?_, fun q => ?_, fun q => ?_, fun q => ?_, fun q => ?_, fun q => ?_, fun q => ?_, fun q => ?_, fun q => ?_, fun q => ?_, fun q => ?_, fun q => ?_, fun q => ?_, fun q => ?_, trivial⟩
      · exact ⟨2 * (513 - k) - 1, lwL s x k, by omega, ⟨rfl, rfl, rfl, rfl, rfl, trivial⟩, x, k, rfl, Or.inr ⟨rfl, rfl, LI.same hz hM hK hX hR (FRM.refl _ _), by omega, rfl, by omega, by omega⟩⟩
      · refine ⟨6 * k + 1, by simp only [iL, nI_add], by omega, 6 * k + 2, by simp only [iL, nI_add], by omega, 6 * k + 3, by simp only [iL, nI_add], by omega, 6 * k + 4, by simp only [iL, nI_add], by omega, 6 * k + 5, by simp only [iL, nI_add], by omega, ⟨lroom1 hce hk (by decide), lroom2 hsl hk (by decide)⟩, M, W, U, hK, by omega, hX, fun μ1 hO => ?_⟩
        refine ⟨6 * k + 1, by simp only [iL, nI_add], by omega, 6 * k + 2, by simp only [iL, nI_add], by omega, 6 * k + 3, by simp only [iL, nI_add], by omega, 6 * k + 4, by simp only [iL, nI_add], by omega, 6 * k + 5, by simp only [iL, nI_add], by omega, W, U, hR.fr hO, fun h0 μ2 hR2 h5 hF => ?_, fun h0 μ2 hR2 h5 hF => ?_⟩
        · refine ⟨fun q1 => ⟨fun q2 => (q2 (by rw [h0]; rfl)).elim, fun q2 => ⟨0, rfl, by decide, fun q4 => ⟨fun q3 => ?_, fun q3 => (q3 ?_).elim⟩, fun q4 => ⟨fun q3 => ?_, fun q3 => (q3 ?_).elim⟩⟩⟩, fun q1 => (q1 (h5.trans (by rw [h0]; rfl))).elim⟩
          · exact ⟨2 * (513 - k) - 1, lwL s x k, by omega, ⟨rfl, rfl, rfl, rfl, rfl, trivial⟩, x, k, rfl, Or.inr ⟨rfl, rfl, LI.next hz hM (kPlace hK _ _ _ _ _) hK hO (fun _ => hR2) (fun w => (w h0).elim) hF, by omega, rfl, lr3 hce (by decide), ls3 hsl (by decide)⟩⟩
          · have := lc_out hO h0 hF
            rw [show _ = (0 : Int32) from q4] at this
            exact this
          · exact ⟨2 * (513 - k) - 1, lwL s x k, by omega, ⟨rfl, rfl, rfl, rfl, rfl, trivial⟩, x, k, rfl, Or.inr ⟨rfl, rfl, LI.next hz hM (kPlace hK _ _ _ _ _) hK hO (fun _ => hR2) (fun w => (w h0).elim) hF, by omega, rfl, lr3 hce (by decide), ls3 hsl (by decide)⟩⟩
          · have := lc_out hO h0 hF
            rw [(oPlace_b _ _ _ _ _ W U).resolve_left q4] at this
            exact this
        · refine ⟨fun q1 => ⟨fun q2 => ?_, fun q2 => (q2 fun w => cd_ne h0 (Nat.lt_of_le_of_lt ((oPlace_c _ _ _ _ _ W U).resolve_left h0).2 (by decide)) w).elim⟩, fun q1 => (q1 h5).elim⟩
          exact ⟨2 * (513 - k) - 1, lwL s x k, by omega, ⟨rfl, rfl, rfl, rfl, rfl, trivial⟩, x, k, rfl, Or.inr ⟨rfl, rfl, LI.next hz hM (kPlace hK _ _ _ _ _) hK hO (fun w => (h0 w).elim) (fun _ => hR2) hF, by omega, rfl, lr3 hce (by decide), ls3 hsl (by decide)⟩⟩
      · refine ⟨6 * k + 1, by simp only [iL, nI_add], by omega, 6 * k + 2, by simp only [iL, nI_add], by omega, 6 * k + 3, by simp only [iL, nI_add], by omega, ⟨lroom1 hce hk (by decide), lroom2 hsl hk (by decide)⟩, M, W, U, hK, by omega, hX, fun μ1 hO => ?_⟩
        refine ⟨6 * k + 1, by simp only [iL, nI_add], by omega, 6 * k + 2, by simp only [iL, nI_add], by omega, 6 * k + 3, by simp only [iL, nI_add], by omega, W, U, hR.fr hO, fun h0 μ2 hR2 h5 hF => ?_, fun h0 μ2 hR2 h5 hF => ?_⟩
        · refine ⟨fun q1 => ⟨fun q2 => (q2 (by rw [h0]; rfl)).elim, fun q2 => ⟨0, rfl, by decide, fun q3 => ?_, fun q3 => (q3 (lc_out hO h0 hF)).elim⟩⟩, fun q1 => (q1 (h5.trans (by rw [h0]; rfl))).elim⟩
          exact ⟨2 * (513 - k) - 1, lwL s x k, by omega, ⟨rfl, rfl, rfl, rfl, rfl, trivial⟩, x, k, rfl, Or.inr ⟨rfl, rfl, LI.next hz hM (kSetV hK _ _ _) hK hO (fun _ => hR2) (fun w => (w h0).elim) hF, by omega, rfl, lr3 hce (by decide), ls3 hsl (by decide)⟩⟩
        · refine ⟨fun q1 => ⟨fun q2 => ?_, fun q2 => (q2 fun w => cd_ne h0 (Nat.lt_of_le_of_lt ((oSetV_c _ _ _ W U).resolve_left h0).2 (by decide)) w).elim⟩, fun q1 => (q1 h5).elim⟩
          exact ⟨2 * (513 - k) - 1, lwL s x k, by omega, ⟨rfl, rfl, rfl, rfl, rfl, trivial⟩, x, k, rfl, Or.inr ⟨rfl, rfl, LI.next hz hM (kSetV hK _ _ _) hK hO (fun w => (h0 w).elim) (fun _ => hR2) hF, by omega, rfl, lr3 hce (by decide), ls3 hsl (by decide)⟩⟩
      · refine ⟨6 * k + 1, by simp only [iL, nI_add], by omega, 6 * k + 2, by simp only [iL, nI_add], by omega, ⟨lroom1 hce hk (by decide), lroom2 hsl hk (by decide)⟩, M, W, U, hK, by omega, hX, fun μ1 hO => ?_⟩
        refine ⟨6 * k + 1, by simp only [iL, nI_add], by omega, 6 * k + 2, by simp only [iL, nI_add], by omega, M, W, U, hK.1, hR.fr hO, fun h0 μ2 hR2 h5 hF => ?_, fun h0 μ2 hR2 h5 hF => ?_⟩
        · refine ⟨fun q1 => ⟨fun q2 => (q2 (by rw [h0]; rfl)).elim, fun q2 => ⟨0, rfl, by decide, fun q3 => ?_, fun q3 => (q3 (lc_out hO h0 hF)).elim⟩⟩, fun q1 => (q1 (h5.trans (by rw [h0]; rfl))).elim⟩
          exact ⟨2 * (513 - k) - 1, lwL s x k, by omega, ⟨rfl, rfl, rfl, rfl, rfl, trivial⟩, x, k, rfl, Or.inr ⟨rfl, rfl, LI.next hz hM (kSetH hK _ _) hK hO (fun _ => hR2) (fun w => (w h0).elim) hF, by omega, rfl, lr3 hce (by decide), ls3 hsl (by decide)⟩⟩
        · refine ⟨fun q1 => ⟨fun q2 => ?_, fun q2 => (q2 fun w => cd_ne h0 (Nat.lt_of_le_of_lt ((oSetH_c _ _ W U).resolve_left h0).2 (by decide)) w).elim⟩, fun q1 => (q1 h5).elim⟩
          exact ⟨2 * (513 - k) - 1, lwL s x k, by omega, ⟨rfl, rfl, rfl, rfl, rfl, trivial⟩, x, k, rfl, Or.inr ⟨rfl, rfl, LI.next hz hM (kSetH hK _ _) hK hO (fun w => (h0 w).elim) (fun _ => hR2) hF, by omega, rfl, lr3 hce (by decide), ls3 hsl (by decide)⟩⟩
      · refine ⟨6 * k + 1, by simp only [iL, nI_add], by omega, ⟨lroom1 hce hk (by decide), lroom2 hsl hk (by decide)⟩, M, W, U, hK, by omega, hX, fun μ1 hO => ?_⟩
        refine ⟨6 * k + 1, by simp only [iL, nI_add], by omega, W, U, hR.fr hO, fun h0 μ2 hR2 h5 hF => ?_, fun h0 μ2 hR2 h5 hF => ?_⟩
        · refine ⟨fun q1 => ⟨fun q2 => (q2 (by rw [h0]; rfl)).elim, fun q2 => ⟨0, rfl, by decide, fun q3 => ?_, fun q3 => (q3 (lc_out hO h0 hF)).elim⟩⟩, fun q1 => (q1 (h5.trans (by rw [h0]; rfl))).elim⟩
          exact ⟨2 * (513 - k) - 1, lwL s x k, by omega, ⟨rfl, rfl, rfl, rfl, rfl, trivial⟩, x, k, rfl, Or.inr ⟨rfl, rfl, LI.next hz hM (kDel hK _) hK hO (fun _ => hR2) (fun w => (w h0).elim) hF, by omega, rfl, lr3 hce (by decide), ls3 hsl (by decide)⟩⟩
        · refine ⟨fun q1 => ⟨fun q2 => ?_, fun q2 => (q2 fun w => cd_ne h0 (Nat.lt_of_le_of_lt ((oDel_c _ W U).resolve_left h0).2 (by decide)) w).elim⟩, fun q1 => (q1 h5).elim⟩
          exact ⟨2 * (513 - k) - 1, lwL s x k, by omega, ⟨rfl, rfl, rfl, rfl, rfl, trivial⟩, x, k, rfl, Or.inr ⟨rfl, rfl, LI.next hz hM (kDel hK _) hK hO (fun w => (h0 w).elim) (fun _ => hR2) hF, by omega, rfl, lr3 hce (by decide), ls3 hsl (by decide)⟩⟩
      · refine ⟨6 * k + 1, by simp only [iL, nI_add], by omega, 6 * k + 2, by simp only [iL, nI_add], by omega, ⟨lroom1 hce hk (by decide), lroom2 hsl hk (by decide)⟩, M, W, U, hK, by omega, hX, fun μ1 hO => ?_⟩
        refine ⟨6 * k + 1, by simp only [iL, nI_add], by omega, 6 * k + 2, by simp only [iL, nI_add], by omega, M, W, U, hK.1, hR.fr hO, fun h0 μ2 hR2 h5 hF => ?_, fun h0 μ2 hR2 h5 hF => ?_⟩
        · refine ⟨fun q1 => ⟨fun q2 => (q2 (by rw [h0]; rfl)).elim, fun q2 => ⟨0, rfl, by decide, fun q3 => ?_, fun q3 => (q3 (lc_out hO h0 hF)).elim⟩⟩, fun q1 => (q1 (h5.trans (by rw [h0]; rfl))).elim⟩
          exact ⟨2 * (513 - k) - 1, lwL s x k, by omega, ⟨rfl, rfl, rfl, rfl, rfl, trivial⟩, x, k, rfl, Or.inr ⟨rfl, rfl, LI.next hz hM (kEnt hK _ _) hK hO (fun _ => hR2) (fun w => (w h0).elim) hF, by omega, rfl, lr3 hce (by decide), ls3 hsl (by decide)⟩⟩
        · refine ⟨fun q1 => ⟨fun q2 => ?_, fun q2 => (q2 fun w => cd_ne h0 (Nat.lt_of_le_of_lt ((oEnt_c _ _ W U).resolve_left h0).2 (by decide)) w).elim⟩, fun q1 => (q1 h5).elim⟩
          exact ⟨2 * (513 - k) - 1, lwL s x k, by omega, ⟨rfl, rfl, rfl, rfl, rfl, trivial⟩, x, k, rfl, Or.inr ⟨rfl, rfl, LI.next hz hM (kEnt hK _ _) hK hO (fun w => (h0 w).elim) (fun _ => hR2) hF, by omega, rfl, lr3 hce (by decide), ls3 hsl (by decide)⟩⟩
      · refine ⟨6 * k + 1, by simp only [iL, nI_add], by omega, 6 * k + 2, by simp only [iL, nI_add], by omega, 6 * k + 3, by simp only [iL, nI_add], by omega, 6 * k + 4, by simp only [iL, nI_add], by omega, 6 * k + 5, by simp only [iL, nI_add], by omega, ⟨lroom1 hce hk (by decide), lroom2 hsl hk (by decide)⟩, M, W, U, hK, by omega, hX, fun μ1 hO => ?_⟩
        refine ⟨6 * k + 1, by simp only [iL, nI_add], by omega, 6 * k + 2, by simp only [iL, nI_add], by omega, 6 * k + 3, by simp only [iL, nI_add], by omega, 6 * k + 4, by simp only [iL, nI_add], by omega, 6 * k + 5, by simp only [iL, nI_add], by omega, W, U, hR.fr hO, fun h0 μ2 hR2 h5 hF => ?_, fun h0 μ2 hR2 h5 hF => ?_⟩
        · refine ⟨fun q1 => ⟨fun q2 => (q2 (by rw [h0]; rfl)).elim, fun q2 => ⟨0, rfl, by decide, fun q4 => ⟨fun q3 => ?_, fun q3 => (q3 ?_).elim⟩, fun q4 => ⟨fun q3 => ?_, fun q3 => (q3 ?_).elim⟩⟩⟩, fun q1 => (q1 (h5.trans (by rw [h0]; rfl))).elim⟩
          · exact ⟨2 * (513 - k) - 1, lwL s x k, by omega, ⟨rfl, rfl, rfl, rfl, rfl, trivial⟩, x, k, rfl, Or.inr ⟨rfl, rfl, LI.next hz hM (kCon hK _ _ _ _ _) hK hO (fun _ => hR2) (fun w => (w h0).elim) hF, by omega, rfl, lr3 hce (by decide), ls3 hsl (by decide)⟩⟩
          · have := lc_out hO h0 hF
            rw [show _ = (0 : Int32) from q4] at this
            exact this
          · exact ⟨2 * (513 - k) - 1, lwL s x k, by omega, ⟨rfl, rfl, rfl, rfl, rfl, trivial⟩, x, k, rfl, Or.inr ⟨rfl, rfl, LI.next hz hM (kCon hK _ _ _ _ _) hK hO (fun _ => hR2) (fun w => (w h0).elim) hF, by omega, rfl, lr3 hce (by decide), ls3 hsl (by decide)⟩⟩
          · have := lc_out hO h0 hF
            rw [(oCon_b _ _ _ _ _ W U).resolve_left q4] at this
            exact this
        · refine ⟨fun q1 => ⟨fun q2 => ?_, fun q2 => (q2 fun w => cd_ne h0 (Nat.lt_of_le_of_lt ((oCon_c _ _ _ _ _ W U).resolve_left h0).2 (by decide)) w).elim⟩, fun q1 => (q1 h5).elim⟩
          exact ⟨2 * (513 - k) - 1, lwL s x k, by omega, ⟨rfl, rfl, rfl, rfl, rfl, trivial⟩, x, k, rfl, Or.inr ⟨rfl, rfl, LI.next hz hM (kCon hK _ _ _ _ _) hK hO (fun w => (h0 w).elim) (fun _ => hR2) hF, by omega, rfl, lr3 hce (by decide), ls3 hsl (by decide)⟩⟩
      · refine ⟨6 * k + 1, by simp only [iL, nI_add], by omega, 6 * k + 2, by simp only [iL, nI_add], by omega, 6 * k + 3, by simp only [iL, nI_add], by omega, 6 * k + 4, by simp only [iL, nI_add], by omega, ⟨lroom1 hce hk (by decide), lroom2 hsl hk (by decide)⟩, M, W, U, hK, by omega, hX, fun μ1 hO => ?_⟩
        refine ⟨6 * k + 1, by simp only [iL, nI_add], by omega, 6 * k + 2, by simp only [iL, nI_add], by omega, 6 * k + 3, by simp only [iL, nI_add], by omega, 6 * k + 4, by simp only [iL, nI_add], by omega, M, W, U, hK.1, hR.fr hO, fun h0 μ2 hR2 h5 hF => ?_, fun h0 μ2 hR2 h5 hF => ?_⟩
        · refine ⟨fun q1 => ⟨fun q2 => (q2 (by rw [h0]; rfl)).elim, fun q2 => ⟨0, rfl, by decide, fun q3 => ?_, fun q3 => (q3 (lc_out hO h0 hF)).elim⟩⟩, fun q1 => (q1 (h5.trans (by rw [h0]; rfl))).elim⟩
          exact ⟨2 * (513 - k) - 1, lwL s x k, by omega, ⟨rfl, rfl, rfl, rfl, rfl, trivial⟩, x, k, rfl, Or.inr ⟨rfl, rfl, LI.next hz hM (kLook hK _ _ _ _) hK hO (fun _ => hR2) (fun w => (w h0).elim) hF, by omega, rfl, lr3 hce (by decide), ls3 hsl (by decide)⟩⟩
        · refine ⟨fun q1 => ⟨fun q2 => ?_, fun q2 => (q2 fun w => cd_ne h0 (Nat.lt_of_le_of_lt ((oLook_c _ _ _ _ W U).resolve_left h0).2 (by decide)) w).elim⟩, fun q1 => (q1 h5).elim⟩
          exact ⟨2 * (513 - k) - 1, lwL s x k, by omega, ⟨rfl, rfl, rfl, rfl, rfl, trivial⟩, x, k, rfl, Or.inr ⟨rfl, rfl, LI.next hz hM (kLook hK _ _ _ _) hK hO (fun w => (h0 w).elim) (fun _ => hR2) hF, by omega, rfl, lr3 hce (by decide), ls3 hsl (by decide)⟩⟩
      · refine ⟨6 * k + 1, by simp only [iL, nI_add], by omega, ⟨lroom1 hce hk (by decide), lroom2 hsl hk (by decide)⟩, M, W, U, hK, by omega, hX, fun μ1 hO => ?_⟩
        refine ⟨6 * k + 1, by simp only [iL, nI_add], by omega, W, U, hR.fr hO, fun h0 μ2 hR2 h5 hF => ?_, fun h0 μ2 hR2 h5 hF => ?_⟩
        · refine ⟨fun q1 => ⟨fun q2 => (q2 (by rw [h0]; rfl)).elim, fun q2 => ⟨0, rfl, by decide, fun q3 => ?_, fun q3 => (q3 (lc_out hO h0 hF)).elim⟩⟩, fun q1 => (q1 (h5.trans (by rw [h0]; rfl))).elim⟩
          exact ⟨2 * (513 - k) - 1, lwL s x k, by omega, ⟨rfl, rfl, rfl, rfl, rfl, trivial⟩, x, k, rfl, Or.inr ⟨rfl, rfl, LI.next hz hM (kDis hK _) hK hO (fun _ => hR2) (fun w => (w h0).elim) hF, by omega, rfl, lr3 hce (by decide), ls3 hsl (by decide)⟩⟩
        · refine ⟨fun q1 => ⟨fun q2 => ?_, fun q2 => (q2 fun w => cd_ne h0 (Nat.lt_of_le_of_lt ((oDis_c _ W U).resolve_left h0).2 (by decide)) w).elim⟩, fun q1 => (q1 h5).elim⟩
          exact ⟨2 * (513 - k) - 1, lwL s x k, by omega, ⟨rfl, rfl, rfl, rfl, rfl, trivial⟩, x, k, rfl, Or.inr ⟨rfl, rfl, LI.next hz hM (kDis hK _) hK hO (fun w => (h0 w).elim) (fun _ => hR2) hF, by omega, rfl, lr3 hce (by decide), ls3 hsl (by decide)⟩⟩
      · refine ⟨6 * k + 1, by simp only [iL, nI_add], by omega, 6 * k + 2, by simp only [iL, nI_add], by omega, ⟨lroom1 hce hk (by decide), lroom2 hsl hk (by decide)⟩, M, W, U, hK, by omega, hX, fun μ1 hO => ?_⟩
        refine ⟨6 * k + 1, by simp only [iL, nI_add], by omega, 6 * k + 2, by simp only [iL, nI_add], by omega, W, U, hR.fr hO, fun h0 μ2 hR2 h5 hF => ?_, fun h0 μ2 hR2 h5 hF => ?_⟩
        · refine ⟨fun q1 => ⟨fun q2 => (q2 (by rw [h0]; rfl)).elim, fun q2 => ⟨0, rfl, by decide, fun q3 => ?_, fun q3 => (q3 (lc_out hO h0 hF)).elim⟩⟩, fun q1 => (q1 (h5.trans (by rw [h0]; rfl))).elim⟩
          exact ⟨2 * (513 - k) - 1, lwL s x k, by omega, ⟨rfl, rfl, rfl, rfl, rfl, trivial⟩, x, k, rfl, Or.inr ⟨rfl, rfl, LI.next hz hM (kTimes hK _ _) hK hO (fun _ => hR2) (fun w => (w h0).elim) hF, by omega, rfl, lr3 hce (by decide), ls3 hsl (by decide)⟩⟩
        · refine ⟨fun q1 => ⟨fun q2 => ?_, fun q2 => (q2 fun w => cd_ne h0 (Nat.lt_of_le_of_lt ((oTimes_c _ _ W U).resolve_left h0).2 (by decide)) w).elim⟩, fun q1 => (q1 h5).elim⟩
          exact ⟨2 * (513 - k) - 1, lwL s x k, by omega, ⟨rfl, rfl, rfl, rfl, rfl, trivial⟩, x, k, rfl, Or.inr ⟨rfl, rfl, LI.next hz hM (kTimes hK _ _) hK hO (fun w => (h0 w).elim) (fun _ => hR2) hF, by omega, rfl, lr3 hce (by decide), ls3 hsl (by decide)⟩⟩
      · refine ⟨6 * k + 1, by simp only [iL, nI_add], by omega, 6 * k + 2, by simp only [iL, nI_add], by omega, 6 * k + 3, by simp only [iL, nI_add], by omega, ⟨lroom1 hce hk (by decide), lroom2 hsl hk (by decide)⟩, M, W, U, hK, by omega, hX, fun μ1 hO => ?_⟩
        refine ⟨6 * k + 1, by simp only [iL, nI_add], by omega, 6 * k + 2, by simp only [iL, nI_add], by omega, 6 * k + 3, by simp only [iL, nI_add], by omega, W, U, hR.fr hO, fun h0 μ2 hR2 h5 hF => ?_, fun h0 μ2 hR2 h5 hF => ?_⟩
        · refine ⟨fun q1 => ⟨fun q2 => (q2 (by rw [h0]; rfl)).elim, fun q2 => ⟨0, rfl, by decide, fun q3 => ?_, fun q3 => (q3 (lc_out hO h0 hF)).elim⟩⟩, fun q1 => (q1 (h5.trans (by rw [h0]; rfl))).elim⟩
          exact ⟨2 * (513 - k) - 1, lwL s x k, by omega, ⟨rfl, rfl, rfl, rfl, rfl, trivial⟩, x, k, rfl, Or.inr ⟨rfl, rfl, LI.next hz hM (kLose hK _ _ _) hK hO (fun _ => hR2) (fun w => (w h0).elim) hF, by omega, rfl, lr3 hce (by decide), ls3 hsl (by decide)⟩⟩
        · refine ⟨fun q1 => ⟨fun q2 => ?_, fun q2 => (q2 fun w => cd_ne h0 (Nat.lt_of_le_of_lt ((oLose_c _ _ _ W U).resolve_left h0).2 (by decide)) w).elim⟩, fun q1 => (q1 h5).elim⟩
          exact ⟨2 * (513 - k) - 1, lwL s x k, by omega, ⟨rfl, rfl, rfl, rfl, rfl, trivial⟩, x, k, rfl, Or.inr ⟨rfl, rfl, LI.next hz hM (kLose hK _ _ _) hK hO (fun w => (h0 w).elim) (fun _ => hR2) hF, by omega, rfl, lr3 hce (by decide), ls3 hsl (by decide)⟩⟩
      · refine ⟨6 * k + 1, by simp only [iL, nI_add], by omega, ⟨lroom1 hce hk (by decide), lroom2 hsl hk (by decide)⟩, M, W, U, hK, by omega, hX, fun μ1 hO => ?_⟩
        refine ⟨6 * k + 1, by simp only [iL, nI_add], by omega, W, U, hR.fr hO, fun j hj => (kTk hK.1 (by omega) j hj).1, fun h0 μ2 hR2 h5 hF => ?_, fun h0 μ2 hR2 h5 hF => ?_⟩
        · refine ⟨fun q1 => ⟨fun q2 => (q2 (by rw [h0]; rfl)).elim, fun q2 => ⟨0, rfl, by decide, fun q3 => ?_, fun q3 => (q3 (lc_out hO h0 hF)).elim⟩⟩, fun q1 => (q1 (h5.trans (by rw [h0]; rfl))).elim⟩
          exact ⟨2 * (513 - k) - 1, lwL s x k, by omega, ⟨rfl, rfl, rfl, rfl, rfl, trivial⟩, x, k, rfl, Or.inr ⟨rfl, rfl, LI.next hz hM (kTick hK (by omega) _) hK hO (fun _ => hR2) (fun w => (w h0).elim) hF, by omega, rfl, lr3 hce (by decide), ls3 hsl (by decide)⟩⟩
        · refine ⟨fun q1 => ⟨fun q2 => ?_, fun q2 => (q2 fun w => cd_ne h0 (Nat.lt_of_le_of_lt ((oTick_c _ W U).resolve_left h0).2 (by decide)) w).elim⟩, fun q1 => (q1 h5).elim⟩
          exact ⟨2 * (513 - k) - 1, lwL s x k, by omega, ⟨rfl, rfl, rfl, rfl, rfl, trivial⟩, x, k, rfl, Or.inr ⟨rfl, rfl, LI.next hz hM (kTick hK (by omega) _) hK hO (fun w => (h0 w).elim) (fun _ => hR2) hF, by omega, rfl, lr3 hce (by decide), ls3 hsl (by decide)⟩⟩
      · refine ⟨W, U, hX, W, U, hR, fun _ μ2 hR2 h5 hF => ⟨fun q => ?_, fun q => (q rfl).elim⟩, fun w => (w rfl).elim⟩
        exact ⟨2 * (513 - k) - 1, lwL s x k, by omega, ⟨rfl, rfl, rfl, rfl, rfl, trivial⟩, x, k, rfl, Or.inr ⟨rfl, rfl, LI.same hz hM hK hX hR2 hF, by omega, rfl, lr2 hce (by decide), ls2 hsl (by decide)⟩⟩
      · refine ⟨6 * k + 1, by simp only [iL, nI_add], by omega, 6 * k + 2, by simp only [iL, nI_add], by omega, 6 * k + 3, by simp only [iL, nI_add], by omega, ⟨lroom1 hce hk (by decide), lroom2 hsl hk (by decide)⟩, M, W, U, hK, by omega, hX, fun μ1 hO => ?_⟩
        refine ⟨6 * k + 1, by simp only [iL, nI_add], by omega, 6 * k + 2, by simp only [iL, nI_add], by omega, 6 * k + 3, by simp only [iL, nI_add], by omega, M, W, U, hK.1, hR.fr hO, fun h0 μ2 hR2 h5 hF => ?_, fun h0 μ2 hR2 h5 hF => ?_⟩
        · refine ⟨fun q1 => ⟨fun q2 => (q2 (by rw [h0]; rfl)).elim, fun q2 => ⟨0, rfl, by decide, fun q3 => ?_, fun q3 => (q3 (lc_out hO h0 hF)).elim⟩⟩, fun q1 => (q1 (h5.trans (by rw [h0]; rfl))).elim⟩
          exact ⟨2 * (513 - k) - 1, lwL s x k, by omega, ⟨rfl, rfl, rfl, rfl, rfl, trivial⟩, x, k, rfl, Or.inr ⟨rfl, rfl, LI.next hz hM (kCopy hK _ _ _) hK hO (fun _ => hR2) (fun w => (w h0).elim) hF, by omega, rfl, lr3 hce (by decide), ls3 hsl (by decide)⟩⟩
        · refine ⟨fun q1 => ⟨fun q2 => ?_, fun q2 => (q2 fun w => cd_ne h0 (Nat.lt_of_le_of_lt ((oCopy_c _ _ _ W U).resolve_left h0).2 (by decide)) w).elim⟩, fun q1 => (q1 h5).elim⟩
          exact ⟨2 * (513 - k) - 1, lwL s x k, by omega, ⟨rfl, rfl, rfl, rfl, rfl, trivial⟩, x, k, rfl, Or.inr ⟨rfl, rfl, LI.next hz hM (kCopy hK _ _ _) hK hO (fun w => (h0 w).elim) (fun _ => hR2) hF, by omega, rfl, lr3 hce (by decide), ls3 hsl (by decide)⟩⟩
      · refine ⟨6 * k + 1, by simp only [iL, nI_add], by omega, 6 * k + 2, by simp only [iL, nI_add], by omega, 6 * k + 3, by simp only [iL, nI_add], by omega, ⟨lroom1 hce hk (by decide), lroom2 hsl hk (by decide)⟩, M, W, U, hK, by omega, hX, fun μ1 hO => ?_⟩
        refine ⟨6 * k + 1, by simp only [iL, nI_add], by omega, 6 * k + 2, by simp only [iL, nI_add], by omega, 6 * k + 3, by simp only [iL, nI_add], by omega, M, W, U, hK.1, hR.fr hO, fun h0 μ2 hR2 h5 hF => ?_, fun h0 μ2 hR2 h5 hF => ?_⟩
        · refine ⟨fun q1 => ⟨fun q2 => (q2 (by rw [h0]; rfl)).elim, fun q2 => ⟨0, rfl, by decide, fun q3 => ?_, fun q3 => (q3 (lc_out hO h0 hF)).elim⟩⟩, fun q1 => (q1 (h5.trans (by rw [h0]; rfl))).elim⟩
          exact ⟨2 * (513 - k) - 1, lwL s x k, by omega, ⟨rfl, rfl, rfl, rfl, rfl, trivial⟩, x, k, rfl, Or.inr ⟨rfl, rfl, LI.next hz hM (kKept hK _ _ _) hK hO (fun _ => hR2) (fun w => (w h0).elim) hF, by omega, rfl, lr3 hce (by decide), ls3 hsl (by decide)⟩⟩
        · refine ⟨fun q1 => ⟨fun q2 => ?_, fun q2 => (q2 fun w => cd_ne h0 (Nat.lt_of_le_of_lt ((oKept_c _ _ _ W U).resolve_left h0).2 (by decide)) w).elim⟩, fun q1 => (q1 h5).elim⟩
          exact ⟨2 * (513 - k) - 1, lwL s x k, by omega, ⟨rfl, rfl, rfl, rfl, rfl, trivial⟩, x, k, rfl, Or.inr ⟨rfl, rfl, LI.next hz hM (kKept hK _ _ _) hK hO (fun w => (h0 w).elim) (fun _ => hR2) hF, by omega, rfl, lr3 hce (by decide), ls3 hsl (by decide)⟩⟩
      · refine ⟨6 * k + 1, by simp only [iL, nI_add], by omega, 6 * k + 2, by simp only [iL, nI_add], by omega, ⟨lroom1 hce hk (by decide), lroom2 hsl hk (by decide)⟩, M, W, U, hK, by omega, hX, fun μ1 hO => ?_⟩
        refine ⟨6 * k + 1, by simp only [iL, nI_add], by omega, 6 * k + 2, by simp only [iL, nI_add], by omega, M, W, U, hK.1, hR.fr hO, fun h0 μ2 hR2 h5 hF => ?_, fun h0 μ2 hR2 h5 hF => ?_⟩
        · refine ⟨fun q1 => ⟨fun q2 => (q2 (by rw [h0]; rfl)).elim, fun q2 => ⟨0, rfl, by decide, fun q3 => ?_, fun q3 => (q3 (lc_out hO h0 hF)).elim⟩⟩, fun q1 => (q1 (h5.trans (by rw [h0]; rfl))).elim⟩
          exact ⟨2 * (513 - k) - 1, lwL s x k, by omega, ⟨rfl, rfl, rfl, rfl, rfl, trivial⟩, x, k, rfl, Or.inr ⟨rfl, rfl, LI.next hz hM (kCnt hK _ _) hK hO (fun _ => hR2) (fun w => (w h0).elim) hF, by omega, rfl, lr3 hce (by decide), ls3 hsl (by decide)⟩⟩
        · refine ⟨fun q1 => ⟨fun q2 => ?_, fun q2 => (q2 fun w => cd_ne h0 (Nat.lt_of_le_of_lt ((oCnt_c _ _ W U).resolve_left h0).2 (by decide)) w).elim⟩, fun q1 => (q1 h5).elim⟩
          exact ⟨2 * (513 - k) - 1, lwL s x k, by omega, ⟨rfl, rfl, rfl, rfl, rfl, trivial⟩, x, k, rfl, Or.inr ⟨rfl, rfl, LI.next hz hM (kCnt hK _ _) hK hO (fun w => (h0 w).elim) (fun _ => hR2) hF, by omega, rfl, lr3 hce (by decide), ls3 hsl (by decide)⟩⟩
      · refine ⟨6 * k + 1, by simp only [iL, nI_add], by omega, ⟨lroom1 hce hk (by decide), lroom2 hsl hk (by decide)⟩, M, W, U, hK, by omega, hX, fun μ1 hO => ?_⟩
        refine ⟨6 * k + 1, by simp only [iL, nI_add], by omega, M, W, U, hK.1, hR.fr hO, fun h0 μ2 hR2 h5 hF => ?_, fun h0 μ2 hR2 h5 hF => ?_⟩
        · refine ⟨fun q1 => ⟨fun q2 => (q2 (by rw [h0]; rfl)).elim, fun q2 => ⟨0, rfl, by decide, fun q3 => ?_, fun q3 => (q3 (lc_out hO h0 hF)).elim⟩⟩, fun q1 => (q1 (h5.trans (by rw [h0]; rfl))).elim⟩
          exact ⟨2 * (513 - k) - 1, lwL s x k, by omega, ⟨rfl, rfl, rfl, rfl, rfl, trivial⟩, x, k, rfl, Or.inr ⟨rfl, rfl, LI.next hz hM (kStale hK _) hK hO (fun _ => hR2) (fun w => (w h0).elim) hF, by omega, rfl, lr3 hce (by decide), ls3 hsl (by decide)⟩⟩
        · refine ⟨fun q1 => ⟨fun q2 => ?_, fun q2 => (q2 fun w => cd_ne h0 (Nat.lt_of_le_of_lt ((oStale_c _ W U).resolve_left h0).2 (by decide)) w).elim⟩, fun q1 => (q1 h5).elim⟩
          exact ⟨2 * (513 - k) - 1, lwL s x k, by omega, ⟨rfl, rfl, rfl, rfl, rfl, trivial⟩, x, k, rfl, Or.inr ⟨rfl, rfl, LI.next hz hM (kStale hK _) hK hO (fun w => (h0 w).elim) (fun _ => hR2) hF, by omega, rfl, lr3 hce (by decide), ls3 hsl (by decide)⟩⟩
      · refine ⟨6 * k + 1, by simp only [iL, nI_add], by omega, 6 * k + 2, by simp only [iL, nI_add], by omega, 6 * k + 3, by simp only [iL, nI_add], by omega, ⟨lroom1 hce hk (by decide), lroom2 hsl hk (by decide)⟩, M, W, U, hK, by omega, hX, fun μ1 hO => ?_⟩
        refine ⟨6 * k + 1, by simp only [iL, nI_add], by omega, 6 * k + 2, by simp only [iL, nI_add], by omega, 6 * k + 3, by simp only [iL, nI_add], by omega, W, U, hR.fr hO, fun h0 μ2 hR2 h5 hF => ?_, fun h0 μ2 hR2 h5 hF => ?_⟩
        · refine ⟨fun q1 => ⟨fun q2 => (q2 (by rw [h0]; rfl)).elim, fun q2 => ⟨0, rfl, by decide, fun q3 => ?_, fun q3 => (q3 (lc_out hO h0 hF)).elim⟩⟩, fun q1 => (q1 (h5.trans (by rw [h0]; rfl))).elim⟩
          exact ⟨2 * (513 - k) - 1, lwL s x k, by omega, ⟨rfl, rfl, rfl, rfl, rfl, trivial⟩, x, k, rfl, Or.inr ⟨rfl, rfl, LI.next hz hM (kPkt hK _ _ _) hK hO (fun _ => hR2) (fun w => (w h0).elim) hF, by omega, rfl, lr3 hce (by decide), ls3 hsl (by decide)⟩⟩
        · refine ⟨fun q1 => ⟨fun q2 => ?_, fun q2 => (q2 fun w => cd_ne h0 (Nat.lt_of_le_of_lt ((oPkt_c _ _ _ W U).resolve_left h0).2 (by decide)) w).elim⟩, fun q1 => (q1 h5).elim⟩
          exact ⟨2 * (513 - k) - 1, lwL s x k, by omega, ⟨rfl, rfl, rfl, rfl, rfl, trivial⟩, x, k, rfl, Or.inr ⟨rfl, rfl, LI.next hz hM (kPkt hK _ _ _) hK hO (fun w => (h0 w).elim) (fun _ => hR2) hF, by omega, rfl, lr3 hce (by decide), ls3 hsl (by decide)⟩⟩
      · refine ⟨6 * k + 1, by simp only [iL, nI_add], by omega, 6 * k + 2, by simp only [iL, nI_add], by omega, 6 * k + 3, by simp only [iL, nI_add], by omega, 6 * k + 4, by simp only [iL, nI_add], by omega, ⟨lroom1 hce hk (by decide), lroom2 hsl hk (by decide)⟩, M, W, U, hK, by omega, hX, fun μ1 hO => ?_⟩
        refine ⟨6 * k + 1, by simp only [iL, nI_add], by omega, 6 * k + 2, by simp only [iL, nI_add], by omega, 6 * k + 3, by simp only [iL, nI_add], by omega, 6 * k + 4, by simp only [iL, nI_add], by omega, M, W, U, hK.1, hR.fr hO, fun h0 μ2 hR2 h5 hF => ?_, fun h0 μ2 hR2 h5 hF => ?_⟩
        · refine ⟨fun q1 => ⟨fun q2 => (q2 (by rw [h0]; rfl)).elim, fun q2 => ⟨0, rfl, by decide, fun q3 => ?_, fun q3 => (q3 (lc_out hO h0 hF)).elim⟩⟩, fun q1 => (q1 (h5.trans (by rw [h0]; rfl))).elim⟩
          exact ⟨2 * (513 - k) - 1, lwL s x k, by omega, ⟨rfl, rfl, rfl, rfl, rfl, trivial⟩, x, k, rfl, Or.inr ⟨rfl, rfl, LI.next hz hM (kEntry hK _ _ _ _) hK hO (fun _ => hR2) (fun w => (w h0).elim) hF, by omega, rfl, lr3 hce (by decide), ls3 hsl (by decide)⟩⟩
        · refine ⟨fun q1 => ⟨fun q2 => ?_, fun q2 => (q2 fun w => cd_ne h0 (Nat.lt_of_le_of_lt ((oEntry_c _ _ _ _ W U).resolve_left h0).2 (by decide)) w).elim⟩, fun q1 => (q1 h5).elim⟩
          exact ⟨2 * (513 - k) - 1, lwL s x k, by omega, ⟨rfl, rfl, rfl, rfl, rfl, trivial⟩, x, k, rfl, Or.inr ⟨rfl, rfl, LI.next hz hM (kEntry hK _ _ _ _) hK hO (fun w => (h0 w).elim) (fun _ => hR2) hF, by omega, rfl, lr3 hce (by decide), ls3 hsl (by decide)⟩⟩
      · refine ⟨6 * k + 1, by simp only [iL, nI_add], by omega, 6 * k + 2, by simp only [iL, nI_add], by omega, ⟨lroom1 hce hk (by decide), lroom2 hsl hk (by decide)⟩, M, W, U, hK, by omega, hX, fun μ1 hO => ?_⟩
        refine ⟨6 * k + 1, by simp only [iL, nI_add], by omega, 6 * k + 2, by simp only [iL, nI_add], by omega, M, W, U, hK.1, hR.fr hO, fun h0 μ2 hR2 h5 hF => ?_, fun h0 μ2 hR2 h5 hF => ?_⟩
        · refine ⟨fun q1 => ⟨fun q2 => (q2 (by rw [h0]; rfl)).elim, fun q2 => ⟨0, rfl, by decide, fun q3 => ?_, fun q3 => (q3 (lc_out hO h0 hF)).elim⟩⟩, fun q1 => (q1 (h5.trans (by rw [h0]; rfl))).elim⟩
          exact ⟨2 * (513 - k) - 1, lwL s x k, by omega, ⟨rfl, rfl, rfl, rfl, rfl, trivial⟩, x, k, rfl, Or.inr ⟨rfl, rfl, LI.next hz hM (kPrice hK _ _) hK hO (fun _ => hR2) (fun w => (w h0).elim) hF, by omega, rfl, lr3 hce (by decide), ls3 hsl (by decide)⟩⟩
        · refine ⟨fun q1 => ⟨fun q2 => ?_, fun q2 => (q2 fun w => cd_ne h0 (Nat.lt_of_le_of_lt ((oPrice_c _ _ W U).resolve_left h0).2 (by decide)) w).elim⟩, fun q1 => (q1 h5).elim⟩
          exact ⟨2 * (513 - k) - 1, lwL s x k, by omega, ⟨rfl, rfl, rfl, rfl, rfl, trivial⟩, x, k, rfl, Or.inr ⟨rfl, rfl, LI.next hz hM (kPrice hK _ _) hK hO (fun w => (h0 w).elim) (fun _ => hR2) hF, by omega, rfl, lr3 hce (by decide), ls3 hsl (by decide)⟩⟩
      · refine ⟨⟨lroom1 hce hk (by decide), lroom2 hsl hk (by decide)⟩, M, W, U, hK, by omega, hX, fun μ1 hO => ?_⟩
        refine ⟨W, U, hR.fr hO, fun h0 μ2 hR2 h5 hF => ?_, fun h0 μ2 hR2 h5 hF => ?_⟩
        · refine ⟨fun q1 => ⟨fun q2 => (q2 (by rw [h0]; rfl)).elim, fun q2 => ⟨0, rfl, by decide, fun q3 => ?_, fun q3 => (q3 (lc_out hO h0 hF)).elim⟩⟩, fun q1 => (q1 (h5.trans (by rw [h0]; rfl))).elim⟩
          exact ⟨2 * (513 - k) - 1, lwL s x k, by omega, ⟨rfl, rfl, rfl, rfl, rfl, trivial⟩, x, k, rfl, Or.inr ⟨rfl, rfl, LI.next hz hM (kUndo hK ) hK hO (fun _ => hR2) (fun w => (w h0).elim) hF, by omega, rfl, lr3 hce (by decide), ls3 hsl (by decide)⟩⟩
        · refine ⟨fun q1 => ⟨fun q2 => ?_, fun q2 => (q2 fun w => cd_ne h0 (Nat.lt_of_le_of_lt ((oUndo_c  W U).resolve_left h0).2 (by decide)) w).elim⟩, fun q1 => (q1 h5).elim⟩
          exact ⟨2 * (513 - k) - 1, lwL s x k, by omega, ⟨rfl, rfl, rfl, rfl, rfl, trivial⟩, x, k, rfl, Or.inr ⟨rfl, rfl, LI.next hz hM (kUndo hK ) hK hO (fun w => (h0 w).elim) (fun _ => hR2) hF, by omega, rfl, lr3 hce (by decide), ls3 hsl (by decide)⟩⟩
      · refine ⟨M, W, U, hK.1, hX, M, W, U, hK.1, hR, fun μ2 hR2 h5 hF => ⟨fun q => ?_, fun q => (q (lc_self _)).elim⟩⟩
        exact ⟨2 * (513 - k) - 1, lwL s x k, by omega, ⟨rfl, rfl, rfl, rfl, rfl, trivial⟩, x, k, rfl, Or.inr ⟨rfl, rfl, LI.same hz hM hK hX hR2 hF, by omega, rfl, lr2 hce (by decide), ls2 hsl (by decide)⟩⟩
    · refine ⟨2 * (513 - (k + 1)), lwL s x (k + 1), by omega, ⟨rfl, rfl, rfl, rfl, ?_, trivial⟩, x, k + 1, rfl, Or.inl ⟨rfl, rfl, hI, by omega, rfl, hce, hsl⟩⟩
      rw [show 6 * (k + 1) = 6 * k + 6 by omega, ← nI_add]
      rfl
