/-! the operations, case by case (by program) -/
theorem oPlace_1 (e x y k h : Int32) (W : WS) (U : List WS) (h1 : ¬ isE e) : oPlace e x y k h W U = (1, 0, W, U) := if_pos h1
theorem oPlace_2 (e x y k h : Int32) (W : WS) (U : List WS) (h1 : ¬ (¬ isE e)) (h2 : ¬ (isP x y ∧ inR 0 3 k ∧ inR 0 100 h)) : oPlace e x y k h W U = (2, 0, W, U) := (if_neg h1).trans (if_pos h2)
theorem oPlace_0 (e x y k h : Int32) (W : WS) (U : List WS) (h1 : ¬ (¬ isE e)) (h2 : ¬ (¬ (isP x y ∧ inR 0 3 k ∧ inR 0 100 h))) : oPlace e x y k h W U = (0, iB (¬ wE W (sN e) 0 = -1), setEn W (sN e) 0 (nI (pkN (sN x) (sN y) (sN k) (sN h))), pushU W U) := (if_neg h1).trans (if_neg h2)
theorem oSetV_1 (e x y : Int32) (W : WS) (U : List WS) (h1 : ¬ isE e) : oSetV e x y W U = (1, 0, W, U) := if_pos h1
theorem oSetV_2 (e x y : Int32) (W : WS) (U : List WS) (h1 : ¬ (¬ isE e)) (h2 : ¬ (inR (-3) 3 x ∧ inR (-3) 3 y)) : oSetV e x y W U = (2, 0, W, U) := (if_neg h1).trans (if_pos h2)
theorem oSetV_3 (e x y : Int32) (W : WS) (U : List WS) (h1 : ¬ (¬ isE e)) (h2 : ¬ (¬ (inR (-3) 3 x ∧ inR (-3) 3 y))) (h3 : wE W (sN e) 0 = -1) : oSetV e x y W U = (3, 0, W, U) := (if_neg h1).trans ((if_neg h2).trans (if_pos h3))
theorem oSetV_0 (e x y : Int32) (W : WS) (U : List WS) (h1 : ¬ (¬ isE e)) (h2 : ¬ (¬ (inR (-3) 3 x ∧ inR (-3) 3 y))) (h3 : ¬ (wE W (sN e) 0 = -1)) : oSetV e x y W U = (0, 10 * (wE W (sN e) 1 + 3) + (wE W (sN e) 2 + 3), setEn (setEn W (sN e) 1 x) (sN e) 2 y, pushU W U) := (if_neg h1).trans ((if_neg h2).trans (if_neg h3))
theorem oSetH_1 (e h : Int32) (W : WS) (U : List WS) (h1 : ¬ isE e) : oSetH e h W U = (1, 0, W, U) := if_pos h1
theorem oSetH_2 (e h : Int32) (W : WS) (U : List WS) (h1 : ¬ (¬ isE e)) (h2 : ¬ inR 0 100 h) : oSetH e h W U = (2, 0, W, U) := (if_neg h1).trans (if_pos h2)
theorem oSetH_3 (e h : Int32) (W : WS) (U : List WS) (h1 : ¬ (¬ isE e)) (h2 : ¬ (¬ inR 0 100 h)) (h3 : wE W (sN e) 0 = -1) : oSetH e h W U = (3, 0, W, U) := (if_neg h1).trans ((if_neg h2).trans (if_pos h3))
theorem oSetH_0 (e h : Int32) (W : WS) (U : List WS) (h1 : ¬ (¬ isE e)) (h2 : ¬ (¬ inR 0 100 h)) (h3 : ¬ (wE W (sN e) 0 = -1)) : oSetH e h W U = (0, nI (prt (sN (wE W (sN e) 0)) 3), setEn W (sN e) 0 (nI (pkN (prt (sN (wE W (sN e) 0)) 0) (prt (sN (wE W (sN e) 0)) 1) (prt (sN (wE W (sN e) 0)) 2) (sN h))), pushU W U) := (if_neg h1).trans ((if_neg h2).trans (if_neg h3))
theorem oDel_1 (e : Int32) (W : WS) (U : List WS) (h1 : ¬ isE e) : oDel e W U = (1, 0, W, U) := if_pos h1
theorem oDel_2 (e : Int32) (W : WS) (U : List WS) (h1 : ¬ (¬ isE e)) (h2 : wE W (sN e) 0 = -1) : oDel e W U = (2, 0, W, U) := (if_neg h1).trans (if_pos h2)
theorem oDel_0 (e : Int32) (W : WS) (U : List WS) (h1 : ¬ (¬ isE e)) (h2 : ¬ (wE W (sN e) 0 = -1)) : oDel e W U = (0, nI (livN (wE (delE W (sN e))) 16), delE W (sN e), pushU W U) := (if_neg h1).trans (if_neg h2)
theorem oEnt_1 (e w : Int32) (W : WS) (U : List WS) (h1 : ¬ isE e) : oEnt e w W U = (1, 0, W, U) := if_pos h1
theorem oEnt_2 (e w : Int32) (W : WS) (U : List WS) (h1 : ¬ (¬ isE e)) (h2 : ¬ inR 0 6 w) : oEnt e w W U = (2, 0, W, U) := (if_neg h1).trans (if_pos h2)
theorem oEnt_0 (e w : Int32) (W : WS) (U : List WS) (h1 : ¬ (¬ isE e)) (h2 : ¬ (¬ inR 0 6 w)) : oEnt e w W U = (0, enV (wE W) (sN e) (sN w), W, U) := (if_neg h1).trans (if_neg h2)
theorem oCon_1 (c x y r b : Int32) (W : WS) (U : List WS) (h1 : ¬ isC c) : oCon c x y r b W U = (1, 0, W, U) := if_pos h1
theorem oCon_2 (c x y r b : Int32) (W : WS) (U : List WS) (h1 : ¬ (¬ isC c)) (h2 : ¬ (isP x y ∧ inR 1 31 r ∧ inR 12 64 b)) : oCon c x y r b W U = (2, 0, W, U) := (if_neg h1).trans (if_pos h2)
theorem oCon_0 (c x y r b : Int32) (W : WS) (U : List WS) (h1 : ¬ (¬ isC c)) (h2 : ¬ (¬ (isP x y ∧ inR 1 31 r ∧ inR 12 64 b))) : oCon c x y r b W U = (0, iB (cnn (wC W (sN c))), setCl W (sN c) (csN x y r b), pushU W U) := (if_neg h1).trans (if_neg h2)
theorem oLook_1 (c x y r : Int32) (W : WS) (U : List WS) (h1 : ¬ isC c) : oLook c x y r W U = (1, 0, W, U) := if_pos h1
theorem oLook_2 (c x y r : Int32) (W : WS) (U : List WS) (h1 : ¬ (¬ isC c)) (h2 : ¬ (isP x y ∧ inR 1 31 r)) : oLook c x y r W U = (2, 0, W, U) := (if_neg h1).trans (if_pos h2)
theorem oLook_3 (c x y r : Int32) (W : WS) (U : List WS) (h1 : ¬ (¬ isC c)) (h2 : ¬ (¬ (isP x y ∧ inR 1 31 r))) (h3 : ¬ cnn (wC W (sN c))) : oLook c x y r W U = (3, 0, W, U) := (if_neg h1).trans ((if_neg h2).trans (if_pos h3))
theorem oLook_0 (c x y r : Int32) (W : WS) (U : List WS) (h1 : ¬ (¬ isC c)) (h2 : ¬ (¬ (isP x y ∧ inR 1 31 r))) (h3 : ¬ (¬ cnn (wC W (sN c)))) : oLook c x y r W U = (0, nI (inN (aimC (wC W (sN c)) x y r) (wE W) 16), setCl W (sN c) (aimC (wC W (sN c)) x y r), pushU W U) := (if_neg h1).trans ((if_neg h2).trans (if_neg h3))
theorem oDis_1 (c : Int32) (W : WS) (U : List WS) (h1 : ¬ isC c) : oDis c W U = (1, 0, W, U) := if_pos h1
theorem oDis_2 (c : Int32) (W : WS) (U : List WS) (h1 : ¬ (¬ isC c)) (h2 : ¬ cnn (wC W (sN c))) : oDis c W U = (2, 0, W, U) := (if_neg h1).trans (if_pos h2)
theorem oDis_0 (c : Int32) (W : WS) (U : List WS) (h1 : ¬ (¬ isC c)) (h2 : ¬ (¬ cnn (wC W (sN c)))) : oDis c W U = (0, cS (wC W (sN c)) 8, setCl W (sN c) cs0, pushU W U) := (if_neg h1).trans (if_neg h2)
theorem oTimes_1 (d i : Int32) (W : WS) (U : List WS) (h1 : ¬ (inR 1 10 d ∧ inR 1 10 i)) : oTimes d i W U = (1, 0, W, U) := if_pos h1
theorem oTimes_0 (d i : Int32) (W : WS) (U : List WS) (h1 : ¬ (¬ (inR 1 10 d ∧ inR 1 10 i))) : oTimes d i W U = (0, wT W 1, (upd (upd (wT W) 1 d) 2 i, wE W, wC W), pushU W U) := if_neg h1
theorem oLose_1 (c p a : Int32) (W : WS) (U : List WS) (h1 : ¬ isC c) : oLose c p a W U = (1, 0, W, U) := if_pos h1
theorem oLose_2 (c p a : Int32) (W : WS) (U : List WS) (h1 : ¬ (¬ isC c)) (h2 : ¬ (inR 0 50 p ∧ inR 0 50 a)) : oLose c p a W U = (2, 0, W, U) := (if_neg h1).trans (if_pos h2)
theorem oLose_3 (c p a : Int32) (W : WS) (U : List WS) (h1 : ¬ (¬ isC c)) (h2 : ¬ (¬ (inR 0 50 p ∧ inR 0 50 a))) (h3 : ¬ cnn (wC W (sN c))) : oLose c p a W U = (3, 0, W, U) := (if_neg h1).trans ((if_neg h2).trans (if_pos h3))
theorem oLose_0 (c p a : Int32) (W : WS) (U : List WS) (h1 : ¬ (¬ isC c)) (h2 : ¬ (¬ (inR 0 50 p ∧ inR 0 50 a))) (h3 : ¬ (¬ cnn (wC W (sN c)))) : oLose c p a W U = (0, cS (wC W (sN c)) 5, setCl W (sN c) (setS (setS (wC W (sN c)) 5 p) 6 a), pushU W U) := (if_neg h1).trans ((if_neg h2).trans (if_neg h3))
theorem oTick_1 (n : Int32) (W : WS) (U : List WS) (h1 : ¬ inR 1 50 n) : oTick n W U = (1, 0, W, U) := if_pos h1
theorem oTick_0 (n : Int32) (W : WS) (U : List WS) (h1 : ¬ (¬ inR 1 50 n)) : oTick n W U = (0, wT (tkN W (sN n)) 0, tkN W (sN n), pushU W U) := if_neg h1
theorem oCopy_1 (c e w : Int32) (W : WS) (U : List WS) (h1 : ¬ (isC c ∧ isE e)) : oCopy c e w W U = (1, 0, W, U) := if_pos h1
theorem oCopy_2 (c e w : Int32) (W : WS) (U : List WS) (h1 : ¬ (¬ (isC c ∧ isE e))) (h2 : ¬ inR 0 6 w) : oCopy c e w W U = (2, 0, W, U) := (if_neg h1).trans (if_pos h2)
theorem oCopy_0 (c e w : Int32) (W : WS) (U : List WS) (h1 : ¬ (¬ (isC c ∧ isE e))) (h2 : ¬ (¬ inR 0 6 w)) : oCopy c e w W U = (0, cpV (cR (wC W (sN c)) (sN e)) (sN w), W, U) := (if_neg h1).trans (if_neg h2)
theorem oKept_1 (c e w : Int32) (W : WS) (U : List WS) (h1 : ¬ (isC c ∧ isE e)) : oKept c e w W U = (1, 0, W, U) := if_pos h1
theorem oKept_2 (c e w : Int32) (W : WS) (U : List WS) (h1 : ¬ (¬ (isC c ∧ isE e))) (h2 : ¬ inR 0 8 w) : oKept c e w W U = (2, 0, W, U) := (if_neg h1).trans (if_pos h2)
theorem oKept_3 (c e w : Int32) (W : WS) (U : List WS) (h1 : ¬ (¬ (isC c ∧ isE e))) (h2 : ¬ (¬ inR 0 8 w)) (h3 : ¬ cnn (wC W (sN c))) : oKept c e w W U = (3, 0, W, U) := (if_neg h1).trans ((if_neg h2).trans (if_pos h3))
theorem oKept_0 (c e w : Int32) (W : WS) (U : List WS) (h1 : ¬ (¬ (isC c ∧ isE e))) (h2 : ¬ (¬ inR 0 8 w)) (h3 : ¬ (¬ cnn (wC W (sN c)))) : oKept c e w W U = (0, kpV (wC W (sN c)) (wE W) (sN e) (sN w), W, U) := (if_neg h1).trans ((if_neg h2).trans (if_neg h3))
theorem oCnt_1 (c w : Int32) (W : WS) (U : List WS) (h1 : ¬ isC c) : oCnt c w W U = (1, 0, W, U) := if_pos h1
theorem oCnt_2 (c w : Int32) (W : WS) (U : List WS) (h1 : ¬ (¬ isC c)) (h2 : ¬ inR 0 8 w) : oCnt c w W U = (2, 0, W, U) := (if_neg h1).trans (if_pos h2)
theorem oCnt_0 (c w : Int32) (W : WS) (U : List WS) (h1 : ¬ (¬ isC c)) (h2 : ¬ (¬ inR 0 8 w)) : oCnt c w W U = (0, cnV (wC W (sN c)) (sN w), W, U) := (if_neg h1).trans (if_neg h2)
theorem oStale_1 (c : Int32) (W : WS) (U : List WS) (h1 : ¬ isC c) : oStale c W U = (1, 0, W, U) := if_pos h1
theorem oStale_2 (c : Int32) (W : WS) (U : List WS) (h1 : ¬ (¬ isC c)) (h2 : ¬ cnn (wC W (sN c))) : oStale c W U = (2, 0, W, U) := (if_neg h1).trans (if_pos h2)
theorem oStale_0 (c : Int32) (W : WS) (U : List WS) (h1 : ¬ (¬ isC c)) (h2 : ¬ (¬ cnn (wC W (sN c)))) : oStale c W U = (0, nI (staleN (wC W (sN c)) (wE W)), W, U) := (if_neg h1).trans (if_neg h2)
theorem oPrice_1 (c e : Int32) (W : WS) (U : List WS) (h1 : ¬ (isC c ∧ isE e)) : oPrice c e W U = (1, 0, W, U) := if_pos h1
theorem oPrice_2 (c e : Int32) (W : WS) (U : List WS) (h1 : ¬ (¬ (isC c ∧ isE e))) (h2 : ¬ cnn (wC W (sN c))) : oPrice c e W U = (2, 0, W, U) := (if_neg h1).trans (if_pos h2)
theorem oPrice_0 (c e : Int32) (W : WS) (U : List WS) (h1 : ¬ (¬ (isC c ∧ isE e))) (h2 : ¬ (¬ cnn (wC W (sN c)))) : oPrice c e W U = (0, nI (prc (wC W (sN c)) (wE W) (sN e)), W, U) := (if_neg h1).trans (if_neg h2)
theorem iB_nn {p : Prop} [Decidable p] (q : ¬ ¬ iB p = 0) : ¬ p := (iB_eq0 p).mp (Classical.not_not.mp q)
theorem iB_n {p : Prop} [Decidable p] (q : iB p = 0) : ¬ p := (iB_eq0 p).mp q
theorem iB_y {p : Prop} [Decidable p] (q : ¬ iB p = 0) : p := (iB_ne0 p).mp q
theorem nn {p : Prop} (h : p) : ¬ ¬ p := fun w => w h
theorem RW.setE {f : Nat → Int32} {W : WS} (h : RW f W) {e k : Nat} (he : e < 16) (hk : k < 3) (v : Int32) : RW (upd f (3 + 3 * e + k) v) (setEn W e k v) := by
  refine ⟨fun j hj => ?_, fun x hx j hj => ?_, fun c hc => (h.2.2 c hc).keep fun z z1 z2 => upd_ne _ _ (by omega)⟩
  · rw [upd_ne _ _ (by omega)]
    exact h.1 j hj
  · show upd f _ v _ = up2 (wE W) e k v x j
    by_cases q : x = e ∧ j = k
    · rw [q.1, q.2, upd_eq, u2_eq]
    · rw [upd_ne _ _ (by omega)]
      refine (h.2.1 x hx j hj).trans ?_
      unfold up2
      rw [if_neg q]
theorem RW.setT {f : Nat → Int32} {W : WS} (h : RW f W) {k : Nat} (hk : k < 3) (v : Int32) : RW (upd f k v) (upd (wT W) k v, wE W, wC W) := by
  refine ⟨fun j hj => ?_, fun x hx j hj => by rw [upd_ne _ _ (by omega)]; exact h.2.1 x hx j hj, fun c hc => (h.2.2 c hc).keep fun z z1 z2 => upd_ne _ _ (by omega)⟩
  show upd f k v j = upd (wT W) k v j
  by_cases q : j = k
  · rw [q, upd_eq, upd_eq]
  · rw [upd_ne _ _ q, upd_ne _ _ q]
    exact h.1 j hj
theorem RW.cl {f g : Nat → Int32} {W : WS} (h : RW f W) {c : Nat} {X : CS} (hg : RC g c X) (ho : ∀ k, k < 51 + 2406 * c ∨ 51 + 2406 * c + 2406 ≤ k → g k = f k) : RW g (setCl W c X) := by
  refine RW.setC (D := up1 (wC W) c X) h ?_ (fun d _ hd => up1_ne' _ _ hd) ho
  rw [up1_eq']
  exact hg
/-- how a refused call ends in the reference -/
theorem refF {R : RS4} {μ : MM} {r : Nat} {W : WS} {U : List WS} {K : OC → MM → Prop} (h : refK R μ r W U K) (hR : REF μ r W U) {cd : Nat} (e : R = (cd, 0, W, U)) (h0 : ¬ cd = 0) : K (.inl (some (.inl 0))) (up2 μ.1 r 5 (nI cd), μ.2) :=
  h.2 (by rw [e]; exact h0) (codM μ r (nI cd)) (hR.cod _) (by rw [codM_5, e]) (codM_f _ _ _)
/-- .. and a read -/
theorem refR {R : RS4} {μ : MM} {r : Nat} {W : WS} {U : List WS} {K : OC → MM → Prop} (h : refK R μ r W U K) (hR : REF μ r W U) {v : Int32} (e : R = (0, v, W, U)) : K (.inl (some (.inl v))) (up2 μ.1 r 5 (nI 0), μ.2) := by
  have := h.1 (by rw [e]) (codM μ r (nI 0)) (by rw [e]; exact hR.cod _) (codM_5 _ _ _) (codM_f _ _ _)
  rw [e] at this
  exact this
/-- the join behind the checks: all is well, or a code -/
def joinP (R : RS4) (P : Prop) (W : WS) (U : List WS) (st : List TV) (r : Nat) : Prop := (P ∧ st = [.inl (nI 0), .inr (.inr (20, r))]) ∨ ∃ cd, ¬ cd = 0 ∧ cd < 4 ∧ R = (cd, 0, W, U) ∧ st = [.inl (nI cd), .inr (.inr (20, r))]
theorem cd_ne {cd : Nat} (h : ¬ cd = 0) (h4 : cd < 4) (q : nI cd = 0) : False := by
  rw [z_nI, nI_eq_iff (by omega) (by omega)] at q
  exact h q
theorem cod5 (μ : MM) (r : Nat) (x : Int32) : (up2 μ.1 r 5 x) r 5 = x := u2_eq _ _ _ _
def sp_X10_place : SPc := fun As μ K => match As with
  | [.inr (.inr (20, r)), .inl e, .inl x, .inl y, .inl k, .inl h] => ∃ (W : WS) (U : List WS), REF μ r W U ∧ refK (oPlace e x y k h W U) μ r W U K
  | _ => False
def ct_X10_place : List (Nat × CI) := [(57, ci_X10_isEntity), (61, ci_X10_isPosition), (49, ci_X10_in), (65, ci_X10_keep), (68, ci_X10_exists), (45, ci_X10_packed)]
def ci_X10_place : CI := (yX10_place, cX10_place, 7, some .boolean, 6, (2, 0, 0, 43), 19, [], sp_X10_place)
set_option maxRecDepth 100000 in
theorem ck_X10_place : chkM ci_X10_place RX10 co_X10_place ct_X10_place [] true false = true := by decide +kernel
set_option maxHeartbeats 4000000 in
set_option maxRecDepth 100000 in
theorem ms_X10_place {g : GPT} {ot : OT} {l : Launch} (hl : l.stackTraces = false) : MS g ot l ci_X10_place := by
  refine ms_of hl RX10 co_X10_place ct_X10_place [] true false [46] 55 ck_X10_place (List.forall_mem_cons.mpr ⟨ms_X10_isEntity hl, List.forall_mem_cons.mpr ⟨ms_X10_isPosition hl, List.forall_mem_cons.mpr ⟨ms_X10_in hl, List.forall_mem_cons.mpr ⟨ms_X10_keep hl, List.forall_mem_cons.mpr ⟨ms_X10_exists hl, List.forall_mem_cons.mpr ⟨ms_X10_packed hl, fun _ h => nomatch h⟩⟩⟩⟩⟩⟩) ?_
  intro As μ K h
  simp only [ci_X10_place, sp_X10_place] at h
  split at h
  case h_2 => exact h.elim
  rename_i r e x y k hh
  obtain ⟨W, U, hR, h⟩ := h
  refine ⟨Nat.le_of_ble_eq_true rfl, fun m pc lc st μ' ce sl => m = 0 ∧ pc = 46 ∧ lc = [some (.inr (.inr (20, r))), some (.inl e), some (.inl x), some (.inl y), some (.inl k), some (.inl hh), none] ∧ joinP (oPlace e x y k hh W U) (isE e ∧ isP x y ∧ inR 0 3 k ∧ inR 0 100 hh) W U st r ∧ μ = μ' ∧ ce = 0 ∧ sl = 0, ?_, ?_⟩
  · refine ⟨fun q => ⟨fun q2 => ?_, fun q2 => ⟨fun q3 => ?_, fun q3 => ⟨fun q4 => ?_, fun q4 => ?_⟩⟩⟩, fun q => ?_⟩
    · exact ⟨0, [some (.inr (.inr (20, r))), some (.inl e), some (.inl x), some (.inl y), some (.inl k), some (.inl hh), none], ⟨rfl, rfl, rfl, rfl, rfl, rfl, trivial⟩, rfl, rfl, rfl, Or.inr ⟨2, by omega, by omega, oPlace_2 _ _ _ _ _ W U (nn (iB_y q)) (fun w => iB_n q2 w.1), rfl⟩, rfl, rfl, rfl⟩
    · exact ⟨0, [some (.inr (.inr (20, r))), some (.inl e), some (.inl x), some (.inl y), some (.inl k), some (.inl hh), none], ⟨rfl, rfl, rfl, rfl, rfl, rfl, trivial⟩, rfl, rfl, rfl, Or.inr ⟨2, by omega, by omega, oPlace_2 _ _ _ _ _ W U (nn (iB_y q)) (fun w => iB_n q3 w.2.1), rfl⟩, rfl, rfl, rfl⟩
    · exact ⟨0, [some (.inr (.inr (20, r))), some (.inl e), some (.inl x), some (.inl y), some (.inl k), some (.inl hh), none], ⟨rfl, rfl, rfl, rfl, rfl, rfl, trivial⟩, rfl, rfl, rfl, Or.inr ⟨2, by omega, by omega, oPlace_2 _ _ _ _ _ W U (nn (iB_y q)) (fun w => iB_n q4 w.2.2), rfl⟩, rfl, rfl, rfl⟩
    · exact ⟨0, [some (.inr (.inr (20, r))), some (.inl e), some (.inl x), some (.inl y), some (.inl k), some (.inl hh), none], ⟨rfl, rfl, rfl, rfl, rfl, rfl, trivial⟩, rfl, rfl, rfl, Or.inl ⟨⟨iB_y q, iB_y q2, iB_y q3, iB_y q4⟩, rfl⟩, rfl, rfl, rfl⟩
    · exact ⟨0, [some (.inr (.inr (20, r))), some (.inl e), some (.inl x), some (.inl y), some (.inl k), some (.inl hh), none], ⟨rfl, rfl, rfl, rfl, rfl, rfl, trivial⟩, rfl, rfl, rfl, Or.inr ⟨1, by omega, by omega, oPlace_1 _ _ _ _ _ W U (iB_nn q), rfl⟩, rfl, rfl, rfl⟩
  · rintro m pc lc st μ' ce sl ⟨rfl, rfl, rfl, (⟨⟨E, P, P2, P3⟩, rfl⟩ | ⟨cd, d1, d2, d3, rfl⟩), rfl, rfl, rfl⟩
    · obtain ⟨j, hj, rfl, sj⟩ := e_nat E
      obtain ⟨a, ha, rfl, sa⟩ := r_nat (n := 31) (by omega) P.1
      obtain ⟨b, hb, rfl, sb⟩ := r_nat (n := 31) (by omega) P.2
      obtain ⟨c, hc, rfl, sc⟩ := r_nat (n := 3) (by omega) P2
      obtain ⟨d, hd, rfl, sd⟩ := r_nat (n := 100) (by omega) P3
      have ex := oPlace_0 (nI j) (nI a) (nI b) (nI c) (nI d) W U (nn E) (nn ⟨P, P2, P3⟩)
      rw [sj, sa, sb, sc, sd] at ex
      rw [ex] at h
      refine ⟨fun q => ⟨W, U, hR.cod (nI 0), fun ν hν h5 hr1 hf => ⟨j, rfl, hj, a, b, c, d, rfl, rfl, rfl, rfl, 3 + 3 * j, by simp only [iL, nI_mul, nI_add], by omega, iB_01 _, ?_⟩⟩, fun q => absurd (cod5 μ r (nI 0)) q⟩
      have e0 : ν.1 (r + 1) (3 + 3 * j) = wE W j 0 := hν.1.2.1 j hj 0 (by omega)
      rw [e0]
      show K _ (up2 ν.1 (r + 1) (3 + 3 * j) (nI (pkN a b c d)), ν.2)
      rw [up2_rW]
      exact h.1 rfl _ (hν.w (hν.1.setE (k := 0) hj (by omega) _)) (by rw [rW_ne _ _ _ (by omega)]; exact h5.trans (cod5 _ _ _)) ((codM_f μ r (nI 0)).trans (hf.trans (rW_f _ _ _)))
    · exact ⟨fun q => (cd_ne d1 d2 ((cod5 μ r (nI cd)).symm.trans q)).elim, fun _ => ⟨Or.inl rfl, refF h hR d3 d1⟩⟩
