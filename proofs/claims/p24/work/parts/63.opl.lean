/-! the operations, case by case (by program) -/
theorem oPlace_1 (e x y k h : Int32) (W : WS) (U : List WS) (h1 : ¬ isE e) : oPlace e x y k h W U = (1, 0, W, U) := if_pos h1
theorem oPlace_2 (e x y k h : Int32) (W : WS) (U : List WS) (h1 : ¬ (¬ isE e)) (h2 : ¬ (isP x y ∧ inR 0 3 k ∧ inR 0 100 h)) : oPlace e x y k h W U = (2, 0, W, U) := (if_neg h1).trans (if_pos h2)
theorem oPlace_0 (e x y k h : Int32) (W : WS) (U : List WS) (h1 : ¬ (¬ isE e)) (h2 : ¬ (¬ (isP x y ∧ inR 0 3 k ∧ inR 0 100 h))) : oPlace e x y k h W U = (0, iB (¬ wE W (sN e) 0 = -1), setEn W (sN e) 0 (nI (pkN (sN x) (sN y) (sN k) (sN h))), pushU W U) := (if_neg h1).trans (if_neg h2)
theorem oSetV_1 (e x y : Int32) (W : WS) (U : List WS) (h1 : ¬ isE e) : oSetV e x y W U = (1, 0, W, U) := if_pos h1
theorem oSetV_2 (e x y : Int32) (W : WS) (U : List WS) (h1 : ¬ (¬ isE e)) (h2 : ¬ (inR (-3) 3 x ∧ inR (-3) 3 y)) : oSetV e x y W U = (2, 0, W, U) := (if_neg h1).trans (if_pos h2)
theorem oSetV_3 (e x y : Int32) (W : WS) (U : List WS) (h1 : ¬ (¬ isE e)) (h2 : ¬ (¬ (inR (-3) 3 x ∧ inR (-3) 3 y))) (h3 : wE W (sN e) 0 = -1) : oSetV e x y W U = (3, 0, W, U) := (if_neg h1).trans ((if_neg h2).trans (if_pos h3))
theorem oSetV_0 (e x y : Int32) (W : WS) (U : List WS) (h1 : ¬ (¬ isE e)) (h2 : ¬ (¬ (inR (-3) 3 x ∧ inR (-3) 3 y))) (h3 : ¬ (wE W (sN e) 0 = -1)) : oSetV e x y W U = (0, 10 * (wE W (sN e) 1 + 3) + (wE W (sN e) 2 + 3), setEn (setEn W (sN e) 1 x) (sN e) 2 y, pushU W U) := (if_neg h1).trans ((if_neg h2).trans (if_neg h3))
theorem oSetH_1 (e h : Int32) (W : WS) (U : List WS) (h1 : ¬ isE e) : oSetH e h W U = (1, 0, W, U) := if_pos h1
theorem oSetH_2 (e h : Int32) (W : WS) (U : List WS) (h1 : ¬ (¬ isE e)) (h2 : ¬ inR 0 100 h) : oSetH e h W U = (2, 0, W, U) := (if_neg h1).trans (if_pos h2)
theorem oSetH_3 (e h : Int32) (W : WS) (U : List WS) (h1 : ¬ (¬ isE e)) (h2 : ¬ (¬ inR 0 100 h)) (h3 : wE W (sN e) 0 = -1) : oSetH e h W U = (3, 0, W, U) := (if_neg h1).trans ((if_neg h2).trans (if_pos h3))
theorem oSetH_0 (e h : Int32) (W : WS) (U : List WS) (h1 : ¬ (¬ isE e)) (h2 : ¬ (¬ inR 0 100 h)) (h3 : ¬ (wE W (sN e) 0 = -1)) : oSetH e h W U = (0, nI (prt (sN (wE W (sN e) 0)) 3), setEn W (sN e) 0 (nI (pkN (prt (sN (wE W (sN e) 0)) 0) (prt (sN (wE W (sN e) 0)) 1) (prt (sN (wE W (sN e) 0)) 2) (sN h))), pushU W U) := (if_neg h1).trans ((if_neg h2).trans (if_neg h3))
theorem oDel_1 (e : Int32) (W : WS) (U : List WS) (h1 : ¬ isE e) : oDel e W U = (1, 0, W, U) := if_pos h1
theorem oDel_2 (e : Int32) (W : WS) (U : List WS) (h1 : ¬ (¬ isE e)) (h2 : wE W (sN e) 0 = -1) : oDel e W U = (2, 0, W, U) := (if_neg h1).trans (if_pos h2)
theorem oDel_0 (e : Int32) (W : WS) (U : List WS) (h1 : ¬ (¬ isE e)) (h2 : ¬ (wE W (sN e) 0 = -1)) : oDel e W U = (0, nI (livN (wE (delE W (sN e))) 16), delE W (sN e), pushU W U) := (if_neg h1).trans (if_neg h2)
theorem oEnt_1 (e w : Int32) (W : WS) (U : List WS) (h1 : ¬ isE e) : oEnt e w W U = (1, 0, W, U) := if_pos h1
theorem oEnt_2 (e w : Int32) (W : WS) (U : List WS) (h1 : ¬ (¬ isE e)) (h2 : ¬ inR 0 6 w) : oEnt e w W U = (2, 0, W, U) := (if_neg h1).trans (if_pos h2)
theorem oEnt_0 (e w : Int32) (W : WS) (U : List WS) (h1 : ¬ (¬ isE e)) (h2 : ¬ (¬ inR 0 6 w)) : oEnt e w W U = (0, enV (wE W) (sN e) (sN w), W, U) := (if_neg h1).trans (if_neg h2)
theorem oCon_1 (c x y r b : Int32) (W : WS) (U : List WS) (h1 : ¬ isC c) : oCon c x y r b W U = (1, 0, W, U) := if_pos h1
theorem oCon_2 (c x y r b : Int32) (W : WS) (U : List WS) (h1 : ¬ (¬ isC c)) (h2 : ¬ (isP x y ∧ inR 1 31 r ∧ inR 12 64 b)) : oCon c x y r b W U = (2, 0, W, U) := (if_neg h1).trans (if_pos h2)
theorem oCon_0 (c x y r b : Int32) (W : WS) (U : List WS) (h1 : ¬ (¬ isC c)) (h2 : ¬ (¬ (isP x y ∧ inR 1 31 r ∧ inR 12 64 b))) : oCon c x y r b W U = (0, iB (cnn (wC W (sN c))), setCl W (sN c) (csN x y r b), pushU W U) := (if_neg h1).trans (if_neg h2)
theorem oLook_1 (c x y r : Int32) (W : WS) (U : List WS) (h1 : ¬ isC c) : oLook c x y r W U = (1, 0, W, U) := if_pos h1
theorem oLook_2 (c x y r : Int32) (W : WS) (U : List WS) (h1 : ¬ (¬ isC c)) (h2 : ¬ (isP x y ∧ inR 1 31 r)) : oLook c x y r W U = (2, 0, W, U) := (if_neg h1).trans (if_pos h2)
theorem oLook_3 (c x y r : Int32) (W : WS) (U : List WS) (h1 : ¬ (¬ isC c)) (h2 : ¬ (¬ (isP x y ∧ inR 1 31 r))) (h3 : ¬ cnn (wC W (sN c))) : oLook c x y r W U = (3, 0, W, U) := (if_neg h1).trans ((if_neg h2).trans (if_pos h3))
theorem oLook_0 (c x y r : Int32) (W : WS) (U : List WS) (h1 : ¬ (¬ isC c)) (h2 : ¬ (¬ (isP x y ∧ inR 1 31 r))) (h3 : ¬ (¬ cnn (wC W (sN c)))) : oLook c x y r W U = (0, nI (inN (aimC (wC W (sN c)) x y r) (wE W) 16), setCl W (sN c) (aimC (wC W (sN c)) x y r), pushU W U) := (if_neg h1).trans ((if_neg h2).trans (if_neg h3))
theorem oDis_1 (c : Int32) (W : WS) (U : List WS) (h1 : ¬ isC c) : oDis c W U = (1, 0, W, U) := if_pos h1
theorem oDis_2 (c : Int32) (W : WS) (U : List WS) (h1 : ¬ (¬ isC c)) (h2 : ¬ cnn (wC W (sN c))) : oDis c W U = (2, 0, W, U) := (if_neg h1).trans (if_pos h2)
theorem oDis_0 (c : Int32) (W : WS) (U : List WS) (h1 : ¬ (¬ isC c)) (h2 : ¬ (¬ cnn (wC W (sN c)))) : oDis c W U = (0, cS (wC W (sN c)) 8, setCl W (sN c) cs0, pushU W U) := (if_neg h1).trans (if_neg h2)
theorem oTimes_1 (d i : Int32) (W : WS) (U : List WS) (h1 : ¬ (inR 1 10 d ∧ inR 1 10 i)) : oTimes d i W U = (1, 0, W, U) := if_pos h1
theorem oTimes_0 (d i : Int32) (W : WS) (U : List WS) (h1 : ¬ (¬ (inR 1 10 d ∧ inR 1 10 i))) : oTimes d i W U = (0, wT W 1, (upd (upd (wT W) 1 d) 2 i, wE W, wC W), pushU W U) := if_neg h1
theorem oLose_1 (c p a : Int32) (W : WS) (U : List WS) (h1 : ¬ isC c) : oLose c p a W U = (1, 0, W, U) := if_pos h1
theorem oLose_2 (c p a : Int32) (W : WS) (U : List WS) (h1 : ¬ (¬ isC c)) (h2 : ¬ (inR 0 50 p ∧ inR 0 50 a)) : oLose c p a W U = (2, 0, W, U) := (if_neg h1).trans (if_pos h2)
theorem oLose_3 (c p a : Int32) (W : WS) (U : List WS) (h1 : ¬ (¬ isC c)) (h2 : ¬ (¬ (inR 0 50 p ∧ inR 0 50 a))) (h3 : ¬ cnn (wC W (sN c))) : oLose c p a W U = (3, 0, W, U) := (if_neg h1).trans ((if_neg h2).trans (if_pos h3))
theorem oLose_0 (c p a : Int32) (W : WS) (U : List WS) (h1 : ¬ (¬ isC c)) (h2 : ¬ (¬ (inR 0 50 p ∧ inR 0 50 a))) (h3 : ¬ (¬ cnn (wC W (sN c)))) : oLose c p a W U = (0, cS (wC W (sN c)) 5, setCl W (sN c) (setS (setS (wC W (sN c)) 5 p) 6 a), pushU W U) := (if_neg h1).trans ((if_neg h2).trans (if_neg h3))
theorem oTick_1 (n : Int32) (W : WS) (U : List WS) (h1 : ¬ inR 1 50 n) : oTick n W U = (1, 0, W, U) := if_pos h1
theorem oTick_0 (n : Int32) (W : WS) (U : List WS) (h1 : ¬ (¬ inR 1 50 n)) : oTick n W U = (0, wT (tkN W (sN n)) 0, tkN W (sN n), pushU W U) := if_neg h1
theorem oCopy_1 (c e w : Int32) (W : WS) (U : List WS) (h1 : ¬ (isC c ∧ isE e)) : oCopy c e w W U = (1, 0, W, U) := if_pos h1
theorem oCopy_2 (c e w : Int32) (W : WS) (U : List WS) (h1 : ¬ (¬ (isC c ∧ isE e))) (h2 : ¬ inR 0 6 w) : oCopy c e w W U = (2, 0, W, U) := (if_neg h1).trans (if_pos h2)
theorem oCopy_0 (c e w : Int32) (W : WS) (U : List WS) (h1 : ¬ (¬ (isC c ∧ isE e))) (h2 : ¬ (¬ inR 0 6 w)) : oCopy c e w W U = (0, cpV (cR (wC W (sN c)) (sN e)) (sN w), W, U) := (if_neg h1).trans (if_neg h2)
theorem oKept_1 (c e w : Int32) (W : WS) (U : List WS) (h1 : ¬ (isC c ∧ isE e)) : oKept c e w W U = (1, 0, W, U) := if_pos h1
theorem oKept_2 (c e w : Int32) (W : WS) (U : List WS) (h1 : ¬ (¬ (isC c ∧ isE e))) (h2 : ¬ inR 0 8 w) : oKept c e w W U = (2, 0, W, U) := (if_neg h1).trans (if_pos h2)
theorem oKept_3 (c e w : Int32) (W : WS) (U : List WS) (h1 : ¬ (¬ (isC c ∧ isE e))) (h2 : ¬ (¬ inR 0 8 w)) (h3 : ¬ cnn (wC W (sN c))) : oKept c e w W U = (3, 0, W, U) := (if_neg h1).trans ((if_neg h2).trans (if_pos h3))
theorem oKept_0 (c e w : Int32) (W : WS) (U : List WS) (h1 : ¬ (¬ (isC c ∧ isE e))) (h2 : ¬ (¬ inR 0 8 w)) (h3 : ¬ (¬ cnn (wC W (sN c)))) : oKept c e w W U = (0, kpV (wC W (sN c)) (wE W) (sN e) (sN w), W, U) := (if_neg h1).trans ((if_neg h2).trans (if_neg h3))
theorem oCnt_1 (c w : Int32) (W : WS) (U : List WS) (h1 : ¬ isC c) : oCnt c w W U = (1, 0, W, U) := if_pos h1
theorem oCnt_2 (c w : Int32) (W : WS) (U : List WS) (h1 : ¬ (¬ isC c)) (h2 : ¬ inR 0 8 w) : oCnt c w W U = (2, 0, W, U) := (if_neg h1).trans (if_pos h2)
theorem oCnt_0 (c w : Int32) (W : WS) (U : List WS) (h1 : ¬ (¬ isC c)) (h2 : ¬ (¬ inR 0 8 w)) : oCnt c w W U = (0, cnV (wC W (sN c)) (sN w), W, U) := (if_neg h1).trans (if_neg h2)
theorem oStale_1 (c : Int32) (W : WS) (U : List WS) (h1 : ¬ isC c) : oStale c W U = (1, 0, W, U) := if_pos h1
theorem oStale_2 (c : Int32) (W : WS) (U : List WS) (h1 : ¬ (¬ isC c)) (h2 : ¬ cnn (wC W (sN c))) : oStale c W U = (2, 0, W, U) := (if_neg h1).trans (if_pos h2)
theorem oStale_0 (c : Int32) (W : WS) (U : List WS) (h1 : ¬ (¬ isC c)) (h2 : ¬ (¬ cnn (wC W (sN c)))) : oStale c W U = (0, nI (staleN (wC W (sN c)) (wE W)), W, U) := (if_neg h1).trans (if_neg h2)
theorem oPrice_1 (c e : Int32) (W : WS) (U : List WS) (h1 : ¬ (isC c ∧ isE e)) : oPrice c e W U = (1, 0, W, U) := if_pos h1
theorem oPrice_2 (c e : Int32) (W : WS) (U : List WS) (h1 : ¬ (¬ (isC c ∧ isE e))) (h2 : ¬ cnn (wC W (sN c))) : oPrice c e W U = (2, 0, W, U) := (if_neg h1).trans (if_pos h2)
theorem oPrice_0 (c e : Int32) (W : WS) (U : List WS) (h1 : ¬ (¬ (isC c ∧ isE e))) (h2 : ¬ (¬ cnn (wC W (sN c)))) : oPrice c e W U = (0, nI (prc (wC W (sN c)) (wE W) (sN e)), W, U) := (if_neg h1).trans (if_neg h2)
theorem iB_nn {p : Prop} [Decidable p] (q : ¬ ¬ iB p = 0) : ¬ p := (iB_eq0 p).mp (Classical.not_not.mp q)
theorem iB_n {p : Prop} [Decidable p] (q : iB p = 0) : ¬ p := (iB_eq0 p).mp q
theorem iB_y {p : Prop} [Decidable p] (q : ¬ iB p = 0) : p := (iB_ne0 p).mp q
theorem nn {p : Prop} (h : p) : ¬ ¬ p := fun w => w h
/-- the join behind the checks: all is well, or a code -/
def joinP (R : RS4) (P : Prop) (W : WS) (U : List WS) (st : List TV) (r : Nat) : Prop := (P ∧ st = [.inl (nI 0), .inr (.inr (20, r))]) ∨ ∃ cd, ¬ cd = 0 ∧ cd < 4 ∧ R = (cd, 0, W, U) ∧ st = [.inl (nI cd), .inr (.inr (20, r))]
theorem cd_ne {cd : Nat} (h : ¬ cd = 0) (h4 : cd < 4) (q : nI cd = 0) : False := by
  rw [z_nI, nI_eq_iff (by omega) (by omega)] at q
  exact h q
theorem cod5 (μ : MM) (r : Nat) (x : Int32) : (up2 μ.1 r 5 x) r 5 = x := u2_eq _ _ _ _
