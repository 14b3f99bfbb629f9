/-! WHAT EACH OPERATION KEEPS. -/
def KPT (M : Nat) (R : RS4) : Prop := WKS (M + 50) R.2.2.1 R.2.2.2
theorem kp0 {M : Nat} {W : WS} {U : List WS} (h : WKS M W U) (cd : Nat) (v : Int32) : KPT M (cd, v, W, U) := h.mono (by omega)
theorem kp1 {M : Nat} {W W' : WS} {U : List WS} (h : WKS M W U) (v : Int32) (hW : WOK M W') : KPT M (0, v, W', pushU W U) := (h.push hW).mono (by omega)
theorem v_of {v : Int32} (h : inR (-3) 3 v) : vOK v := h
theorem pkN_lt {a b c d : Nat} (ha : a ≤ 31) (hb : b ≤ 31) (hc : c ≤ 3) (hd : d ≤ 100) : pkN a b c d < 524288 := by unfold pkN; omega
theorem kPlace {M : Nat} {W : WS} {U : List WS} (h : WKS M W U) (e x y k z : Int32) : KPT M (oPlace e x y k z W U) := by
  by_cases E : isE e
  · by_cases P : isP x y ∧ inR 0 3 k ∧ inR 0 100 z
    · rw [oPlace_0 _ _ _ _ _ W U (nn E) (nn P)]
      obtain ⟨a, ha, rfl, sa⟩ := r_nat (n := 31) (by omega) P.1.1
      obtain ⟨b, hb, rfl, sb⟩ := r_nat (n := 31) (by omega) P.1.2
      obtain ⟨c, hc, rfl, sc⟩ := r_nat (n := 3) (by omega) P.2.1
      obtain ⟨d, hd, rfl, sd⟩ := r_nat (n := 100) (by omega) P.2.2
      refine kp1 h _ (h.1.en (h.1.1.up (fun _ => ?_) (fun w => absurd w (by omega)) fun w => absurd w (by omega)))
      rw [sa, sb, sc, sd]
      exact sOK_nI (pkN_lt ha hb hc hd)
    · rw [oPlace_2 _ _ _ _ _ W U (nn E) P]; exact kp0 h _ _
  · rw [oPlace_1 _ _ _ _ _ W U E]; exact kp0 h _ _
theorem kSetV {M : Nat} {W : WS} {U : List WS} (h : WKS M W U) (e x y : Int32) : KPT M (oSetV e x y W U) := by
  by_cases E : isE e
  · by_cases P : inR (-3) 3 x ∧ inR (-3) 3 y
    · by_cases Q : wE W (sN e) 0 = -1
      · rw [oSetV_3 _ _ _ W U (nn E) (nn P) Q]; exact kp0 h _ _
      · rw [oSetV_0 _ _ _ W U (nn E) (nn P) Q]
        exact kp1 h _ (h.1.en ((h.1.1.up (fun w => absurd w (by omega)) (fun _ => P.1) fun w => absurd w (by omega)).up (fun w => absurd w (by omega)) (fun w => absurd w (by omega)) fun _ => P.2))
    · rw [oSetV_2 _ _ _ W U (nn E) P]; exact kp0 h _ _
  · rw [oSetV_1 _ _ _ W U E]; exact kp0 h _ _
theorem kSetH {M : Nat} {W : WS} {U : List WS} (h : WKS M W U) (e x : Int32) : KPT M (oSetH e x W U) := by
  by_cases E : isE e
  · by_cases P : inR 0 100 x
    · by_cases Q : wE W (sN e) 0 = -1
      · rw [oSetH_3 _ _ W U (nn E) (nn P) Q]; exact kp0 h _ _
      · rw [oSetH_0 _ _ W U (nn E) (nn P) Q]
        obtain ⟨d, hd, rfl, sd⟩ := r_nat (n := 100) (by omega) P
        refine kp1 h _ (h.1.en (h.1.1.up (fun _ => ?_) (fun w => absurd w (by omega)) fun w => absurd w (by omega)))
        rw [sd]
        have p0 := prt01 (sN (wE W (sN e) 0)) 0 (by omega)
        have p1 := prt01 (sN (wE W (sN e) 0)) 1 (by omega)
        have p2 := prt2_lt (sN (wE W (sN e) 0))
        exact sOK_nI (pkN_lt (by omega) (by omega) (by omega) hd)
    · rw [oSetH_2 _ _ W U (nn E) P]; exact kp0 h _ _
  · rw [oSetH_1 _ _ W U E]; exact kp0 h _ _
theorem v0 : vOK 0 := by unfold vOK; decide
theorem kDel {M : Nat} {W : WS} {U : List WS} (h : WKS M W U) (e : Int32) : KPT M (oDel e W U) := by
  by_cases E : isE e
  · by_cases Q : wE W (sN e) 0 = -1
    · rw [oDel_2 _ W U (nn E) Q]; exact kp0 h _ _
    · rw [oDel_0 _ W U (nn E) Q]
      refine kp1 h _ (h.1.en ?_)
      refine eVK.up (eVK.up (eVK.up h.1.1 (fun _ => Or.inl rfl) (fun w => absurd w (by omega)) fun w => absurd w (by omega)) (fun w => absurd w (by omega)) (fun _ => v0) fun w => absurd w (by omega)) (fun w => absurd w (by omega)) (fun w => absurd w (by omega)) fun _ => v0
  · rw [oDel_1 _ W U E]; exact kp0 h _ _
theorem kEnt {M : Nat} {W : WS} {U : List WS} (h : WKS M W U) (e x : Int32) : KPT M (oEnt e x W U) := by
  unfold oEnt
  split
  · exact kp0 h _ _
  · split <;> exact kp0 h _ _
theorem kCon {M : Nat} {W : WS} {U : List WS} (h : WKS M W U) (c x y r b : Int32) : KPT M (oCon c x y r b W U) := by
  by_cases C : isC c
  · by_cases P : isP x y ∧ inR 1 31 r ∧ inR 12 64 b
    · rw [oCon_0 _ _ _ _ _ W U (nn C) (nn P)]
      obtain ⟨j, hj, rfl, sj⟩ := c_nat C
      refine kp1 h _ (h.1.cl' (fun T _ _ => ?_) (by rw [sj]; exact hj))
      exact cOK_new T (Or.inr rfl) rfl
    · rw [oCon_2 _ _ _ _ _ W U (nn C) P]; exact kp0 h _ _
  · rw [oCon_1 _ _ _ _ _ W U C]; exact kp0 h _ _
theorem kLook {M : Nat} {W : WS} {U : List WS} (h : WKS M W U) (c x y r : Int32) : KPT M (oLook c x y r W U) := by
  by_cases C : isC c
  · by_cases P : isP x y ∧ inR 1 31 r
    · by_cases Q : cnn (wC W (sN c))
      · rw [oLook_0 _ _ _ _ W U (nn C) (nn P) (nn Q)]
        obtain ⟨j, hj, rfl, sj⟩ := c_nat C
        refine kp1 h _ (h.1.cl' (fun T _ hT => cO2.same hT ?_ ?_ rfl rfl rfl fun _ _ => rfl) (by rw [sj]; exact hj))
        · show upd (upd (upd (cS (wC W (sN (nI j)))) 1 x) 2 y) 3 r 0 = _
          rw [upd_ne _ _ (by omega), upd_ne _ _ (by omega), upd_ne _ _ (by omega)]
        · show upd (upd (upd (cS (wC W (sN (nI j)))) 1 x) 2 y) 3 r 7 = _
          rw [upd_ne _ _ (by omega), upd_ne _ _ (by omega), upd_ne _ _ (by omega)]
      · rw [oLook_3 _ _ _ _ W U (nn C) (nn P) Q]; exact kp0 h _ _
    · rw [oLook_2 _ _ _ _ W U (nn C) P]; exact kp0 h _ _
  · rw [oLook_1 _ _ _ _ W U C]; exact kp0 h _ _
theorem kDis {M : Nat} {W : WS} {U : List WS} (h : WKS M W U) (c : Int32) : KPT M (oDis c W U) := by
  by_cases C : isC c
  · by_cases Q : cnn (wC W (sN c))
    · rw [oDis_0 _ W U (nn C) (nn Q)]
      obtain ⟨j, hj, rfl, sj⟩ := c_nat C
      refine kp1 h _ (h.1.cl' (fun T _ _ => ?_) (by rw [sj]; exact hj))
      exact cOK_new T (Or.inl rfl) rfl
    · rw [oDis_2 _ W U (nn C) Q]; exact kp0 h _ _
  · rw [oDis_1 _ W U C]; exact kp0 h _ _
theorem r1_nat {v : Int32} (h : inR 1 10 v) : ∃ j, (1 ≤ j ∧ j ≤ 10) ∧ v = nI j := by
  obtain ⟨j, hj, rfl, _⟩ := r_nat (n := 10) (by omega) ⟨Int32.le_trans (by decide : (0 : Int32) ≤ 1) h.1, h.2⟩
  have h1 : nI 1 ≤ nI j := h.1
  rw [nI_le_iff (by omega) (by omega)] at h1
  exact ⟨j, ⟨h1, hj⟩, rfl⟩
theorem kTimes {M : Nat} {W : WS} {U : List WS} (h : WKS M W U) (d i : Int32) : KPT M (oTimes d i W U) := by
  by_cases P : inR 1 10 d ∧ inR 1 10 i
  · rw [oTimes_0 _ _ W U (nn P)]
    obtain ⟨a, ha, rfl⟩ := r1_nat P.1
    obtain ⟨b, hb, rfl⟩ := r1_nat P.2
    obtain ⟨hE, T, d', i', t1, t2, t3, t4, hd, hi, hc⟩ := h.1
    refine kp1 h _ ⟨hE, T, a, b, t1, ?_, ?_, ?_, ha, hb, hc⟩
    · show upd (upd (wT W) 1 (nI a)) 2 (nI b) 0 = _
      rw [upd_ne _ _ (by omega), upd_ne _ _ (by omega)]
      exact t2
    · show upd (upd (wT W) 1 (nI a)) 2 (nI b) 1 = _
      rw [upd_ne _ _ (by omega), upd_eq]
    · show upd (upd (wT W) 1 (nI a)) 2 (nI b) 2 = _
      rw [upd_eq]
  · rw [oTimes_1 _ _ W U P]; exact kp0 h _ _
theorem kLose {M : Nat} {W : WS} {U : List WS} (h : WKS M W U) (c x y : Int32) : KPT M (oLose c x y W U) := by
  by_cases C : isC c
  · by_cases P : inR 0 50 x ∧ inR 0 50 y
    · by_cases Q : cnn (wC W (sN c))
      · rw [oLose_0 _ _ _ W U (nn C) (nn P) (nn Q)]
        obtain ⟨j, hj, rfl, sj⟩ := c_nat C
        refine kp1 h _ (h.1.cl' (fun T _ hT => cO2.same hT ?_ ?_ rfl rfl rfl fun _ _ => rfl) (by rw [sj]; exact hj))
        · show upd (upd (cS (wC W (sN (nI j)))) 5 x) 6 y 0 = _
          rw [upd_ne _ _ (by omega), upd_ne _ _ (by omega)]
        · show upd (upd (cS (wC W (sN (nI j)))) 5 x) 6 y 7 = _
          rw [upd_ne _ _ (by omega), upd_ne _ _ (by omega)]
      · rw [oLose_3 _ _ _ W U (nn C) (nn P) Q]; exact kp0 h _ _
    · rw [oLose_2 _ _ _ W U (nn C) P]; exact kp0 h _ _
  · rw [oLose_1 _ _ _ W U C]; exact kp0 h _ _
theorem kTick {M : Nat} {W : WS} {U : List WS} (h : WKS M W U) (hM : M + 200 < 2 ^ 31) (n : Int32) : KPT M (oTick n W U) := by
  by_cases P : inR 1 50 n
  · rw [oTick_0 _ W U (nn P)]
    obtain ⟨d, hd, rfl, sd⟩ := r_nat (n := 50) (by omega) ⟨Int32.le_trans (by decide : (0 : Int32) ≤ 1) P.1, P.2⟩
    rw [sd]
    have := tkN_ok h.1 hM d hd
    exact ⟨this.mono (by omega), fun V hV => ((h.push h.1).2 V hV).mono (by omega)⟩
  · rw [oTick_1 _ W U P]; exact kp0 h _ _
theorem kTk {M : Nat} {W : WS} (h : WOK M W) (hM : M + 200 < 2 ^ 31) : ∀ k, k < 50 → TKP (tkN W k) ∧ TKC (tkN W k) := fun k hk => by
  have := tk_ok (tkN_ok h hM k (by omega)) (by omega)
  exact ⟨this.1, this.2.1⟩
theorem kCopy {M : Nat} {W : WS} {U : List WS} (h : WKS M W U) (c e x : Int32) : KPT M (oCopy c e x W U) := by
  unfold oCopy
  split
  · exact kp0 h _ _
  · split <;> exact kp0 h _ _
theorem kKept {M : Nat} {W : WS} {U : List WS} (h : WKS M W U) (c e x : Int32) : KPT M (oKept c e x W U) := by
  unfold oKept
  split
  · exact kp0 h _ _
  · split
    · exact kp0 h _ _
    · split <;> exact kp0 h _ _
theorem kCnt {M : Nat} {W : WS} {U : List WS} (h : WKS M W U) (c x : Int32) : KPT M (oCnt c x W U) := by
  unfold oCnt
  split
  · exact kp0 h _ _
  · split <;> exact kp0 h _ _
theorem kStale {M : Nat} {W : WS} {U : List WS} (h : WKS M W U) (c : Int32) : KPT M (oStale c W U) := by
  unfold oStale
  split
  · exact kp0 h _ _
  · split <;> exact kp0 h _ _
theorem kPkt {M : Nat} {W : WS} {U : List WS} (h : WKS M W U) (c i x : Int32) : KPT M (oPkt c i x W U) := by
  unfold oPkt
  split
  · exact kp0 h _ _
  · split
    · exact kp0 h _ _
    · split <;> exact kp0 h _ _
theorem kEntry {M : Nat} {W : WS} {U : List WS} (h : WKS M W U) (c i j x : Int32) : KPT M (oEntry c i j x W U) := by
  by_cases C : isC c
  · cases hq : flyA (wC W (sN c)) i with
    | none => rw [oEntry_n C hq]; exact kp0 h _ _
    | some p =>
      cases he : entA p j with
      | none => rw [oEntry_e C hq he]; exact kp0 h _ _
      | some en =>
        by_cases P : inR 0 4 x
        · rw [oEntry_0 C hq he P]; exact kp0 h _ _
        · rw [oEntry_r C hq he P]; exact kp0 h _ _
  · rw [oEntry_1 C]; exact kp0 h _ _
theorem kPrice {M : Nat} {W : WS} {U : List WS} (h : WKS M W U) (c e : Int32) : KPT M (oPrice c e W U) := by
  unfold oPrice
  split
  · exact kp0 h _ _
  · split <;> exact kp0 h _ _
theorem kUndo {M : Nat} {W : WS} {U : List WS} (h : WKS M W U) : KPT M (oUndo W U) := by
  cases U with
  | nil => exact kp0 h _ _
  | cons V U' =>
    show WKS (M + 50) V U'
    exact ⟨(h.2 V List.mem_cons_self).mono (by omega), fun X hX => (h.2 X (List.mem_cons_of_mem _ hX)).mono (by omega)⟩
