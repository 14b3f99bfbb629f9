/-! .. the clients' acts, the times, the ticks. -/
theorem aim_S (X : CS) (x y r : Int32) : (∀ k, ¬ k = 1 → ¬ k = 2 → ¬ k = 3 → cS (aimC X x y r) k = cS X k) ∧ cS (aimC X x y r) 1 = x ∧ cS (aimC X x y r) 2 = y := by
  refine ⟨fun k h1 h2 h3 => ?_, ?_, ?_⟩
  · show upd (upd (upd (cS X) 1 x) 2 y) 3 r k = _
    rw [upd_ne _ _ h3, upd_ne _ _ h2, upd_ne _ _ h1]
  · show upd (upd (upd (cS X) 1 x) 2 y) 3 r 1 = _
    rw [upd_ne _ _ (by omega), upd_ne _ _ (by omega), upd_eq]
  · show upd (upd (upd (cS X) 1 x) 2 y) 3 r 2 = _
    rw [upd_ne _ _ (by omega), upd_eq]
theorem g_look {M : Nat} {W : WS} {U : List WS} {bud wh : Nat → Int32} (h : LQ M W bud wh) (hK : WKS M W U) {c x y r : Nat} (hc : c < 3) (hx : x < 32) (hy : y < 32) (hr : r < 31) : opG M W U xc0 (oLook (nI c) (nI x) (nI y) (Int32.ofInt 1 + nI r) W U) bud wh := by
  have er : Int32.ofInt 1 + nI r = nI (1 + r) := nI_add 1 r
  rw [er]
  have P : isP (nI x) (nI y) ∧ inR 1 31 (nI (1 + r)) := ⟨⟨inR_n (n := 31) (by omega) (by omega), inR_n (n := 31) (by omega) (by omega)⟩, by
    show nI 1 ≤ nI (1 + r) ∧ nI (1 + r) ≤ nI 31
    rw [nI_le_iff (by omega) (by omega), nI_le_iff (by omega) (by omega)]
    omega⟩
  by_cases q : cnn (wC W c)
  · have ex := oLook_0 (nI c) (nI x) (nI y) (nI (1 + r)) W U (nn (isC_m hc)) (nn P) (nn (by rw [sNi (j := c) (by omega)]; exact q))
    rw [sNi (j := c) (by omega)] at ex
    obtain ⟨a1, a2, a3⟩ := aim_S (wC W c) (nI x) (nI y) (nI (1 + r))
    refine opG_0 ex (kLook hK _ _ _ _) ((h.cl (bud' := bud) (wh' := wh) hc (fun T ⟨N, b, n1, n2, n3⟩ => ⟨N, b, n1, n2.same (fun k k1 k2 k3 _ _ => a1 k k1 k2 k3) ⟨x, by omega, a2⟩ ⟨y, by omega, a3⟩ rfl, n3.same (a1 5 (by omega) (by omega) (by omega))⟩) (fun w => ?_) fun _ _ => ⟨rfl, rfl⟩).mono (by omega)) (nI_0le (by have := cntN_le (fun e => inA (aimC (wC W c) (nI x) (nI y) (nI (1 + r))) (wE W e 0)) (fun _ => inferInstance) 16; unfold inN; omega)) (Int32.le_refl _)
    obtain ⟨l1, l2⟩ := h.2 c hc q
    refine ⟨(a1 4 (by omega) (by omega) (by omega)).trans l1, fun v => ?_⟩
    obtain ⟨T2, d2, v1, v2, v3, v4, v5⟩ := l2 v
    refine ⟨T2, d2, v1, v2, v3, v4, ?_⟩
    show WHm T2 T2 d2 (up1 (wC W) c (aimC (wC W c) (nI x) (nI y) (nI (1 + r))) c)
    rw [up1_eq']
    refine v5.same ?_ rfl rfl rfl fun _ _ _ => rfl
    unfold wh1
    rw [a1 5 (by omega) (by omega) (by omega), a1 6 (by omega) (by omega) (by omega), a1 10 (by omega) (by omega) (by omega), a1 11 (by omega) (by omega) (by omega), a1 13 (by omega) (by omega) (by omega), a1 14 (by omega) (by omega) (by omega)]
    exact v5.1
  · exact opG_n (oLook_3 (nI c) _ _ _ W U (nn (isC_m hc)) (nn P) (by rw [sNi (j := c) (by omega)]; exact q)) (by decide) rfl (kLook hK _ _ _ _) h
theorem upd_o (f : Nat → Int32) {c j : Nat} (v : Int32) (h : ¬ c = j) : upd f j v c = f c := upd_ne f v h
theorem g_con {M : Nat} {W : WS} {U : List WS} {bud wh : Nat → Int32} (h : LQ M W bud wh) (hK : WKS M W U) (hM : M + 200 < 2 ^ 31) {c x y r b : Nat} (hc : c < 3) (hx : x < 32) (hy : y < 32) (hr : r < 28) (hb : 12 ≤ b ∧ b ≤ 64) : opG M W U xc0 (oCon (nI c) (nI x) (nI y) (Int32.ofInt 4 + nI r) (nI b) W U) (upd bud c (nI b)) (upd wh c 1) := by
  have er : Int32.ofInt 4 + nI r = nI (4 + r) := nI_add 4 r
  rw [er]
  have P : isP (nI x) (nI y) ∧ inR 1 31 (nI (4 + r)) ∧ inR 12 64 (nI b) := ⟨⟨inR_n (n := 31) (by omega) (by omega), inR_n (n := 31) (by omega) (by omega)⟩, by
    show nI 1 ≤ nI (4 + r) ∧ nI (4 + r) ≤ nI 31
    rw [nI_le_iff (by omega) (by omega), nI_le_iff (by omega) (by omega)]
    omega, by
    show nI 12 ≤ nI b ∧ nI b ≤ nI 64
    rw [nI_le_iff (by omega) (by omega), nI_le_iff (by omega) (by omega)]
    omega⟩
  have ex := oCon_0 (nI c) (nI x) (nI y) (nI (4 + r)) (nI b) W U (nn (isC_m hc)) (nn P)
  rw [sNi (j := c) (by omega)] at ex
  have z5 : ∀ k, 5 ≤ k → cS (csN (nI x) (nI y) (nI (4 + r)) (nI b)) k = 0 := fun k hk => by
    match k, hk with
    | k + 5, _ => rfl
  refine opG_0 ex (kCon hK _ _ _ _ _) ((h.cl (bud' := upd bud c (nI b)) (wh' := upd wh c 1) hc (fun T _ => ⟨0, b, Nat.zero_le _, GX_new T b z5 ⟨x, by omega, rfl⟩ ⟨y, by omega, rfl⟩ rfl hb.2, 0, Nat.zero_le _, (z5 5 (Nat.le_refl _)).trans z_nI⟩) (fun w => ?_) fun z hz => ⟨upd_ne _ _ hz, upd_ne _ _ hz⟩).mono (by omega)) (iB_0le _) (Int32.le_refl _)
  refine ⟨(upd_eq bud c (nI b)).symm, fun _ => ?_⟩
  obtain ⟨_, T, d, i, t1, t2, t3, t4, hd, hi, _⟩ := hK.1
  refine ⟨T, d, t2, t3, by omega, by omega, ?_⟩
  show WHm T T d (up1 (wC W) c (csN (nI x) (nI y) (nI (4 + r)) (nI b)) c)
  rw [up1_eq']
  exact WHm_new T d z5
theorem g_dis {M : Nat} {W : WS} {U : List WS} {bud wh : Nat → Int32} (h : LQ M W bud wh) (hK : WKS M W U) (hM : M + 200 < 2 ^ 31) {c : Nat} (hc : c < 3) : opG M W U xc3 (oDis (nI c) W U) bud wh := by
  by_cases q : cnn (wC W c)
  · have ex := oDis_0 (nI c) W U (nn (isC_m hc)) (nn (by rw [sNi (j := c) (by omega)]; exact q))
    rw [sNi (j := c) (by omega)] at ex
    obtain ⟨_, T, t1, t2, gC⟩ := h.1
    obtain ⟨N, b, n1, n2, n3⟩ := gC c hc
    have e8 : cS (wC W c) 8 = nI N := n2.1.1.2.1
    refine opG_0 ex (kDis hK _) ((h.cl (bud' := bud) (wh' := wh) hc (fun T _ => ⟨0, 0, Nat.zero_le _, GX_new T 0 (S := fun _ => 0) (fun _ _ => rfl) ⟨0, by omega, rfl⟩ ⟨0, by omega, rfl⟩ rfl (by omega), 0, Nat.zero_le _, rfl⟩) (fun w => ?_) fun _ _ => ⟨rfl, rfl⟩).mono (by omega)) (by rw [e8]; exact nI_0le (by omega)) (Int32.le_refl _)
    exact absurd (show (0 : Int32) = 1 from w) (by decide)
  · exact opG_n (oDis_2 (nI c) W U (nn (isC_m hc)) (by rw [sNi (j := c) (by omega)]; exact q)) (by decide) rfl (kDis hK _) h
theorem los_S (X : CS) (p a : Int32) : (∀ k, ¬ k = 5 → ¬ k = 6 → cS (setS (setS X 5 p) 6 a) k = cS X k) ∧ cS (setS (setS X 5 p) 6 a) 5 = p := by
  refine ⟨fun k h5 h6 => ?_, ?_⟩
  · show upd (upd (cS X) 5 p) 6 a k = _
    rw [upd_ne _ _ h6, upd_ne _ _ h5]
  · show upd (upd (cS X) 5 p) 6 a 5 = _
    rw [upd_ne _ _ (by omega), upd_eq]
theorem g_lose {M : Nat} {W : WS} {U : List WS} {bud wh : Nat → Int32} (h : LQ M W bud wh) (hK : WKS M W U) {c p a : Nat} (hc : c < 3) (hp : p < 4) (ha : a < 4) : (ansR xc0 (oLose (nI c) (nI p) (nI a) W U) = exV 3 ∧ opG M W U xc0 (oLose (nI c) (nI p) (nI a) W U) bud wh) ∨ (0 ≤ ansR xc0 (oLose (nI c) (nI p) (nI a) W U) ∧ opG M W U xc0 (oLose (nI c) (nI p) (nI a) W U) bud (upd wh c 0)) := by
  have P : inR 0 50 (nI p) ∧ inR 0 50 (nI a) := ⟨inR_n (n := 50) (by omega) (by omega), inR_n (n := 50) (by omega) (by omega)⟩
  by_cases q : cnn (wC W c)
  · have ex := oLose_0 (nI c) (nI p) (nI a) W U (nn (isC_m hc)) (nn P) (nn (by rw [sNi (j := c) (by omega)]; exact q))
    rw [sNi (j := c) (by omega)] at ex
    obtain ⟨a1, a2⟩ := los_S (wC W c) (nI p) (nI a)
    obtain ⟨_, T, t1, t2, gC⟩ := h.1
    obtain ⟨N, b, n1, n2, m, m1, m2⟩ := gC c hc
    have v0 : 0 ≤ cS (wC W c) 5 := by rw [m2]; exact nI_0le (by omega)
    refine Or.inr ⟨by rw [ex, ansR_0 rfl]; exact v0, opG_0 ex (kLose hK _ _ _) ((h.cl (bud' := bud) (wh' := upd wh c 0) hc (fun T ⟨N, b, n1, n2, n3⟩ => ⟨N, b, n1, n2.same (fun k _ _ _ k5 k6 => a1 k k5 k6) ?_ ?_ rfl, p, by omega, a2⟩) (fun w => ?_) fun z hz => ⟨rfl, upd_ne _ _ hz⟩).mono (by omega)) v0 (Int32.le_refl _)⟩
    · rw [a1 1 (by omega) (by omega)]
      exact n2.1.2.1
    · rw [a1 2 (by omega) (by omega)]
      exact n2.1.2.2.1
    · refine ⟨(a1 4 (by omega) (by omega)).trans (h.2 c hc q).1, fun v => ?_⟩
      rw [upd_eq] at v
      exact absurd v (by decide)
  · have ex := oLose_3 (nI c) (nI p) (nI a) W U (nn (isC_m hc)) (nn P) (by rw [sNi (j := c) (by omega)]; exact q)
    have g : opG M W U xc0 (oLose (nI c) (nI p) (nI a) W U) bud wh := opG_n ex (by decide) rfl (kLose hK _ _ _) h
    refine Or.inl ⟨?_, g⟩
    rw [ex, ansR_n (show ¬ (3 : Nat) = 0 by decide)]
    rfl
theorem g_times {M : Nat} {W : WS} {U : List WS} {bud wh wh' : Nat → Int32} (h : LQ M W bud wh) (hK : WKS M W U) {d i : Nat} (hd : d < 10) (hi : i < 10) (hw : ∀ c, c < 3 → wh' c = 0) : opG M W U xc2 (oTimes (Int32.ofInt 1 + nI d) (Int32.ofInt 1 + nI i) W U) bud wh' := by
  have e1 : Int32.ofInt 1 + nI d = nI (1 + d) := nI_add 1 d
  have e2 : Int32.ofInt 1 + nI i = nI (1 + i) := nI_add 1 i
  rw [e1, e2]
  have P : inR 1 10 (nI (1 + d)) ∧ inR 1 10 (nI (1 + i)) := by
    show (nI 1 ≤ nI (1 + d) ∧ nI (1 + d) ≤ nI 10) ∧ (nI 1 ≤ nI (1 + i) ∧ nI (1 + i) ≤ nI 10)
    rw [nI_le_iff (by omega) (by omega), nI_le_iff (by omega) (by omega), nI_le_iff (by omega) (by omega), nI_le_iff (by omega) (by omega)]
    omega
  have ex := oTimes_0 (nI (1 + d)) (nI (1 + i)) W U (nn P)
  obtain ⟨_, T, d', i', t1, t2, t3, t4, hd', hi', _⟩ := hK.1
  obtain ⟨⟨hE, T', u1, u2, gC⟩, hl⟩ := h
  have ew : upd (upd (wT W) 1 (nI (1 + d))) 2 (nI (1 + i)) 0 = wT W 0 := by rw [upd_ne _ _ (by omega), upd_ne _ _ (by omega)]
  refine opG_0 ex (kTimes hK _ _) ⟨⟨hE, T', by omega, ew.trans u2, gC⟩, fun c hcc hcn => ⟨(hl c hcc hcn).1, fun w => ?_⟩⟩ (by rw [t3]; exact nI_0le (by omega)) ?_
  · rw [hw c hcc] at w
    exact absurd w (by decide)
  · show wT W 0 ≤ upd (upd (wT W) 1 (nI (1 + d))) 2 (nI (1 + i)) 0
    rw [ew]
    exact Int32.le_refl _
theorem tkN_t {W : WS} {T : Nat} (h : wT W 0 = nI T) : ∀ k, wT (tkN W k) 0 = nI (T + k)
  | 0 => h
  | k + 1 => by
    show upd (wT (tkN W k)) 0 (wT (tkN W k) 0 + 1) 0 = _
    rw [upd_eq, tkN_t h k]
    exact nI_add (T + k) 1
theorem LQ_tkN {M : Nat} {W : WS} {bud wh : Nat → Int32} (h : LQ M W bud wh) (hW : WOK M W) (hM : M + 200 < 2 ^ 31) : ∀ k, k ≤ 50 → LQ (M + k) (tkN W k) bud wh
  | 0, _ => h
  | k + 1, hk => by
    have ih := LQ_tkN h hW hM k (by omega)
    have w := tkN_ok hW hM k (by omega)
    have hM2 : M + k + 100 < 2 ^ 31 := by omega
    refine ⟨GWd_tk w ih.1 hM2, fun c hc hcn => ?_⟩
    obtain ⟨s0, s4⟩ := tkS_04 (tkN W k) c
    have hcn : cS (tkS (tkN W k) c) 0 = 1 := hcn
    rw [s0] at hcn
    obtain ⟨l1, l2⟩ := ih.2 c hc hcn
    exact ⟨s4.trans l1, fun v => WHc_tk w ih.1 hM2 hc hcn (l2 v)⟩
theorem g_tick {M : Nat} {W : WS} {U : List WS} {bud wh : Nat → Int32} (h : LQ M W bud wh) (hK : WKS M W U) (hM : M + 200 < 2 ^ 31) {n : Nat} (h1 : 1 ≤ n) (hn : n ≤ 50) : opG M W U xc2 (oTick (nI n) W U) bud wh := by
  have P : inR 1 50 (nI n) := by
    show nI 1 ≤ nI n ∧ nI n ≤ nI 50
    rw [nI_le_iff (by omega) (by omega), nI_le_iff (by omega) (by omega)]
    omega
  have ex := oTick_0 (nI n) W U (nn P)
  rw [sNi (j := n) (by omega)] at ex
  obtain ⟨_, T, t1, t2, _⟩ := h.1
  have et := tkN_t t2 n
  refine opG_0 ex (kTick hK hM _) ((LQ_tkN h hK.1 hM n hn).mono (by omega)) (by rw [et]; exact nI_0le (by omega)) ?_
  rw [et, t2, nI_le_iff (by omega) (by omega)]
  omega
