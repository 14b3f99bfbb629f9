/-! WHAT THE LAW KEEPS OF A STATE, and what its acts keep of that. -/
def LQ (M : Nat) (W : WS) (bud wh : Nat → Int32) : Prop := GWd M W ∧ ∀ c, c < 3 → cnn (wC W c) → cS (wC W c) 4 = bud c ∧ (wh c = 1 → WHc W c)
theorem LQ.mono {M M' : Nat} {W : WS} {bud wh : Nat → Int32} (h : LQ M W bud wh) (hM : M ≤ M') : LQ M' W bud wh := ⟨h.1.mono hM, h.2⟩
theorem LQ.en {M : Nat} {W : WS} {bud wh : Nat → Int32} (h : LQ M W bud wh) {E : Nat → Nat → Int32} (hE : eV2 E) : LQ M (wT W, E, wC W) bud wh := ⟨⟨hE, h.1.2⟩, h.2⟩
theorem LQ.cl {M : Nat} {W : WS} {bud wh bud' wh' : Nat → Int32} {j : Nat} {X : CS} (h : LQ M W bud wh) (hj : j < 3) (hX : ∀ T, GCl T (wC W j) → GCl T X) (hq : cnn X → cS X 4 = bud' j ∧ (wh' j = 1 → WHc (setCl W j X) j)) (ho : ∀ c, ¬ c = j → bud' c = bud c ∧ wh' c = wh c) : LQ M (setCl W j X) bud' wh' := by
  obtain ⟨⟨hE, T, t1, t2, hc⟩, hl⟩ := h
  refine ⟨⟨hE, T, t1, t2, fun c hcc => ?_⟩, fun c hcc hcn => ?_⟩
  · show GCl T (up1 (wC W) j X c)
    by_cases q : c = j
    · rw [q, up1_eq']
      exact hX T (hc j hj)
    · rw [up1_ne' _ _ q]
      exact hc c hcc
  · have hcn : cnn (up1 (wC W) j X c) := hcn
    show cS (up1 (wC W) j X c) 4 = bud' c ∧ (wh' c = 1 → WHc (setCl W j X) c)
    by_cases q : c = j
    · rw [q, up1_eq'] at hcn
      rw [q, up1_eq']
      exact hq hcn
    · rw [up1_ne' _ _ q] at hcn ⊢
      rw [(ho c q).1, (ho c q).2]
      refine ⟨(hl c hcc hcn).1, fun w => ?_⟩
      obtain ⟨T2, d2, v1, v2, v3, v4, v5⟩ := (hl c hcc hcn).2 w
      refine ⟨T2, d2, v1, v2, v3, v4, ?_⟩
      show WHm T2 T2 d2 (up1 (wC W) j X c)
      rw [up1_ne' _ _ q]
      exact v5
def opG (M : Nat) (W : WS) (U : List WS) (ex : Nat → Nat) (R : RS4) (bud wh : Nat → Int32) : Prop := WKS (M + 50) R.2.2.1 R.2.2.2 ∧ LQ (M + 50) R.2.2.1 bud wh ∧ ((0 ≤ ansR ex R) ∨ (ansR ex R = exV 3 ∧ R.2.2 = (W, U))) ∧ wT W 0 ≤ wT R.2.2.1 0
/-- an act that is done, one that is refused -/
theorem opG_0 {M : Nat} {W W' : WS} {U U' : List WS} {ex : Nat → Nat} {R : RS4} {v : Int32} {bud wh : Nat → Int32} (e : R = (0, v, W', U')) (hK : KPT M R) (hL : LQ (M + 50) W' bud wh) (hv : 0 ≤ v) (ht : wT W 0 ≤ wT W' 0) : opG M W U ex R bud wh := by
  unfold opG
  unfold KPT at hK
  rw [e] at hK ⊢
  exact ⟨hK, hL, Or.inl (by rw [ansR_0 rfl]; exact hv), ht⟩
theorem opG_n {M : Nat} {W : WS} {U : List WS} {ex : Nat → Nat} {R : RS4} {cd : Nat} {v : Int32} {bud wh : Nat → Int32} (e : R = (cd, v, W, U)) (h0 : ¬ cd = 0) (h3 : ex cd = 3) (hK : KPT M R) (hL : LQ M W bud wh) : opG M W U ex R bud wh := by
  unfold opG
  unfold KPT at hK
  rw [e] at hK ⊢
  exact ⟨hK, hL.mono (by omega), Or.inr ⟨by rw [ansR_n h0]; show exV (ex cd) = _; rw [h3], rfl⟩, Int32.le_refl _⟩
theorem iB_0le (p : Prop) [Decidable p] : (0 : Int32) ≤ iB p := by
  rcases iB_01 p with q | q
  · rw [q]
    decide
  · rw [q]
    decide
theorem eV2.up0 {E : Nat → Nat → Int32} (h : eV2 E) (e : Nat) {n : Nat} (h1 : n < 524288) (h2 : n / 4096 ≤ 100) : eV2 (up2 E e 0 (nI n)) := fun z hz => by
  by_cases q : z = e
  · refine Or.inr ⟨n, h1, h2, ?_⟩
    rw [q, u2_eq]
  · rw [u2_ne _ _ q]
    exact h z hz
theorem g_place {M : Nat} {W : WS} {U : List WS} {bud wh : Nat → Int32} (h : LQ M W bud wh) (hK : WKS M W U) {e x y k z : Nat} (he : e < 16) (hx : x < 32) (hy : y < 32) (hk : k < 4) (hz : z < 101) : opG M W U xc0 (oPlace (nI e) (nI x) (nI y) (nI k) (nI z) W U) bud wh := by
  have ex := oPlace_0 (nI e) (nI x) (nI y) (nI k) (nI z) W U (nn (isE_n he)) (nn ⟨⟨inR_n (n := 31) (by omega) (by omega), inR_n (n := 31) (by omega) (by omega)⟩, inR_n (n := 3) (by omega) (by omega), inR_n (n := 100) (by omega) (by omega)⟩)
  rw [sNi (j := e) (by omega), sNi (j := x) (by omega), sNi (j := y) (by omega), sNi (j := k) (by omega), sNi (j := z) (by omega)] at ex
  refine opG_0 ex (kPlace hK _ _ _ _ _) ((h.en (h.1.1.up0 e (pkN_lt (by omega) (by omega) (by omega) (by omega)) ?_)).mono (by omega)) (iB_0le _) (Int32.le_refl _)
  unfold pkN
  omega
theorem vel_all : ∀ a, a < 7 → inR (-3) 3 (nI a - Int32.ofInt 3) := by decide +kernel
theorem vel_ans : ∀ a, a < 7 → ∀ b, b < 7 → (0 : Int32) ≤ 10 * (nI a - 3 + 3) + (nI b - 3 + 3) := by decide +kernel
theorem g_setV {M : Nat} {W : WS} {U : List WS} {bud wh : Nat → Int32} (h : LQ M W bud wh) (hK : WKS M W U) {e a b : Nat} (he : e < 16) (ha : a < 7) (hb : b < 7) : opG M W U xc0 (oSetV (nI e) (nI a - Int32.ofInt 3) (nI b - Int32.ofInt 3) W U) bud wh := by
  have P := vel_all a ha
  have Q := vel_all b hb
  have hE := hK.1.1 e he
  by_cases q : wE W e 0 = -1
  · exact opG_n (oSetV_3 (nI e) _ _ W U (nn (isE_n he)) (nn ⟨P, Q⟩) (by rw [sNi (j := e) (by omega)]; exact q)) (by decide) rfl (kSetV hK _ _ _) h
  · have ex := oSetV_0 (nI e) _ _ W U (nn (isE_n he)) (nn ⟨P, Q⟩) (by rw [sNi (j := e) (by omega)]; exact q)
    rw [sNi (j := e) (by omega)] at ex
    refine opG_0 ex (kSetV hK _ _ _) ((h.en (E := up2 (up2 (wE W) e 1 (nI a - Int32.ofInt 3)) e 2 (nI b - Int32.ofInt 3)) fun z hz => ?_).mono (by omega)) ?_ (Int32.le_refl _)
    · by_cases w : z = e
      · rw [w, u2_nj _ _ (by omega), u2_nj _ _ (by omega)]
        rcases h.1.1 e he with ⟨g, _⟩ | g
        · exact (q g).elim
        · exact Or.inr g
      · rw [u2_ne _ _ w, u2_ne _ _ w]
        exact h.1.1 z hz
    · obtain ⟨i, hi, ei⟩ := vOK_k hE.2.1
      obtain ⟨j, hj, ej⟩ := vOK_k hE.2.2
      rw [ei, ej]
      exact vel_ans i hi j hj
theorem g_setH {M : Nat} {W : WS} {U : List WS} {bud wh : Nat → Int32} (h : LQ M W bud wh) (hK : WKS M W U) {e z : Nat} (he : e < 16) (hz : z < 101) : opG M W U xc0 (oSetH (nI e) (nI z) W U) bud wh := by
  have P : inR 0 100 (nI z) := inR_n (n := 100) (by omega) (by omega)
  by_cases q : wE W e 0 = -1
  · exact opG_n (oSetH_3 (nI e) _ W U (nn (isE_n he)) (nn P) (by rw [sNi (j := e) (by omega)]; exact q)) (by decide) rfl (kSetH hK _ _) h
  · have ex := oSetH_0 (nI e) _ W U (nn (isE_n he)) (nn P) (by rw [sNi (j := e) (by omega)]; exact q)
    rw [sNi (j := e) (by omega), sNi (j := z) (by omega)] at ex
    obtain ⟨n, n1, n2, n3⟩ := sOK_ne (hK.1.1 e he).1 q
    have p0 := prt01 n 0 (by omega)
    have p1 := prt01 n 1 (by omega)
    have p2 := prt2_lt n
    have p3 := prt_lt n1 3
    rw [n3] at ex
    refine opG_0 ex (kSetH hK _ _) ((h.en (h.1.1.up0 e (pkN_lt (by omega) (by omega) (by omega) (by omega)) ?_)).mono (by omega)) (nI_0le (by omega)) (Int32.le_refl _)
    unfold pkN
    omega
theorem cntN_le (P : Nat → Prop) (d : ∀ e, Decidable (P e)) : ∀ n, cntN P d n ≤ n
  | 0 => Nat.le_refl _
  | n + 1 => by
    have ih := cntN_le P d n
    show cntN P d n + (if P n then 1 else 0) ≤ n + 1
    split <;> omega
theorem g_del {M : Nat} {W : WS} {U : List WS} {bud wh : Nat → Int32} (h : LQ M W bud wh) (hK : WKS M W U) {e : Nat} (he : e < 16) : opG M W U xc3 (oDel (nI e) W U) bud wh := by
  by_cases q : wE W e 0 = -1
  · exact opG_n (oDel_2 (nI e) W U (nn (isE_n he)) (by rw [sNi (j := e) (by omega)]; exact q)) (by decide) rfl (kDel hK _) h
  · have ex := oDel_0 (nI e) W U (nn (isE_n he)) (by rw [sNi (j := e) (by omega)]; exact q)
    rw [sNi (j := e) (by omega)] at ex
    refine opG_0 ex (kDel hK _) ((h.en (E := up2 (up2 (up2 (wE W) e 0 (-1)) e 1 0) e 2 0) fun z hz => ?_).mono (by omega)) (nI_0le (by have := cntN_le (fun i => ¬ (wE (delE W e)) i 0 = -1) (fun _ => inferInstance) 16; unfold livN; omega)) (Int32.le_refl _)
    by_cases w : z = e
    · refine Or.inl ?_
      rw [w, u2_nj _ _ (by omega), u2_nj _ _ (by omega), u2_eq, u2_nj _ _ (by omega), u2_eq, u2_eq]
      exact ⟨rfl, rfl, rfl⟩
    · rw [u2_ne _ _ w, u2_ne _ _ w, u2_ne _ _ w]
      exact h.1.1 z hz
theorem GX.same {S N b : Nat} {X Y : CS} (h : GX S N b X) (hS : ∀ k, ¬ k = 1 → ¬ k = 2 → ¬ k = 3 → ¬ k = 5 → ¬ k = 6 → cS Y k = cS X k) (h1 : ∃ cx, cx ≤ 31 ∧ cS Y 1 = nI cx) (h2 : ∃ cy, cy ≤ 31 ∧ cS Y 2 = nI cy) (hO : Y.2 = X.2) : GX S N b Y := by
  obtain ⟨⟨⟨s7, s8, s4, sb⟩, _, _, sn⟩, ⟨Bt, LP, LA, AR, GU, Es, ⟨c9, c10, c11, c12, c14, c15⟩, cr⟩, hp, hb, hr⟩ := h
  have hP : cP Y = cP X := by show Y.2.2.1 = X.2.2.1; rw [hO]
  have hA : cA Y = cA X := by show Y.2.1 = X.2.1; rw [hO]
  have hB : cB Y = cB X := by show Y.2.2.2.1 = X.2.2.2.1; rw [hO]
  have hR : cR Y = cR X := by show Y.2.2.2.2 = X.2.2.2.2; rw [hO]
  have hw : wayL Y = wayL X := by unfold wayL; rw [hP]
  refine ⟨⟨⟨(hS 7 (by omega) (by omega) (by omega) (by omega) (by omega)).trans s7, (hS 8 (by omega) (by omega) (by omega) (by omega) (by omega)).trans s8, (hS 4 (by omega) (by omega) (by omega) (by omega) (by omega)).trans s4, sb⟩, h1, h2, fun w => ?_⟩, ⟨Bt, LP, LA, AR, GU, Es, ⟨(hS 9 (by omega) (by omega) (by omega) (by omega) (by omega)).trans c9, (hS 10 (by omega) (by omega) (by omega) (by omega) (by omega)).trans c10, (hS 11 (by omega) (by omega) (by omega) (by omega) (by omega)).trans c11, (hS 12 (by omega) (by omega) (by omega) (by omega) (by omega)).trans c12, (hS 14 (by omega) (by omega) (by omega) (by omega) (by omega)).trans c14, (hS 15 (by omega) (by omega) (by omega) (by omega) (by omega)).trans c15⟩, by rw [hw, hA, hP]; exact cr⟩, by rw [hP]; exact hp, by unfold blG; rw [hB]; exact hb, by unfold rcG; rw [hR]; exact hr⟩
  rw [hP, hA]
  exact sn fun z => w ((hS 0 (by omega) (by omega) (by omega) (by omega) (by omega)).trans z)
theorem GX_new (T b : Nat) {S : Nat → Int32} (h0 : ∀ k, 5 ≤ k → S k = 0) (h1 : ∃ cx, cx ≤ 31 ∧ S 1 = nI cx) (h2 : ∃ cy, cy ≤ 31 ∧ S 2 = nI cy) (h4 : S 4 = nI b) (hb : b ≤ 64) : GX T 0 b (S, [], [], fun _ k => if k = 2 then -1 else 0, fun _ => []) :=
  ⟨⟨⟨(h0 7 (by omega)).trans z_nI, (h0 8 (by omega)).trans z_nI, h4, hb⟩, h1, h2, fun _ => ⟨rfl, rfl, rfl⟩⟩, ⟨0, 0, 0, 0, 0, 0, ⟨(h0 9 (by omega)).trans z_nI, (h0 10 (by omega)).trans z_nI, (h0 11 (by omega)).trans z_nI, (h0 12 (by omega)).trans z_nI, (h0 14 (by omega)).trans z_nI, (h0 15 (by omega)).trans z_nI⟩, ⟨by omega, by omega⟩, Nat.le_refl _, Nat.le_refl _, Nat.le_refl _, Nat.le_refl _⟩, fun p hp => absurd hp List.not_mem_nil, fun e _ => ⟨⟨0, z_nI, Nat.zero_le _⟩, 0, Nat.le_refl _, z_nI, fun w => (w rfl).elim⟩, fun e _ r hr => absurd hr List.not_mem_nil⟩
theorem WHm_new (T d : Nat) {S : Nat → Int32} (h0 : ∀ k, 5 ≤ k → S k = 0) : WHm T T d (S, [], [], fun _ k => if k = 2 then -1 else 0, fun _ => []) :=
  ⟨⟨h0 5 (by omega), h0 6 (by omega), h0 10 (by omega), h0 11 (by omega), h0 13 (by omega), h0 14 (by omega)⟩, fun p hp => absurd hp List.not_mem_nil, ⟨fun a ha => absurd ha List.not_mem_nil, fun p hp => absurd hp List.not_mem_nil⟩, fun _ _ p hp => absurd hp List.not_mem_nil, fun _ _ r hr => absurd hr List.not_mem_nil, fun _ _ w => (w rfl).elim, fun p hp => absurd hp List.not_mem_nil, fun p hp => absurd hp List.not_mem_nil⟩
