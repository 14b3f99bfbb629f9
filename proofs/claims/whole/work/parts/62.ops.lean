/-! THE OPERATIONS on a state and its stack: code (0: none thrown), answer, what they become. Both programs are held against them. -/
abbrev RS4 : Type := Nat × Int32 × WS × List WS
abbrev isE (e : Int32) : Prop := 0 ≤ e ∧ e ≤ 15
abbrev isC (c : Int32) : Prop := 0 ≤ c ∧ c ≤ 2
abbrev isP (x y : Int32) : Prop := (0 ≤ x ∧ x ≤ 31) ∧ (0 ≤ y ∧ y ≤ 31)
abbrev inR (a b v : Int32) : Prop := a ≤ v ∧ v ≤ b
def setEn (W : WS) (e k : Nat) (v : Int32) : WS := (wT W, up2 (wE W) e k v, wC W)
def setCl (W : WS) (c : Nat) (X : CS) : WS := (wT W, wE W, up1 (wC W) c X)
def oPlace (e x y k h : Int32) (W : WS) (U : List WS) : RS4 := if ¬ isE e then (1, 0, W, U) else if ¬ (isP x y ∧ inR 0 3 k ∧ inR 0 100 h) then (2, 0, W, U) else (0, iB (¬ wE W (sN e) 0 = -1), setEn W (sN e) 0 (nI (pkN (sN x) (sN y) (sN k) (sN h))), pushU W U)
def oSetV (e x y : Int32) (W : WS) (U : List WS) : RS4 := if ¬ isE e then (1, 0, W, U) else if ¬ (inR (-3) 3 x ∧ inR (-3) 3 y) then (2, 0, W, U) else if wE W (sN e) 0 = -1 then (3, 0, W, U) else (0, 10 * (wE W (sN e) 1 + 3) + (wE W (sN e) 2 + 3), setEn (setEn W (sN e) 1 x) (sN e) 2 y, pushU W U)
def oSetH (e h : Int32) (W : WS) (U : List WS) : RS4 := if ¬ isE e then (1, 0, W, U) else if ¬ inR 0 100 h then (2, 0, W, U) else if wE W (sN e) 0 = -1 then (3, 0, W, U) else (0, nI (prt (sN (wE W (sN e) 0)) 3), setEn W (sN e) 0 (nI (pkN (prt (sN (wE W (sN e) 0)) 0) (prt (sN (wE W (sN e) 0)) 1) (prt (sN (wE W (sN e) 0)) 2) (sN h))), pushU W U)
def delE (W : WS) (e : Nat) : WS := setEn (setEn (setEn W e 0 (-1)) e 1 0) e 2 0
def livN (E : Nat → Nat → Int32) (n : Nat) : Nat := cntN (fun i => ¬ E i 0 = -1) (fun _ => inferInstance) n
theorem livN_S (E : Nat → Nat → Int32) (n : Nat) : nI (livN E n) + iB (¬ E n 0 = -1) = nI (livN E (n + 1)) := cntN_step (fun i => ¬ E i 0 = -1) (fun _ => inferInstance) n
def oDel (e : Int32) (W : WS) (U : List WS) : RS4 := if ¬ isE e then (1, 0, W, U) else if wE W (sN e) 0 = -1 then (2, 0, W, U) else (0, nI (livN (wE (delE W (sN e))) 16), delE W (sN e), pushU W U)
def oEnt (e w : Int32) (W : WS) (U : List WS) : RS4 := if ¬ isE e then (1, 0, W, U) else if ¬ inR 0 6 w then (2, 0, W, U) else (0, enV (wE W) (sN e) (sN w), W, U)
def csN (x y r b : Int32) : CS := (fun k => match k with
  | 0 => 1
  | 1 => x
  | 2 => y
  | 3 => r
  | 4 => b
  | _ => 0, [], [], fun _ k => if k = 2 then -1 else 0, fun _ => [])
def oCon (c x y r b : Int32) (W : WS) (U : List WS) : RS4 := if ¬ isC c then (1, 0, W, U) else if ¬ (isP x y ∧ inR 1 31 r ∧ inR 12 64 b) then (2, 0, W, U) else (0, iB (cnn (wC W (sN c))), setCl W (sN c) (csN x y r b), pushU W U)
def aimC (X : CS) (x y r : Int32) : CS := setS (setS (setS X 1 x) 2 y) 3 r
def oLook (c x y r : Int32) (W : WS) (U : List WS) : RS4 := if ¬ isC c then (1, 0, W, U) else if ¬ (isP x y ∧ inR 1 31 r) then (2, 0, W, U) else if ¬ cnn (wC W (sN c)) then (3, 0, W, U) else (0, nI (inN (aimC (wC W (sN c)) x y r) (wE W) 16), setCl W (sN c) (aimC (wC W (sN c)) x y r), pushU W U)
def oDis (c : Int32) (W : WS) (U : List WS) : RS4 := if ¬ isC c then (1, 0, W, U) else if ¬ cnn (wC W (sN c)) then (2, 0, W, U) else (0, cS (wC W (sN c)) 8, setCl W (sN c) cs0, pushU W U)
def oTimes (d i : Int32) (W : WS) (U : List WS) : RS4 := if ¬ (inR 1 10 d ∧ inR 1 10 i) then (1, 0, W, U) else (0, wT W 1, (upd (upd (wT W) 1 d) 2 i, wE W, wC W), pushU W U)
def oLose (c p a : Int32) (W : WS) (U : List WS) : RS4 := if ¬ isC c then (1, 0, W, U) else if ¬ (inR 0 50 p ∧ inR 0 50 a) then (2, 0, W, U) else if ¬ cnn (wC W (sN c)) then (3, 0, W, U) else (0, cS (wC W (sN c)) 5, setCl W (sN c) (setS (setS (wC W (sN c)) 5 p) 6 a), pushU W U)
def tkN (W : WS) : Nat → WS
  | 0 => W
  | n + 1 => tk (tkN W n)
def oTick (n : Int32) (W : WS) (U : List WS) : RS4 := if ¬ inR 1 50 n then (1, 0, W, U) else (0, wT (tkN W (sN n)) 0, tkN W (sN n), pushU W U)
def oCopy (c e w : Int32) (W : WS) (U : List WS) : RS4 := if ¬ (isC c ∧ isE e) then (1, 0, W, U) else if ¬ inR 0 6 w then (2, 0, W, U) else (0, cpV (cR (wC W (sN c)) (sN e)) (sN w), W, U)
def oKept (c e w : Int32) (W : WS) (U : List WS) : RS4 := if ¬ (isC c ∧ isE e) then (1, 0, W, U) else if ¬ inR 0 8 w then (2, 0, W, U) else if ¬ cnn (wC W (sN c)) then (3, 0, W, U) else (0, kpV (wC W (sN c)) (wE W) (sN e) (sN w), W, U)
def oCnt (c w : Int32) (W : WS) (U : List WS) : RS4 := if ¬ isC c then (1, 0, W, U) else if ¬ inR 0 8 w then (2, 0, W, U) else (0, cnV (wC W (sN c)) (sN w), W, U)
def oStale (c : Int32) (W : WS) (U : List WS) : RS4 := if ¬ isC c then (1, 0, W, U) else if ¬ cnn (wC W (sN c)) then (2, 0, W, U) else (0, nI (staleN (wC W (sN c)) (wE W)), W, U)
/-- a packet in flight by its index -/
def flyA (X : CS) (i : Int32) : Option PK := if 0 ≤ i then (flyL X)[sN i]? else none
def oPkt (c i w : Int32) (W : WS) (U : List WS) : RS4 := if ¬ isC c then (1, 0, W, U) else match flyA (wC W (sN c)) i with
  | none => (2, 0, W, U)
  | some p => if ¬ inR 0 3 w then (2, 0, W, U) else (0, pkV (wT W 0) p (sN w), W, U)
def oEntry (c i j w : Int32) (W : WS) (U : List WS) : RS4 := if ¬ isC c then (1, 0, W, U) else match flyA (wC W (sN c)) i with
  | none => (2, 0, W, U)
  | some p => match (if 0 ≤ j then p.2[sN j]? else none) with
    | none => (2, 0, W, U)
    | some en => if ¬ inR 0 4 w then (2, 0, W, U) else (0, etV en (sN w), W, U)
def oPrice (c e : Int32) (W : WS) (U : List WS) : RS4 := if ¬ (isC c ∧ isE e) then (1, 0, W, U) else if ¬ cnn (wC W (sN c)) then (2, 0, W, U) else (0, nI (prc (wC W (sN c)) (wE W) (sN e)), W, U)
def oUndo (W : WS) (U : List WS) : RS4 := match U with
  | [] => (1, 0, W, U)
  | V :: U' => (0, nI U'.length, V, U')
def hE7 (E : Nat → Nat → Int32) (h : Int64) : Nat → Int64
  | 0 => h
  | n + 1 => hsR (enV E n) (hE7 E h n) 7
def hC3 (W : WS) (h : Int64) : Nat → Int64
  | 0 => h
  | n + 1 => dgC (wT W 0) (wC W n) (wE W) (hC3 W h n)
def oDig (W : WS) (U : List WS) : Int64 := hC3 W (hE7 (wE W) (hs (hs (hs (hs (Int64.ofNat 18582) (nI U.length)) (wT W 0)) (wT W 1)) (wT W 2)) 16) 3
/-! a state that both programs may hold: what is known of it -/
def pOK (T N : Nat) (p : PK) : Prop := (p.1 4 = 0 ∨ p.1 4 = 1) ∧ kpP p ∧ p.2.length ≤ 16 ∧ (∀ en ∈ p.2, enOK en ∧ enO2 en) ∧ (∃ n, n ≤ N ∧ p.1 0 = nI n) ∧ ∃ s, s ≤ T ∧ p.1 2 = nI s ∧ (p.1 3 = 0 ∨ ∃ v, p.1 3 = nI v ∧ T < v ∧ v ≤ s + 10)
def sNt (p : PK) : Nat := sN (p.1 2)
def AKS (T : Nat) (X : CS) : Prop := ∃ Lp : List (Nat × Int32 × Int32), Lp.map Prod.snd = cA X ∧ (∀ q ∈ Lp, q.1 ≤ T ∧ ∃ v, q.2.2 = nI v ∧ T < v ∧ v ≤ q.1 + 20) ∧ (Lp.map Prod.fst ++ (wayL X).map sNt).Nodup
def cOK (T : Nat) (X : CS) : Prop := c01 X ∧ RI X ∧ (∀ e, e < 16 → sOK (cB X e 2)) ∧ (∃ N, N ≤ T ∧ cS X 7 = nI N ∧ ∀ p ∈ cP X, pOK T N p) ∧ NS (cP X) ∧ (cP X).Pairwise (fun p q => sNt p < sNt q) ∧ AKS T X
def WOK (M : Nat) (W : WS) : Prop := eVK (wE W) ∧ ∃ T d i, T ≤ M ∧ wT W 0 = nI T ∧ wT W 1 = nI d ∧ wT W 2 = nI i ∧ (1 ≤ d ∧ d ≤ 10) ∧ (1 ≤ i ∧ i ≤ 10) ∧ ∀ c, c < 3 → cOK T (wC W c)
theorem cOK.bit {T : Nat} {X : CS} (h : cOK T X) : bitP (cP X) := fun p hp => by
  obtain ⟨_, _, _, ⟨N, _, _, h4⟩, _⟩ := h
  exact (h4 p hp).1
theorem cOK.en {T : Nat} {X : CS} (h : cOK T X) : ∀ p ∈ cP X, ∀ en ∈ p.2, enOK en ∧ enO2 en := fun p hp => by
  obtain ⟨_, _, _, ⟨N, _, _, h4⟩, _⟩ := h
  exact (h4 p hp).2.2.2.1
theorem cOK.e {T : Nat} {X : CS} (h : cOK T X) : eOK X := fun p hp en he => (h.en p hp en he).1
theorem WOK.cl {M : Nat} {W : WS} (h : WOK M W) {c : Nat} (hc : c < 3) : ∃ T, T ≤ M ∧ wT W 0 = nI T ∧ cOK T (wC W c) := by
  obtain ⟨_, T, d, i, h1, h2, _, _, _, _, h3⟩ := h
  exact ⟨T, h1, h2, h3 c hc⟩
theorem sNi {j : Nat} (h : j < 2 ^ 31) : sN (nI j) = j := nI_clamp h
theorem e_nat {e : Int32} (h : isE e) : ∃ j, j < 16 ∧ e = nI j ∧ sN e = j := by
  obtain ⟨j, hj, rfl⟩ := in_nat (n := 15) h.1 h.2 (by omega)
  exact ⟨j, by omega, rfl, sNi (by omega)⟩
theorem c_nat {e : Int32} (h : isC e) : ∃ j, j < 3 ∧ e = nI j ∧ sN e = j := by
  obtain ⟨j, hj, rfl⟩ := in_nat (n := 2) h.1 h.2 (by omega)
  exact ⟨j, by omega, rfl, sNi (by omega)⟩
theorem r_nat {v : Int32} {n : Nat} (hn : n < 2 ^ 31) (h : inR 0 (nI n) v) : ∃ j, j ≤ n ∧ v = nI j ∧ sN v = j := by
  obtain ⟨j, hj, rfl⟩ := in_nat (n := n) h.1 h.2 hn
  exact ⟨j, hj, rfl, sNi (by omega)⟩
/-! THE REFERENCE with its stack -/
theorem RW.keep {f g : Nat → Int32} {W : WS} (h : RW f W) (hg : ∀ k, k < 7269 → g k = f k) : RW g W :=
  ⟨fun k hk => (hg k (by omega)).trans (h.1 k hk), fun e he k hk => (hg _ (by omega)).trans (h.2.1 e he k hk), fun c hc => (h.2.2 c hc).keep fun k k1 k2 => hg k (by omega)⟩
def REF (μ : MM) (r : Nat) (W : WS) (U : List WS) : Prop := RW (μ.1 (r + 1)) W ∧ U.length ≤ 3 ∧ μ.1 r 4 = nI U.length ∧ ∀ (j : Nat) (V : WS), U[j]? = some V → RW (μ.1 (r + 2 + j)) V
def FRM (μ μ' : MM) (r : Nat) : Prop := (∀ b, (b < r ∨ r + 6 ≤ b) → μ'.1 b = μ.1 b) ∧ μ'.2.1 = μ.2.1 ∧ (∀ b, ¬ b = r → μ'.2.2.1 b = μ.2.2.1 b) ∧ μ'.2.2.2 = μ.2.2.2
theorem FRM.refl (μ : MM) (r : Nat) : FRM μ μ r := ⟨fun _ _ => rfl, rfl, fun _ _ => rfl, rfl⟩
theorem FRM.trans {μ μ' μ'' : MM} {r : Nat} (h : FRM μ μ' r) (g : FRM μ' μ'' r) : FRM μ μ'' r := ⟨fun b hb => (g.1 b hb).trans (h.1 b hb), g.2.1.trans h.2.1, fun b hb => (g.2.2.1 b hb).trans (h.2.2.1 b hb), g.2.2.2.trans h.2.2.2⟩
def codM (μ : MM) (r : Nat) (x : Int32) : MM := (up2 μ.1 r 5 x, μ.2)
theorem codM_f (μ : MM) (r : Nat) (x : Int32) : FRM μ (codM μ r x) r := ⟨fun b hb => u2_ne _ _ (by omega), rfl, fun _ _ => rfl, rfl⟩
theorem codM_1 (μ : MM) (r : Nat) (x : Int32) {b : Nat} (hb : ¬ b = r) : (codM μ r x).1 b = μ.1 b := u2_ne _ _ hb
theorem codM_5 (μ : MM) (r : Nat) (x : Int32) : (codM μ r x).1 r 5 = x := u2_eq _ _ _ _
theorem REF.cod {μ : MM} {r : Nat} {W : WS} {U : List WS} (h : REF μ r W U) (x : Int32) : REF (codM μ r x) r W U := by
  obtain ⟨h1, h2, h3, h4⟩ := h
  refine ⟨by rw [codM_1 _ _ _ (by omega)]; exact h1, h2, ?_, fun j V hj => by rw [codM_1 _ _ _ (by omega)]; exact h4 j V hj⟩
  show up2 μ.1 r 5 x r 4 = _
  rw [u2_nj _ _ (by omega)]
  exact h3
theorem rW_f (μ : MM) (r : Nat) (f : Nat → Int32) : FRM μ (rW μ r f) r := ⟨fun b hb => rW_ne _ _ _ (by omega), rfl, fun _ _ => rfl, rfl⟩
theorem tW_f (μ : MM) (r : Nat) (f : Nat → Int32) : FRM μ (tW μ r f) r := ⟨fun b hb => stF_ne _ _ (by omega), rfl, fun _ _ => rfl, rfl⟩
theorem REF.w {μ : MM} {r : Nat} {W W' : WS} {U : List WS} {f : Nat → Int32} (h : REF μ r W U) (hf : RW f W') : REF (rW μ r f) r W' U := by
  obtain ⟨h1, h2, h3, h4⟩ := h
  refine ⟨by rw [rW_at]; exact hf, h2, ?_, fun j V hj => by rw [rW_ne _ _ _ (by omega)]; exact h4 j V hj⟩
  rw [rW_ne _ _ _ (by omega)]
  exact h3
theorem REF.t {μ : MM} {r : Nat} {W : WS} {U : List WS} (h : REF μ r W U) (f : Nat → Int32) : REF (tW μ r f) r W U := by
  obtain ⟨h1, h2, h3, h4⟩ := h
  have e : ∀ b, ¬ b = r + 5 → (tW μ r f).1 b = μ.1 b := fun b hb => stF_ne _ _ hb
  refine ⟨by rw [e _ (by omega)]; exact h1, h2, by rw [e _ (by omega)]; exact h3, fun j V hj => ?_⟩
  have hj2 : j < U.length := (List.getElem?_eq_some_iff.mp hj).1
  rw [e _ (by omega)]
  exact h4 j V hj
def refK (R : RS4) (μ : MM) (r : Nat) (W : WS) (U : List WS) (K : OC → MM → Prop) : Prop := (R.1 = 0 → ∀ μ', REF μ' r R.2.2.1 R.2.2.2 → μ'.1 r 5 = 0 → FRM μ μ' r → K (.inl (some (.inl R.2.1))) μ') ∧ (¬ R.1 = 0 → ∀ μ', REF μ' r W U → μ'.1 r 5 = nI R.1 → FRM μ μ' r → K (.inl (some (.inl 0))) μ')
def clsK (ex : Nat → Nat) (R : RS4) (μ : MM) (x : Nat) (K : OC → MM → Prop) : Prop := (R.1 = 0 → ∀ μ', CW μ'.1 μ'.2.1 (x + 1) R.2.2.1 → CU μ'.1 μ'.2.1 (x + 490) R.2.2.2 → FRm μ μ' x (x + 1959) → K (.inl (some (.inl R.2.1))) μ') ∧ (¬ R.1 = 0 → thr μ (ex R.1) K)
def sp_X10_keep : SPc := fun As μ K => match As with
  | [.inr (.inr (20, r))] => ∃ (W : WS) (U : List WS), REF μ r W U ∧ ∀ μ', REF μ' r W (pushU W U) → μ'.1 r 5 = μ.1 r 5 → (∀ k, k < 7269 → μ'.1 (r + 1) k = μ.1 (r + 1) k) → FRM μ μ' r → K (.inl none) μ'
  | _ => False
def cpF (f g : Nat → Int32) : Nat → Int32 := fun k => if k < 7269 then f k else g k
theorem cpF_lt (f g : Nat → Int32) {k : Nat} (h : k < 7269) : cpF f g k = f k := if_pos h
/-- the rows when a state is kept -/
def kpM (μ : MM) (r : Nat) (x : Int32) : MM := (up2 (stF (stF (stF μ.1 (r + 4) (cpF (μ.1 (r + 3)) (μ.1 (r + 4)))) (r + 3) (cpF (μ.1 (r + 2)) (μ.1 (r + 3)))) (r + 2) (cpF (μ.1 (r + 1)) (μ.1 (r + 2)))) r 4 x, μ.2)
theorem kpM_ok {μ : MM} {r : Nat} {W : WS} {U : List WS} (h : REF μ r W U) : REF (kpM μ r (nI (pushU W U).length)) r W (pushU W U) ∧ (kpM μ r (nI (pushU W U).length)).1 r 5 = μ.1 r 5 ∧ (kpM μ r (nI (pushU W U).length)).1 (r + 1) = μ.1 (r + 1) ∧ FRM μ (kpM μ r (nI (pushU W U).length)) r := by
  obtain ⟨h1, h2, h3, h4⟩ := h
  have l1 : (pushU W U).length ≤ 3 := by
    show (U.take 2).length + 1 ≤ 3
    rw [List.length_take]
    omega
  have e1 : ∀ b, ¬ b = r → ¬ b = r + 2 → ¬ b = r + 3 → ¬ b = r + 4 → (kpM μ r (nI (pushU W U).length)).1 b = μ.1 b := fun b b0 b2 b3 b4 => by
    show up2 _ r 4 _ b = _
    rw [u2_ne _ _ b0, stF_ne _ _ b2, stF_ne _ _ b3, stF_ne _ _ b4]
  have e2 : (kpM μ r (nI (pushU W U).length)).1 (r + 2) = cpF (μ.1 (r + 1)) (μ.1 (r + 2)) := by
    show up2 _ r 4 _ (r + 2) = _
    rw [u2_ne _ _ (by omega), stF_at]
  have e3 : (kpM μ r (nI (pushU W U).length)).1 (r + 3) = cpF (μ.1 (r + 2)) (μ.1 (r + 3)) := by
    show up2 _ r 4 _ (r + 3) = _
    rw [u2_ne _ _ (by omega), stF_ne _ _ (by omega), stF_at]
  have e4 : (kpM μ r (nI (pushU W U).length)).1 (r + 4) = cpF (μ.1 (r + 3)) (μ.1 (r + 4)) := by
    show up2 _ r 4 _ (r + 4) = _
    rw [u2_ne _ _ (by omega), stF_ne _ _ (by omega), stF_ne _ _ (by omega), stF_at]
  refine ⟨⟨by rw [e1 _ (by omega) (by omega) (by omega) (by omega)]; exact h1, l1, u2_eq _ _ _ _, fun j V hj => ?_⟩, ?_, e1 _ (by omega) (by omega) (by omega) (by omega), fun b hb => e1 b (by omega) (by omega) (by omega) (by omega), rfl, fun _ _ => rfl, rfl⟩
  · have hjl : j < (pushU W U).length := (List.getElem?_eq_some_iff.mp hj).1
    have : j = 0 ∨ j = 1 ∨ j = 2 := by omega
    rcases this with rfl | rfl | rfl
    · cases hj
      show RW ((kpM μ r _).1 (r + 2)) W
      rw [e2]
      exact h1.keep fun k hk => cpF_lt _ _ hk
    · have hj : (U.take 2)[0]? = some V := hj
      rw [List.getElem?_take, if_pos (by omega)] at hj
      show RW ((kpM μ r _).1 (r + 3)) V
      rw [e3]
      exact (h4 0 V hj).keep fun k hk => cpF_lt _ _ hk
    · have hj : (U.take 2)[1]? = some V := hj
      rw [List.getElem?_take, if_pos (by omega)] at hj
      show RW ((kpM μ r _).1 (r + 4)) V
      rw [e4]
      exact (h4 1 V hj).keep fun k hk => cpF_lt _ _ hk
  · show up2 _ r 4 _ r 5 = _
    rw [u2_nj _ _ (by omega), stF_ne _ _ (by omega), stF_ne _ _ (by omega), stF_ne _ _ (by omega)]
theorem stM_mem (μ : MM) (r : Nat) (x : Int32) : ((up2 (stF (stF (stF μ.1 (r + 4) (fun k => if k < 7269 then μ.1 (r + 3) k else μ.1 (r + 4) k)) (r + 3) (fun k => if k < 7269 then (stF μ.1 (r + 4) (fun k => if k < 7269 then μ.1 (r + 3) k else μ.1 (r + 4) k)) (r + 2) k else (stF μ.1 (r + 4) (fun k => if k < 7269 then μ.1 (r + 3) k else μ.1 (r + 4) k)) (r + 3) k)) (r + 2) (fun k => if k < 7269 then (stF (stF μ.1 (r + 4) (fun k => if k < 7269 then μ.1 (r + 3) k else μ.1 (r + 4) k)) (r + 3) (fun k => if k < 7269 then (stF μ.1 (r + 4) (fun k => if k < 7269 then μ.1 (r + 3) k else μ.1 (r + 4) k)) (r + 2) k else (stF μ.1 (r + 4) (fun k => if k < 7269 then μ.1 (r + 3) k else μ.1 (r + 4) k)) (r + 3) k)) (r + 1) k else (stF (stF μ.1 (r + 4) (fun k => if k < 7269 then μ.1 (r + 3) k else μ.1 (r + 4) k)) (r + 3) (fun k => if k < 7269 then (stF μ.1 (r + 4) (fun k => if k < 7269 then μ.1 (r + 3) k else μ.1 (r + 4) k)) (r + 2) k else (stF μ.1 (r + 4) (fun k => if k < 7269 then μ.1 (r + 3) k else μ.1 (r + 4) k)) (r + 3) k)) (r + 2) k)) r 4 x, μ.2) : MM) = kpM μ r x := by
  have n2 : ∀ f, (stF μ.1 (r + 4) f) (r + 2) = μ.1 (r + 2) := fun f => stF_ne _ _ (by omega)
  have n3 : ∀ f, (stF μ.1 (r + 4) f) (r + 3) = μ.1 (r + 3) := fun f => stF_ne _ _ (by omega)
  have m1 : ∀ f g, (stF (stF μ.1 (r + 4) f) (r + 3) g) (r + 1) = μ.1 (r + 1) := fun f g => by rw [stF_ne _ _ (by omega), stF_ne _ _ (by omega)]
  have m2 : ∀ f g, (stF (stF μ.1 (r + 4) f) (r + 3) g) (r + 2) = μ.1 (r + 2) := fun f g => by rw [stF_ne _ _ (by omega), stF_ne _ _ (by omega)]
  rw [m1, m2, n2, n3]
  rfl
def ct_X10_keep : List (Nat × CI) := [(34, ci_X10_copyAll)]
def ci_X10_keep : CI := (yX10_keep, cX10_keep, 1, none, 1, (1, 0, 0, 22), 19, [], sp_X10_keep)
set_option maxRecDepth 100000 in
theorem ck_X10_keep : chkM ci_X10_keep RX10 co_X10_keep ct_X10_keep [] false false = true := by decide +kernel
set_option maxHeartbeats 4000000 in
set_option maxRecDepth 100000 in
theorem ms_X10_keep {g : GPT} {ot : OT} {l : Launch} (hl : l.stackTraces = false) : MS g ot l ci_X10_keep := by
  refine ms_of hl RX10 co_X10_keep ct_X10_keep [] false false [51] 33 ck_X10_keep (List.forall_mem_cons.mpr ⟨ms_X10_copyAll hl, fun _ h => nomatch h⟩) ?_
  intro As μ K h
  simp only [ci_X10_keep, sp_X10_keep] at h
  split at h
  case h_2 => exact h.elim
  rename_i r
  obtain ⟨W, U, hR, h⟩ := h
  obtain ⟨k1, k2, k3, k4⟩ := kpM_ok hR
  refine ⟨Nat.le_of_ble_eq_true rfl, fun m pc lc st μ' ce sl => m = 0 ∧ pc = 51 ∧ lc = [some (.inr (.inr (20, r)))] ∧ st = [.inl (if U.length < 3 then 1 else 0), .inl (nI U.length), .inr (.inr (20, r))] ∧ (∀ x, ((up2 μ'.1 r 4 x, μ'.2) : MM) = kpM μ r x) ∧ ce = 0 ∧ sl = 0, ?_, ?_⟩
  · have u4 : ∀ f g i, (stF (stF (stF μ.1 (r + 4) f) (r + 3) g) (r + 2) i) r 4 = nI U.length := fun f g i => by
      rw [stF_ne _ _ (by omega), stF_ne _ _ (by omega), stF_ne _ _ (by omega)]
      exact hR.2.2.1
    have l3 := hR.2.1
    refine ⟨fun q => ⟨0, [some (.inr (.inr (20, r)))], ⟨rfl, trivial⟩, rfl, rfl, rfl, ?_, fun x => stM_mem μ r x, rfl, rfl⟩, fun q => ⟨0, [some (.inr (.inr (20, r)))], ⟨rfl, trivial⟩, rfl, rfl, rfl, ?_, fun x => stM_mem μ r x, rfl, rfl⟩⟩
    · have q : nI 3 ≤ (stF (stF (stF μ.1 (r + 4) _) (r + 3) _) (r + 2) _) r 4 := q
      rw [u4, nI_le_iff (by omega) (by omega)] at q
      dsimp only
      rw [u4, if_neg (by omega)]
      rfl
    · have q : ¬ nI 3 ≤ (stF (stF (stF μ.1 (r + 4) _) (r + 3) _) (r + 2) _) r 4 := q
      rw [u4, nI_le_iff (by omega) (by omega)] at q
      dsimp only
      rw [u4, if_pos (by omega)]
      rfl
  · rintro m pc lc st μ' ce sl ⟨rfl, rfl, rfl, rfl, hm, rfl, rfl⟩
    have e : nI U.length + (if U.length < 3 then 1 else 0) = nI (pushU W U).length := by
      show _ = nI ((U.take 2).length + 1)
      have l3 := hR.2.1
      rw [List.length_take]
      by_cases q : U.length < 3
      · rw [if_pos q, Nat.min_eq_right (by omega)]
        exact nI_add _ 1
      · rw [if_neg q, Nat.min_eq_left (by omega), Int32.add_zero]
        congr 1
        omega
    have e2 := hm (nI U.length + (if U.length < 3 then 1 else 0))
    show K _ (up2 μ'.1 r 4 (nI U.length + (if U.length < 3 then 1 else 0)), μ'.2)
    rw [e2, e]
    exact h _ k1 k2 (fun k _ => by rw [k3]) k4
