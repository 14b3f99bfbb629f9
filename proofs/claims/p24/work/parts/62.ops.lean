/-! THE OPERATIONS on a state and its stack: code (0: none thrown), answer, what they become. Both programs are held against them. -/
abbrev RS4 : Type := Nat × Int32 × WS × List WS
abbrev isE (e : Int32) : Prop := 0 ≤ e ∧ e ≤ 15
abbrev isC (c : Int32) : Prop := 0 ≤ c ∧ c ≤ 2
abbrev isP (x y : Int32) : Prop := (0 ≤ x ∧ x ≤ 31) ∧ (0 ≤ y ∧ y ≤ 31)
abbrev inR (a b v : Int32) : Prop := a ≤ v ∧ v ≤ b
def setEn (W : WS) (e k : Nat) (v : Int32) : WS := (wT W, up2 (wE W) e k v, wC W)
def setCl (W : WS) (c : Nat) (X : CS) : WS := (wT W, wE W, up1 (wC W) c X)
def oPlace (e x y k h : Int32) (W : WS) (U : List WS) : RS4 := if ¬ isE e then (1, 0, W, U) else if ¬ (isP x y ∧ inR 0 3 k ∧ inR 0 100 h) then (2, 0, W, U) else (0, iB (¬ wE W (sN e) 0 = -1), setEn W (sN e) 0 (nI (pkN (sN x) (sN y) (sN k) (sN h))), pushU W U)
def oSetV (e x y : Int32) (W : WS) (U : List WS) : RS4 := if ¬ isE e then (1, 0, W, U) else if ¬ (inR (-3) 3 x ∧ inR (-3) 3 y) then (2, 0, W, U) else if wE W (sN e) 0 = -1 then (3, 0, W, U) else (0, 10 * (wE W (sN e) 1 + 3) + (wE W (sN e) 2 + 3), setEn (setEn W (sN e) 1 x) (sN e) 2 y, pushU W U)
def oSetH (e h : Int32) (W : WS) (U : List WS) : RS4 := if ¬ isE e then (1, 0, W, U) else if ¬ inR 0 100 h then (2, 0, W, U) else if wE W (sN e) 0 = -1 then (3, 0, W, U) else (0, nI (prt (sN (wE W (sN e) 0)) 3), setEn W (sN e) 0 (nI (pkN (prt (sN (wE W (sN e) 0)) 0) (prt (sN (wE W (sN e) 0)) 1) (prt (sN (wE W (sN e) 0)) 2) (sN h))), pushU W U)
def delE (W : WS) (e : Nat) : WS := setEn (setEn (setEn W e 0 (-1)) e 1 0) e 2 0
def livN (E : Nat → Nat → Int32) (n : Nat) : Nat := cntN (fun i => ¬ E i 0 = -1) (fun _ => inferInstance) n
theorem livN_S (E : Nat → Nat → Int32) (n : Nat) : nI (livN E n) + iB (¬ E n 0 = -1) = nI (livN E (n + 1)) := cntN_step (fun i => ¬ E i 0 = -1) (fun _ => inferInstance) n
def oDel (e : Int32) (W : WS) (U : List WS) : RS4 := if ¬ isE e then (1, 0, W, U) else if wE W (sN e) 0 = -1 then (2, 0, W, U) else (0, nI (livN (wE (delE W (sN e))) 16), delE W (sN e), pushU W U)
def oEnt (e w : Int32) (W : WS) (U : List WS) : RS4 := if ¬ isE e then (1, 0, W, U) else if ¬ inR 0 6 w then (2, 0, W, U) else (0, enV (wE W) (sN e) (sN w), W, U)
def csN (x y r b : Int32) : CS := (fun k => match k with
  | 0 => 1
  | 1 => x
  | 2 => y
  | 3 => r
  | 4 => b
  | _ => 0, [], [], fun _ k => if k = 2 then -1 else 0, fun _ => [])
def oCon (c x y r b : Int32) (W : WS) (U : List WS) : RS4 := if ¬ isC c then (1, 0, W, U) else if ¬ (isP x y ∧ inR 1 31 r ∧ inR 12 64 b) then (2, 0, W, U) else (0, iB (cnn (wC W (sN c))), setCl W (sN c) (csN x y r b), pushU W U)
def aimC (X : CS) (x y r : Int32) : CS := setS (setS (setS X 1 x) 2 y) 3 r
def oLook (c x y r : Int32) (W : WS) (U : List WS) : RS4 := if ¬ isC c then (1, 0, W, U) else if ¬ (isP x y ∧ inR 1 31 r) then (2, 0, W, U) else if ¬ cnn (wC W (sN c)) then (3, 0, W, U) else (0, nI (inN (aimC (wC W (sN c)) x y r) (wE W) 16), setCl W (sN c) (aimC (wC W (sN c)) x y r), pushU W U)
def oDis (c : Int32) (W : WS) (U : List WS) : RS4 := if ¬ isC c then (1, 0, W, U) else if ¬ cnn (wC W (sN c)) then (2, 0, W, U) else (0, cS (wC W (sN c)) 8, setCl W (sN c) cs0, pushU W U)
def oTimes (d i : Int32) (W : WS) (U : List WS) : RS4 := if ¬ (inR 1 10 d ∧ inR 1 10 i) then (1, 0, W, U) else (0, wT W 1, (upd (upd (wT W) 1 d) 2 i, wE W, wC W), pushU W U)
def oLose (c p a : Int32) (W : WS) (U : List WS) : RS4 := if ¬ isC c then (1, 0, W, U) else if ¬ (inR 0 50 p ∧ inR 0 50 a) then (2, 0, W, U) else if ¬ cnn (wC W (sN c)) then (3, 0, W, U) else (0, cS (wC W (sN c)) 5, setCl W (sN c) (setS (setS (wC W (sN c)) 5 p) 6 a), pushU W U)
def tkN (W : WS) : Nat → WS
  | 0 => W
  | n + 1 => tk (tkN W n)
def oTick (n : Int32) (W : WS) (U : List WS) : RS4 := if ¬ inR 1 50 n then (1, 0, W, U) else (0, wT (tkN W (sN n)) 0, tkN W (sN n), pushU W U)
def oCopy (c e w : Int32) (W : WS) (U : List WS) : RS4 := if ¬ (isC c ∧ isE e) then (1, 0, W, U) else if ¬ inR 0 6 w then (2, 0, W, U) else (0, cpV (cR (wC W (sN c)) (sN e)) (sN w), W, U)
def oKept (c e w : Int32) (W : WS) (U : List WS) : RS4 := if ¬ (isC c ∧ isE e) then (1, 0, W, U) else if ¬ inR 0 8 w then (2, 0, W, U) else if ¬ cnn (wC W (sN c)) then (3, 0, W, U) else (0, kpV (wC W (sN c)) (wE W) (sN e) (sN w), W, U)
def oCnt (c w : Int32) (W : WS) (U : List WS) : RS4 := if ¬ isC c then (1, 0, W, U) else if ¬ inR 0 8 w then (2, 0, W, U) else (0, cnV (wC W (sN c)) (sN w), W, U)
def oStale (c : Int32) (W : WS) (U : List WS) : RS4 := if ¬ isC c then (1, 0, W, U) else if ¬ cnn (wC W (sN c)) then (2, 0, W, U) else (0, nI (staleN (wC W (sN c)) (wE W)), W, U)
/-- a packet in flight by its index -/
def flyA (X : CS) (i : Int32) : Option PK := if 0 ≤ i then (flyL X)[sN i]? else none
def oPkt (c i w : Int32) (W : WS) (U : List WS) : RS4 := if ¬ isC c then (1, 0, W, U) else match flyA (wC W (sN c)) i with
  | none => (2, 0, W, U)
  | some p => if ¬ inR 0 3 w then (2, 0, W, U) else (0, pkV (wT W 0) p (sN w), W, U)
def oEntry (c i j w : Int32) (W : WS) (U : List WS) : RS4 := if ¬ isC c then (1, 0, W, U) else match flyA (wC W (sN c)) i with
  | none => (2, 0, W, U)
  | some p => match (if 0 ≤ j then p.2[sN j]? else none) with
    | none => (2, 0, W, U)
    | some en => if ¬ inR 0 4 w then (2, 0, W, U) else (0, etV en (sN w), W, U)
def oPrice (c e : Int32) (W : WS) (U : List WS) : RS4 := if ¬ (isC c ∧ isE e) then (1, 0, W, U) else if ¬ cnn (wC W (sN c)) then (2, 0, W, U) else (0, nI (prc (wC W (sN c)) (wE W) (sN e)), W, U)
def oUndo (W : WS) (U : List WS) : RS4 := match U with
  | [] => (1, 0, W, U)
  | V :: U' => (0, nI U'.length, V, U')
def hE7 (E : Nat → Nat → Int32) (h : Int64) : Nat → Int64
  | 0 => h
  | n + 1 => hsR (enV E n) (hE7 E h n) 7
def hC3 (W : WS) (h : Int64) : Nat → Int64
  | 0 => h
  | n + 1 => dgC (wT W 0) (wC W n) (wE W) (hC3 W h n)
def oDig (W : WS) (U : List WS) : Int64 := hC3 W (hE7 (wE W) (hs (hs (hs (hs (Int64.ofNat 18582) (nI U.length)) (wT W 0)) (wT W 1)) (wT W 2)) 16) 3
/-! a state that both programs may hold: what is known of it -/
def pOK (T N : Nat) (p : PK) : Prop := (p.1 4 = 0 ∨ p.1 4 = 1) ∧ kpP p ∧ p.2.length ≤ 16 ∧ (∀ en ∈ p.2, enOK en ∧ enO2 en) ∧ (∃ n, n ≤ N ∧ p.1 0 = nI n) ∧ ∃ s, s ≤ T ∧ p.1 2 = nI s ∧ (p.1 3 = 0 ∨ ∃ v, p.1 3 = nI v ∧ T < v ∧ v ≤ s + 10)
def sNt (p : PK) : Nat := sN (p.1 2)
def AKS (T : Nat) (X : CS) : Prop := ∃ Lp : List (Nat × Int32 × Int32), Lp.map Prod.snd = cA X ∧ (∀ q ∈ Lp, q.1 ≤ T ∧ ∃ v, q.2.2 = nI v ∧ T < v ∧ v ≤ q.1 + 20) ∧ (Lp.map Prod.fst ++ (wayL X).map sNt).Nodup
def cOK (T : Nat) (X : CS) : Prop := c01 X ∧ RI X ∧ (∀ e, e < 16 → sOK (cB X e 2)) ∧ (∃ N, N ≤ T ∧ cS X 7 = nI N ∧ ∀ p ∈ cP X, pOK T N p) ∧ NS (cP X) ∧ (cP X).Pairwise (fun p q => sNt p < sNt q) ∧ AKS T X
def WOK (M : Nat) (W : WS) : Prop := eVK (wE W) ∧ ∃ T d i, T ≤ M ∧ wT W 0 = nI T ∧ wT W 1 = nI d ∧ wT W 2 = nI i ∧ (1 ≤ d ∧ d ≤ 10) ∧ (1 ≤ i ∧ i ≤ 10) ∧ ∀ c, c < 3 → cOK T (wC W c)
theorem cOK.bit {T : Nat} {X : CS} (h : cOK T X) : bitP (cP X) := fun p hp => by
  obtain ⟨_, _, _, ⟨N, _, _, h4⟩, _⟩ := h
  exact (h4 p hp).1
theorem cOK.en {T : Nat} {X : CS} (h : cOK T X) : ∀ p ∈ cP X, ∀ en ∈ p.2, enOK en ∧ enO2 en := fun p hp => by
  obtain ⟨_, _, _, ⟨N, _, _, h4⟩, _⟩ := h
  exact (h4 p hp).2.2.2.1
theorem cOK.e {T : Nat} {X : CS} (h : cOK T X) : eOK X := fun p hp en he => (h.en p hp en he).1
theorem WOK.cl {M : Nat} {W : WS} (h : WOK M W) {c : Nat} (hc : c < 3) : ∃ T, T ≤ M ∧ wT W 0 = nI T ∧ cOK T (wC W c) := by
  obtain ⟨_, T, d, i, h1, h2, _, _, _, _, h3⟩ := h
  exact ⟨T, h1, h2, h3 c hc⟩
theorem sNi {j : Nat} (h : j < 2 ^ 31) : sN (nI j) = j := nI_clamp h
theorem e_nat {e : Int32} (h : isE e) : ∃ j, j < 16 ∧ e = nI j ∧ sN e = j := by
  obtain ⟨j, hj, rfl⟩ := in_nat (n := 15) h.1 h.2 (by omega)
  exact ⟨j, by omega, rfl, sNi (by omega)⟩
theorem c_nat {e : Int32} (h : isC e) : ∃ j, j < 3 ∧ e = nI j ∧ sN e = j := by
  obtain ⟨j, hj, rfl⟩ := in_nat (n := 2) h.1 h.2 (by omega)
  exact ⟨j, by omega, rfl, sNi (by omega)⟩
theorem r_nat {v : Int32} {n : Nat} (hn : n < 2 ^ 31) (h : inR 0 (nI n) v) : ∃ j, j ≤ n ∧ v = nI j ∧ sN v = j := by
  obtain ⟨j, hj, rfl⟩ := in_nat (n := n) h.1 h.2 hn
  exact ⟨j, hj, rfl, sNi (by omega)⟩
/-! THE REFERENCE with its stack -/
def clsK (ex : Nat → Nat) (R : RS4) (μ : MM) (x : Nat) (K : OC → MM → Prop) : Prop := (R.1 = 0 → ∀ μ', CW μ'.1 μ'.2.1 (x + 1) R.2.2.1 → CU μ'.1 μ'.2.1 (x + 490) R.2.2.2 → FRm μ μ' x (x + 1959) → K (.inl (some (.inl R.2.1))) μ') ∧ (¬ R.1 = 0 → thr μ (ex R.1) K)
def cpF (f g : Nat → Int32) : Nat → Int32 := fun k => if k < 7269 then f k else g k
theorem cpF_lt (f g : Nat → Int32) {k : Nat} (h : k < 7269) : cpF f g k = f k := if_pos h
