/-! WHAT A TICK KEEPS of what is known of a state. -/
theorem ph : ∀ (n lo : Nat) (l : List Nat), l.Nodup → (∀ x ∈ l, lo ≤ x ∧ x < lo + n) → l.length ≤ n
  | 0, lo, l, _, h => by
    cases l with
    | nil => exact Nat.le_refl _
    | cons x l =>
      have := h x List.mem_cons_self
      omega
  | n + 1, lo, l, h1, h2 => by
    have h3 := ph n lo (l.erase (lo + n)) (h1.erase _) fun x hx => by
      have hx2 := List.mem_of_mem_erase hx
      have := h2 x hx2
      have h4 : x ≠ lo + n := fun q => by
        rw [q] at hx
        exact (List.Nodup.not_mem_erase h1) hx
      omega
    have h5 : l.length ≤ (l.erase (lo + n)).length + 1 := by
      by_cases q : lo + n ∈ l
      · rw [List.length_erase_of_mem q]; omega
      · rw [List.erase_of_not_mem q]; omega
    omega
theorem pw_inj {α : Type} {f : α → Nat} : ∀ {l : List α}, l.Pairwise (fun p q => f p < f q) → ∀ {p q : α}, p ∈ l → q ∈ l → f p = f q → p = q
  | [], _, _, _, h, _, _ => absurd h List.not_mem_nil
  | x :: l, h, p, q, hp, hq, he => by
    obtain ⟨h1, h2⟩ := List.pairwise_cons.mp h
    rcases List.mem_cons.mp hp with rfl | hp2 <;> rcases List.mem_cons.mp hq with rfl | hq2
    · rfl
    · have := h1 q hq2; omega
    · have := h1 p hp2; omega
    · exact pw_inj h2 hp2 hq2 he
theorem pw_nd {α : Type} {f : α → Nat} {l : List α} (h : l.Pairwise (fun p q => f p < f q)) : (l.map f).Nodup := List.pairwise_map.mpr (h.imp fun w => Nat.ne_of_lt w)
/-- a packet: sent by S, arriving after t -/
def pO2 (S t N : Nat) (p : PK) : Prop := (p.1 4 = 0 ∨ p.1 4 = 1) ∧ kpP p ∧ p.2.length ≤ 16 ∧ (∀ en ∈ p.2, enOK en ∧ enO2 en) ∧ (∃ n, n ≤ N ∧ p.1 0 = nI n) ∧ ∃ s, s ≤ S ∧ p.1 2 = nI s ∧ (p.1 3 = 0 ∨ ∃ v, p.1 3 = nI v ∧ t < v ∧ v ≤ s + 10)
def AK2 (S t : Nat) (X : CS) : Prop := ∃ Lp : List (Nat × Int32 × Int32), Lp.map Prod.snd = cA X ∧ (∀ q ∈ Lp, q.1 ≤ S ∧ ∃ v, q.2.2 = nI v ∧ t < v ∧ v ≤ q.1 + 20) ∧ (Lp.map Prod.fst ++ (wayL X).map sNt).Nodup
/-- a client between the stations of a tick -/
def cO2 (S t : Nat) (X : CS) : Prop := c01 X ∧ RI X ∧ (∀ e, e < 16 → sOK (cB X e 2)) ∧ (∃ N, N ≤ S ∧ cS X 7 = nI N ∧ ∀ p ∈ cP X, pO2 S t N p) ∧ NS (cP X) ∧ (cP X).Pairwise (fun p q => sNt p < sNt q) ∧ AK2 S t X
theorem cOK_iff {T : Nat} {X : CS} : cOK T X ↔ cO2 T T X := Iff.rfl
/-- a change of what flies -/
def flM (f : PK → PK) : Prop := ∀ p, (f p).2 = p.2 ∧ (∀ k, ¬ k = 4 → (f p).1 k = p.1 k) ∧ ((f p).1 4 = 0 ∨ (f p).1 4 = p.1 4)
theorem flM_F (n : Int32) : flM (zeroF n) := fun p => ⟨zeroF_2 n p, fun k hk => zeroF_i n p hk, by
  unfold zeroF
  split
  · exact Or.inl (upd_eq p.1 4 0)
  · exact Or.inr rfl⟩
theorem flM_O (t lim : Int32) : flM (zeroO t lim) := fun p => ⟨zeroO_2 t lim p, fun k hk => zeroO_i t lim p hk, by
  unfold zeroO
  split
  · exact Or.inl (upd_eq p.1 4 0)
  · exact Or.inr rfl⟩
theorem flM_id : flM fun p => p := fun p => ⟨rfl, fun _ _ => rfl, Or.inr rfl⟩
theorem flM_s {f : PK → PK} (hf : flM f) (p : PK) : sNt (f p) = sNt p := by
  unfold sNt
  rw [(hf p).2.1 2 (by omega)]
theorem pO2.fl {S t N : Nat} {p : PK} {f : PK → PK} (h : pO2 S t N p) (hf : flM f) (hk : kpP (f p)) : pO2 S t N (f p) := by
  obtain ⟨a1, a2, a3, a4, a5, s, a6, a7, a8⟩ := h
  obtain ⟨f1, f2, f3⟩ := hf p
  refine ⟨?_, hk, by rw [f1]; exact a3, by rw [f1]; exact a4, by rw [f2 0 (by omega)]; exact a5, s, a6, by rw [f2 2 (by omega)]; exact a7, by rw [f2 3 (by omega)]; exact a8⟩
  rcases f3 with f3 | f3
  · exact Or.inl f3
  · rw [f3]; exact a1
theorem NS_fl {l : List PK} (h : NS l) {f : PK → PK} (hf : flM f) : NS (swp (l.map f)) := NS_map h f fun p => (hf p).2.1 0 (by omega)
theorem pw_fl {l : List PK} (h : l.Pairwise (fun p q => sNt p < sNt q)) {f : PK → PK} (hf : ∀ p, sNt (f p) = sNt p) : (swp (l.map f)).Pairwise (fun p q => sNt p < sNt q) := by
  refine List.Pairwise.filter _ (List.pairwise_map.mpr (h.imp fun w => ?_))
  rw [hf, hf]
  exact w
theorem way_fl {l : List PK} {f : PK → PK} (hf : flM f) : (((swp (l.map f)).filter fWy).map sNt) = ((l.filter fWy).map sNt) := by
  rw [way_map f (fun p => (hf p).2.1 3 (by omega)), List.map_map]
  congr 1
  funext p
  exact flM_s hf p
/-- flights change: all the rest of a client stays -/
theorem cO2.fl {S t : Nat} {X Y : CS} (h : cO2 S t X) {f : PK → PK} (hf : flM f) (h0 : cS Y 0 = cS X 0) (h7 : cS Y 7 = cS X 7) (hR : cR Y = cR X) (hA : cA Y = cA X) (hB : ∀ e, e < 16 → sOK (cB Y e 2)) (hP : cP Y = swp ((cP X).map f)) : cO2 S t Y := by
  obtain ⟨a1, a2, a3, ⟨N, n1, n2, n3⟩, a5, a6, Lp, l1, l2, l3⟩ := h
  refine ⟨by unfold c01; rw [h0]; exact a1, fun e he => by rw [hR]; exact a2 e he, hB, ⟨N, n1, h7.trans n2, fun p hp => ?_⟩, by rw [hP]; exact NS_fl a5 hf, by rw [hP]; exact pw_fl a6 fun p => flM_s hf p, Lp, by rw [hA]; exact l1, l2, ?_⟩
  · rw [hP] at hp
    obtain ⟨p1, p2⟩ := List.mem_filter.mp hp
    obtain ⟨q, hq, rfl⟩ := List.mem_map.mp p1
    exact (n3 q hq).fl hf (of_decide_eq_true p2)
  · have e : (wayL Y).map sNt = (wayL X).map sNt := by
      show ((cP Y).filter fWy).map sNt = _
      rw [hP]
      exact way_fl hf
    rw [e]
    exact l3
theorem sOK_4 {en : EN} (h : enOK en) : sOK (en 4) := by
  by_cases q : en 0 = 0
  · exact Or.inl (h.2.2.2.1 q)
  · obtain ⟨n, h1, h2⟩ := h.2.2.2.2 q
    exact Or.inr ⟨n, h1, h2⟩
theorem setL_sOK (n : Int32) : ∀ (l : List EN) (X : CS), (∀ en ∈ l, enOK en) → (∀ e, e < 16 → sOK (cB X e 2)) → ∀ e, e < 16 → sOK (cB (setL' n l X) e 2)
  | [], _, _, h => h
  | en :: l, X, g, h => setL_sOK n l (setl n X en) (fun e he => g e (List.mem_cons_of_mem _ he)) fun e he => by
    unfold setl
    split
    · show sOK (up2 (up2 (cB X) (eN en) 1 n) (eN en) 2 (en 4) e 2)
      by_cases q : e = eN en
      · rw [q, u2_eq]
        exact sOK_4 (g en List.mem_cons_self)
      · rw [u2_ne _ _ q, u2_ne _ _ q]
        exact h e he
    · exact h e he
theorem ackF_sOK (n : Int32) : ∀ (l : List PK) (X : CS), (∀ p ∈ l, ∀ en ∈ p.2, enOK en) → (∀ e, e < 16 → sOK (cB X e 2)) → ∀ e, e < 16 → sOK (cB (ackF n l X) e 2)
  | [], _, _, h => h
  | p :: l, X, g, h => ackF_sOK n l (if hit n p then setL' n p.2 X else X) (fun q hq => g q (List.mem_cons_of_mem _ hq)) fun e he => by
    split
    · exact setL_sOK n p.2 X (g p List.mem_cons_self) h e he
    · exact h e he
theorem cO2.e {S t : Nat} {X : CS} (h : cO2 S t X) : eOK X := fun p hp en he => by
  obtain ⟨_, _, _, ⟨N, _, _, h4⟩, _⟩ := h
  exact ((h4 p hp).2.2.2.1 en he).1
theorem cO2.bit {S t : Nat} {X : CS} (h : cO2 S t X) : bitP (cP X) := fun p hp => by
  obtain ⟨_, _, _, ⟨N, _, _, h4⟩, _⟩ := h
  exact (h4 p hp).1
theorem cO2_ack {S t : Nat} {X : CS} (h : cO2 S t X) (n : Int32) : cO2 S t (ackN n X) := by
  have hs := ackN_S n X
  have hB := ackF_sOK n (cP X) (setS X 12 (cS X 12 + 1)) h.e h.2.2.1
  have hf : ∃ f, flM f ∧ cP (ackN n X) = swp ((cP X).map f) := by
    by_cases q : anyH n (cP X) = true
    · refine ⟨zeroF n, flM_F n, ?_⟩
      show swp (if anyH n (cP X) = true then _ else _) = _
      rw [if_pos q]
    · refine ⟨fun p => p, flM_id, ?_⟩
      show swp (if anyH n (cP X) = true then _ else _) = _
      rw [if_neg q, List.map_id']
  obtain ⟨f, f1, f2⟩ := hf
  exact h.fl f1 (by rw [hs.1, upd_ne _ _ (by omega)]) (by rw [hs.1, upd_ne _ _ (by omega)]) hs.2 (ackN_A n X) hB f2
theorem cO2_akA {S t : Nat} (u : Int32) : ∀ (l : List (Int32 × Int32)) {X : CS}, cO2 S t X → cO2 S t (akA u l X)
  | [], _, h => h
  | q :: l, X, h => cO2_akA u l (X := if q.2 = u then ackN q.1 X else X) (by
    split
    · exact cO2_ack h q.1
    · exact h)
/-- acknowledgements that arrived go -/
theorem cO2_arr2 {S t : Nat} {X : CS} (h : cO2 S t X) (ht : t + 1 < 2 ^ 31) (hS : S + 20 < 2 ^ 31) (hp : ∀ p ∈ cP X, p.1 3 = 0 ∨ ∃ v, p.1 3 = nI v ∧ t + 1 < v ∧ v < 2 ^ 31) : cO2 S (t + 1) (arr2 (nI (t + 1)) X) := by
  have hZ := cO2_akA (nI (t + 1)) (cA X) h
  have hpZ : ∀ p ∈ cP (akA (nI (t + 1)) (cA X) X), p.1 3 = 0 ∨ ∃ v, p.1 3 = nI v ∧ t + 1 < v ∧ v < 2 ^ 31 := by
    have go : ∀ (l : List (Int32 × Int32)) (Y : CS), (∀ p ∈ cP Y, p.1 3 = 0 ∨ ∃ v, p.1 3 = nI v ∧ t + 1 < v ∧ v < 2 ^ 31) → ∀ p ∈ cP (akA (nI (t + 1)) l Y), p.1 3 = 0 ∨ ∃ v, p.1 3 = nI v ∧ t + 1 < v ∧ v < 2 ^ 31 := fun l => by
      induction l with
      | nil => exact fun _ hY => hY
      | cons q l ih =>
        intro Y hY
        refine ih (if q.2 = nI (t + 1) then ackN q.1 Y else Y) fun p hp => ?_
        split at hp
        · have hp := (List.mem_filter.mp hp).1
          split at hp
          · obtain ⟨q', hq', rfl⟩ := List.mem_map.mp hp
            rw [zeroF_i _ _ (by omega)]
            exact hY q' hq'
          · exact hY p hp
        · exact hY p hp
    exact go (cA X) X hp
  have hAe : cA (akA (nI (t + 1)) (cA X) X) = cA X := by
    have go : ∀ (l : List (Int32 × Int32)) (Y : CS), cA (akA (nI (t + 1)) l Y) = cA Y := fun l => by
      induction l with
      | nil => exact fun _ => rfl
      | cons q l ih =>
        intro Y
        refine (ih (if q.2 = nI (t + 1) then ackN q.1 Y else Y)).trans ?_
        split
        · exact ackN_A _ _
        · rfl
    exact go (cA X) X
  have e : arr2 (nI (t + 1)) X = setA (akA (nI (t + 1)) (cA X) X) (kpA (nI (t + 1)) (cA X)) := rfl
  rw [e]
  clear e
  generalize akA (nI (t + 1)) (cA X) X = Z at *
  rw [← hAe]
  obtain ⟨a1, a2, a3, ⟨N, n1, n2, n3⟩, a5, a6, Lp, l1, l2, l3⟩ := hZ
  refine ⟨a1, a2, a3, ⟨N, n1, n2, fun p hpp => ?_⟩, a5, a6, Lp.filter (fun q => decide (¬ q.2.2 = nI (t + 1))), ?_, fun q hq => ?_, ?_⟩
  · obtain ⟨b1, b2, b3, b4, b5, s, b6, b7, b8⟩ := n3 p hpp
    refine ⟨b1, b2, b3, b4, b5, s, b6, b7, ?_⟩
    rcases b8 with b8 | ⟨v, v1, v2, v3⟩
    · exact Or.inl b8
    · rcases hpZ p hpp with w | ⟨w, w1, w2, w3⟩
      · exact Or.inl w
      · refine Or.inr ⟨v, v1, ?_, v3⟩
        by_cases q : v = t + 1
        · exfalso
          rw [v1, q] at w1
          have := nI_inj ht w3 w1
          omega
        · omega
  · show (Lp.filter _).map Prod.snd = (cA Z).filter fun a => decide (¬ a.2 = nI (t + 1))
    rw [← l1, List.filter_map]
    rfl
  · obtain ⟨q1, q2⟩ := List.mem_filter.mp hq
    obtain ⟨b1, v, v1, v2, v3⟩ := l2 q q1
    have q2 : ¬ q.2.2 = nI (t + 1) := of_decide_eq_true q2
    refine ⟨b1, v, v1, ?_, v3⟩
    by_cases w : v = t + 1
    · rw [w] at v1; exact absurd v1 q2
    · omega
  · exact List.Nodup.sublist (List.Sublist.append (List.Sublist.map _ List.filter_sublist) (List.Sublist.refl _)) l3
theorem zeroA_s (t : Int32) (p : PK) : sNt (zeroA t p) = sNt p := by
  unfold sNt
  rw [(zeroA_PE t p).2.2.1]
theorem ackS_f (t d n : Int32) (X : CS) : (∀ k, ¬ k = 6 → ¬ k = 11 → cS (ackS t d n X) k = cS X k) ∧ cR (ackS t d n X) = cR X := by
  unfold ackS
  split
  · refine ⟨fun k h6 h11 => ?_, rfl⟩
    show upd (upd (cS X) 6 _) 11 _ k = _
    rw [upd_ne _ _ h11, upd_ne _ _ h6]
  · exact ⟨fun _ _ _ => rfl, rfl⟩
theorem rcvL_f (n : Int32) : ∀ (l : List EN) (X : CS) (k : Nat), ¬ k = 13 → cS (rcvL n l X) k = cS X k
  | [], _, _, _ => rfl
  | en :: l, X, k, hk => by
    refine (rcvL_f n l (rcvE n X en) k hk).trans ?_
    unfold rcvE
    split
    · rfl
    · split
      · split
        · exact upd_ne _ _ hk
        · rfl
      · rfl
theorem rcvP_f (t d : Int32) (p : PK) (X : CS) {k : Nat} (h6 : ¬ k = 6) (h11 : ¬ k = 11) (h13 : ¬ k = 13) : cS (rcvP t d p X) k = cS X k := by
  show cS (ackS t d (p.1 0) (rcvL (p.1 0) p.2 X)) k = _
  rw [(ackS_f t d (p.1 0) _).1 k h6 h11]
  exact rcvL_f _ _ _ k h13
theorem arrP_f (t d : Int32) {k : Nat} (h6 : ¬ k = 6) (h11 : ¬ k = 11) (h13 : ¬ k = 13) : ∀ (l : List PK) (X : CS), cS (arrP t d l X) k = cS X k
  | [], _ => rfl
  | p :: l, X => by
    refine (arrP_f t d h6 h11 h13 l (if p.1 3 = t then rcvP t d p X else X)).trans ?_
    split
    · exact rcvP_f t d p X h6 h11 h13
    · rfl
theorem arrP_RI (t d : Int32) : ∀ (l : List PK) (X : CS), RI X → (∀ p ∈ l, ∀ en ∈ p.2, enOK en) → RI (arrP t d l X)
  | [], _, h, _ => h
  | p :: l, X, h, g => by
    refine arrP_RI t d l (if p.1 3 = t then rcvP t d p X else X) ?_ fun q hq => g q (List.mem_cons_of_mem _ hq)
    split
    · exact rcvP_RI t d p X h (g p List.mem_cons_self)
    · exact h
abbrev fEq (t : Int32) : PK → Bool := fun p => decide (p.1 3 = t)
/-- the acknowledgements that the arriving packets bring, with when the packets were sent -/
theorem arrP_ack (t d : Int32) : ∀ (l : List PK) (X : CS), ∃ Z : List (Nat × Int32 × Int32), cA (arrP t d l X) = cA X ++ Z.map Prod.snd ∧ (∀ z ∈ Z, z.2.2 = t + d) ∧ (Z.map Prod.fst).Sublist ((l.filter (fEq t)).map sNt)
  | [], X => ⟨[], (List.append_nil _).symm, fun _ h => absurd h List.not_mem_nil, List.Sublist.refl _⟩
  | p :: l, X => by
    by_cases q : p.1 3 = t
    · obtain ⟨Z, z1, z2, z3⟩ := arrP_ack t d l (rcvP t d p X)
      have e : arrP t d (p :: l) X = arrP t d l (rcvP t d p X) := by
        show arrP t d l (if p.1 3 = t then rcvP t d p X else X) = _
        rw [if_pos q]
      rw [List.filter_cons_of_pos (p := fEq t) (decide_eq_true q), List.map_cons, e]
      have hA : cA (rcvP t d p X) = cA X ∨ cA (rcvP t d p X) = cA X ++ [(p.1 0, t + d)] := by
        show cA (ackS t d (p.1 0) (rcvL (p.1 0) p.2 X)) = _ ∨ cA (ackS t d (p.1 0) (rcvL (p.1 0) p.2 X)) = _
        have := rcvL_A (p.1 0) p.2 X
        unfold ackS
        split
        · exact Or.inl this
        · refine Or.inr ?_
          show cA (rcvL (p.1 0) p.2 X) ++ _ = _
          rw [this]
      rcases hA with hA | hA
      · exact ⟨Z, by rw [z1, hA], z2, z3.cons _⟩
      · refine ⟨(sNt p, (p.1 0, t + d)) :: Z, by rw [z1, hA, List.append_assoc]; rfl, fun z hz => ?_, z3.cons₂ _⟩
        rcases List.mem_cons.mp hz with rfl | hz
        · rfl
        · exact z2 z hz
    · obtain ⟨Z, z1, z2, z3⟩ := arrP_ack t d l X
      have e : arrP t d (p :: l) X = arrP t d l X := by
        show arrP t d l (if p.1 3 = t then rcvP t d p X else X) = _
        rw [if_neg q]
      refine ⟨Z, by rw [e]; exact z1, z2, ?_⟩
      rw [List.filter_cons_of_neg (p := fEq t) (dec_ff q)]
      exact z3
/-- packets arrive -/
theorem cO2_arr1 {S t d : Nat} {X : CS} (h : cO2 S t X) (hd : 1 ≤ d ∧ d ≤ 10) (ht : t + 40 < 2 ^ 31) (hS : S + 40 < 2 ^ 31) : cO2 S t (arr1 (nI (t + 1)) (nI d) X) ∧ ∀ p ∈ cP (arr1 (nI (t + 1)) (nI d) X), p.1 3 = 0 ∨ ∃ v, p.1 3 = nI v ∧ t + 1 < v ∧ v < 2 ^ 31 := by
  have he := h.e
  obtain ⟨a1, a2, a3, ⟨N, n1, n2, n3⟩, a5, a6, Lp, l1, l2, l3⟩ := h
  obtain ⟨eb, ep⟩ := arrP_BP (nI (t + 1)) (nI d) (cP X) X
  have t0 : (0 : Int32) < nI (t + 1) := by
    rw [z_nI, nI_lt_iff (by omega) (by omega)]
    omega
  obtain ⟨Z, z1, z2, z3⟩ := arrP_ack (nI (t + 1)) (nI d) (wayL X) X
  have ew : arrP (nI (t + 1)) (nI d) (wayL X) X = arrP (nI (t + 1)) (nI d) (cP X) X := arrP_way _ _ t0 (cP X) X
  rw [ew] at z1
  have wmem : ∀ p ∈ wayL X, ∃ s v, s ≤ S ∧ p.1 2 = nI s ∧ p.1 3 = nI v ∧ t < v ∧ v ≤ s + 10 := fun p hp => by
    obtain ⟨p1, p2⟩ := List.mem_filter.mp hp
    obtain ⟨_, _, _, _, _, s, s1, s2, s3⟩ := n3 p p1
    rcases s3 with s3 | ⟨v, v1, v2, v3⟩
    · rw [s3] at p2
      exact absurd p2 (by decide)
    · exact ⟨s, v, s1, s2, v1, v2, v3⟩
  have hw6 : (wayL X).Pairwise (fun p q => sNt p < sNt q) := List.Pairwise.filter _ a6
  have wayE : wayL (arr1 (nI (t + 1)) (nI d) X) = (wayL X).filter (fNt (nI (t + 1))) := way_arr _ t0 (cP X)
  have pk : ∀ p ∈ cP (arr1 (nI (t + 1)) (nI d) X), pO2 S t N p ∧ (p.1 3 = 0 ∨ ∃ v, p.1 3 = nI v ∧ t + 1 < v ∧ v < 2 ^ 31) := fun p hp => by
    obtain ⟨p1, p2⟩ := List.mem_filter.mp hp
    obtain ⟨q, hq, rfl⟩ := List.mem_map.mp p1
    obtain ⟨b1, b2, b3, b4, b5, s, b6, b7, b8⟩ := n3 q hq
    obtain ⟨e0, e1, e2, _, e4⟩ := zeroA_PE (nI (t + 1)) q
    have f4 : (zeroA (nI (t + 1)) q).1 4 = q.1 4 := by
      unfold zeroA
      split
      · exact upd_ne q.1 (i := 3) (k := 4) 0 (by omega)
      · rfl
    have f3 : (zeroA (nI (t + 1)) q).1 3 = 0 ∨ ∃ v, (zeroA (nI (t + 1)) q).1 3 = nI v ∧ t + 1 < v ∧ v ≤ s + 10 := by
      unfold zeroA
      by_cases g : q.1 3 = nI (t + 1)
      · rw [if_pos g]
        exact Or.inl (upd_eq q.1 3 0)
      · rw [if_neg g]
        rcases b8 with b8 | ⟨v, v1, v2, v3⟩
        · exact Or.inl b8
        · refine Or.inr ⟨v, v1, ?_, v3⟩
          by_cases w : v = t + 1
          · rw [w] at v1; exact absurd v1 g
          · omega
    refine ⟨⟨by rw [f4]; exact b1, of_decide_eq_true p2, by rw [e4]; exact b3, by rw [e4]; exact b4, by rw [e0]; exact b5, s, b6, by rw [e2]; exact b7, ?_⟩, ?_⟩
    · rcases f3 with f3 | ⟨v, v1, v2, v3⟩
      · exact Or.inl f3
      · exact Or.inr ⟨v, v1, by omega, v3⟩
    · rcases f3 with f3 | ⟨v, v1, v2, v3⟩
      · exact Or.inl f3
      · exact Or.inr ⟨v, v1, v2, by omega⟩
  have zmem : ∀ x ∈ Z.map Prod.fst, ∃ p ∈ wayL X, p.1 3 = nI (t + 1) ∧ sNt p = x := fun x hx => by
    obtain ⟨p, hp, hpx⟩ := List.mem_map.mp (z3.subset hx)
    obtain ⟨p1, p2⟩ := List.mem_filter.mp hp
    exact ⟨p, p1, of_decide_eq_true p2, hpx⟩
  refine ⟨⟨?_, ?_, ?_, ⟨N, n1, ?_, fun p hp => (pk p hp).1⟩, arr1_NS a5, ?_, Lp ++ Z, ?_, fun q hq => ?_, ?_⟩, fun p hp => (pk p hp).2⟩
  · unfold c01
    show cS (arrP (nI (t + 1)) (nI d) (cP X) X) 0 = 0 ∨ cS (arrP (nI (t + 1)) (nI d) (cP X) X) 0 = 1
    rw [arrP_f _ _ (by omega) (by omega) (by omega)]
    exact a1
  · exact arrP_RI _ _ _ _ a2 he
  · intro e hee
    show sOK (cB (arrP (nI (t + 1)) (nI d) (cP X) X) e 2)
    rw [eb]
    exact a3 e hee
  · show cS (arrP (nI (t + 1)) (nI d) (cP X) X) 7 = _
    rw [arrP_f _ _ (by omega) (by omega) (by omega)]
    exact n2
  · exact pw_fl a6 (zeroA_s _)
  · rw [List.map_append, l1]
    exact z1.symm
  · rcases List.mem_append.mp hq with hq | hq
    · exact l2 q hq
    · obtain ⟨p, hp, p3, px⟩ := zmem q.1 (List.mem_map_of_mem hq)
      obtain ⟨s, v, s1, s2, v1, v2, v3⟩ := wmem p hp
      have es : q.1 = s := by
        rw [← px]
        unfold sNt
        rw [s2, sNi (by omega)]
      have ev : v = t + 1 := by
        rw [v1] at p3
        exact nI_inj (by omega) (by omega) p3
      refine ⟨by omega, t + 1 + d, ?_, by omega, by omega⟩
      rw [z2 q hq, nI_add]
  · rw [wayE, List.map_append]
    obtain ⟨m1, m2, m3⟩ := List.nodup_append.mp l3
    have zn : (Z.map Prod.fst).Nodup := List.Nodup.sublist z3 (pw_nd (List.Pairwise.filter _ hw6))
    refine List.nodup_append.mpr ⟨List.nodup_append.mpr ⟨m1, zn, fun x hx y hy => ?_⟩, pw_nd (List.Pairwise.filter _ hw6), fun x hx y hy => ?_⟩
    · obtain ⟨p, hp, _, px⟩ := zmem y hy
      rw [← px]
      exact m3 x hx (sNt p) (List.mem_map_of_mem hp)
    · obtain ⟨q, hq, qy⟩ := List.mem_map.mp hy
      obtain ⟨q1, q2⟩ := List.mem_filter.mp hq
      have q2 : ¬ q.1 3 = nI (t + 1) := of_decide_eq_true q2
      rcases List.mem_append.mp hx with hx | hx
      · rw [← qy]
        exact m3 x hx (sNt q) (List.mem_map_of_mem q1)
      · obtain ⟨p, hp, p3, px⟩ := zmem x hx
        intro w
        rw [← px, ← qy] at w
        have := pw_inj hw6 hp q1 w
        rw [this] at p3
        exact q2 p3
