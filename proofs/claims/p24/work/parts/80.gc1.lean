/-! p24's OWN: what more is known of a client, and what a tick keeps of it. -/
/-- the bytes of an entry -/
def dueN (en : EN) : Nat := if en 0 = 0 then 2 else if en 0 = 1 then 6 else 2 + bts (sN (en 3))
def sumD (l : List EN) : Nat := (l.map dueN).sum
/-- an entry of the packet n -/
def enG (n : Nat) (en : EN) : Prop := (en 0 = 0 ∧ en 3 = 0 ∧ en 2 = 0) ∨ (en 0 = 1 ∧ en 3 = 15 ∧ en 2 = 0) ∨ (en 0 = 2 ∧ (∃ m, 0 < m ∧ m < 16 ∧ en 3 = nI m) ∧ ∃ b, 1 ≤ b ∧ b < n ∧ en 2 = nI b)
/-- a packet, N sent so far, the budget b -/
def pkG (N b : Nat) (p : PK) : Prop := ∃ n, (1 ≤ n ∧ n ≤ N ∧ p.1 0 = nI n) ∧ ¬ p.2 = [] ∧ p.1 1 = nI (4 + sumD p.2) ∧ 4 + sumD p.2 ≤ b ∧ (p.2.map eN).Nodup ∧ ∀ en ∈ p.2, enG n en
def cnG (N b : Nat) (X : CS) : Prop := ∃ Bt LP LA AR GU Es : Nat, (cS X 9 = nI Bt ∧ cS X 10 = nI LP ∧ cS X 11 = nI LA ∧ cS X 12 = nI AR ∧ cS X 14 = nI GU ∧ cS X 15 = nI Es) ∧ (6 * N ≤ Bt ∧ Bt ≤ b * N) ∧ LP + LA + AR + (wayL X).length + (cA X).length ≤ N ∧ GU + flyN (cP X) ≤ N ∧ N ≤ Es ∧ Es ≤ 16 * N
def blG (S N : Nat) (X : CS) : Prop := ∀ e, e < 16 → (∃ q, cB X e 0 = nI q ∧ q ≤ 256 * S) ∧ ∃ n, n ≤ N ∧ cB X e 1 = nI n ∧ (¬ cB X e 2 = -1 → 1 ≤ n)
def rcG (N : Nat) (X : CS) : Prop := ∀ e, e < 16 → ∀ r ∈ cR X e, ∃ n, n ≤ N ∧ r.1 = nI n
def scG (N b : Nat) (X : CS) : Prop := (cS X 7 = nI N ∧ cS X 8 = nI N ∧ cS X 4 = nI b ∧ b ≤ 64) ∧ (∃ cx, cx ≤ 31 ∧ cS X 1 = nI cx) ∧ (∃ cy, cy ≤ 31 ∧ cS X 2 = nI cy) ∧ (¬ cnn X → N = 0 ∧ cP X = [] ∧ cA X = [])
def GX (S N b : Nat) (X : CS) : Prop := scG N b X ∧ cnG N b X ∧ (∀ p ∈ cP X, pkG N b p) ∧ blG S N X ∧ rcG N X
theorem pkG.mono {N N' b : Nat} {p : PK} (h : pkG N b p) (hN : N ≤ N') : pkG N' b p := by
  obtain ⟨n, ⟨h1, h2, h3⟩, h4⟩ := h
  exact ⟨n, ⟨h1, by omega, h3⟩, h4⟩
theorem pkG.of {N b : Nat} {p q : PK} (h : pkG N b p) (h0 : q.1 0 = p.1 0) (h1 : q.1 1 = p.1 1) (h2 : q.2 = p.2) : pkG N b q := by
  obtain ⟨n, ⟨a1, a2, a3⟩, a4, a5, a6⟩ := h
  exact ⟨n, ⟨a1, a2, h0.trans a3⟩, by rw [h2]; exact a4, by rw [h1, h2]; exact a5, by rw [h2]; exact a6⟩
/-! packets arrive -/
theorem ackS_c (t d n : Int32) (X : CS) {LA : Nat} (h : cS X 11 = nI LA) : ∃ LA', cS (ackS t d n X) 11 = nI LA' ∧ LA' + (cA (ackS t d n X)).length = LA + (cA X).length + 1 := by
  unfold ackS
  split
  · refine ⟨LA + 1, ?_, ?_⟩
    · show upd (upd (cS X) 6 (cS X 6 + -1)) 11 (upd (cS X) 6 (cS X 6 + -1) 11 + 1) 11 = _
      rw [upd_eq, upd_ne _ _ (by omega), h]
      exact nI_add LA 1
    · show LA + 1 + (cA X).length = _
      omega
  · refine ⟨LA, h, ?_⟩
    show LA + (cA X ++ [_]).length = _
    rw [List.length_append, List.length_singleton]
    omega
theorem arrP_c (t d : Int32) : ∀ (l : List PK) (X : CS) (LA : Nat), cS X 11 = nI LA → ∃ LA', cS (arrP t d l X) 11 = nI LA' ∧ LA' + (cA (arrP t d l X)).length = LA + (cA X).length + arN t l
  | [], X, LA, h => ⟨LA, h, rfl⟩
  | p :: l, X, LA, h => by
    show ∃ LA', cS (arrP t d l (if p.1 3 = t then rcvP t d p X else X)) 11 = nI LA' ∧ LA' + (cA (arrP t d l (if p.1 3 = t then rcvP t d p X else X))).length = _
    by_cases q : p.1 3 = t
    · rw [if_pos q]
      have e : arN t (p :: l) = arN t l + 1 := by
        unfold arN
        rw [List.filter_cons_of_pos (p := fEq t) (decide_eq_true q)]
        rfl
      obtain ⟨LA1, a1, a2⟩ := ackS_c t d (p.1 0) (rcvL (p.1 0) p.2 X) (LA := LA) (by rw [rcvL_f _ _ _ 11 (by omega)]; exact h)
      rw [rcvL_A] at a2
      obtain ⟨LA2, b1, b2⟩ := arrP_c t d l (rcvP t d p X) LA1 a1
      have a2 : LA1 + (cA (rcvP t d p X)).length = LA + (cA X).length + 1 := a2
      exact ⟨LA2, b1, by omega⟩
    · rw [if_neg q]
      have e : arN t (p :: l) = arN t l := by
        unfold arN
        rw [List.filter_cons_of_neg (p := fEq t) (dec_ff q)]
      obtain ⟨LA2, b1, b2⟩ := arrP_c t d l X LA h
      exact ⟨LA2, b1, by omega⟩
theorem addRec_mem {l : List (Int32 × Int32)} {n s : Int32} {r : Int32 × Int32} (h : r ∈ addRec l n s) : r ∈ l ∨ r = (n, s) := by
  unfold addRec at h
  rcases List.mem_append.mp h with h | h
  · refine Or.inl ?_
    split at h
    · exact List.mem_of_mem_drop h
    · exact h
  · exact Or.inr (List.mem_singleton.mp h)
theorem rcvE_rc {N : Nat} {n : Int32} {X : CS} {en : EN} (h : rcG N X) (hn : ∃ k, k ≤ N ∧ n = nI k) : rcG N (rcvE n X en) := by
  have go : ∀ s : Int32, rcG N (setR X (eN en) (addRec (cR X (eN en)) n s)) := fun s e he r hr => by
    have hr : r ∈ up1 (cR X) (eN en) (addRec (cR X (eN en)) n s) e := hr
    by_cases c : e = eN en
    · rw [c, up1_eq] at hr
      rcases addRec_mem hr with hr | rfl
      · exact h _ (by rw [← c]; exact he) r hr
      · exact hn
    · rw [up1_ne' _ _ c] at hr
      exact h e he r hr
  unfold rcvE
  split
  · exact h
  · split
    · split
      · exact h
      · exact go _
    · exact go _
theorem rcvL_rc {N : Nat} {n : Int32} (hn : ∃ k, k ≤ N ∧ n = nI k) : ∀ (l : List EN) (X : CS), rcG N X → rcG N (rcvL n l X)
  | [], _, h => h
  | en :: l, X, h => rcvL_rc hn l (rcvE n X en) (rcvE_rc h hn)
theorem arrP_rc {N : Nat} (t d : Int32) : ∀ (l : List PK) (X : CS), (∀ p ∈ l, ∃ k, k ≤ N ∧ p.1 0 = nI k) → rcG N X → rcG N (arrP t d l X)
  | [], _, _, h => h
  | p :: l, X, g, h => by
    refine arrP_rc t d l (if p.1 3 = t then rcvP t d p X else X) (fun q hq => g q (List.mem_cons_of_mem _ hq)) ?_
    split
    · have := rcvL_rc (g p List.mem_cons_self) p.2 X h
      show rcG N (ackS t d (p.1 0) (rcvL (p.1 0) p.2 X))
      unfold ackS
      split <;> exact this
    · exact h
theorem flyN_le {f : PK → PK} (hf : ∀ p, fly (f p) → fly p) (l : List PK) : flyN (swp (l.map f)) ≤ flyN l := by
  have h1 : flyN (swp (l.map f)) ≤ ((l.map f).filter fFl).length := (List.Sublist.filter fFl List.filter_sublist).length_le
  rw [List.filter_map, List.length_map] at h1
  refine Nat.le_trans h1 ?_
  show _ ≤ (l.filter fFl).length
  rw [← List.countP_eq_length_filter, ← List.countP_eq_length_filter]
  exact List.countP_mono_left fun p _ hp => decide_eq_true (hf p (of_decide_eq_true hp))
theorem fil_NP (t : Int32) : ∀ l : List PK, (l.filter (fNt t)).length + (l.filter (fEq t)).length = l.length
  | [] => rfl
  | p :: l => by
    have ih := fil_NP t l
    by_cases q : p.1 3 = t
    · rw [List.filter_cons_of_neg (p := fNt t) (dec_ff fun w => w q), List.filter_cons_of_pos (p := fEq t) (decide_eq_true q), List.length_cons, List.length_cons]
      omega
    · rw [List.filter_cons_of_pos (p := fNt t) (decide_eq_true q), List.filter_cons_of_neg (p := fEq t) (dec_ff q), List.length_cons, List.length_cons]
      omega
theorem zeroA_4 (t : Int32) (p : PK) : (zeroA t p).1 4 = p.1 4 := by
  unfold zeroA
  split
  · exact upd_ne p.1 (i := 3) (k := 4) 0 (by omega)
  · rfl
theorem GX_arr1 {S N b : Nat} {t d : Int32} {X : CS} (h : GX S N b X) (ht : 0 < t) : GX S N b (arr1 t d X) := by
  obtain ⟨⟨⟨s7, s8, s4, sb⟩, ⟨cx, x1, x2⟩, ⟨cy, y1, y2⟩, sn⟩, ⟨Bt, LP, LA, AR, GU, Es, ⟨c9, c10, c11, c12, c14, c15⟩, cb, cl, cg, ce⟩, hp, hb, hr⟩ := h
  obtain ⟨eb, ep⟩ := arrP_BP t d (cP X) X
  have eS : ∀ k : Nat, ¬ k = 6 → ¬ k = 11 → ¬ k = 13 → cS (arr1 t d X) k = cS X k := fun k h6 h11 h13 => arrP_f t d h6 h11 h13 (cP X) X
  obtain ⟨LA', l1, l2⟩ := arrP_c t d (cP X) X LA c11
  have hnum : ∀ p ∈ cP X, ∃ k, k ≤ N ∧ p.1 0 = nI k := fun p hpp => by
    obtain ⟨n, ⟨_, a2, a3⟩, _⟩ := hp p hpp
    exact ⟨n, a2, a3⟩
  have w1 : (wayL (arr1 t d X)).length + arN t (cP X) = (wayL X).length := by
    have e1 : wayL (arr1 t d X) = (wayL X).filter (fNt t) := way_arr t ht (cP X)
    rw [e1, ← arN_way t ht (cP X)]
    exact fil_NP t (wayL X)
  have f1 := flyN_le (f := zeroA t) (fun p hp => (zeroA_4 t p).symm.trans hp) (cP X)
  refine ⟨⟨⟨(eS 7 (by omega) (by omega) (by omega)).trans s7, (eS 8 (by omega) (by omega) (by omega)).trans s8, (eS 4 (by omega) (by omega) (by omega)).trans s4, sb⟩, ⟨cx, x1, (eS 1 (by omega) (by omega) (by omega)).trans x2⟩, ⟨cy, y1, (eS 2 (by omega) (by omega) (by omega)).trans y2⟩, fun w => ?_⟩,
    ⟨Bt, LP, LA', AR, GU, Es, ⟨(eS 9 (by omega) (by omega) (by omega)).trans c9, (eS 10 (by omega) (by omega) (by omega)).trans c10, l1, (eS 12 (by omega) (by omega) (by omega)).trans c12, (eS 14 (by omega) (by omega) (by omega)).trans c14, (eS 15 (by omega) (by omega) (by omega)).trans c15⟩, cb, ?_, ?_, ce⟩, fun p hpp => ?_, fun e he => ?_, fun e he r hr2 => arrP_rc t d (cP X) X hnum hr e he r hr2⟩
  · obtain ⟨n0, p0, a0⟩ := sn fun z => w ((eS 0 (by omega) (by omega) (by omega)).trans z)
    refine ⟨n0, ?_, ?_⟩
    · show swp ((cP X).map (zeroA t)) = []
      rw [p0]
      rfl
    · show cA (arrP t d (cP X) X) = []
      rw [p0]
      exact a0
  · show LP + LA' + AR + (wayL (arr1 t d X)).length + (cA (arrP t d (cP X) X)).length ≤ N
    omega
  · show GU + flyN (swp ((cP X).map (zeroA t))) ≤ N
    omega
  · obtain ⟨q, hq, rfl⟩ := List.mem_map.mp (List.mem_filter.mp hpp).1
    obtain ⟨e0, e1, e2, _, e4⟩ := zeroA_PE t q
    exact (hp q hq).of e0 e1 e4
  · show (∃ q, cB (arrP t d (cP X) X) e 0 = nI q ∧ q ≤ 256 * S) ∧ ∃ n, n ≤ N ∧ cB (arrP t d (cP X) X) e 1 = nI n ∧ (¬ cB (arrP t d (cP X) X) e 2 = -1 → 1 ≤ n)
    rw [eb]
    exact hb e he
/-! acknowledgements arrive -/
theorem setl_bl {S N : Nat} {n : Int32} {X : CS} {en : EN} (h : blG S N X) (hn : ∃ k, 1 ≤ k ∧ k ≤ N ∧ n = nI k) : blG S N (setl n X en) := by
  unfold setl
  split
  · intro e he
    obtain ⟨a, b⟩ := h e he
    show (∃ q, up2 (up2 (cB X) (eN en) 1 n) (eN en) 2 (en 4) e 0 = nI q ∧ q ≤ 256 * S) ∧ ∃ m, m ≤ N ∧ up2 (up2 (cB X) (eN en) 1 n) (eN en) 2 (en 4) e 1 = nI m ∧ (¬ up2 (up2 (cB X) (eN en) 1 n) (eN en) 2 (en 4) e 2 = -1 → 1 ≤ m)
    by_cases q : e = eN en
    · obtain ⟨k, k1, k2, k3⟩ := hn
      refine ⟨?_, k, k2, ?_, fun _ => k1⟩
      · rw [q, u2_nj _ _ (by omega), u2_nj _ _ (by omega), ← q]
        exact a
      · rw [q, u2_nj _ _ (by omega), u2_eq]
        exact k3
    · rw [u2_ne _ _ q, u2_ne _ _ q]
      exact ⟨a, b⟩
  · exact h
theorem setL_bl {S N : Nat} {n : Int32} (hn : ∃ k, 1 ≤ k ∧ k ≤ N ∧ n = nI k) : ∀ (l : List EN) (X : CS), blG S N X → blG S N (setL' n l X)
  | [], _, h => h
  | en :: l, X, h => setL_bl hn l (setl n X en) (setl_bl h hn)
theorem ackF_bl {S N : Nat} (n : Int32) : ∀ (l : List PK) (X : CS), (∀ p ∈ l, ∃ k, 1 ≤ k ∧ k ≤ N ∧ p.1 0 = nI k) → blG S N X → blG S N (ackF n l X)
  | [], _, _, h => h
  | p :: l, X, g, h => by
    refine ackF_bl n l (if hit n p then setL' n p.2 X else X) (fun q hq => g q (List.mem_cons_of_mem _ hq)) ?_
    split
    · next w =>
      refine setL_bl ?_ p.2 X h
      obtain ⟨k, k1, k2, k3⟩ := g p List.mem_cons_self
      exact ⟨k, k1, k2, w.1.symm.trans k3⟩
    · exact h
theorem flM_fl {f : PK → PK} (hf : flM f) {p : PK} (h : fly (f p)) : fly p := by
  rcases (hf p).2.2 with q | q
  · have h : (f p).1 4 = 1 := h
    rw [q] at h
    exact absurd h (by decide)
  · exact q.symm.trans h
theorem ackN_f (n : Int32) (X : CS) : ∃ f, flM f ∧ cP (ackN n X) = swp ((cP X).map f) := by
  by_cases q : anyH n (cP X) = true
  · refine ⟨zeroF n, flM_F n, ?_⟩
    show swp (if anyH n (cP X) = true then _ else _) = _
    rw [if_pos q]
  · refine ⟨fun p => p, flM_id, ?_⟩
    show swp (if anyH n (cP X) = true then _ else _) = _
    rw [if_neg q, List.map_id']
theorem way_fln {X Y : CS} {f : PK → PK} (hf : flM f) (h : cP Y = swp ((cP X).map f)) : (wayL Y).length = (wayL X).length := by
  have e : (wayL Y).map sNt = (wayL X).map sNt := by
    show ((cP Y).filter fWy).map sNt = _
    rw [h]
    exact way_fl hf
  rw [← List.length_map (f := sNt), e, List.length_map]
theorem ackN_g {S N b : Nat} {n : Int32} {X : CS} (hp : ∀ p ∈ cP X, pkG N b p) (hb : blG S N X) : (∀ p ∈ cP (ackN n X), pkG N b p) ∧ blG S N (ackN n X) ∧ flyN (cP (ackN n X)) ≤ flyN (cP X) ∧ (wayL (ackN n X)).length = (wayL X).length := by
  obtain ⟨f, f1, f2⟩ := ackN_f n X
  refine ⟨fun p hpp => ?_, ackF_bl n (cP X) (setS X 12 (cS X 12 + 1)) (fun p hpp => ?_) hb, ?_, way_fln f1 f2⟩
  · rw [f2] at hpp
    obtain ⟨q, hq, rfl⟩ := List.mem_map.mp (List.mem_filter.mp hpp).1
    exact (hp q hq).of ((f1 q).2.1 0 (by omega)) ((f1 q).2.1 1 (by omega)) (f1 q).1
  · obtain ⟨k, ⟨k1, k2, k3⟩, _⟩ := hp p hpp
    exact ⟨k, k1, k2, k3⟩
  · rw [f2]
    exact flyN_le (fun p hp => flM_fl f1 hp) (cP X)
theorem akA_g {S N b : Nat} (t : Int32) : ∀ (l : List (Int32 × Int32)) (X : CS) (AR : Nat), cS X 12 = nI AR → (∀ p ∈ cP X, pkG N b p) → blG S N X →
    (∀ k, ¬ k = 12 → cS (akA t l X) k = cS X k) ∧ (∃ AR', cS (akA t l X) 12 = nI AR' ∧ AR' + (kpA t l).length = AR + l.length) ∧ cR (akA t l X) = cR X ∧ (∀ p ∈ cP (akA t l X), pkG N b p) ∧ blG S N (akA t l X) ∧ flyN (cP (akA t l X)) ≤ flyN (cP X) ∧ (wayL (akA t l X)).length = (wayL X).length
  | [], X, AR, h, hp, hb => ⟨fun _ _ => rfl, ⟨AR, h, rfl⟩, rfl, hp, hb, Nat.le_refl _, rfl⟩
  | q :: l, X, AR, h, hp, hb => by
    by_cases c : q.2 = t
    · have e : akA t (q :: l) X = akA t l (ackN q.1 X) := by
        show akA t l (if q.2 = t then ackN q.1 X else X) = _
        rw [if_pos c]
      have hs := ackN_S q.1 X
      obtain ⟨g1, g2, g3, g4⟩ := ackN_g (n := q.1) hp hb
      obtain ⟨r1, ⟨AR', r2, r3⟩, r4, r6, r7, r8, r9⟩ := akA_g t l (ackN q.1 X) (AR + 1) (by rw [hs.1, upd_eq, h]; exact nI_add AR 1) g1 g2
      rw [e]
      have k1 : kpA t (q :: l) = kpA t l := List.filter_cons_of_neg (by simp [c])
      exact ⟨fun k hk => (r1 k hk).trans (by rw [hs.1, upd_ne _ _ hk]), ⟨AR', r2, by rw [k1, List.length_cons]; omega⟩, r4.trans hs.2, r6, r7, Nat.le_trans r8 g3, r9.trans g4⟩
    · have e : akA t (q :: l) X = akA t l X := by
        show akA t l (if q.2 = t then ackN q.1 X else X) = _
        rw [if_neg c]
      obtain ⟨r1, ⟨AR', r2, r3⟩, r4⟩ := akA_g t l X AR h hp hb
      rw [e]
      have k1 : kpA t (q :: l) = q :: kpA t l := List.filter_cons_of_pos (by simp [c])
      exact ⟨r1, ⟨AR', r2, by rw [k1, List.length_cons, List.length_cons]; omega⟩, r4⟩
theorem GX_arr2 {S N b : Nat} {t : Int32} {X : CS} (h : GX S N b X) : GX S N b (arr2 t X) := by
  obtain ⟨⟨⟨s7, s8, s4, sb⟩, ⟨cx, x1, x2⟩, ⟨cy, y1, y2⟩, sn⟩, ⟨Bt, LP, LA, AR, GU, Es, ⟨c9, c10, c11, c12, c14, c15⟩, cb, cl, cg, ce⟩, hp, hb, hr⟩ := h
  obtain ⟨r1, ⟨AR', r2, r3⟩, r4, r6, r7, r8, r9⟩ := akA_g t (cA X) X AR c12 hp hb
  refine ⟨⟨⟨(r1 7 (by omega)).trans s7, (r1 8 (by omega)).trans s8, (r1 4 (by omega)).trans s4, sb⟩, ⟨cx, x1, (r1 1 (by omega)).trans x2⟩, ⟨cy, y1, (r1 2 (by omega)).trans y2⟩, fun w => ?_⟩, ⟨Bt, LP, LA, AR', GU, Es, ⟨(r1 9 (by omega)).trans c9, (r1 10 (by omega)).trans c10, (r1 11 (by omega)).trans c11, r2, (r1 14 (by omega)).trans c14, (r1 15 (by omega)).trans c15⟩, cb, ?_, ?_, ce⟩, r6, r7, fun e he r hr2 => ?_⟩
  · obtain ⟨n0, p0, a0⟩ := sn fun z => w ((r1 0 (by omega)).trans z)
    refine ⟨n0, ?_, ?_⟩
    · show cP (akA t (cA X) X) = []
      rw [a0]
      exact p0
    · show kpA t (cA X) = []
      rw [a0]
      rfl
  · show LP + LA + AR' + (wayL (akA t (cA X) X)).length + (kpA t (cA X)).length ≤ N
    omega
  · show GU + flyN (cP (akA t (cA X) X)) ≤ N
    omega
  · have hr2 : r ∈ cR (akA t (cA X) X) e := hr2
    rw [r4] at hr2
    exact hr e he r hr2
/-! old packets are given up -/
theorem giv_cnt (t lim : Int32) : ∀ l : List PK, flyN (swp (l.map (zeroO t lim))) + oldN t lim l ≤ flyN l
  | [] => Nat.le_refl _
  | p :: l => by
    have ih := giv_cnt t lim l
    have go : ∀ P : PK, flyN (swp (P :: l.map (zeroO t lim))) = flyN (swp (l.map (zeroO t lim))) + (if fly P then 1 else 0) := fun P => by
      show ((List.filter fKp (P :: l.map (zeroO t lim))).filter fFl).length = (((l.map (zeroO t lim)).filter fKp).filter fFl).length + _
      by_cases w : fly P
      · rw [if_pos w, List.filter_cons_of_pos (p := fKp) (decide_eq_true (Or.inl w)), List.filter_cons_of_pos (p := fFl) (decide_eq_true w)]
        rfl
      · rw [if_neg w]
        by_cases k : kpP P
        · rw [List.filter_cons_of_pos (p := fKp) (decide_eq_true k), List.filter_cons_of_neg (p := fFl) (dec_ff w)]
          rfl
        · rw [List.filter_cons_of_neg (p := fKp) (dec_ff k)]
          rfl
    have e3 : flyN (p :: l) = flyN l + (if fly p then 1 else 0) := by
      show ((p :: l).filter fFl).length = (l.filter fFl).length + _
      by_cases w : fly p
      · rw [if_pos w, List.filter_cons_of_pos (p := fFl) (decide_eq_true w)]
        rfl
      · rw [if_neg w, List.filter_cons_of_neg (p := fFl) (dec_ff w)]
        rfl
    rw [List.map_cons, go, e3]
    by_cases q : old t lim p
    · have z4 : (zeroO t lim p).1 4 = 0 := by
        unfold zeroO
        rw [if_pos q]
        exact upd_eq p.1 4 0
      have nf : ¬ fly (zeroO t lim p) := fun w => absurd (z4.symm.trans w) (by decide)
      have e2 : oldN t lim (p :: l) = oldN t lim l + 1 := by
        unfold oldN
        rw [List.filter_cons_of_pos (p := fun p => decide (old t lim p)) (decide_eq_true q)]
        rfl
      rw [if_neg nf, if_pos q.1, e2]
      omega
    · have ez : zeroO t lim p = p := if_neg q
      have e2 : oldN t lim (p :: l) = oldN t lim l := by
        unfold oldN
        rw [List.filter_cons_of_neg (p := fun p => decide (old t lim p)) (dec_ff q)]
      rw [ez, e2]
      omega
theorem GX_giv {S N b : Nat} {t lim : Int32} {X : CS} (h : GX S N b X) (hc : cnn X) : GX S N b (giv t lim X) := by
  obtain ⟨⟨⟨s7, s8, s4, sb⟩, ⟨cx, x1, x2⟩, ⟨cy, y1, y2⟩, sn⟩, ⟨Bt, LP, LA, AR, GU, Es, ⟨c9, c10, c11, c12, c14, c15⟩, cb, cl, cg, ce⟩, hp, hb, hr⟩ := h
  have eS : ∀ k : Nat, ¬ k = 14 → cS (giv t lim X) k = cS X k := fun k hk => upd_ne (cS X) (i := 14) (k := k) (cS X 14 + nI (oldN t lim (cP X))) hk
  have ew : (wayL (giv t lim X)).length = (wayL X).length := way_fln (flM_O t lim) rfl
  have eg := giv_cnt t lim (cP X)
  refine ⟨⟨⟨(eS 7 (by omega)).trans s7, (eS 8 (by omega)).trans s8, (eS 4 (by omega)).trans s4, sb⟩, ⟨cx, x1, (eS 1 (by omega)).trans x2⟩, ⟨cy, y1, (eS 2 (by omega)).trans y2⟩, fun w => (w ((eS 0 (by omega)).trans hc)).elim⟩, ⟨Bt, LP, LA, AR, GU + oldN t lim (cP X), Es, ⟨(eS 9 (by omega)).trans c9, (eS 10 (by omega)).trans c10, (eS 11 (by omega)).trans c11, (eS 12 (by omega)).trans c12, ?_, (eS 15 (by omega)).trans c15⟩, cb, ?_, ?_, ce⟩, fun p hpp => ?_, hb, hr⟩
  · show upd (cS X) 14 (cS X 14 + nI (oldN t lim (cP X))) 14 = _
    rw [upd_eq, c14, nI_add]
  · show LP + LA + AR + (wayL (giv t lim X)).length + (cA X).length ≤ N
    omega
  · show GU + oldN t lim (cP X) + flyN (swp ((cP X).map (zeroO t lim))) ≤ N
    omega
  · obtain ⟨q, hq, rfl⟩ := List.mem_map.mp (List.mem_filter.mp hpp).1
    obtain ⟨f1, f2, _⟩ := flM_O t lim q
    exact (hp q hq).of (f2 0 (by omega)) (f2 1 (by omega)) f1
