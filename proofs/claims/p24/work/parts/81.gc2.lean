/-! .. priorities rise, a packet is sent; the world. -/
theorem dst_all : ∀ a, a < 32 → ∀ c, c < 32 → aI (nI a - nI c) = nI (if a < c then c - a else a - c) := by decide +kernel
theorem dst_ok {n cx cy : Nat} (h1 : cx ≤ 31) (h2 : cy ≤ 31) : ∃ D, D ≤ 31 ∧ dstN n (nI cx) (nI cy) = nI D := by
  have a0 := prt01 n 0 (by omega)
  have b0 := prt01 n 1 (by omega)
  have a := dst_all (prt n 0) a0 cx (by omega)
  have b := dst_all (prt n 1) b0 cy (by omega)
  have a1 : (if prt n 0 < cx then cx - prt n 0 else prt n 0 - cx) ≤ 31 := by split <;> omega
  have b1 : (if prt n 1 < cy then cy - prt n 1 else prt n 1 - cy) ≤ 31 := by split <;> omega
  unfold dstN
  rw [a, b]
  clear a b
  generalize (if prt n 0 < cx then cx - prt n 0 else prt n 0 - cx) = u at *
  generalize (if prt n 1 < cy then cy - prt n 1 else prt n 1 - cy) = v at *
  split
  · exact ⟨_, b1, rfl⟩
  · exact ⟨_, a1, rfl⟩
theorem bts_all : ∀ m, m < 16 → 0 < m → 1 ≤ bts m ∧ bts m ≤ 4 := by decide +kernel
theorem wgt_all : ∀ k, k < 4 → ∀ D, D < 32 → nI (2 ^ k) * (32 - nI D) = nI (2 ^ k * (32 - D)) ∧ 2 ^ k * (32 - D) ≤ 256 := by decide +kernel
theorem rsd_ok {Y : CS} {E : Nat → Nat → Int32} {e q : Nat} (h0 : cB Y e 0 = nI q) (h1 : ∃ cx, cx ≤ 31 ∧ cS Y 1 = nI cx) (h2 : ∃ cy, cy ≤ 31 ∧ cS Y 2 = nI cy) : ∃ q', rsd Y E e = nI q' ∧ q' ≤ q + 256 := by
  obtain ⟨cx, x1, x2⟩ := h1
  obtain ⟨cy, y1, y2⟩ := h2
  unfold rsd
  split
  · split
    · obtain ⟨D, d1, d2⟩ := dst_ok (n := sN (E e 0)) x1 y1
      have hd : dstC Y (E e 0) = nI D := by
        unfold dstC
        rw [x2, y2]
        exact d2
      obtain ⟨w1, w2⟩ := wgt_all _ (prt2_lt (sN (E e 0))) D (by omega)
      rw [h0, hd, w1, nI_add]
      exact ⟨_, rfl, by omega⟩
    · exact ⟨0, z_nI, Nat.zero_le _⟩
  · split
    · rw [h0]
      exact ⟨q + 100, nI_add q 100, by omega⟩
    · exact ⟨0, z_nI, Nat.zero_le _⟩
theorem inA_S {X Y : CS} (h : cS Y = cS X) (s : Int32) : inA Y s ↔ inA X s := by
  show (¬ s = -1 ∧ dstN (sN s) (cS Y 1) (cS Y 2) ≤ cS Y 3) ↔ (¬ s = -1 ∧ dstN (sN s) (cS X 1) (cS X 2) ≤ cS X 3)
  rw [h]
theorem raiN_q {S : Nat} {X : CS} (E : Nat → Nat → Int32) (h : ∀ e, e < 16 → ∃ q, cB X e 0 = nI q ∧ q ≤ 256 * S) (h1 : ∃ cx, cx ≤ 31 ∧ cS X 1 = nI cx) (h2 : ∃ cy, cy ≤ 31 ∧ cS X 2 = nI cy) : ∀ n, n ≤ 16 → ∀ e, e < 16 → ∃ q, cB (raiN X E n) e 0 = nI q ∧ q ≤ 256 * S + (if e < n then 256 else 0)
  | 0, _, e, he => by
    obtain ⟨q, q1, q2⟩ := h e he
    exact ⟨q, q1, by omega⟩
  | n + 1, hn, e, he => by
    have ih := raiN_q E h h1 h2 n (by omega)
    show ∃ q, up2 (cB (raiN X E n)) n 0 (rsd (raiN X E n) E n) e 0 = nI q ∧ q ≤ 256 * S + (if e < n + 1 then 256 else 0)
    by_cases c : e = n
    · rw [c, u2_eq, if_pos (Nat.lt_succ_self n)]
      obtain ⟨q, q1, q2⟩ := ih n (by omega)
      rw [if_neg (Nat.lt_irrefl n)] at q2
      obtain ⟨q', r1, r2⟩ := rsd_ok (E := E) q1 (by rw [raiN_S]; exact h1) (by rw [raiN_S]; exact h2)
      exact ⟨q', r1, by omega⟩
    · rw [u2_ne _ _ c]
      obtain ⟨q, q1, q2⟩ := ih e he
      refine ⟨q, q1, Nat.le_trans q2 ?_⟩
      split <;> split <;> omega
theorem GX_rai {S N b : Nat} {X : CS} (h : GX S N b X) (hc : cnn X) (E : Nat → Nat → Int32) : GX (S + 1) N b (raiN X E 16) := by
  obtain ⟨⟨s1, s2, s3, sn⟩, hcn, hp, hb, hr⟩ := h
  have eS := raiN_S X E 16
  have eP := raiN_P X E 16
  have eA := raiN_A X E 16
  have ew : wayL (raiN X E 16) = wayL X := by
    unfold wayL
    rw [eP]
  refine ⟨⟨by rw [eS]; exact s1, by rw [eS]; exact s2, by rw [eS]; exact s3, fun w => (w (by show cS _ 0 = 1; rw [eS]; exact hc)).elim⟩, by unfold cnG at hcn ⊢; rw [eS, eP, eA, ew]; exact hcn, by rw [eP]; exact hp, fun e he => ?_, by unfold rcG; rw [raiN_R]; exact hr⟩
  obtain ⟨q, q1, q2⟩ := raiN_q E (fun e he => (hb e he).1) s2 s3 16 (Nat.le_refl _) e he
  refine ⟨⟨q, q1, ?_⟩, ?_⟩
  · rw [if_pos he] at q2
    omega
  · rw [raiN_B X E e 1 (by omega), raiN_B X E e 2 (by omega)]
    exact (hb e he).2
/-- only where something is wanted a priority is above 0 -/
def prG (X : CS) (E : Nat → Nat → Int32) : Prop := ∀ e, e < 16 → 0 < cB X e 0 → (inA X (E e 0) → ¬ cB X e 2 = E e 0) ∧ (¬ inA X (E e 0) → ¬ cB X e 2 = -1)
theorem prG_rai (X : CS) (E : Nat → Nat → Int32) : prG (raiN X E 16) E := by
  have go : ∀ n e, e < n → 0 < cB (raiN X E n) e 0 → (inA X (E e 0) → ¬ cB X e 2 = E e 0) ∧ (¬ inA X (E e 0) → ¬ cB X e 2 = -1) := fun n => by
    induction n with
    | zero => exact fun e he => absurd he (Nat.not_lt_zero _)
    | succ n ih =>
      intro e he hq
      have hq : 0 < up2 (cB (raiN X E n)) n 0 (rsd (raiN X E n) E n) e 0 := hq
      by_cases c : e = n
      · rw [c, u2_eq] at hq
        rw [c]
        unfold rsd at hq
        rw [raiN_B X E n 2 (by omega)] at hq
        have ea := inA_S (raiN_S X E n) (E n 0)
        by_cases a : inA X (E n 0)
        · rw [if_pos (ea.mpr a)] at hq
          refine ⟨fun _ w => ?_, fun w => (w a).elim⟩
          rw [if_neg (fun z => z w)] at hq
          exact absurd hq (by decide)
        · rw [if_neg (fun z => a (ea.mp z))] at hq
          refine ⟨fun w => (a w).elim, fun _ w => ?_⟩
          rw [if_neg (fun z => z w)] at hq
          exact absurd hq (by decide)
      · rw [u2_ne _ _ c] at hq
        exact ih e (by omega) hq
  intro e he hq
  have := go 16 e he hq
  rw [raiN_B X E e 2 (by omega)]
  have ea := inA_S (raiN_S X E 16) (E e 0)
  exact ⟨fun w => this.1 (ea.mp w), fun w => this.2 fun z => w (ea.mpr z)⟩
/-- two states that differ, differ in a part -/
theorem mk_pos {a b : Nat} (h : ¬ a = b) : 0 < mkN a b := by
  rcases Nat.eq_zero_or_pos (mkN a b) with q | q
  · exfalso
    have q : mkR a b 4 = 0 := q
    have s : ∀ k, mkR a b (k + 1) = 0 → mkR a b k = 0 ∧ prt a k = prt b k := fun k hk => by
      have hk : mkR a b k ||| (if prt a k = prt b k then 0 else 2 ^ k) = 0 := hk
      have l1 : mkR a b k ≤ mkR a b k ||| (if prt a k = prt b k then 0 else 2 ^ k) := Nat.left_le_or
      have l2 : (if prt a k = prt b k then 0 else 2 ^ k) ≤ mkR a b k ||| (if prt a k = prt b k then 0 else 2 ^ k) := Nat.right_le_or
      rw [hk] at l1 l2
      refine ⟨by omega, ?_⟩
      by_cases w : prt a k = prt b k
      · exact w
      · rw [if_neg w] at l2
        have := Nat.two_pow_pos k
        omega
    obtain ⟨q3, p3⟩ := s 3 q
    obtain ⟨q2, p2⟩ := s 2 q3
    obtain ⟨q1, p1⟩ := s 1 q2
    obtain ⟨q0, p0⟩ := s 0 q1
    simp only [prt] at p0 p1 p2 p3
    omega
  · exact q
theorem need_en {Y : CS} {E : Nat → Nat → Int32} {e N : Nat} (he : e < 16) (hs : sOK (E e 0)) (hs2 : sOK (cB Y e 2)) (hb : ∃ n, n ≤ N ∧ cB Y e 1 = nI n ∧ (¬ cB Y e 2 = -1 → 1 ≤ n)) (h : (inA Y (E e 0) → ¬ cB Y e 2 = E e 0) ∧ (¬ inA Y (E e 0) → ¬ cB Y e 2 = -1)) :
    enG (N + 1) (mkE Y E e) ∧ dueN (mkE Y E e) = prc Y E e ∧ 2 ≤ prc Y E e ∧ prc Y E e ≤ 6 ∧ eN (mkE Y E e) = e := by
  have e0 : mkE Y E e 0 = if inA Y (E e 0) then (if cB Y e 2 = -1 then 1 else 2) else 0 := rfl
  have e2 : mkE Y E e 2 = if inA Y (E e 0) ∧ ¬ cB Y e 2 = -1 then cB Y e 1 else 0 := rfl
  have e3 : mkE Y E e 3 = if inA Y (E e 0) then (if cB Y e 2 = -1 then 15 else nI (mkN (sN (cB Y e 2)) (sN (E e 0)))) else 0 := rfl
  have en : eN (mkE Y E e) = e := eN_of rfl he
  obtain ⟨n, n1, n2, n3⟩ := hb
  by_cases q : inA Y (E e 0)
  · by_cases q2 : cB Y e 2 = -1
    · have f0 : mkE Y E e 0 = 1 := by rw [e0, if_pos q, if_pos q2]
      have f2 : mkE Y E e 2 = 0 := by rw [e2, if_neg fun w => w.2 q2]
      have f3 : mkE Y E e 3 = 15 := by rw [e3, if_pos q, if_pos q2]
      have fp : prc Y E e = 6 := by
        unfold prc
        rw [if_pos q, if_pos q2]
      have fd : dueN (mkE Y E e) = 6 := by
        unfold dueN
        rw [f0, if_neg (by decide), if_pos rfl]
      exact ⟨Or.inr (Or.inl ⟨f0, f3, f2⟩), by rw [fd, fp], by omega, by omega, en⟩
    · obtain ⟨a, a1, a2, a3⟩ := sOK_ne hs q.1
      obtain ⟨c, c1, c2, c3⟩ := sOK_ne hs2 q2
      have hd : ¬ c = a := fun w => h.1 q (by rw [a2, c2, w])
      have hm := mk_pos hd
      have hl := mkN_lt c a
      have f0 : mkE Y E e 0 = 2 := by rw [e0, if_pos q, if_neg q2]
      have f2 : mkE Y E e 2 = cB Y e 1 := by rw [e2, if_pos ⟨q, q2⟩]
      have f3 : mkE Y E e 3 = nI (mkN c a) := by rw [e3, if_pos q, if_neg q2, a3, c3]
      have fp : prc Y E e = 2 + bts (mkN c a) := by
        unfold prc
        rw [if_pos q, if_neg q2, if_neg (h.1 q), a3, c3]
      have fd : dueN (mkE Y E e) = 2 + bts (mkN c a) := by
        unfold dueN
        rw [f0, if_neg (by decide), if_neg (by decide), f3, sN_nI (n := mkN c a) (by omega)]
      have hbt := bts_all _ hl hm
      exact ⟨Or.inr (Or.inr ⟨f0, ⟨_, hm, hl, f3⟩, n, n3 q2, by omega, f2.trans n2⟩), by rw [fd, fp], by omega, by omega, en⟩
  · have q2 := h.2 q
    have f0 : mkE Y E e 0 = 0 := by rw [e0, if_neg q]
    have f2 : mkE Y E e 2 = 0 := by rw [e2, if_neg fun w => q w.1]
    have f3 : mkE Y E e 3 = 0 := by rw [e3, if_neg q]
    have fp : prc Y E e = 2 := by
      unfold prc
      rw [if_neg q, if_neg q2]
    have fd : dueN (mkE Y E e) = 2 := by
      unfold dueN
      rw [f0, if_pos rfl]
    exact ⟨Or.inl ⟨f0, f3, f2⟩, by rw [fd, fp], by omega, by omega, en⟩
theorem sumD_app (l : List EN) (en : EN) : sumD (l ++ [en]) = sumD l + dueN en := by
  unfold sumD
  rw [List.map_append, List.sum_append]
  simp
/-- the sending, entity by entity -/
theorem put_G {N b : Nat} {X : CS} {E : Nat → Nat → Int32} (hb4 : cS X 4 = nI b) (hb : b ≤ 64) (hE : ∀ e, e < 16 → sOK (E e 0)) (hs : ∀ e, e < 16 → sOK (cB X e 2)) (hl : ∀ e, e < 16 → ∃ n, n ≤ N ∧ cB X e 1 = nI n ∧ (¬ cB X e 2 = -1 → 1 ≤ n)) (hp : ∀ e, e < 16 → 0 < cB X e 0 → (inA X (E e 0) → ¬ cB X e 2 = E e 0) ∧ (¬ inA X (E e 0) → ¬ cB X e 2 = -1)) :
    ∀ (l : List Nat) (Q : Int32 × List EN × CS), l.Nodup → (∀ e ∈ l, e < 16 ∧ 0 < cB X e 0) → cS Q.2.2 = cS X → (∀ e k, ¬ k = 0 → cB Q.2.2 e k = cB X e k) → (∀ e, cB Q.2.2 e 0 = cB X e 0 ∨ cB Q.2.2 e 0 = 0) → Q.1 = nI (4 + sumD Q.2.1) → sumD Q.2.1 ≤ 64 → (¬ Q.2.1 = [] → 4 + sumD Q.2.1 ≤ b ∧ 2 ≤ sumD Q.2.1) → (Q.2.1.map eN).Nodup → (∀ en ∈ Q.2.1, enG (N + 1) en ∧ ¬ eN en ∈ l) →
    (cS (l.foldl (putQ E) Q).2.2 = cS X ∧ (∀ e k, ¬ k = 0 → cB (l.foldl (putQ E) Q).2.2 e k = cB X e k) ∧ (∀ e, cB (l.foldl (putQ E) Q).2.2 e 0 = cB X e 0 ∨ cB (l.foldl (putQ E) Q).2.2 e 0 = 0) ∧ (l.foldl (putQ E) Q).1 = nI (4 + sumD (l.foldl (putQ E) Q).2.1) ∧ (¬ (l.foldl (putQ E) Q).2.1 = [] → 4 + sumD (l.foldl (putQ E) Q).2.1 ≤ b ∧ 2 ≤ sumD (l.foldl (putQ E) Q).2.1) ∧ ((l.foldl (putQ E) Q).2.1.map eN).Nodup ∧ ∀ en ∈ (l.foldl (putQ E) Q).2.1, enG (N + 1) en)
  | [], Q, _, _, g1, g2, g3, g4, _, g6, g7, g8 => ⟨g1, g2, g3, g4, g6, g7, fun en h => (g8 en h).1⟩
  | e :: l, Q, hd, hm, g1, g2, g3, g4, g5, g6, g7, g8 => by
    obtain ⟨hd1, hd2⟩ := List.nodup_cons.mp hd
    obtain ⟨he, hpr⟩ := hm e List.mem_cons_self
    have hm2 : ∀ x ∈ l, x < 16 ∧ 0 < cB X x 0 := fun x hx => hm x (List.mem_cons_of_mem _ hx)
    have b1 : cB Q.2.2 e 1 = cB X e 1 := g2 e 1 (by omega)
    have b2 : cB Q.2.2 e 2 = cB X e 2 := g2 e 2 (by omega)
    have ea := inA_S g1 (E e 0)
    obtain ⟨n1, n2, n3, n4, n5⟩ := need_en (Y := Q.2.2) (E := E) (N := N) he (hE e he) (by rw [b2]; exact hs e he) (by rw [b1, b2]; exact hl e he) (by
      rw [b2]
      exact ⟨fun w => (hp e he hpr).1 (ea.mp w), fun w => (hp e he hpr).2 fun z => w (ea.mpr z)⟩)
    show _ ∧ _
    rw [List.foldl_cons]
    by_cases c : Q.1 + nI (prc Q.2.2 E e) ≤ cS Q.2.2 4
    · have e1 : putQ E Q e = (Q.1 + nI (prc Q.2.2 E e), Q.2.1 ++ [mkE Q.2.2 E e], setB Q.2.2 e 0 0) := if_pos c
      rw [e1]
      have s1 : sumD (Q.2.1 ++ [mkE Q.2.2 E e]) = sumD Q.2.1 + prc Q.2.2 E e := by rw [sumD_app, n2]
      have c2 : 4 + sumD Q.2.1 + prc Q.2.2 E e ≤ b := by
        have : nI (4 + sumD Q.2.1 + prc Q.2.2 E e) ≤ nI b := by
          rw [g1, hb4, g4, nI_add] at c
          exact c
        exact (nI_le_iff (by omega) (by omega)).mp this
      refine put_G hb4 hb hE hs hl hp l _ hd2 hm2 g1 (fun x k hk => ?_) (fun x => ?_) ?_ ?_ (fun _ => ?_) ?_ (fun en hen => ?_)
      · show up2 (cB Q.2.2) e 0 0 x k = _
        unfold up2
        rw [if_neg fun w => hk w.2]
        exact g2 x k hk
      · show up2 (cB Q.2.2) e 0 0 x 0 = _ ∨ up2 (cB Q.2.2) e 0 0 x 0 = _
        by_cases w : x = e
        · rw [w, u2_eq]
          exact Or.inr rfl
        · rw [u2_ne _ _ w]
          exact g3 x
      · show Q.1 + nI (prc Q.2.2 E e) = nI (4 + sumD (Q.2.1 ++ [mkE Q.2.2 E e]))
        rw [s1, g4, nI_add, Nat.add_assoc]
      · show sumD (Q.2.1 ++ [mkE Q.2.2 E e]) ≤ 64
        omega
      · show 4 + sumD (Q.2.1 ++ [mkE Q.2.2 E e]) ≤ b ∧ 2 ≤ sumD (Q.2.1 ++ [mkE Q.2.2 E e])
        omega
      · show ((Q.2.1 ++ [mkE Q.2.2 E e]).map eN).Nodup
        rw [List.map_append]
        refine List.nodup_append.mpr ⟨g7, List.nodup_cons.mpr ⟨List.not_mem_nil, List.nodup_nil⟩, fun x hx y hy => ?_⟩
        obtain ⟨en, h1, rfl⟩ := List.mem_map.mp hx
        rw [List.mem_singleton.mp hy, n5]
        exact fun w => (g8 en h1).2 (by rw [w]; exact List.mem_cons_self)
      · have hen : en ∈ Q.2.1 ++ [mkE Q.2.2 E e] := hen
        rcases List.mem_append.mp hen with hen | hen
        · exact ⟨(g8 en hen).1, fun w => (g8 en hen).2 (List.mem_cons_of_mem _ w)⟩
        · rw [List.mem_singleton.mp hen, n5]
          exact ⟨n1, hd1⟩
    · have e1 : putQ E Q e = Q := if_neg c
      rw [e1]
      exact put_G hb4 hb hE hs hl hp l Q hd2 hm2 g1 g2 g3 g4 g5 g6 g7 fun en hen => ⟨(g8 en hen).1, fun w => (g8 en hen).2 (List.mem_cons_of_mem _ w)⟩
