/-! .. acknowledgements arrive. -/
theorem akA_no (t : Int32) : ∀ (l : List (Int32 × Int32)) (X : CS), (∀ a ∈ l, ¬ a.2 = t) → akA t l X = X
  | [], _, _ => rfl
  | a :: l, X, h => by
    show akA t l (if a.2 = t then ackN a.1 X else X) = X
    rw [if_neg (h a List.mem_cons_self)]
    exact akA_no t l X fun q hq => h q (List.mem_cons_of_mem _ hq)
theorem akA_Q {Q : CS → Prop} {t n : Int32} (hQ : ∀ Y, Q Y → Q (ackN n Y)) : ∀ (l : List (Int32 × Int32)) (Y : CS), (∀ a ∈ l, a.2 = t → a.1 = n) → Q Y → Q (akA t l Y)
  | [], _, _, h => h
  | a :: l, Y, g, h => by
    show Q (akA t l (if a.2 = t then ackN a.1 Y else Y))
    have g' : ∀ a ∈ l, a.2 = t → a.1 = n := fun x hx => g x (List.mem_cons_of_mem _ hx)
    by_cases c : a.2 = t
    · rw [if_pos c, g a List.mem_cons_self c]
      exact akA_Q hQ l _ g' (hQ Y h)
    · rw [if_neg c]
      exact akA_Q hQ l _ g' h
theorem akA_P {Q : CS → Prop} {t n : Int32} (hQ : ∀ Y, Q Y → Q (ackN n Y)) : ∀ (l : List (Int32 × Int32)) (Y : CS), (∀ a ∈ l, a.2 = t → a.1 = n) → (∃ a ∈ l, a.2 = t) → Q (ackN n Y) → Q (akA t l Y)
  | [], _, _, ⟨a, h, _⟩, _ => absurd h List.not_mem_nil
  | a :: l, Y, g, ⟨b, hb, hbt⟩, h => by
    show Q (akA t l (if a.2 = t then ackN a.1 Y else Y))
    have g' : ∀ a ∈ l, a.2 = t → a.1 = n := fun x hx => g x (List.mem_cons_of_mem _ hx)
    by_cases c : a.2 = t
    · rw [if_pos c, g a List.mem_cons_self c]
      exact akA_Q hQ l _ g' h
    · rw [if_neg c]
      refine akA_P hQ l _ g' ⟨b, ?_, hbt⟩ h
      rcases List.mem_cons.mp hb with rfl | hb
      · exact (c hbt).elim
      · exact hb
theorem setL_nd (n : Int32) : ∀ (l : List EN) (X : CS), (l.map eN).Nodup → (∀ en ∈ l, cB X (eN en) 1 < n) → (∀ e, (∀ en ∈ l, ¬ eN en = e) → cB (setL' n l X) e = cB X e) ∧ ∀ en ∈ l, cB (setL' n l X) (eN en) 1 = n ∧ cB (setL' n l X) (eN en) 2 = en 4
  | [], X, _, _ => ⟨fun _ _ => rfl, fun en h => absurd h List.not_mem_nil⟩
  | en :: l, X, hd, hl => by
    rw [List.map_cons] at hd
    obtain ⟨d1, d2⟩ := List.nodup_cons.mp hd
    have dn : ∀ x ∈ l, ¬ eN x = eN en := fun x hx w => d1 (by rw [← w]; exact List.mem_map_of_mem hx)
    have e1 : setl n X en = setB (setB X (eN en) 1 n) (eN en) 2 (en 4) := if_pos (hl en List.mem_cons_self)
    have cne : ∀ e, ¬ e = eN en → cB (setl n X en) e = cB X e := fun e he => by
      rw [e1]
      show up2 (up2 (cB X) (eN en) 1 n) (eN en) 2 (en 4) e = _
      rw [u2_ne _ _ he, u2_ne _ _ he]
    obtain ⟨r2, r3⟩ := setL_nd n l (setl n X en) d2 fun x hx => by
      rw [cne _ (dn x hx)]
      exact hl x (List.mem_cons_of_mem _ hx)
    refine ⟨fun e he => (r2 e fun x hx => he x (List.mem_cons_of_mem _ hx)).trans (cne e fun w => he en List.mem_cons_self w.symm), fun x hx => ?_⟩
    rcases List.mem_cons.mp hx with rfl | hx
    · have e2 : cB (setL' n (x :: l) X) (eN x) = cB (setl n X x) (eN x) := r2 _ fun y hy => dn y hy
      rw [e2, e1]
      show up2 (up2 (cB X) (eN x) 1 n) (eN x) 2 (x 4) (eN x) 1 = n ∧ up2 (up2 (cB X) (eN x) 1 n) (eN x) 2 (x 4) (eN x) 2 = x 4
      rw [u2_eq, u2_nj _ _ (by omega), u2_eq]
      exact ⟨rfl, rfl⟩
    · exact r3 x hx
theorem swp_zF {n : Int32} {s0 : Nat} : ∀ l : List PK, (∀ q ∈ l, (sNt q = s0 → q.1 0 ≤ n ∧ q.1 3 = 0) ∧ (¬ sNt q = s0 → ¬ q.1 0 ≤ n ∧ fly q)) → swp (l.map (zeroF n)) = l.filter (fun q => decide (¬ sNt q = s0))
  | [], _ => rfl
  | q :: l, h => by
    have ih := swp_zF l fun x hx => h x (List.mem_cons_of_mem _ hx)
    obtain ⟨h1, h2⟩ := h q List.mem_cons_self
    rw [List.map_cons]
    show List.filter fKp (zeroF n q :: l.map (zeroF n)) = _
    have ih : List.filter fKp (l.map (zeroF n)) = _ := ih
    by_cases c : sNt q = s0
    · obtain ⟨a, b⟩ := h1 c
      have e : zeroF n q = (upd q.1 4 0, q.2) := if_pos a
      have nk : ¬ kpP (zeroF n q) := by
        rw [e]
        rintro (w | w)
        · have w : upd q.1 4 0 4 = 1 := w
          rw [upd_eq] at w
          exact absurd w (by decide)
        · have w : 0 < upd q.1 4 0 3 := w
          rw [upd_ne _ _ (by omega), b] at w
          exact absurd w (by decide)
      rw [List.filter_cons_of_neg (p := fKp) (dec_ff nk), ih, List.filter_cons_of_neg (p := fun q => decide (¬ sNt q = s0)) (dec_ff fun w => w c)]
    · obtain ⟨a, b⟩ := h2 c
      have e : zeroF n q = q := if_neg a
      rw [e, List.filter_cons_of_pos (p := fKp) (decide_eq_true (Or.inl b)), ih, List.filter_cons_of_pos (p := fun q => decide (¬ sNt q = s0)) (decide_eq_true c)]
/-- behind the acknowledgement of p0 -/
def akQ (X1 : CS) (p0 : PK) (Y : CS) : Prop := (∀ k, ¬ k = 12 → cS Y k = cS X1 k) ∧ cR Y = cR X1 ∧ cP Y = (cP X1).filter (fun q => decide (¬ sNt q = sNt p0)) ∧ (∀ e, (∀ en ∈ p0.2, ¬ eN en = e) → cB Y e = cB X1 e) ∧ ∀ en ∈ p0.2, cB Y (eN en) 1 = p0.1 0 ∧ cB Y (eN en) 2 = en 4
theorem WH_arr2 {T d N b S : Nat} {X : CS} (hO : cO2 T T X) (hG : GX S N b X) (hd : 1 ≤ d ∧ d ≤ 10) (hT : T + 100 < 2 ^ 31) (h : WHm (T + 1) T d X) : WHm (T + 1) (T + 1) d (arr2 (nI (T + 1)) X) := by
  obtain ⟨a1, hI, a3, ⟨N', n1, n2, n3⟩, hNS, hs, _⟩ := hO
  obtain ⟨w1, w2, w3, r0, r1, r2, r3, wj⟩ := h
  have hsT : ∀ p ∈ cP X, sNt p ≤ T := fun p hp => (pO2_s (n3 p hp) (by omega)).2
  have hen : ∀ p ∈ cP X, ∀ en ∈ p.2, enOK en := fun p hp en he => ((n3 p hp).2.2.2.1 en he).1
  have hack : ∀ a ∈ cA X, ∀ p ∈ cP X, a = (p.1 0, nI (sNt p + 2 * d)) → (a.2 = nI (T + 1) ↔ sNt p + 2 * d = T + 1) := fun a _ p hp e => by
    have := hsT p hp
    rw [e]
    show nI (sNt p + 2 * d) = nI (T + 1) ↔ _
    rw [nI_eq_iff (by omega) (by omega)]
  by_cases hx : ∃ p ∈ cP X, sNt p + 2 * d = T + 1
  · obtain ⟨p0, hp0, hs0⟩ := hx
    obtain ⟨n, ⟨m1, m2, m3⟩, m4, m5, m6, m7, m8⟩ := hG.2.2.1 p0 hp0
    have hgt : ∀ q ∈ cP X, ¬ sNt q = sNt p0 → p0.1 0 < q.1 0 := fun q hq w => by
      have := (w2 q hq).2.1
      exact pw_num hNS hs hp0 hq (by omega)
    have hQQ : ∀ Y, akQ X p0 Y → akQ X p0 (ackN (p0.1 0) Y) := fun Y ⟨q1, q2, q3, q4, q5⟩ => by
      have hn : ∀ p ∈ cP Y, ¬ hit (p0.1 0) p := fun p hp w => by
        rw [q3] at hp
        obtain ⟨z1, z2⟩ := List.mem_filter.mp hp
        have := hgt p z1 (of_decide_eq_true z2)
        rw [w.1] at this
        exact i_irr _ this
      have ha : ¬ anyH (p0.1 0) (cP Y) = true := fun w => by
        obtain ⟨p, hp, hq⟩ := List.any_eq_true.mp w
        exact hn p hp (of_decide_eq_true hq)
      have es : swp (cP Y) = cP Y := List.filter_eq_self.mpr fun p hp => by
        rw [q3] at hp
        exact decide_eq_true (Or.inl (w2 p (List.mem_filter.mp hp).1).1)
      have e : ackN (p0.1 0) Y = setP (setS Y 12 (cS Y 12 + 1)) (cP Y) := by
        unfold ackN
        rw [if_neg ha, ackF_no _ (cP Y) _ hn, es]
      rw [e]
      exact ⟨fun k hk => (upd_ne (cS Y) (i := 12) (k := k) (cS Y 12 + 1) hk).trans (q1 k hk), q2, q3, q4, q5⟩
    have hQ1 : akQ X p0 (ackN (p0.1 0) X) := by
      have hs2 := ackN_S (p0.1 0) X
      have hh : hit (p0.1 0) p0 := ⟨rfl, (w2 p0 hp0).1⟩
      have ha : anyH (p0.1 0) (cP X) = true := List.any_eq_true.mpr ⟨p0, hp0, decide_eq_true hh⟩
      have eB : cB (ackN (p0.1 0) X) = cB (setL' (p0.1 0) p0.2 X) := by
        unfold ackN
        rw [ackF_one (p0.1 0) (cP X) _ p0 hNS hp0 hh]
        exact setL_B (p0.1 0) p0.2 _ _ rfl
      have eP : cP (ackN (p0.1 0) X) = (cP X).filter (fun q => decide (¬ sNt q = sNt p0)) := by
        show swp (if anyH (p0.1 0) (cP X) = true then (cP X).map (zeroF (p0.1 0)) else cP X) = _
        rw [if_pos ha]
        refine swp_zF _ fun q hq => ⟨fun c => ?_, fun c => ⟨Int32.not_le.mpr (hgt q hq c), (w2 q hq).1⟩⟩
        rw [pw_inj hs hq hp0 c]
        refine ⟨Int32.le_refl _, ?_⟩
        rw [(w2 p0 hp0).2.2, if_neg (by omega)]
      obtain ⟨b1, b2⟩ := setL_nd (p0.1 0) p0.2 X m7 fun en he => r0 _ (eN_lt (hen p0 hp0 en he)) p0 hp0
      exact ⟨fun k hk => by rw [hs2.1, upd_ne _ _ hk], hs2.2, eP, fun e he => by rw [eB]; exact b1 e he, fun en he => by rw [eB]; exact b2 en he⟩
    have huq : ∀ a ∈ cA X, a.2 = nI (T + 1) → a.1 = p0.1 0 := fun a ha w => by
      obtain ⟨p, p1, p2, _⟩ := w3.1 a ha
      have := (hack a ha p p1 p2).mp w
      rw [p2, pw_inj hs p1 hp0 (by omega)]
    have hex : ∃ a ∈ cA X, a.2 = nI (T + 1) := ⟨_, w3.2 p0 hp0 (by omega), by rw [hs0]⟩
    obtain ⟨q1, q2, q3, q4, q5⟩ := akA_P hQQ (cA X) X huq hex hQ1
    have e : arr2 (nI (T + 1)) X = setA (akA (nI (T + 1)) (cA X) X) (kpA (nI (T + 1)) (cA X)) := rfl
    rw [e]
    clear e
    generalize akA (nI (T + 1)) (cA X) X = Y at *
    have hm : ∀ p, p ∈ cP Y → p ∈ cP X ∧ ¬ sNt p = sNt p0 := fun p hp => by
      rw [q3] at hp
      obtain ⟨z1, z2⟩ := List.mem_filter.mp hp
      exact ⟨z1, of_decide_eq_true z2⟩
    have hm2 : ∀ p ∈ cP X, ¬ sNt p = sNt p0 → p ∈ cP Y := fun p hp w => by
      rw [q3]
      exact List.mem_filter.mpr ⟨hp, decide_eq_true w⟩
    have hB1 : ∀ e, e < 16 → (cB Y e = cB X e ∧ ∀ en ∈ p0.2, ¬ eN en = e) ∨ (cB Y e 1 = p0.1 0 ∧ ∃ en ∈ p0.2, eN en = e ∧ cB Y e 2 = en 4) := fun e he => by
      by_cases c : ∃ en ∈ p0.2, eN en = e
      · obtain ⟨en, e1, rfl⟩ := c
        exact Or.inr ⟨(q5 en e1).1, en, e1, rfl, (q5 en e1).2⟩
      · have c' : ∀ en ∈ p0.2, ¬ eN en = e := fun en h1 h2 => c ⟨en, h1, h2⟩
        exact Or.inl ⟨q4 e c', c'⟩
    refine ⟨?_, fun p hp => ?_, ⟨fun a ha => ?_, fun p hp hq => ?_⟩, fun e he p hp => ?_, fun e he r hr hq => ?_, fun e he hne => ?_, fun p hp hle en hen2 => ?_, fun p hp hA en hen2 hk => ?_⟩
    · have : wh1 Y := by
        unfold wh1
        rw [q1 5 (by omega), q1 6 (by omega), q1 10 (by omega), q1 11 (by omega), q1 13 (by omega), q1 14 (by omega)]
        exact w1
      exact this
    · obtain ⟨z1, z2⟩ := hm p hp
      obtain ⟨v1, v2, v3⟩ := w2 p z1
      exact ⟨v1, by omega, v3⟩
    · obtain ⟨y1, y2⟩ := List.mem_filter.mp (show a ∈ kpA (nI (T + 1)) (cA X) from ha)
      have y2 : ¬ a.2 = nI (T + 1) := of_decide_eq_true y2
      obtain ⟨p, p1, p2, p3⟩ := w3.1 a y1
      refine ⟨p, hm2 p p1 fun w => y2 ((hack a y1 p p1 p2).mpr (by omega)), p2, p3⟩
    · obtain ⟨z1, z2⟩ := hm p hp
      have ha := w3.2 p z1 hq
      refine List.mem_filter.mpr ⟨ha, decide_eq_true fun w => z2 ?_⟩
      have := (hack _ ha p z1 rfl).mp w
      omega
    · obtain ⟨z1, z2⟩ := hm p hp
      show cB Y e 1 < p.1 0
      rcases hB1 e he with ⟨c, _⟩ | ⟨c, _⟩
      · rw [c]
        exact r0 e he p z1
      · rw [c]
        exact hgt p z1 z2
    · have hr : r ∈ cR Y e := hr
      have hq : cB Y e 1 < r.1 := hq
      rw [q2] at hr
      show ∃ p ∈ cP Y, _
      rcases hB1 e he with ⟨c, c2⟩ | ⟨c, _⟩
      · rw [c] at hq
        obtain ⟨p, p1, p2, p3, en, p4, p5⟩ := r1 e he r hr hq
        refine ⟨p, hm2 p p1 fun w => ?_, p2, p3, en, p4, p5⟩
        rw [pw_inj hs p1 hp0 w] at p4
        exact c2 en p4 p5
      · rw [c] at hq
        obtain ⟨p, p1, p2, p3, p4⟩ := r1 e he r hr (Int32.lt_trans (r0 e he p0 hp0) hq)
        refine ⟨p, hm2 p p1 fun w => ?_, p2, p3, p4⟩
        rw [← p3, pw_inj hs p1 hp0 w] at hq
        exact i_irr _ hq
    · have hne : ¬ cB Y e 2 = -1 := hne
      show ∃ st, ¬ st = -1 ∧ (cB Y e 1, st) ∈ cR Y e
      rw [q2]
      rcases hB1 e he with ⟨c, c2⟩ | ⟨c, en, c2, c3, c4⟩
      · rw [c] at hne ⊢
        exact r2 e he hne
      · rw [c]
        rw [c4] at hne
        obtain ⟨st, s1, s2⟩ := r3 p0 hp0 (by omega) en c2
        rw [c3] at s1
        exact ⟨st, s2 hne, s1⟩
    · obtain ⟨z1, z2⟩ := hm p hp
      show ∃ st, (p.1 0, st) ∈ cR Y (eN en) ∧ _
      rw [q2]
      exact r3 p z1 hle en hen2
    · obtain ⟨z1, z2⟩ := hm p hp
      obtain ⟨st, s1, s2, s3⟩ := wj p z1 hA en hen2 hk
      refine ⟨st, s1, ?_⟩
      show (en 2, st) ∈ cR Y (eN en) ∧ aft (cR Y (eN en)) (en 2) + bfr (T + 1) d (cP Y) (sNt p) ≤ 11
      rw [q2]
      refine ⟨s2, ?_⟩
      have : bfr (T + 1) d (cP Y) (sNt p) ≤ bfr (T + 1) d (cP X) (sNt p) := by
        rw [q3]
        exact (List.Sublist.filter (fBf (T + 1) d (sNt p)) List.filter_sublist).length_le
      omega
  · have hno : ∀ p ∈ cP X, ¬ sNt p + 2 * d = T + 1 := fun p hp w => hx ⟨p, hp, w⟩
    have hna : ∀ a ∈ cA X, ¬ a.2 = nI (T + 1) := fun a ha w => by
      obtain ⟨p, p1, p2, _⟩ := w3.1 a ha
      exact hno p p1 ((hack a ha p p1 p2).mp w)
    have e : arr2 (nI (T + 1)) X = X := by
      have e2 : kpA (nI (T + 1)) (cA X) = cA X := List.filter_eq_self.mpr fun a ha => decide_eq_true (hna a ha)
      show setA (akA (nI (T + 1)) (cA X) X) (kpA (nI (T + 1)) (cA X)) = setA X (cA X)
      rw [akA_no _ _ _ hna, e2]
    rw [e]
    refine ⟨w1, fun p hp => ?_, w3, r0, r1, r2, r3, wj⟩
    obtain ⟨v1, v2, v3⟩ := w2 p hp
    have := hno p hp
    exact ⟨v1, by omega, v3⟩
