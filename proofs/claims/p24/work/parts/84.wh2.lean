/-! .. packets arrive. -/
abbrev fBf (A d s : Nat) : PK → Bool := fun q => decide (A < sNt q + d ∧ sNt q < s)
theorem bfr_map {f : PK → PK} (hf : ∀ q, sNt (f q) = sNt q) (A d s : Nat) : ∀ l : List PK, bfr A d (l.map f) s = bfr A d l s
  | [] => rfl
  | p :: l => by
    have ih := bfr_map hf A d s l
    rw [List.map_cons]
    show ((f p :: l.map f).filter (fBf A d s)).length = ((p :: l).filter (fBf A d s)).length
    have ih : ((l.map f).filter (fBf A d s)).length = (l.filter (fBf A d s)).length := ih
    by_cases c : A < sNt p + d ∧ sNt p < s
    · rw [List.filter_cons_of_pos (p := fBf A d s) (decide_eq_true (by rw [hf]; exact c)), List.filter_cons_of_pos (p := fBf A d s) (decide_eq_true c), List.length_cons, List.length_cons, ih]
    · rw [List.filter_cons_of_neg (p := fBf A d s) (dec_ff (by rw [hf]; exact c)), List.filter_cons_of_neg (p := fBf A d s) (dec_ff c), ih]
theorem pO2_s {S t N : Nat} {p : PK} (h : pO2 S t N p) (hS : S < 2 ^ 31) : p.1 2 = nI (sNt p) ∧ sNt p ≤ S := by
  obtain ⟨_, _, _, _, _, s, s1, s2, _⟩ := h
  have : sNt p = s := by
    unfold sNt
    rw [s2, sNi (by omega)]
  rw [this]
  exact ⟨s2, s1⟩
theorem WH_arr1 {T d N b S : Nat} {X : CS} (hO : cO2 T T X) (hG : GX S N b X) (hN : N ≤ T) (hd : 1 ≤ d ∧ d ≤ 10) (hT : T + 100 < 2 ^ 31) (h : WHm T T d X) : WHm (T + 1) T d (arr1 (nI (T + 1)) (nI d) X) := by
  obtain ⟨a1, hI, a3, ⟨N', n1, n2, n3⟩, hNS, hs, _⟩ := hO
  obtain ⟨w1, w2, w3, r0, r1, r2, r3, wj⟩ := h
  have hsT : ∀ p ∈ cP X, sNt p ≤ T := fun p hp => (pO2_s (n3 p hp) (by omega)).2
  have hen : ∀ p ∈ cP X, ∀ en ∈ p.2, enOK en := fun p hp en he => ((n3 p hp).2.2.2.1 en he).1
  have t0 : ¬ (0 : Int32) = nI (T + 1) := fun w => by
    rw [z_nI, nI_eq_iff (by omega) (by omega)] at w
    omega
  have harr : ∀ p ∈ cP X, (p.1 3 = nI (T + 1) ↔ sNt p + d = T + 1) := fun p hp => by
    have e := (w2 p hp).2.2
    have := hsT p hp
    rw [e]
    by_cases q : T < sNt p + d
    · rw [if_pos q, nI_eq_iff (by omega) (by omega)]
    · rw [if_neg q]
      exact ⟨fun w => (t0 w).elim, fun w => (q (by omega)).elim⟩
  by_cases hx : ∃ p ∈ cP X, sNt p + d = T + 1
  · obtain ⟨p1, hp1, hs1⟩ := hx
    have ht1 : p1.1 3 = nI (T + 1) := (harr p1 hp1).mpr hs1
    have huq : ∀ q ∈ cP X, q.1 3 = nI (T + 1) → sNt q = sNt p1 := fun q hq w => by
      have := (harr q hq).mp w
      omega
    have eP := arrP_one (nI (T + 1)) (nI d) (cP X) X p1 hs hp1 ht1 huq
    obtain ⟨n, ⟨m1, m2, m3⟩, m4, m5, m6, m7, m8⟩ := hG.2.2.1 p1 hp1
    have hlast : ∀ en ∈ p1.2, lastN (cR X (eN en)) < p1.1 0 := fun en he => by
      have he16 := eN_lt (hen p1 hp1 en he)
      unfold lastN
      cases hg : (cR X (eN en)).getLast? with
      | none =>
        show (0 : Int32) < p1.1 0
        rw [m3, z_nI, nI_lt_iff (by omega) (by omega)]
        omega
      | some r =>
        show r.1 < p1.1 0
        have hr := List.mem_of_getLast? hg
        by_cases c : cB X (eN en) 1 < r.1
        · obtain ⟨p, q1, q2, q3, _⟩ := r1 (eN en) he16 r hr c
          rw [← q3]
          exact pw_num hNS hs q1 hp1 (by omega)
        · exact Int32.lt_of_le_of_lt (Int32.not_lt.mp c) (r0 (eN en) he16 p1 hp1)
    have hrec : ∀ en ∈ p1.2, en 0 = 2 → ¬ recS (cR X (eN en)) (en 2) = -1 := fun en he hk => by
      obtain ⟨st, s1, s2, _⟩ := wj p1 hp1 (by omega) en he hk
      rw [recS_of (hI _ (eN_lt (hen p1 hp1 en he))).1 s2]
      exact s1
    obtain ⟨c1, c2, c3⟩ := rcvL_nd (p1.1 0) p1.2 X hI m7 (hen p1 hp1) hlast hrec
    have eB : cB (rcvL (p1.1 0) p1.2 X) = cB X := rcvL_B _ _ _
    have e6 : rcvP (nI (T + 1)) (nI d) p1 X = setA (rcvL (p1.1 0) p1.2 X) (cA X ++ [(p1.1 0, nI (T + 1) + nI d)]) := by
      show ackS _ _ _ (rcvL (p1.1 0) p1.2 X) = _
      have n6 : ¬ 0 < cS (rcvL (p1.1 0) p1.2 X) 6 := by
        rw [c1, w1.2.1]
        decide
      unfold ackS
      rw [if_neg n6, rcvL_A]
    have ez : swp ((cP X).map (zeroA (nI (T + 1)))) = (cP X).map (zeroA (nI (T + 1))) := swp_all fun p hp => (zeroA_4 _ p).trans (w2 p hp).1
    have e : arr1 (nI (T + 1)) (nI d) X = setP (setA (rcvL (p1.1 0) p1.2 X) (cA X ++ [(p1.1 0, nI (T + 1) + nI d)])) ((cP X).map (zeroA (nI (T + 1)))) := by
      unfold arr1
      rw [eP, e6, ez]
    have keep : ∀ e, e < 16 → ∀ bb st, cB X e 1 ≤ bb → (bb, st) ∈ cR X e → (bb, st) ∈ cR (rcvL (p1.1 0) p1.2 X) e := fun e he bb st hb hm => by
      by_cases c : ∃ en ∈ p1.2, eN en = e
      · obtain ⟨en, e1, rfl⟩ := c
        obtain ⟨s2, q1, _⟩ := c3 en e1
        rw [q1]
        exact addRec_keep (hI _ he).1 hm (Nat.le_trans (aft_mono hb) (Nat.le_trans (aft_rcd hI r1 he) (rcd_10 hs w2 hd)))
      · rw [c2 e fun en he2 w => c ⟨en, he2, w⟩]
        exact hm
    have hz0 : ∀ q, (zeroA (nI (T + 1)) q).1 0 = q.1 0 := fun q => (zeroA_PE (nI (T + 1)) q).1
    have hz2 : ∀ q, (zeroA (nI (T + 1)) q).2 = q.2 := fun q => zeroA_2 (nI (T + 1)) q
    have hzs : ∀ q, sNt (zeroA (nI (T + 1)) q) = sNt q := fun q => zeroA_s (nI (T + 1)) q
    rw [e]
    clear e e6 eP ez
    generalize hY : rcvL (p1.1 0) p1.2 X = Y at *
    refine ⟨?_, fun p hp => ?_, ⟨fun a ha => ?_, fun p hp hq => ?_⟩, fun e he p hp => ?_, fun e he r hr hq => ?_, fun e he hne => ?_, fun p hp hle en hen2 => ?_, fun p hp hA en hen2 hk => ?_⟩
    · have : wh1 Y := by
        unfold wh1
        rw [c1]
        exact w1
      exact this
    · obtain ⟨q, hq, rfl⟩ := List.mem_map.mp hp
      refine ⟨(zeroA_4 _ q).trans (w2 q hq).1, by rw [hzs]; exact (w2 q hq).2.1, ?_⟩
      rw [hzs]
      by_cases c : q.1 3 = nI (T + 1)
      · have := (harr q hq).mp c
        have e3 : (zeroA (nI (T + 1)) q).1 3 = 0 := by
          unfold zeroA
          rw [if_pos c]
          exact upd_eq q.1 3 0
        rw [e3, if_neg (by omega)]
      · have ez' : zeroA (nI (T + 1)) q = q := if_neg c
        have : ¬ sNt q + d = T + 1 := fun w => c ((harr q hq).mpr w)
        rw [ez', (w2 q hq).2.2]
        by_cases q2 : T < sNt q + d
        · rw [if_pos q2, if_pos (by omega)]
        · rw [if_neg q2, if_neg (by omega)]
    · have ha : a ∈ cA X ++ [(p1.1 0, nI (T + 1) + nI d)] := ha
      show ∃ p ∈ (cP X).map (zeroA (nI (T + 1))), a = (p.1 0, nI (sNt p + 2 * d)) ∧ sNt p + d ≤ T + 1
      rcases List.mem_append.mp ha with ha | ha
      · obtain ⟨p, q1, q2, q3⟩ := w3.1 a ha
        exact ⟨_, List.mem_map_of_mem q1, by rw [hz0, hzs]; exact q2, by rw [hzs]; omega⟩
      · rw [List.mem_singleton.mp ha]
        refine ⟨_, List.mem_map_of_mem hp1, ?_, by rw [hzs]; omega⟩
        rw [hz0, hzs, nI_add]
        have : T + 1 + d = sNt p1 + 2 * d := by omega
        rw [this]
    · obtain ⟨q, hq1, rfl⟩ := List.mem_map.mp hp
      rw [hzs] at hq
      rw [hz0, hzs]
      show _ ∈ cA X ++ [(p1.1 0, nI (T + 1) + nI d)]
      by_cases c : sNt q + d ≤ T
      · exact List.mem_append_left _ (w3.2 q hq1 c)
      · have eq1 : q = p1 := pw_inj hs hq1 hp1 (by omega)
        refine List.mem_append_right _ (List.mem_singleton.mpr ?_)
        rw [eq1, nI_add]
        have : T + 1 + d = sNt p1 + 2 * d := by omega
        rw [this]
    · obtain ⟨q, hq1, rfl⟩ := List.mem_map.mp hp
      show cB Y e 1 < _
      rw [eB, hz0]
      exact r0 e he q hq1
    · have hr : r ∈ cR Y e := hr
      have hq : cB Y e 1 < r.1 := hq
      rw [eB] at hq
      show ∃ p ∈ (cP X).map (zeroA (nI (T + 1))), _
      have old : r ∈ cR X e → ∃ p ∈ (cP X).map (zeroA (nI (T + 1))), sNt p + d ≤ T + 1 ∧ p.1 0 = r.1 ∧ ∃ en ∈ p.2, eN en = e := fun hr => by
        obtain ⟨p, q1, q2, q3, q4⟩ := r1 e he r hr hq
        exact ⟨_, List.mem_map_of_mem q1, by rw [hzs]; omega, by rw [hz0]; exact q3, by rw [hz2]; exact q4⟩
      by_cases c : ∃ en ∈ p1.2, eN en = e
      · obtain ⟨en, e1, e2⟩ := c
        obtain ⟨s2, q1, _⟩ := c3 en e1
        rw [← e2, q1] at hr
        rcases addRec_mem hr with hr | rfl
        · exact old (by rw [← e2]; exact hr)
        · exact ⟨_, List.mem_map_of_mem hp1, by rw [hzs]; omega, by rw [hz0], en, by rw [hz2]; exact e1, e2⟩
      · rw [c2 e fun en he2 w => c ⟨en, he2, w⟩] at hr
        exact old hr
    · have hne : ¬ cB Y e 2 = -1 := hne
      rw [eB] at hne
      obtain ⟨st, s1, s2⟩ := r2 e he hne
      refine ⟨st, s1, ?_⟩
      show (cB Y e 1, st) ∈ cR Y e
      rw [eB]
      exact keep e he _ st (Int32.le_refl _) s2
    · obtain ⟨q, hq1, rfl⟩ := List.mem_map.mp hp
      rw [hzs] at hle
      rw [hz2] at hen2
      have he16 := eN_lt (hen q hq1 en hen2)
      show ∃ st, ((zeroA (nI (T + 1)) q).1 0, st) ∈ cR Y (eN en) ∧ _
      rw [hz0]
      by_cases c : sNt q + d ≤ T
      · obtain ⟨st, s1, s2⟩ := r3 q hq1 c en hen2
        exact ⟨st, keep _ he16 _ st (Int32.le_of_lt (r0 _ he16 q hq1)) s1, s2⟩
      · have eq1 : q = p1 := pw_inj hs hq1 hp1 (by omega)
        rw [eq1] at hen2 ⊢
        obtain ⟨st, q1, q2⟩ := c3 en hen2
        exact ⟨st, by rw [q1]; exact addRec_new _ _ _, q2⟩
    · obtain ⟨q, hq1, rfl⟩ := List.mem_map.mp hp
      rw [hzs] at hA
      rw [hz2] at hen2
      have he16 := eN_lt (hen q hq1 en hen2)
      obtain ⟨st, s1, s2, s3⟩ := wj q hq1 (by omega) en hen2 hk
      have hb : bfr (T + 1) d (cP X) (sNt q) + 1 ≤ bfr T d (cP X) (sNt q) := fil_lt (P := fBf (T + 1) d (sNt q)) (Q := fBf T d (sNt q)) (fun y _ hy => decide_eq_true (by have := of_decide_eq_true hy; omega)) hp1 (decide_eq_true (by omega)) (dec_ff (by omega))
      refine ⟨st, s1, ?_⟩
      show (en 2, st) ∈ cR Y (eN en) ∧ aft (cR Y (eN en)) (en 2) + bfr (T + 1) d ((cP X).map (zeroA (nI (T + 1)))) (sNt (zeroA (nI (T + 1)) q)) ≤ 11
      rw [bfr_map hzs, hzs]
      by_cases c : ∃ e1 ∈ p1.2, eN e1 = eN en
      · obtain ⟨e1, g1, g2⟩ := c
        obtain ⟨s4, q1, _⟩ := c3 e1 g1
        rw [g2] at q1
        rw [q1]
        refine ⟨addRec_keep (hI _ he16).1 s2 (by omega), ?_⟩
        have := aft_add (cR X (eN en)) (p1.1 0) s4 (en 2)
        omega
      · rw [c2 (eN en) fun e1 he2 w => c ⟨e1, he2, w⟩]
        exact ⟨s2, by omega⟩
  · have hno : ∀ p ∈ cP X, ¬ sNt p + d = T + 1 := fun p hp w => hx ⟨p, hp, w⟩
    have hn3 : ∀ p ∈ cP X, ¬ p.1 3 = nI (T + 1) := fun p hp w => hno p hp ((harr p hp).mp w)
    have ez : (cP X).map (zeroA (nI (T + 1))) = cP X := by
      refine (List.map_congr_left fun p hp => ?_).trans (List.map_id' _)
      exact if_neg (hn3 p hp)
    have es : swp (cP X) = cP X := List.filter_eq_self.mpr fun p hp => decide_eq_true (Or.inl (w2 p hp).1)
    have e : arr1 (nI (T + 1)) (nI d) X = X := by
      show setP (arrP (nI (T + 1)) (nI d) (cP X) X) (swp ((cP X).map (zeroA (nI (T + 1))))) = setP X (cP X)
      rw [arrP_no _ _ _ _ hn3, ez, es]
    rw [e]
    have hle : ∀ p ∈ cP X, (sNt p + d ≤ T + 1 ↔ sNt p + d ≤ T) := fun p hp => by
      have := hno p hp
      omega
    refine ⟨w1, fun p hp => ⟨(w2 p hp).1, (w2 p hp).2.1, ?_⟩, ⟨fun a ha => ?_, fun p hp hq => w3.2 p hp ((hle p hp).mp hq)⟩, r0, fun e he r hr hq => ?_, r2, fun p hp hq => r3 p hp ((hle p hp).mp hq), fun p hp hq en hen2 hk => ?_⟩
    · rw [(w2 p hp).2.2]
      have := hno p hp
      by_cases q : T < sNt p + d
      · rw [if_pos q, if_pos (by omega)]
      · rw [if_neg q, if_neg (by omega)]
    · obtain ⟨p, p1, p2, p3⟩ := w3.1 a ha
      exact ⟨p, p1, p2, by omega⟩
    · obtain ⟨p, p1, p2, p3⟩ := r1 e he r hr hq
      exact ⟨p, p1, by omega, p3⟩
    · obtain ⟨st, s1, s2, s3⟩ := wj p hp (by omega) en hen2 hk
      refine ⟨st, s1, s2, ?_⟩
      have : bfr (T + 1) d (cP X) (sNt p) ≤ bfr T d (cP X) (sNt p) := fil_le fun y _ hy => decide_eq_true (by have := of_decide_eq_true hy; omega)
      omega
