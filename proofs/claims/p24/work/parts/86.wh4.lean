/-! .. serving; a tick. -/
theorem WHm.same {A K d : Nat} {X Y : CS} (h : WHm A K d X) (h1 : wh1 Y) (hA : cA Y = cA X) (hP : cP Y = cP X) (hR : cR Y = cR X) (hB : ∀ e k, ¬ k = 0 → cB Y e k = cB X e k) : WHm A K d Y := by
  obtain ⟨w1, w2, w3, r0, r1, r2, r3, wj⟩ := h
  refine ⟨h1, by unfold wh2; rw [hP]; exact w2, by unfold wh3; rw [hP, hA]; exact w3, fun e he p hp => ?_, fun e he r hr hq => ?_, fun e he hne => ?_, by unfold whR3; rw [hP, hR]; exact r3, by unfold whJ; rw [hP, hR]; exact wj⟩
  · rw [hB e 1 (by omega)]
    rw [hP] at hp
    exact r0 e he p hp
  · rw [hB e 1 (by omega)] at hq
    rw [hR] at hr
    rw [hP]
    exact r1 e he r hr hq
  · rw [hB e 2 (by omega)] at hne
    rw [hB e 1 (by omega), hR]
    exact r2 e he hne
theorem WH_giv {T d i : Nat} {X : CS} (hO : cO2 T (T + 1) X) (hd : 1 ≤ d ∧ d ≤ 10) (hi : 1 ≤ i ∧ i ≤ 10) (hT : T + 100 < 2 ^ 31) (h : WHm (T + 1) (T + 1) d X) : WHm (T + 1) (T + 1) d (giv (nI (T + 1)) (4 * nI d + nI i) X) ∧ cP (giv (nI (T + 1)) (4 * nI d + nI i) X) = cP X := by
  obtain ⟨a1, hI, a3, ⟨N', n1, n2, n3⟩, hNS, hs, _⟩ := hO
  have hno : ∀ p ∈ cP X, ¬ old (nI (T + 1)) (4 * nI d + nI i) p := fun p hp w => by
    obtain ⟨s1, s2⟩ := pO2_s (n3 p hp) (by omega)
    have w := w.2
    have el : 4 * nI d + nI i = nI (4 * d + i) := by
      rw [← nI_add, ← nI_mul]
      rfl
    rw [s1, nI_sub1 (by omega), el, nI_le_iff (by omega) (by omega)] at w
    have := (h.2.1 p hp).2.1
    omega
  have em : (cP X).map (zeroO (nI (T + 1)) (4 * nI d + nI i)) = cP X := by
    refine (List.map_congr_left fun p hp => ?_).trans (List.map_id' _)
    exact if_neg (hno p hp)
  have es : swp (cP X) = cP X := List.filter_eq_self.mpr fun p hp => decide_eq_true (Or.inl (h.2.1 p hp).1)
  have eP : cP (giv (nI (T + 1)) (4 * nI d + nI i) X) = cP X := by
    show swp ((cP X).map (zeroO (nI (T + 1)) (4 * nI d + nI i))) = cP X
    rw [em, es]
  have e0 : oldN (nI (T + 1)) (4 * nI d + nI i) (cP X) = 0 := by
    unfold oldN
    rw [List.filter_eq_nil_iff.mpr fun p hp => dec_ff (hno p hp)]
    rfl
  refine ⟨h.same ?_ rfl eP rfl fun _ _ _ => rfl, eP⟩
  obtain ⟨x5, x6, x10, x11, x13, x14⟩ := h.1
  have eS : ∀ k : Nat, ¬ k = 14 → cS (giv (nI (T + 1)) (4 * nI d + nI i) X) k = cS X k := fun k hk => upd_ne (cS X) (i := 14) (k := k) (cS X 14 + nI (oldN (nI (T + 1)) (4 * nI d + nI i) (cP X))) hk
  refine ⟨(eS 5 (by omega)).trans x5, (eS 6 (by omega)).trans x6, (eS 10 (by omega)).trans x10, (eS 11 (by omega)).trans x11, (eS 13 (by omega)).trans x13, ?_⟩
  show upd (cS X) 14 (cS X 14 + nI (oldN (nI (T + 1)) (4 * nI d + nI i) (cP X))) 14 = 0
  rw [upd_eq, e0, x14]
  rfl
theorem put_W {X : CS} {E : Nat → Nat → Int32} : ∀ (l : List Nat) (Q : Int32 × List EN × CS), (∀ e ∈ l, e < 16) → (∀ e k, ¬ k = 0 → cB Q.2.2 e k = cB X e k) → (∀ en ∈ Q.2.1, ∃ e, e < 16 ∧ eN en = e ∧ (en 0 = 2 → en 2 = cB X e 1 ∧ ¬ cB X e 2 = -1)) → ∀ en ∈ (l.foldl (putQ E) Q).2.1, ∃ e, e < 16 ∧ eN en = e ∧ (en 0 = 2 → en 2 = cB X e 1 ∧ ¬ cB X e 2 = -1)
  | [], _, _, _, h => h
  | e :: l, Q, g1, g2, h => by
    rw [List.foldl_cons]
    have he := g1 e List.mem_cons_self
    refine put_W l (putQ E Q e) (fun x hx => g1 x (List.mem_cons_of_mem _ hx)) (fun x k hk => ?_) fun en hen => ?_
    · unfold putQ
      split
      · show up2 (cB Q.2.2) e 0 0 x k = _
        unfold up2
        rw [if_neg fun w => hk w.2]
        exact g2 x k hk
      · exact g2 x k hk
    · unfold putQ at hen
      split at hen
      · rcases List.mem_append.mp hen with hen | hen
        · exact h en hen
        · rw [List.mem_singleton.mp hen]
          refine ⟨e, he, eN_of rfl he, fun k => ?_⟩
          have e0 : mkE Q.2.2 E e 0 = if inA Q.2.2 (E e 0) then (if cB Q.2.2 e 2 = -1 then 1 else 2) else 0 := rfl
          have e2 : mkE Q.2.2 E e 2 = if inA Q.2.2 (E e 0) ∧ ¬ cB Q.2.2 e 2 = -1 then cB Q.2.2 e 1 else 0 := rfl
          rw [e0] at k
          by_cases a : inA Q.2.2 (E e 0)
          · rw [if_pos a] at k
            by_cases b : cB Q.2.2 e 2 = -1
            · rw [if_pos b] at k
              exact absurd k (by decide)
            · rw [e2, if_pos ⟨a, b⟩, ← g2 e 1 (by omega), ← g2 e 2 (by omega)]
              exact ⟨rfl, b⟩
          · rw [if_neg a] at k
            exact absurd k (by decide)
      · exact h en hen
theorem rcd_bfr (A d s : Nat) : ∀ l : List PK, (rcd A d l).length + bfr A d l s ≤ l.length
  | [] => Nat.le_refl _
  | q :: l => by
    have ih : (l.filter (fun q => decide (sNt q + d ≤ A))).length + (l.filter (fBf A d s)).length ≤ l.length := rcd_bfr A d s l
    show ((q :: l).filter (fun q => decide (sNt q + d ≤ A))).length + ((q :: l).filter (fBf A d s)).length ≤ _
    rw [List.length_cons]
    by_cases c : sNt q + d ≤ A
    · rw [List.filter_cons_of_pos (p := fun q => decide (sNt q + d ≤ A)) (decide_eq_true c), List.filter_cons_of_neg (p := fBf A d s) (dec_ff (by omega)), List.length_cons]
      omega
    · rw [List.filter_cons_of_neg (p := fun q => decide (sNt q + d ≤ A)) (dec_ff c)]
      have : ((q :: l).filter (fBf A d s)).length ≤ (l.filter (fBf A d s)).length + 1 := by
        by_cases c2 : A < sNt q + d ∧ sNt q < s
        · rw [List.filter_cons_of_pos (p := fBf A d s) (decide_eq_true c2)]
          exact Nat.le_refl _
        · rw [List.filter_cons_of_neg (p := fBf A d s) (dec_ff c2)]
          omega
      omega
theorem WH_snd {T d N b S : Nat} {X : CS} {E : Nat → Nat → Int32} (hO : cO2 T (T + 1) X) (hG : GX S N b X) (hN : N ≤ T) (hd : 1 ≤ d ∧ d ≤ 10) (hT : T + 100 < 2 ^ 31) (hf : flyN (cP X) < 12) (h : WHm (T + 1) (T + 1) d X) : WHm (T + 1) (T + 1) d (snd1 (nI (T + 1)) (nI d) E X) := by
  unfold snd1
  by_cases q : (sndQ E X).2.1 = []
  · rw [if_pos q]
    exact h
  · rw [if_neg q]
    obtain ⟨a1, hI, a3, ⟨N', n1, n2, n3⟩, hNS, hs, _⟩ := hO
    obtain ⟨w1, w2, w3, r0, r1, r2, r3, wj⟩ := h
    have hsT : ∀ p ∈ cP X, sNt p ≤ T := fun p hp => (pO2_s (n3 p hp) (by omega)).2
    have hlen : (cP X).length ≤ 11 := by
      have e : (cP X).filter fFl = cP X := List.filter_eq_self.mpr fun p hp => decide_eq_true (w2 p hp).1
      have hf : ((cP X).filter fFl).length < 12 := hf
      rw [e] at hf
      omega
    obtain ⟨y1, y2, y3, y4⟩ : cS (sndQ E X).2.2 = cS X ∧ cA (sndQ E X).2.2 = cA X ∧ cP (sndQ E X).2.2 = cP X ∧ cR (sndQ E X).2.2 = cR X := putL_S E (ordN (cB X) 16) (4, [], X)
    have hQ := SQ_snd E X
    have hb : ∀ e k, ¬ k = 0 → cB (sndQ E X).2.2 e k = cB X e k := hQ.2.2.2.2.2
    have hw : ∀ en ∈ (sndQ E X).2.1, ∃ e, e < 16 ∧ eN en = e ∧ (en 0 = 2 → en 2 = cB X e 1 ∧ ¬ cB X e 2 = -1) := put_W (ordN (cB X) 16) (4, [], X) (fun e he => ((ordN_mem (cB X) e 16).mp he).1) (fun _ _ _ => rfl) fun en he => absurd he List.not_mem_nil
    clear hQ q
    generalize sndQ E X = Q at *
    obtain ⟨x5, x6, x10, x11, x13, x14⟩ := w1
    have n5 : ¬ 0 < cS Q.2.2 5 := by
      rw [y1, x5]
      decide
    have e3 : (hdr (nI (T + 1)) (nI d) Q.1 Q.2.2) 3 = nI (T + 1 + d) := by
      show (if 0 < cS Q.2.2 5 then 0 else nI (T + 1) + nI d) = _
      rw [if_neg n5, nI_add]
    have es : sNt ((hdr (nI (T + 1)) (nI d) Q.1 Q.2.2, Q.2.1) : PK) = T + 1 := by
      show sN (nI (T + 1)) = T + 1
      exact sNi (by omega)
    have e0 : (hdr (nI (T + 1)) (nI d) Q.1 Q.2.2) 0 = nI (N + 1) := by
      show cS Q.2.2 7 + 1 = _
      rw [y1, hG.1.1.1]
      exact nI_add N 1
    have e4 : fly ((hdr (nI (T + 1)) (nI d) Q.1 Q.2.2, Q.2.1) : PK) := rfl
    have eP : cP (lau (nI (T + 1)) (nI d) Q) = cP X ++ [(hdr (nI (T + 1)) (nI d) Q.1 Q.2.2, Q.2.1)] := by
      show cP Q.2.2 ++ _ = _
      rw [y3]
    have hmem : ∀ p, p ∈ cP (lau (nI (T + 1)) (nI d) Q) → p ∈ cP X ∨ (p.1 0 = nI (N + 1) ∧ p.1 3 = nI (T + 1 + d) ∧ sNt p = T + 1 ∧ fly p ∧ p.2 = Q.2.1) := fun p hp => by
      rw [eP] at hp
      rcases List.mem_append.mp hp with hp | hp
      · exact Or.inl hp
      · rw [List.mem_singleton.mp hp]
        exact Or.inr ⟨e0, e3, es, e4, rfl⟩
    have hold : ∀ p ∈ cP X, p ∈ cP (lau (nI (T + 1)) (nI d) Q) := fun p hp => by
      rw [eP]
      exact List.mem_append_left _ hp
    have hbf : ∀ s, s ≤ T + 1 → bfr (T + 1) d (cP (lau (nI (T + 1)) (nI d) Q)) s = bfr (T + 1) d (cP X) s := fun s hs' => by
      rw [eP]
      show (List.filter (fBf (T + 1) d s) _).length = _
      rw [List.filter_append, List.filter_cons_of_neg (p := fBf (T + 1) d s) (dec_ff (by rw [es]; omega)), List.filter_nil, List.append_nil]
    clear e3 es e0 e4 eP
    refine ⟨?_, fun p hp => ?_, ⟨fun a ha => ?_, fun p hp hq => ?_⟩, fun e he p hp => ?_, fun e he r hr hq => ?_, fun e he hne => ?_, fun p hp hle en hen2 => ?_, fun p hp hA en hen2 hk => ?_⟩
    · refine ⟨?_, ?_, ?_, ?_, ?_, ?_⟩
      · show (if 0 < cS Q.2.2 5 then cS Q.2.2 5 + -1 else cS Q.2.2 5) = 0
        rw [if_neg n5, y1, x5]
      · show cS Q.2.2 6 = 0
        rw [y1, x6]
      · show (if 0 < cS Q.2.2 5 then cS Q.2.2 10 + 1 else cS Q.2.2 10) = 0
        rw [if_neg n5, y1, x10]
      · show cS Q.2.2 11 = 0
        rw [y1, x11]
      · show cS Q.2.2 13 = 0
        rw [y1, x13]
      · show cS Q.2.2 14 = 0
        rw [y1, x14]
    · rcases hmem p hp with hp | ⟨_, p3, ps, p4, _⟩
      · exact w2 p hp
      · refine ⟨p4, by omega, ?_⟩
        rw [p3, ps, if_pos (by omega)]
    · have ha : a ∈ cA Q.2.2 := ha
      rw [y2] at ha
      obtain ⟨p, p1, p2⟩ := w3.1 a ha
      exact ⟨p, hold p p1, p2⟩
    · rcases hmem p hp with hp | ⟨_, _, ps, _, _⟩
      · show _ ∈ cA Q.2.2
        rw [y2]
        exact w3.2 p hp hq
      · omega
    · show cB Q.2.2 e 1 < p.1 0
      rw [hb e 1 (by omega)]
      rcases hmem p hp with hp | ⟨p0, _⟩
      · exact r0 e he p hp
      · obtain ⟨_, n, m1, m2, _⟩ := hG.2.2.2.1 e he
        rw [p0, m2, nI_lt_iff (by omega) (by omega)]
        omega
    · have hr : r ∈ cR Q.2.2 e := hr
      have hq : cB Q.2.2 e 1 < r.1 := hq
      rw [y4] at hr
      rw [hb e 1 (by omega)] at hq
      obtain ⟨p, p1, p2⟩ := r1 e he r hr hq
      exact ⟨p, hold p p1, p2⟩
    · have hne : ¬ cB Q.2.2 e 2 = -1 := hne
      rw [hb e 2 (by omega)] at hne
      show ∃ st, ¬ st = -1 ∧ (cB Q.2.2 e 1, st) ∈ cR Q.2.2 e
      rw [hb e 1 (by omega), y4]
      exact r2 e he hne
    · rcases hmem p hp with hp | ⟨_, _, ps, _, _⟩
      · show ∃ st, (p.1 0, st) ∈ cR Q.2.2 (eN en) ∧ _
        rw [y4]
        exact r3 p hp hle en hen2
      · omega
    · show ∃ st, ¬ st = -1 ∧ (en 2, st) ∈ cR Q.2.2 (eN en) ∧ aft (cR Q.2.2 (eN en)) (en 2) + bfr (T + 1) d (cP (lau (nI (T + 1)) (nI d) Q)) (sNt p) ≤ 11
      rw [y4]
      rcases hmem p hp with hp | ⟨_, _, ps, _, p2⟩
      · rw [hbf _ (by have := hsT p hp; omega)]
        exact wj p hp hA en hen2 hk
      · rw [ps, hbf _ (Nat.le_refl _)]
        rw [p2] at hen2
        obtain ⟨e, he, ee, ek⟩ := hw en hen2
        obtain ⟨k1, k2⟩ := ek hk
        obtain ⟨st, s1, s2⟩ := r2 e he k2
        rw [ee, k1]
        refine ⟨st, s1, s2, ?_⟩
        have h1 := aft_rcd hI r1 he
        have h2 := rcd_bfr (T + 1) d (T + 1) (cP X)
        omega
theorem WH_srv {T d i N b S : Nat} {X : CS} {E : Nat → Nat → Int32} (hO : cO2 T (T + 1) X) (hG : GX S N b X) (hc : cnn X) (hN : N ≤ T) (hd : 1 ≤ d ∧ d ≤ 10) (hi : 1 ≤ i ∧ i ≤ 10) (hT : T + 100 < 2 ^ 31) (h : WHm (T + 1) (T + 1) d X) : WHm (T + 1) (T + 1) d (srv (nI (T + 1)) (nI d) (nI i) E X) := by
  obtain ⟨g1, g2⟩ := WH_giv hO hd hi hT h
  have hO2 := cO2_rai (cO2_giv hO (nI (T + 1)) (4 * nI d + nI i)) E 16
  have hG1 := GX_giv (t := nI (T + 1)) (lim := 4 * nI d + nI i) hG hc
  have c1 : cnn (giv (nI (T + 1)) (4 * nI d + nI i) X) := (upd_ne (cS X) (i := 14) (k := 0) (cS X 14 + nI (oldN (nI (T + 1)) (4 * nI d + nI i) (cP X))) (by omega)).trans hc
  have hG2 := GX_rai hG1 c1 E
  have g3 : WHm (T + 1) (T + 1) d (raiN (giv (nI (T + 1)) (4 * nI d + nI i) X) E 16) := g1.same (by unfold wh1; rw [raiN_S]; exact g1.1) (raiN_A _ E 16) (raiN_P _ E 16) (raiN_R _ E 16) fun e k hk => raiN_B _ E e k hk 16
  unfold srv
  split
  · next w => exact WH_snd hO2 hG2 hN hd hT w.2 g3
  · exact g3
/-- a client of which nothing is lost, in a world -/
def WHc (W : WS) (c : Nat) : Prop := ∃ T d, wT W 0 = nI T ∧ wT W 1 = nI d ∧ T < 2 ^ 31 ∧ d < 2 ^ 31 ∧ WHm T T d (wC W c)
theorem WHc_tk {M : Nat} {W : WS} (h : WOK M W) (g : GWd M W) (hM : M + 100 < 2 ^ 31) {c : Nat} (hcc : c < 3) (hc1 : cnn (wC W c)) (hw : WHc W c) : WHc (tk W) c := by
  obtain ⟨hE, T, d, i, t1, t2, t3, t4, hd, hi, hc⟩ := h
  obtain ⟨gE, T', u1, u2, gC⟩ := g
  obtain ⟨T2, d2, v1, v2, v3, v4, v5⟩ := hw
  obtain rfl : T' = T := nI_inj (by omega) (by omega) (u2.symm.trans t2)
  obtain rfl : T2 = T' := nI_inj (by omega) (by omega) (v1.symm.trans t2)
  obtain rfl : d2 = d := nI_inj (by omega) (by omega) (v2.symm.trans t3)
  have eT : wT W 0 + 1 = nI (T2 + 1) := by rw [t2]; exact nI_add T2 1
  obtain ⟨N, b, n1, n2, _⟩ := gC c hcc
  have pos : (0 : Int32) < nI (T2 + 1) := by
    rw [z_nI, nI_lt_iff (by omega) (by omega)]
    omega
  have h0 := cOK_iff.mp (hc c hcc)
  obtain ⟨k1, k2⟩ := cO2_arr1 h0 hd (by omega) (by omega)
  have k3 := cO2_arr2 k1 (by omega) (by omega) k2
  have g1 : GX T2 N b (arr1 (nI (T2 + 1)) (nI d2) (wC W c)) := GX_arr1 n2 pos
  have g2 := GX_arr2 (t := nI (T2 + 1)) g1
  have m1 := WH_arr1 h0 n2 n1 hd (by omega) v5
  have m2 := WH_arr2 k1 g1 hd (by omega) m1
  have eA : tkA W c = arr2 (nI (T2 + 1)) (arr1 (nI (T2 + 1)) (nI d2) (wC W c)) := by
    unfold tkA
    rw [eT, t3]
    rfl
  refine ⟨T2 + 1, d2, ?_, ?_, by omega, v4, ?_⟩
  · show upd (wT W) 0 (wT W 0 + 1) 0 = _
    rw [upd_eq, eT]
  · show upd (wT W) 0 (wT W 0 + 1) 1 = _
    rw [upd_ne _ _ (by omega), t3]
  · show WHm (T2 + 1) (T2 + 1) d2 (tkS W c)
    unfold tkS
    rw [← eA] at m2 g2 k3
    by_cases q : cnn (tkA W c)
    · rw [if_pos q, eT, t3, t4]
      exact WH_srv k3 g2 q n1 hd hi (by omega) m2
    · rw [if_neg q]
      exact m2
