/-! WHAT A TICK KEEPS, second part: serving, the tick; what each operation keeps. -/
theorem cO2.same {S t : Nat} {X Y : CS} (h : cO2 S t X) (h0 : cS Y 0 = cS X 0) (h7 : cS Y 7 = cS X 7) (hR : cR Y = cR X) (hA : cA Y = cA X) (hP : cP Y = cP X) (hB : ∀ e, e < 16 → cB Y e 2 = cB X e 2) : cO2 S t Y := by
  obtain ⟨a1, a2, a3, ⟨N, n1, n2, n3⟩, a5, a6, Lp, l1, l2, l3⟩ := h
  have e : wayL Y = wayL X := by unfold wayL; rw [hP]
  exact ⟨by unfold c01; rw [h0]; exact a1, fun e he => by rw [hR]; exact a2 e he, fun e he => by rw [hB e he]; exact a3 e he, ⟨N, n1, h7.trans n2, by rw [hP]; exact n3⟩, by rw [hP]; exact a5, by rw [hP]; exact a6, Lp, by rw [hA]; exact l1, l2, by rw [e]; exact l3⟩
theorem cO2.mono {S S' t : Nat} {X : CS} (h : cO2 S t X) (hS : S ≤ S') : cO2 S' t X := by
  obtain ⟨a1, a2, a3, ⟨N, n1, n2, n3⟩, a5, a6, Lp, l1, l2, l3⟩ := h
  refine ⟨a1, a2, a3, ⟨N, by omega, n2, fun p hp => ?_⟩, a5, a6, Lp, l1, fun q hq => ?_, l3⟩
  · obtain ⟨b1, b2, b3, b4, b5, s, b6, b7⟩ := n3 p hp
    exact ⟨b1, b2, b3, b4, b5, s, by omega, b7⟩
  · obtain ⟨c1, c2⟩ := l2 q hq
    exact ⟨by omega, c2⟩
theorem cO2_giv {S t : Nat} {X : CS} (h : cO2 S t X) (u lim : Int32) : cO2 S t (giv u lim X) :=
  h.fl (flM_O u lim) (upd_ne (cS X) (i := 14) (k := 0) (cS X 14 + nI (oldN u lim (cP X))) (by omega)) (upd_ne (cS X) (i := 14) (k := 7) (cS X 14 + nI (oldN u lim (cP X))) (by omega)) rfl rfl h.2.2.1 rfl
theorem cO2_rai {S t : Nat} {X : CS} (h : cO2 S t X) (E : Nat → Nat → Int32) (n : Nat) : cO2 S t (raiN X E n) :=
  h.same (by rw [raiN_S]) (by rw [raiN_S]) (raiN_R X E n) (raiN_A X E n) (raiN_P X E n) fun e _ => raiN_B X E e 2 (by omega) n
theorem SQ_all {E : Nat → Nat → Int32} {X : CS} : ∀ (l P : List Nat) (Q : Int32 × List EN × CS), SQ E X P Q → SQ E X (P ++ l) (l.foldl (putQ E) Q)
  | [], P, Q, h => by rw [List.append_nil]; exact h
  | e :: l, P, Q, h => by
    have := SQ_all l (P ++ [e]) (putQ E Q e) (SQ_S h e)
    rw [List.append_assoc] at this
    exact this
theorem SQ_snd (E : Nat → Nat → Int32) (X : CS) : SQ E X (ordN (cB X) 16) (sndQ E X) := SQ_all (ordN (cB X) 16) [] _ (SQ_0 E X)
theorem mkE_ok {Y : CS} {E : Nat → Nat → Int32} {e : Nat} (he : e < 16) (hs : sOK (E e 0)) : enOK (mkE Y E e) ∧ enO2 (mkE Y E e) := by
  have e0 : mkE Y E e 0 = if inA Y (E e 0) then (if cB Y e 2 = -1 then 1 else 2) else 0 := rfl
  have e3 : mkE Y E e 3 = if inA Y (E e 0) then (if cB Y e 2 = -1 then 15 else nI (mkN (sN (cB Y e 2)) (sN (E e 0)))) else 0 := rfl
  have e4 : mkE Y E e 4 = if inA Y (E e 0) then E e 0 else -1 := rfl
  unfold enOK enO2
  rw [e0, e3, e4]
  by_cases q : inA Y (E e 0)
  · rw [if_pos q, if_pos q, if_pos q]
    obtain ⟨n, n1, n2, _⟩ := sOK_ne hs q.1
    by_cases q2 : cB Y e 2 = -1
    · rw [if_pos q2, if_pos q2]
      exact ⟨⟨Or.inr (Or.inl rfl), ⟨e, he, rfl⟩, ⟨15, by omega, rfl⟩, fun w => absurd w (by decide), fun _ => ⟨n, n1, n2⟩⟩, fun _ => rfl⟩
    · rw [if_neg q2, if_neg q2]
      exact ⟨⟨Or.inr (Or.inr rfl), ⟨e, he, rfl⟩, ⟨_, mkN_lt _ _, rfl⟩, fun w => absurd w (by decide), fun _ => ⟨n, n1, n2⟩⟩, fun w => absurd w (by decide)⟩
  · rw [if_neg q, if_neg q, if_neg q]
    exact ⟨⟨Or.inl rfl, ⟨e, he, rfl⟩, ⟨0, by omega, rfl⟩, fun _ => rfl, fun w => absurd rfl w⟩, fun w => absurd w (by decide)⟩
theorem put_en {E : Nat → Nat → Int32} (hE : ∀ e, e < 16 → sOK (E e 0)) : ∀ (l : List Nat) (Q : Int32 × List EN × CS), (∀ e ∈ l, e < 16) → (∀ en ∈ Q.2.1, enOK en ∧ enO2 en) → ∀ en ∈ (l.foldl (putQ E) Q).2.1, enOK en ∧ enO2 en
  | [], _, _, h => h
  | e :: l, Q, g, h => put_en hE l (putQ E Q e) (fun x hx => g x (List.mem_cons_of_mem _ hx)) fun en hen => by
    unfold putQ at hen
    split at hen
    · rcases List.mem_append.mp hen with hen | hen
      · exact h en hen
      · rw [List.mem_singleton.mp hen]
        exact mkE_ok (g e List.mem_cons_self) (hE e (g e List.mem_cons_self))
    · exact h en hen
/-- a packet is sent -/
theorem cO2_snd {T d : Nat} {X : CS} {E : Nat → Nat → Int32} (h : cO2 T (T + 1) X) (hE : ∀ e, e < 16 → sOK (E e 0)) (hd : 1 ≤ d ∧ d ≤ 10) (hT : T + 40 < 2 ^ 31) : cO2 (T + 1) (T + 1) (snd1 (nI (T + 1)) (nI d) E X) := by
  unfold snd1
  by_cases q : (sndQ E X).2.1 = []
  · rw [if_pos q]
    exact h.mono (by omega)
  · rw [if_neg q]
    obtain ⟨y1, y2, y3, y4⟩ : cS (sndQ E X).2.2 = cS X ∧ cA (sndQ E X).2.2 = cA X ∧ cP (sndQ E X).2.2 = cP X ∧ cR (sndQ E X).2.2 = cR X := putL_S E (ordN (cB X) 16) (4, [], X)
    have hQ := SQ_snd E X
    have hen := put_en hE (ordN (cB X) 16) (4, [], X) (fun e he => ((ordN_mem (cB X) e 16).mp he).1) (fun en hen => absurd hen List.not_mem_nil)
    have hlen : (sndQ E X).2.1.length ≤ 16 := Nat.le_trans hQ.2.1 (ordN_len _ _)
    have hb := hQ.2.2.2.2.2
    have h' : cO2 T (T + 1) (sndQ E X).2.2 := h.same (by rw [y1]) (by rw [y1]) y4 y2 y3 fun e _ => hb e 2 (by omega)
    have hen : ∀ en ∈ (sndQ E X).2.1, enOK en ∧ enO2 en := hen
    clear hb hQ y1 y2 y3 y4 q
    generalize sndQ E X = Q at *
    have hpos : (0 : Int32) < nI (T + 1) + nI d := by
      rw [nI_add, z_nI, nI_lt_iff (by omega) (by omega)]
      omega
    obtain ⟨a1, a2, a3, ⟨N, n1, n2, n3⟩, a5, a6, Lp, l1, l2, l3⟩ := h'
    have sS : ∀ p ∈ cP Q.2.2, sNt p ≤ T := fun p hp => by
      obtain ⟨_, _, _, _, _, s, s1, s2, _⟩ := n3 p hp
      unfold sNt
      rw [s2, sNi (by omega)]
      exact s1
    have np : sNt ((hdr (nI (T + 1)) (nI d) Q.1 Q.2.2, Q.2.1) : PK) = T + 1 := by
      show sN (nI (T + 1)) = T + 1
      exact sNi (by omega)
    refine ⟨a1, a2, a3, ⟨N + 1, by omega, ?_, fun p hp => ?_⟩, ?_, ?_, Lp, l1, fun q hq => ?_, ?_⟩
    · show cS Q.2.2 7 + 1 = _
      rw [n2]
      exact nI_add N 1
    · rcases List.mem_append.mp hp with hp | hp
      · obtain ⟨b1, b2, b3, b4, ⟨n, b5, b55⟩, s, b6, b7⟩ := n3 p hp
        exact ⟨b1, b2, b3, b4, ⟨n, by omega, b55⟩, s, by omega, b7⟩
      · rw [List.mem_singleton.mp hp]
        refine ⟨Or.inr rfl, Or.inl rfl, hlen, hen, ⟨N + 1, Nat.le_refl _, ?_⟩, T + 1, Nat.le_refl _, rfl, ?_⟩
        · show cS Q.2.2 7 + 1 = _
          rw [n2]
          exact nI_add N 1
        · show (if 0 < cS Q.2.2 5 then 0 else nI (T + 1) + nI d) = 0 ∨ ∃ v, (if 0 < cS Q.2.2 5 then 0 else nI (T + 1) + nI d) = nI v ∧ _
          by_cases w : 0 < cS Q.2.2 5
          · rw [if_pos w]
            exact Or.inl rfl
          · rw [if_neg w]
            exact Or.inr ⟨T + 1 + d, nI_add _ _, by omega, by omega⟩
    · refine List.pairwise_append.mpr ⟨a5, List.pairwise_singleton _ _, fun p hp q hq => ?_⟩
      rw [List.mem_singleton.mp hq]
      obtain ⟨_, _, _, _, ⟨n, m1, m2⟩, _⟩ := n3 p hp
      show p.1 0 < cS Q.2.2 7 + 1
      have e : nI N + 1 = nI (N + 1) := nI_add N 1
      rw [m2, n2, e, nI_lt_iff (by omega) (by omega)]
      omega
    · refine List.pairwise_append.mpr ⟨a6, List.pairwise_singleton _ _, fun p hp q hq => ?_⟩
      rw [List.mem_singleton.mp hq, np]
      have := sS p hp
      omega
    · obtain ⟨c1, c2⟩ := l2 q hq
      exact ⟨by omega, c2⟩
    · rw [wayL_lau _ _ _ hpos]
      by_cases w : 0 < cS Q.2.2 5
      · rw [if_pos w]
        exact l3
      · rw [if_neg w, List.map_append, ← List.append_assoc]
        refine List.nodup_append.mpr ⟨l3, List.nodup_cons.mpr ⟨List.not_mem_nil, List.nodup_nil⟩, fun x hx y hy => ?_⟩
        rw [List.mem_singleton.mp hy, np]
        rcases List.mem_append.mp hx with hx | hx
        · obtain ⟨z, hz, rfl⟩ := List.mem_map.mp hx
          have := (l2 z hz).1
          omega
        · obtain ⟨p, hp, rfl⟩ := List.mem_map.mp hx
          have := sS p (List.mem_filter.mp hp).1
          omega
/-- how many can be on their way -/
theorem way_len {S t : Nat} {X : CS} (h : cO2 S t X) (hS : S + 40 < 2 ^ 31) (hSt : S ≤ t) : (wayL X).length ≤ 10 - (t - S) := by
  obtain ⟨a1, a2, a3, ⟨N, n1, n2, n3⟩, a5, a6, Lp, l1, l2, l3⟩ := h
  have := (List.nodup_append.mp l3).2.1
  rw [← List.length_map (f := sNt)]
  refine ph _ (t + 1 - 10) _ this fun x hx => ?_
  obtain ⟨p, hp, rfl⟩ := List.mem_map.mp hx
  obtain ⟨p1, p2⟩ := List.mem_filter.mp hp
  obtain ⟨_, _, _, _, _, s, s1, s2, s3⟩ := n3 p p1
  have e : sNt p = s := by
    unfold sNt
    rw [s2, sNi (by omega)]
  rcases s3 with s3 | ⟨v, v1, v2, v3⟩
  · rw [s3] at p2
    exact absurd p2 (by decide)
  · omega
theorem ack_len {S : Nat} {X : CS} (h : cO2 S S X) (hS : S + 40 < 2 ^ 31) : (cA X).length + (wayL X).length ≤ 20 := by
  obtain ⟨a1, a2, a3, ⟨N, n1, n2, n3⟩, a5, a6, Lp, l1, l2, l3⟩ := h
  have e : (cA X).length + (wayL X).length = (Lp.map Prod.fst ++ (wayL X).map sNt).length := by
    rw [List.length_append, List.length_map, List.length_map, ← l1, List.length_map]
  rw [e]
  refine ph _ (S + 1 - 20) _ l3 fun x hx => ?_
  rcases List.mem_append.mp hx with hx | hx
  · obtain ⟨z, hz, rfl⟩ := List.mem_map.mp hx
    obtain ⟨c1, v, c2, c3, c4⟩ := l2 z hz
    omega
  · obtain ⟨p, hp, rfl⟩ := List.mem_map.mp hx
    obtain ⟨p1, p2⟩ := List.mem_filter.mp hp
    obtain ⟨_, _, _, _, _, s, s1, s2, s3⟩ := n3 p p1
    have e : sNt p = s := by
      unfold sNt
      rw [s2, sNi (by omega)]
    rcases s3 with s3 | ⟨v, v1, v2, v3⟩
    · rw [s3] at p2
      exact absurd p2 (by decide)
    · omega
theorem kp_len : ∀ l : List PK, (∀ p ∈ l, kpP p) → l.length ≤ (l.filter fFl).length + (l.filter fWy).length
  | [], _ => Nat.le_refl _
  | p :: l, h => by
    have ih := kp_len l fun q hq => h q (List.mem_cons_of_mem _ hq)
    have m : ∀ f : PK → Bool, (l.filter f).length ≤ ((p :: l).filter f).length := fun f => (List.Sublist.filter f (List.sublist_cons_self p l)).length_le
    have m1 := m fFl
    have m2 := m fWy
    rw [List.length_cons]
    rcases h p List.mem_cons_self with q | q
    · have e : ((p :: l).filter fFl).length = (l.filter fFl).length + 1 := by
        rw [List.filter_cons_of_pos (p := fFl) (decide_eq_true q)]
        rfl
      omega
    · have e : ((p :: l).filter fWy).length = (l.filter fWy).length + 1 := by
        rw [List.filter_cons_of_pos (p := fWy) (decide_eq_true q)]
        rfl
      omega
theorem cO2.kp {S t : Nat} {X : CS} (h : cO2 S t X) : ∀ p ∈ cP X, kpP p := fun p hp => by
  obtain ⟨_, _, _, ⟨N, _, _, h4⟩, _⟩ := h
  exact (h4 p hp).2.1
/-- A TICK: it can be passed, and keeps what is known -/
theorem tk_ok {M : Nat} {W : WS} (h : WOK M W) (hM : M + 100 < 2 ^ 31) : TKP W ∧ TKC W ∧ WOK (M + 1) (tk W) := by
  obtain ⟨hE, T, d, i, t1, t2, t3, t4, hd, hi, hc⟩ := h
  have eT : wT W 0 + 1 = nI (T + 1) := by rw [t2]; exact nI_add T 1
  have mE := mvE_ok hE
  have pos : ∀ n, 0 < n → n < 2 ^ 31 → (0 : Int32) < nI n := fun n h1 h2 => by
    rw [z_nI, nI_lt_iff (by omega) h2]
    exact h1
  have eA : ∀ c, tkA W c = arr2 (nI (T + 1)) (arr1 (nI (T + 1)) (nI d) (wC W c)) := fun c => by
    unfold tkA
    rw [eT, t3]
    rfl
  have kA : ∀ c, c < 3 → cO2 T (T + 1) (tkA W c) := fun c hcc => by
    rw [eA]
    obtain ⟨k1, k2⟩ := cO2_arr1 (hc c hcc) hd (by omega) (by omega)
    exact cO2_arr2 k1 (by omega) (by omega) k2
  refine ⟨⟨hE, ?_, fun c hcc => ?_⟩, ⟨?_, ?_, ?_, fun c hcc => ?_⟩, mE, T + 1, d, i, by omega, ?_, ?_, ?_, hd, hi, fun c hcc => ?_⟩
  · rw [t4, z_nI, nI_eq_iff (by omega) (by omega)]
    omega
  · have h0 := hc c hcc
    have h1 := kA c hcc
    have al := ack_len (cOK_iff.mp h0) (by omega)
    have ar : arN (nI (T + 1)) (cP (wC W c)) ≤ (wayL (wC W c)).length := by
      rw [← arN_way _ (pos (T + 1) (by omega) (by omega))]
      exact List.length_filter_le _ _
    refine ⟨h0.e, h0.2.1, by rw [eT]; omega, h1.2.2.1, h1.bit, fun w => ?_⟩
    have h2 := cO2_giv h1 (wT W 0 + 1) (4 * wT W 1 + wT W 2)
    have l1 := way_len h2 (by omega) (by omega)
    have l2 := kp_len _ h2.kp
    have l3 : ((cP (giv (wT W 0 + 1) (4 * wT W 1 + wT W 2) (tkA W c))).filter fFl).length < 12 := w
    have l4 : ((cP (giv (wT W 0 + 1) (4 * wT W 1 + wT W 2) (tkA W c))).filter fWy).length ≤ 10 - (T + 1 - T) := l1
    omega
  · rw [eT]
    exact pos _ (by omega) (by omega)
  · rw [t4]
    exact pos _ (by omega) (by omega)
  · rw [eT, t3, nI_add]
    exact pos _ (by omega) (by omega)
  · have h1 := kA c hcc
    have l1 := way_len h1 (by omega) (by omega)
    exact ⟨h1.1, (hc c hcc).2.2.2.2.1, by omega⟩
  · show upd (wT W) 0 (wT W 0 + 1) 0 = _
    rw [upd_eq, eT]
  · show upd (wT W) 0 (wT W 0 + 1) 1 = _
    rw [upd_ne _ _ (by omega), t3]
  · show upd (wT W) 0 (wT W 0 + 1) 2 = _
    rw [upd_ne _ _ (by omega), t4]
  · have h1 := kA c hcc
    show cO2 (T + 1) (T + 1) (tkS W c)
    unfold tkS
    by_cases q : cnn (tkA W c)
    · rw [if_pos q]
      have h2 := cO2_rai (cO2_giv h1 (wT W 0 + 1) (4 * wT W 1 + wT W 2)) (mvE (wE W)) 16
      unfold srv
      split
      · rw [eT, t3] at h2 ⊢
        exact cO2_snd h2 (fun e he => (mE e he).1) hd (by omega)
      · exact h2.mono (by omega)
    · rw [if_neg q]
      exact h1.mono (by omega)
theorem tkN_ok {M : Nat} {W : WS} (h : WOK M W) (hM : M + 200 < 2 ^ 31) : ∀ k, k ≤ 50 → WOK (M + k) (tkN W k)
  | 0, _ => h
  | k + 1, hk => (tk_ok (tkN_ok h hM k (by omega)) (by omega)).2.2
theorem WOK.mono {M M' : Nat} {W : WS} (h : WOK M W) (hM : M ≤ M') : WOK M' W := by
  obtain ⟨hE, T, d, i, t1, t2⟩ := h
  exact ⟨hE, T, d, i, by omega, t2⟩
/-- a state and those saved -/
def WKS (M : Nat) (W : WS) (U : List WS) : Prop := WOK M W ∧ ∀ V ∈ U, WOK M V
theorem WKS.mono {M M' : Nat} {W : WS} {U : List WS} (h : WKS M W U) (hM : M ≤ M') : WKS M' W U := ⟨h.1.mono hM, fun V hV => (h.2 V hV).mono hM⟩
theorem WKS.push {M : Nat} {W W' : WS} {U : List WS} (h : WKS M W U) (hW : WOK M W') : WKS M W' (pushU W U) := ⟨hW, fun V hV => by
  rcases List.mem_cons.mp hV with rfl | hV
  · exact h.1
  · exact h.2 V (List.mem_of_mem_take hV)⟩
theorem WOK.en {M : Nat} {W : WS} (h : WOK M W) {E : Nat → Nat → Int32} (hE : eVK E) : WOK M (wT W, E, wC W) := ⟨hE, h.2⟩
theorem eVK.up {E : Nat → Nat → Int32} (h : eVK E) {j k : Nat} {v : Int32} (h0 : k = 0 → sOK v) (h1 : k = 1 → vOK v) (h2 : k = 2 → vOK v) : eVK (up2 E j k v) := fun e he => by
  obtain ⟨a, b, c⟩ := h e he
  unfold up2
  refine ⟨?_, ?_, ?_⟩
  · split
    · next q => exact h0 q.2.symm
    · exact a
  · split
    · next q => exact h1 q.2.symm
    · exact b
  · split
    · next q => exact h2 q.2.symm
    · exact c
theorem WOK.cl' {M : Nat} {W : WS} (h : WOK M W) {j : Nat} {X : CS} (hX : ∀ T, T ≤ M → cOK T (wC W j) → cOK T X) (hj : j < 3) : WOK M (setCl W j X) := by
  obtain ⟨hE, T, d, i, t1, t2, t3, t4, hd, hi, hc⟩ := h
  refine ⟨hE, T, d, i, t1, t2, t3, t4, hd, hi, fun c hcc => ?_⟩
  show cOK T (up1 (wC W) j X c)
  by_cases q : c = j
  · rw [q, up1_eq']
    exact hX T t1 (hc j hj)
  · rw [up1_ne' _ _ q]
    exact hc c hcc
theorem cOK_new (T : Nat) {S : Nat → Int32} (h0 : S 0 = 0 ∨ S 0 = 1) (h7 : S 7 = 0) : cOK T (S, [], [], fun _ k => if k = 2 then -1 else 0, fun _ => []) :=
  ⟨h0, fun _ _ => ⟨List.Pairwise.nil, fun _ h => absurd h List.not_mem_nil⟩, fun _ _ => Or.inl rfl, ⟨0, Nat.zero_le _, h7, fun _ h => absurd h List.not_mem_nil⟩, List.Pairwise.nil, List.Pairwise.nil, [], rfl, fun _ h => absurd h List.not_mem_nil, List.nodup_nil⟩
