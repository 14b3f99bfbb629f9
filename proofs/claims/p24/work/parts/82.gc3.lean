/-! .. a packet goes out; a tick. -/
theorem GX_snd {S N b : Nat} {t d : Int32} {X : CS} {E : Nat → Nat → Int32} (h : GX S N b X) (hc : cnn X) (htd : 0 < t + d) (hE : ∀ e, e < 16 → sOK (E e 0)) (hs : ∀ e, e < 16 → sOK (cB X e 2)) (hpr : prG X E) : ∃ N', N' ≤ N + 1 ∧ GX S N' b (snd1 t d E X) := by
  unfold snd1
  by_cases q : (sndQ E X).2.1 = []
  · rw [if_pos q]
    exact ⟨N, by omega, h⟩
  · rw [if_neg q]
    obtain ⟨⟨⟨s7, s8, s4, sb⟩, ⟨cx, x1, x2⟩, ⟨cy, z1, z2⟩, sn⟩, ⟨Bt, LP, LA, AR, GU, Es, ⟨c9, c10, c11, c12, c14, c15⟩, cb, cl, cg, ce⟩, hp, hb, hr⟩ := h
    obtain ⟨y1, y2, y3, y4⟩ : cS (sndQ E X).2.2 = cS X ∧ cA (sndQ E X).2.2 = cA X ∧ cP (sndQ E X).2.2 = cP X ∧ cR (sndQ E X).2.2 = cR X := putL_S E (ordN (cB X) 16) (4, [], X)
    have hlen : (sndQ E X).2.1.length ≤ 16 := Nat.le_trans (SQ_snd E X).2.1 (ordN_len _ _)
    have g := put_G (N := N) (b := b) (X := X) (E := E) s4 sb hE hs (fun e he => (hb e he).2) hpr (ordN (cB X) 16) (4, [], X) (ordN_nd _ _) (fun e he => (ordN_mem (cB X) e 16).mp he) rfl (fun _ _ _ => rfl) (fun _ => Or.inl rfl) rfl (Nat.zero_le _) (fun w => (w rfl).elim) List.nodup_nil (fun en he => absurd he List.not_mem_nil)
    obtain ⟨-, g2, g3, g4, g5, g6, g7⟩ := g
    have g2 : ∀ e k, ¬ k = 0 → cB (sndQ E X).2.2 e k = cB X e k := g2
    have g3 : ∀ e, cB (sndQ E X).2.2 e 0 = cB X e 0 ∨ cB (sndQ E X).2.2 e 0 = 0 := g3
    have g4 : (sndQ E X).1 = nI (4 + sumD (sndQ E X).2.1) := g4
    have g5 : 4 + sumD (sndQ E X).2.1 ≤ b ∧ 2 ≤ sumD (sndQ E X).2.1 := g5 q
    have g6 : ((sndQ E X).2.1.map eN).Nodup := g6
    have g7 : ∀ en ∈ (sndQ E X).2.1, enG (N + 1) en := g7
    have hl1 : 0 < (sndQ E X).2.1.length := by
      rcases Nat.eq_zero_or_pos (sndQ E X).2.1.length with w | w
      · exact (q (List.length_eq_zero_iff.mp w)).elim
      · exact w
    generalize sndQ E X = Q at *
    have ew : wayL Q.2.2 = wayL X := by
      unfold wayL
      rw [y3]
    have hLP : ∃ LP', cS (lau t d Q) 10 = nI LP' ∧ LP' + (wayL (lau t d Q)).length = LP + (wayL X).length + 1 := by
      rw [wayL_lau t d Q htd, ew]
      show ∃ LP', (if 0 < cS Q.2.2 5 then cS Q.2.2 10 + 1 else cS Q.2.2 10) = nI LP' ∧ _
      rw [y1, c10]
      by_cases w5 : 0 < cS X 5
      · rw [if_pos w5, if_pos w5]
        exact ⟨LP + 1, nI_add LP 1, by omega⟩
      · rw [if_neg w5, if_neg w5]
        refine ⟨LP, rfl, ?_⟩
        rw [List.length_append, List.length_singleton]
        omega
    obtain ⟨LP', l1, l2⟩ := hLP
    refine ⟨N + 1, Nat.le_refl _, ⟨⟨?_, ?_, ?_, sb⟩, ⟨cx, x1, ?_⟩, ⟨cy, z1, ?_⟩, fun w => (w ?_).elim⟩, ⟨Bt + (4 + sumD Q.2.1), LP', LA, AR, GU, Es + Q.2.1.length, ⟨?_, l1, ?_, ?_, ?_, ?_⟩, ⟨by omega, ?_⟩, ?_, ?_, by omega, by omega⟩, fun p hpp => ?_, fun e he => ?_, fun e he r hr2 => ?_⟩
    · show cS Q.2.2 7 + 1 = _
      rw [y1, s7]
      exact nI_add N 1
    · show cS Q.2.2 8 + 1 = _
      rw [y1, s8]
      exact nI_add N 1
    · show cS Q.2.2 4 = _
      rw [y1, s4]
    · show cS Q.2.2 1 = _
      rw [y1, x2]
    · show cS Q.2.2 2 = _
      rw [y1, z2]
    · show cS Q.2.2 0 = 1
      rw [y1]
      exact hc
    · show cS Q.2.2 9 + Q.1 = _
      rw [y1, c9, g4, nI_add]
    · show cS Q.2.2 11 = _
      rw [y1, c11]
    · show cS Q.2.2 12 = _
      rw [y1, c12]
    · show cS Q.2.2 14 = _
      rw [y1, c14]
    · show cS Q.2.2 15 + nI Q.2.1.length = _
      rw [y1, c15, nI_add]
    · rw [Nat.mul_succ]
      omega
    · show LP' + LA + AR + (wayL (lau t d Q)).length + (cA Q.2.2).length ≤ N + 1
      rw [y2]
      omega
    · have ef : flyN (cP Q.2.2 ++ [(hdr t d Q.1 Q.2.2, Q.2.1)]) = flyN (cP X) + 1 := by
        rw [y3]
        show ((cP X ++ [(hdr t d Q.1 Q.2.2, Q.2.1)]).filter fFl).length = _
        rw [List.filter_append, List.length_append, List.filter_cons_of_pos (p := fFl) (decide_eq_true (show fly (hdr t d Q.1 Q.2.2, Q.2.1) from rfl))]
        rfl
      show GU + flyN (cP Q.2.2 ++ [(hdr t d Q.1 Q.2.2, Q.2.1)]) ≤ N + 1
      omega
    · have hpp : p ∈ cP Q.2.2 ++ [(hdr t d Q.1 Q.2.2, Q.2.1)] := hpp
      rw [y3] at hpp
      rcases List.mem_append.mp hpp with hpp | hpp
      · exact (hp p hpp).mono (by omega)
      · rw [List.mem_singleton.mp hpp]
        refine ⟨N + 1, ⟨by omega, Nat.le_refl _, ?_⟩, q, g4, g5.1, g6, g7⟩
        show cS Q.2.2 7 + 1 = _
        rw [y1, s7]
        exact nI_add N 1
    · obtain ⟨⟨q0, q1, q2⟩, n, n1, n2, n3⟩ := hb e he
      show (∃ q, cB Q.2.2 e 0 = nI q ∧ q ≤ 256 * S) ∧ ∃ n, n ≤ N + 1 ∧ cB Q.2.2 e 1 = nI n ∧ (¬ cB Q.2.2 e 2 = -1 → 1 ≤ n)
      refine ⟨?_, n, by omega, (g2 e 1 (by omega)).trans n2, by rw [g2 e 2 (by omega)]; exact n3⟩
      rcases g3 e with w | w
      · exact ⟨q0, w.trans q1, q2⟩
      · exact ⟨0, w.trans z_nI, Nat.zero_le _⟩
    · have hr2 : r ∈ cR Q.2.2 e := hr2
      rw [y4] at hr2
      obtain ⟨n, n1, n2⟩ := hr e he r hr2
      exact ⟨n, by omega, n2⟩
theorem GX_srv {S N b : Nat} {t d i : Int32} {X : CS} {E : Nat → Nat → Int32} (h : GX S N b X) (hc : cnn X) (htd : 0 < t + d) (hE : ∀ e, e < 16 → sOK (E e 0)) (hs : ∀ e, e < 16 → sOK (cB X e 2)) : ∃ N', N' ≤ N + 1 ∧ GX (S + 1) N' b (srv t d i E X) := by
  have h1 := GX_giv (t := t) (lim := 4 * d + i) h hc
  have c1 : cnn (giv t (4 * d + i) X) := (upd_ne (cS X) (i := 14) (k := 0) (cS X 14 + nI (oldN t (4 * d + i) (cP X))) (by omega)).trans hc
  have h2 := GX_rai h1 c1 E
  have c2 : cnn (raiN (giv t (4 * d + i) X) E 16) := by
    show cS _ 0 = 1
    rw [raiN_S]
    exact c1
  unfold srv
  split
  · refine GX_snd h2 c2 htd hE (fun e he => ?_) (prG_rai _ E)
    rw [raiN_B _ _ _ 2 (by omega)]
    exact hs e he
  · exact ⟨N, by omega, h2⟩
theorem GX.mono {S S' N b : Nat} {X : CS} (h : GX S N b X) (hS : S ≤ S') : GX S' N b X := by
  obtain ⟨h1, h2, h3, h4, h5⟩ := h
  refine ⟨h1, h2, h3, fun e he => ?_, h5⟩
  obtain ⟨⟨q, q1, q2⟩, a⟩ := h4 e he
  exact ⟨⟨q, q1, by omega⟩, a⟩
/-- how many packets are still going to be lost -/
def plG (X : CS) : Prop := ∃ n, n ≤ 50 ∧ cS X 5 = nI n
theorem plG.same {X Y : CS} (h : plG X) (e : cS Y 5 = cS X 5) : plG Y := by
  obtain ⟨n, n1, n2⟩ := h
  exact ⟨n, n1, e.trans n2⟩
theorem giv_S (t lim : Int32) (X : CS) {k : Nat} (hk : ¬ k = 14) : cS (giv t lim X) k = cS X k := upd_ne (cS X) (i := 14) (k := k) (cS X 14 + nI (oldN t lim (cP X))) hk
theorem arr1_S (t d : Int32) (X : CS) {k : Nat} (h6 : ¬ k = 6) (h11 : ¬ k = 11) (h13 : ¬ k = 13) : cS (arr1 t d X) k = cS X k := arrP_f t d h6 h11 h13 (cP X) X
theorem akA_k (t : Int32) {k : Nat} (hk : ¬ k = 12) : ∀ (l : List (Int32 × Int32)) (X : CS), cS (akA t l X) k = cS X k
  | [], _ => rfl
  | a :: l, X => by
    refine (akA_k t hk l (if a.2 = t then ackN a.1 X else X)).trans ?_
    split
    · rw [(ackN_S a.1 X).1, upd_ne _ _ hk]
    · rfl
theorem tkA_S (W : WS) (c : Nat) {k : Nat} (h6 : ¬ k = 6) (h11 : ¬ k = 11) (h13 : ¬ k = 13) (h12 : ¬ k = 12) : cS (tkA W c) k = cS (wC W c) k := by
  show cS (akA (wT W 0 + 1) (cA (arr1 (wT W 0 + 1) (wT W 1) (wC W c))) (arr1 (wT W 0 + 1) (wT W 1) (wC W c))) k = _
  rw [akA_k _ h12, arr1_S _ _ _ h6 h11 h13]
theorem snd_pl {t d : Int32} {E : Nat → Nat → Int32} {X : CS} (h : plG X) : plG (snd1 t d E X) := by
  unfold snd1
  split
  · exact h
  · obtain ⟨y1, _⟩ : cS (sndQ E X).2.2 = cS X ∧ cA (sndQ E X).2.2 = cA X ∧ cP (sndQ E X).2.2 = cP X ∧ cR (sndQ E X).2.2 = cR X := putL_S E (ordN (cB X) 16) (4, [], X)
    obtain ⟨n, n1, n2⟩ := h
    show ∃ n, n ≤ 50 ∧ (if 0 < cS (sndQ E X).2.2 5 then cS (sndQ E X).2.2 5 + -1 else cS (sndQ E X).2.2 5) = nI n
    rw [y1, n2]
    by_cases w : 0 < nI n
    · rw [if_pos w]
      rw [z_nI, nI_lt_iff (by omega) (by omega)] at w
      refine ⟨n - 1, by omega, ?_⟩
      rw [← nI_sub1 (a := n) (b := 1) w]
      exact (Int32.sub_eq_add_neg _ _).symm
    · rw [if_neg w]
      exact ⟨n, n1, rfl⟩
theorem snd_04 {t d : Int32} {E : Nat → Nat → Int32} {X : CS} : cS (snd1 t d E X) 0 = cS X 0 ∧ cS (snd1 t d E X) 4 = cS X 4 := by
  unfold snd1
  split
  · exact ⟨rfl, rfl⟩
  · obtain ⟨y1, _⟩ : cS (sndQ E X).2.2 = cS X ∧ cA (sndQ E X).2.2 = cA X ∧ cP (sndQ E X).2.2 = cP X ∧ cR (sndQ E X).2.2 = cR X := putL_S E (ordN (cB X) 16) (4, [], X)
    show cS (sndQ E X).2.2 0 = _ ∧ cS (sndQ E X).2.2 4 = _
    rw [y1]
    exact ⟨rfl, rfl⟩
theorem tkS_pl {W : WS} {c : Nat} (h : plG (wC W c)) : plG (tkS W c) := by
  have h1 : plG (tkA W c) := h.same (tkA_S W c (by omega) (by omega) (by omega) (by omega))
  unfold tkS
  split
  · have h2 : plG (raiN (giv (wT W 0 + 1) (4 * wT W 1 + wT W 2) (tkA W c)) (mvE (wE W)) 16) := h1.same (by rw [raiN_S]; exact giv_S _ _ _ (by omega))
    unfold srv
    split
    · exact snd_pl h2
    · exact h2
  · exact h1
/-- whether a client is connected, and its budget, stay over a tick -/
theorem tkS_04 (W : WS) (c : Nat) : cS (tkS W c) 0 = cS (wC W c) 0 ∧ cS (tkS W c) 4 = cS (wC W c) 4 := by
  have h0 := tkA_S W c (k := 0) (by omega) (by omega) (by omega) (by omega)
  have h4 := tkA_S W c (k := 4) (by omega) (by omega) (by omega) (by omega)
  unfold tkS
  split
  · have g0 : cS (raiN (giv (wT W 0 + 1) (4 * wT W 1 + wT W 2) (tkA W c)) (mvE (wE W)) 16) 0 = cS (wC W c) 0 := by
      rw [raiN_S, giv_S _ _ _ (by omega), h0]
    have g4 : cS (raiN (giv (wT W 0 + 1) (4 * wT W 1 + wT W 2) (tkA W c)) (mvE (wE W)) 16) 4 = cS (wC W c) 4 := by
      rw [raiN_S, giv_S _ _ _ (by omega), h4]
    unfold srv
    split
    · exact ⟨snd_04.1.trans g0, snd_04.2.trans g4⟩
    · exact ⟨g0, g4⟩
  · exact ⟨h0, h4⟩
def GCl (T : Nat) (X : CS) : Prop := ∃ N b, N ≤ T ∧ GX T N b X ∧ plG X
/-- the world: an entity that isn't has no velocity, the health is at most 100 -/
def eV2 (E : Nat → Nat → Int32) : Prop := ∀ e, e < 16 → (E e 0 = -1 ∧ E e 1 = 0 ∧ E e 2 = 0) ∨ ∃ n, n < 524288 ∧ n / 4096 ≤ 100 ∧ E e 0 = nI n
def GWd (M : Nat) (W : WS) : Prop := eV2 (wE W) ∧ ∃ T, T ≤ M ∧ wT W 0 = nI T ∧ ∀ c, c < 3 → GCl T (wC W c)
theorem eV2_mv {E : Nat → Nat → Int32} (h : eV2 E) (hv : eVK E) : eV2 (mvE E) := fun e he => by
  rcases h e he with ⟨a, b, c⟩ | ⟨n, n1, n2, n3⟩
  · have : ∀ k, mvE E e k = E e k := fun k => if_pos a
    rw [this, this, this]
    exact Or.inl ⟨a, b, c⟩
  · have ne : ¬ E e 0 = -1 := by rw [n3]; exact nI_ne_m1 (by omega)
    have e0 : mvE E e 0 = nI (mvS (mvS (sN (E e 0)) 0 (E e 1)) 1 (E e 2)) := if_neg ne
    rw [e0, n3, sN_nI n1]
    obtain ⟨_, v1, v2⟩ := hv e he
    have b1 := mvS_lt (w := 0) n1 (by omega) v1
    have b2 := mvS_lt (w := 1) b1 (by omega) v2
    refine Or.inr ⟨_, b2, ?_, rfl⟩
    have m1 : mvS n 0 (E e 1) / 4096 = n / 4096 := by
      have a := (mv_ok (prt01 n 0 (by omega)) v1).2.1
      have h0 : prt n 0 = n % 32 := rfl
      unfold mvS
      rw [if_pos rfl]
      omega
    generalize mvS n 0 (E e 1) = n' at *
    have a := (mv_ok (prt01 n' 1 (by omega)) v2).2.1
    have h1 : prt n' 1 = n' / 32 % 32 := rfl
    unfold mvS
    rw [if_neg (by decide)]
    omega
theorem GWd_tk {M : Nat} {W : WS} (h : WOK M W) (g : GWd M W) (hM : M + 100 < 2 ^ 31) : GWd (M + 1) (tk W) := by
  have hk := (tk_ok h hM).1
  obtain ⟨hE, T, d, i, t1, t2, t3, t4, hd, hi, hc⟩ := h
  obtain ⟨gE, T', u1, u2, gC⟩ := g
  have eT' : T' = T := nI_inj (by omega) (by omega) (u2.symm.trans t2)
  subst eT'
  have eT : wT W 0 + 1 = nI (T' + 1) := by rw [t2]; exact nI_add T' 1
  have mE := mvE_ok hE
  have pos : (0 : Int32) < wT W 0 + 1 := by
    rw [eT, z_nI, nI_lt_iff (by omega) (by omega)]
    omega
  have pos2 : (0 : Int32) < wT W 0 + 1 + wT W 1 := by
    rw [eT, t3, nI_add, z_nI, nI_lt_iff (by omega) (by omega)]
    omega
  refine ⟨eV2_mv gE hE, T' + 1, by omega, ?_, fun c hcc => ?_⟩
  · show upd (wT W) 0 (wT W 0 + 1) 0 = _
    rw [upd_eq, eT]
  · obtain ⟨N, b, n1, n2, n3⟩ := gC c hcc
    have h1 : GX T' N b (tkA W c) := GX_arr2 (GX_arr1 n2 pos)
    obtain ⟨_, _, k3⟩ := hk
    obtain ⟨_, _, _, k4, _⟩ := k3 c hcc
    show GCl (T' + 1) (tkS W c)
    have n4 := tkS_pl n3
    unfold tkS at n4 ⊢
    by_cases q : cnn (tkA W c)
    · rw [if_pos q] at n4 ⊢
      obtain ⟨N', m1, m2⟩ := GX_srv (i := wT W 2) h1 q pos2 (fun e he => (mE e he).1) k4
      exact ⟨N', b, by omega, m2, n4⟩
    · rw [if_neg q] at n4 ⊢
      exact ⟨N, b, by omega, h1.mono (by omega), n4⟩
theorem GWd_tkN {M : Nat} {W : WS} (h : WOK M W) (g : GWd M W) (hM : M + 200 < 2 ^ 31) : ∀ k, k ≤ 50 → GWd (M + k) (tkN W k)
  | 0, _ => g
  | k + 1, hk => GWd_tk (tkN_ok h hM k (by omega)) (GWd_tkN h g hM k (by omega)) (by show M + k + 100 < 2 ^ 31; omega)
theorem GWd.mono {M M' : Nat} {W : WS} (h : GWd M W) (hM : M ≤ M') : GWd M' W := by
  obtain ⟨a, T, t1, t2⟩ := h
  exact ⟨a, T, by omega, t2⟩
