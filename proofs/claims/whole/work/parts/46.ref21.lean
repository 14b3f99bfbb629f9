def seL (r i a : Nat) (x : Int32) : LC := [some (.inr (.inr (20, r))), some (.inl (nI i)), some (.inl (nI a)), some (.inl x), none]
/-- the cells while a packet is written -/
def SC (f g : Nat → Int32) (i a : Nat) (Q : Int32 × List EN × CS) : Prop := RC g i Q.2.2 ∧ (∀ z, z < 51 + 2406 * i ∨ 51 + 2406 * i + 2406 ≤ z → g z = f z) ∧ g (a + 1) = Q.1 ∧ g (a + 5) = nI Q.2.1.length ∧ ∀ (j : Nat) (en : EN), Q.2.1[j]? = some en → ∀ k, k < 5 → g (a + 6 + 5 * j + k) = en k
theorem bef_same {B C : Nat → Nat → Int32} {x y : Nat} (hx : C x 0 = B x 0) (hy : C y 0 = B y 0) (h : bef B x y) : bef C x y := by
  unfold bef
  rw [hx, hy]
  exact h
theorem nxt_after {T : Nat → Int32} {B C : Nat → Nat → Int32} {P l : List Nat} (ho : ordN B 16 = P ++ l) (hC : ∀ e, ¬ e ∈ P → C e 0 = B e 0) (hT : ∀ e, e < 16 → (T e = 0 ↔ ¬ e ∈ P)) : nxtN T C 16 = l.head? := by
  have pw := ordN_pw B 16
  have nd := ordN_nd B 16
  rw [ho] at pw nd
  obtain ⟨p1, p2, p3⟩ := List.pairwise_append.mp pw
  obtain ⟨n1, n2, n3⟩ := List.nodup_append.mp nd
  have out : ∀ e, e ∈ l → ¬ e ∈ P := fun e he hp => n3 e hp e he rfl
  refine nxtN_of (p2.imp_of_mem fun hx hy h => bef_same (hC _ (out _ hx)) (hC _ (out _ hy)) h) fun e => ?_
  constructor
  · intro he
    have h1 : e ∈ ordN B 16 := by rw [ho]; exact List.mem_append_right _ he
    obtain ⟨h2, h3⟩ := (ordN_mem B e 16).mp h1
    refine ⟨h2, (hT e h2).mpr (out e he), ?_⟩
    rw [hC e (out e he)]
    exact h3
  · rintro ⟨h2, h3, h4⟩
    have h5 := (hT e h2).mp h3
    rw [hC e h5] at h4
    have h1 := (ordN_mem B e 16).mpr ⟨h2, h4⟩
    rw [ho] at h1
    exact (List.mem_append.mp h1).resolve_left h5
def sp_X10_send : SPc := fun As μ K => match As with
  | [.inr (.inr (20, r)), .inl c] => ∃ (i : Nat) (X : CS) (E : Nat → Nat → Int32), c = nI i ∧ i < 3 ∧ RC (μ.1 (r + 1)) i X ∧ (∀ e, e < 16 → μ.1 (r + 1) (3 + 3 * e) = E e 0 ∧ sOK (E e 0)) ∧ (∀ e, e < 16 → sOK (cB X e 2)) ∧ (cP X).length ≤ 21 ∧ ∀ T f', RC f' i (snd1 (μ.1 (r + 1) 0) (μ.1 (r + 1) 1) E X) → (∀ k, k < 51 + 2406 * i ∨ 51 + 2406 * i + 2406 ≤ k → f' k = μ.1 (r + 1) k) → K (.inl none) (rW (tW μ r T) r f')
  | _ => False
def ct_X10_send : List (Nat × CI) := [(80, ci_X10_of), (125, ci_X10_packetCell), (153, ci_X10_nextByPriority), (156, ci_X10_priceOf), (159, ci_X10_putEntry), (83, ci_X10_base), (162, ci_X10_launch)]
def ci_X10_send : CI := (yX10_send, cX10_send, 5, none, 2, (5, 0, 0, 115), 19, [], sp_X10_send)
set_option maxRecDepth 100000 in
theorem ck_X10_send : chkM ci_X10_send RX10 co_X10_send ct_X10_send [] false false = true := by decide +kernel
set_option maxHeartbeats 4000000 in
set_option maxRecDepth 100000 in
theorem ms_X10_send {g : GPT} {ot : OT} {l : Launch} (hl : l.stackTraces = false) : MS g ot l ci_X10_send := by
  refine ms_of hl RX10 co_X10_send ct_X10_send [] false false [15,58,70,155] 129 ck_X10_send (List.forall_mem_cons.mpr ⟨ms_X10_of hl, List.forall_mem_cons.mpr ⟨ms_X10_packetCell hl, List.forall_mem_cons.mpr ⟨ms_X10_nextByPriority hl, List.forall_mem_cons.mpr ⟨ms_X10_priceOf hl, List.forall_mem_cons.mpr ⟨ms_X10_putEntry hl, List.forall_mem_cons.mpr ⟨ms_X10_base hl, List.forall_mem_cons.mpr ⟨ms_X10_launch hl, fun _ h => nomatch h⟩⟩⟩⟩⟩⟩⟩) ?_
  intro As μ K h
  simp only [ci_X10_send, sp_X10_send] at h
  split at h
  case h_2 => exact h.elim
  rename_i r c
  obtain ⟨i, X, E, rfl, hi, hX, hE, hB, hl, h⟩ := h
  have c65 : μ.1 (r + 1) (51 + 2406 * i + 65) = nI (cP X).length := hX.2.2.1.1
  generalize ha : 51 + 2406 * i + (66 + 86 * (cP X).length) = a at *
  have nd := ordN_nd (cB X) 16
  refine ⟨Nat.le_of_ble_eq_true rfl, fun m pc lc st μ' ce sl => (∃ k T, k ≤ 16 ∧ (∀ e, e < k → T e = 0) ∧ m = 100 + (16 - k) ∧ pc = 15 ∧ lc = seL r i a (nI k) ∧ st = [] ∧ μ' = tW μ r T ∧ ce = 0 ∧ sl = 0) ∨
    (∃ P l Q T g, ordN (cB X) 16 = P ++ l ∧ SQ E X P Q ∧ SC (μ.1 (r + 1)) g i a Q ∧ (∀ e, e < 16 → (T e = 0 ↔ ¬ e ∈ P)) ∧ m = 3 * l.length ∧ pc = 58 ∧ lc = seL r i a (oV l.head?) ∧ st = [] ∧ μ' = rW (tW μ r T) r g ∧ ce = 0 ∧ sl = 0) ∨
    (∃ P e l Q T g, ordN (cB X) 16 = P ++ e :: l ∧ SQ E X P Q ∧ SC (μ.1 (r + 1)) g i a Q ∧ (∀ x, x < 16 → (T x = 0 ↔ ¬ x ∈ P ++ [e])) ∧ m = 3 * l.length + 2 ∧ pc = 70 ∧ lc = seL r i a (nI e) ∧ st = [] ∧ μ' = rW (tW μ r T) r g ∧ ce = 0 ∧ sl = 0) ∨
    (∃ P l Q T g, ordN (cB X) 16 = P ++ l ∧ SQ E X P Q ∧ SC (μ.1 (r + 1)) g i a Q ∧ (∀ e, e < 16 → (T e = 0 ↔ ¬ e ∈ P)) ∧ m = 3 * l.length + 1 ∧ pc = 155 ∧ lc = [some (.inr (.inr (20, r))), some (.inl (nI i)), some (.inl (nI a)), none, none] ∧ st = [] ∧ μ' = rW (tW μ r T) r g ∧ ce = 0 ∧ sl = 0), ?_, ?_⟩
  · refine ⟨i, 65, rfl, rfl, by omega, i, (cP X).length, rfl, c65, 100 + (16 - 0), seL r i a (nI 0), ⟨rfl, rfl, ?_, rfl, trivial⟩, Or.inl ⟨0, μ.1 (r + 5), Nat.zero_le _, fun e he => absurd he (Nat.not_lt_zero _), rfl, rfl, rfl, rfl, (tW_self μ r).symm, rfl, rfl⟩⟩
    rw [ha]
  · have olen : (ordN (cB X) 16).length ≤ 16 := by
      have hs : ∀ (l : List Nat) (n : Nat), l.Nodup → (∀ x ∈ l, x < n) → l.length ≤ n := fun l n => by
        induction n generalizing l with
        | zero =>
          intro _ h
          cases l with
          | nil => exact Nat.le_refl _
          | cons x l => exact absurd (h x List.mem_cons_self) (Nat.not_lt_zero _)
        | succ n ih =>
          intro h1 h2
          have h3 := ih (l.erase n) (h1.erase n) fun x hx => by
            have hx2 := List.mem_of_mem_erase hx
            have := h2 x hx2
            have h4 : x ≠ n := fun q => by
              rw [q] at hx
              exact (List.Nodup.not_mem_erase h1) hx
            omega
          have h5 : l.length ≤ (l.erase n).length + 1 := by
            by_cases q : n ∈ l
            · rw [List.length_erase_of_mem q]; omega
            · rw [List.erase_of_not_mem q]; omega
          omega
      exact hs _ 16 nd fun x hx => ((ordN_mem (cB X) x 16).mp hx).1
    rintro m pc lc st μ' ce sl (⟨k, T, hk, hT, rfl, rfl, rfl, rfl, rfl, rfl, rfl⟩ | ⟨P, l, Q, T, g, ho, hQ, hg, hT, rfl, rfl, rfl, rfl, rfl, rfl, rfl⟩ | ⟨P, e, l, Q, T, g, ho, hQ, hg, hT, rfl, rfl, rfl, rfl, rfl, rfl, rfl⟩ | ⟨P, l, Q, T, g, ho, hQ, hg, hT, rfl, rfl, rfl, rfl, rfl, rfl, rfl⟩)
    · refine ⟨fun h1 => ?_, fun h1 => ?_⟩
      · simp only [icP, ifP, iL, iM1] at h1
        try simp only [z_nI] at h1
        try simp only [nI_add, nI_mul] at h1
        first | rw [nI_le_iff (by omega) (by omega)] at h1 | rw [nI_lt_iff (by omega) (by omega)] at h1 | rw [nI_eq_iff (by omega) (by omega)] at h1
        obtain rfl : k = 16 := by omega
        have t1 : (tW μ r T).1 (r + 1) = μ.1 (r + 1) := tW_1 _ _ _
        have mem : ((up2 (up2 (tW μ r T).1 (r + 1) (a + 1) (Int32.ofInt 4)) (r + 1) (a + 5) (Int32.ofInt 0), (tW μ r T).2) : MM) = rW (tW μ r T) r (upd (upd (μ.1 (r + 1)) (a + 1) 4) (a + 5) 0) := by
          simp only [up2_stF, stF_stF, stF_at, t1]
          rfl
        have hR : RC (upd (upd (μ.1 (r + 1)) (a + 1) 4) (a + 5) 0) i X := by
          obtain ⟨h1, h2, h3, h4, h5⟩ := hX
          have kp : ∀ z, (z < a ∨ a + 86 ≤ z) → upd (upd (μ.1 (r + 1)) (a + 1) 4) (a + 5) 0 z = μ.1 (r + 1) z := fun z hz => by
            rw [upd_ne _ _ (by omega), upd_ne _ _ (by omega)]
          refine ⟨RS.keep h1 fun z z1 z2 => kp z (by omega), RA.keep h2 fun z z1 z2 => kp z (by omega), ⟨by rw [kp _ (by omega)]; exact h3.1, h3.2.1, fun j p hp => ?_⟩, RB.keep h4 fun z z1 z2 => kp z (by omega), RD.keep h5 fun z z1 z2 => kp z (by omega)⟩
          have hj : j < (cP X).length := (List.getElem?_eq_some_iff.mp hp).1
          exact (h3.2.2 j p hp).keep fun z z1 z2 => kp z (by omega)
        refine ⟨_, nI_add _ 1, by omega, _, nI_add _ 5, by omega, i, X, rfl, hi, ?_, 3 * (ordN (cB X) 16).length, seL r i a (oV (ordN (cB X) 16).head?), by omega, ⟨rfl, rfl, rfl, ?_, trivial⟩, Or.inr (Or.inl ⟨[], ordN (cB X) 16, (4, [], X), T, _, rfl, SQ_0 E X, ⟨hR, fun z hz => ?_, ?_, ?_, fun j en hj => ?_⟩, fun e he => ?_, rfl, rfl, rfl, rfl, mem, rfl, rfl⟩)⟩
        · show RC ((up2 (up2 (tW μ r T).1 (r + 1) (a + 1) (Int32.ofInt 4)) (r + 1) (a + 5) (Int32.ofInt 0)) (r + 1)) i X
          have := congrArg (fun m : MM => m.1 (r + 1)) mem
          simp only [rW_at] at this
          rw [this]
          exact hR
        · have e5 : (up2 (up2 (tW μ r T).1 (r + 1) (a + 1) (Int32.ofInt 4)) (r + 1) (a + 5) (Int32.ofInt 0)) (r + 5) = T := by
            have := congrArg (fun m : MM => m.1 (r + 5)) mem
            simp only [rt_5] at this
            exact this
          show (some (.inl (oV (nxtN ((up2 (up2 (tW μ r T).1 (r + 1) (a + 1) (Int32.ofInt 4)) (r + 1) (a + 5) (Int32.ofInt 0)) (r + 5)) (cB X) 16))) : Option TV) = _
          rw [e5, nxt_after (P := []) (l := ordN (cB X) 16) (B := cB X) rfl (fun _ _ => rfl) fun e he => ⟨fun _ => List.not_mem_nil, fun _ => hT e he⟩]
        · rw [upd_ne _ _ (by omega), upd_ne _ _ (by omega)]
        · rw [upd_ne _ _ (by omega), upd_eq]
        · rw [upd_eq]; rfl
        · cases hj
        · exact ⟨fun _ => List.not_mem_nil, fun _ => hT e he⟩
      · simp only [icP, ifP, iL, iM1] at h1
        try simp only [z_nI] at h1
        try simp only [nI_add, nI_mul] at h1
        first | rw [nI_le_iff (by omega) (by omega)] at h1 | rw [nI_lt_iff (by omega) (by omega)] at h1 | rw [nI_eq_iff (by omega) (by omega)] at h1
        refine ⟨k, rfl, by omega, Or.inl rfl, 100 + (16 - (k + 1)), seL r i a (nI (k + 1)), by omega, ⟨rfl, rfl, rfl, inc_tv k, trivial⟩, Or.inl ⟨k + 1, upd T k 0, by omega, fun e he => ?_, rfl, rfl, rfl, rfl, ?_, rfl, rfl⟩⟩
        · by_cases q : e = k
          · rw [q, upd_eq]
          · rw [upd_ne _ _ q]; exact hT e (by omega)
        · show ((up2 (tW μ r T).1 (r + 5) k (Int32.ofInt 0), (tW μ r T).2) : MM) = _
          rw [up2_stF, tW_at]
          show tW (tW μ r T) r (upd T k (Int32.ofInt 0)) = _
          rw [tW_tW]
          rfl
    · have c5 : (rW (tW μ r T) r g).1 (r + 1) (a + 5) = nI Q.2.1.length := by rw [rW_at]; exact hg.2.2.2.1
      have plen : P.length + l.length ≤ 16 := by
        rw [ho, List.length_append] at olen
        exact olen
      have qlen := hQ.2.1
      cases l with
      | nil =>
        refine ⟨fun _ => ?_, fun h1 => absurd rfl h1⟩
        have hP : ordN (cB X) 16 = P := by rw [ho, List.append_nil]
        have hq : sndQ E X = Q := by
          unfold sndQ
          rw [hP]
          exact hQ.1.symm
        refine ⟨a + 5, nI_add _ 5, by omega, fun h1 => ?_, fun h1 => ?_⟩
        · simp only [ifP, c5, z_nI] at h1
          rw [nI_le_iff (by omega) (by omega)] at h1
          have q0 : Q.2.1 = [] := List.length_eq_zero_iff.mp (by omega)
          refine h T g ?_ hg.2.1
          unfold snd1
          rw [hq, if_pos q0, ← hQ.2.2.1 q0]
          exact hg.1
        · simp only [ifP, c5, z_nI] at h1
          rw [nI_le_iff (by omega) (by omega)] at h1
          have q0 : ¬ Q.2.1 = [] := fun q => by
            rw [q] at h1
            exact h1 (Nat.le_refl _)
          refine ⟨i, a, Q.2.2, Q.1, Q.2.1, rfl, rfl, hi, by rw [rW_at]; exact hg.1, by rw [hQ.2.2.2.1]; exact ha.symm, by rw [hQ.2.2.2.1]; exact hl, by rw [rW_at]; exact hg.2.2.1, c5, by omega, by rw [rW_at]; exact hg.2.2.2.2, fun f' hf hof => ?_⟩
          show K _ _
          rw [rW_rW]
          rw [rW_at] at hf hof
          refine h T f' ?_ fun z hz => (hof z hz).trans (hg.2.1 z hz)
          rw [hg.2.1 0 (by omega), hg.2.1 1 (by omega)] at hf
          unfold snd1
          rw [hq, if_neg q0]
          exact hf
      | cons e l =>
        have he : e < 16 := ((ordN_mem (cB X) e 16).mp (by rw [ho]; exact List.mem_append_right _ List.mem_cons_self)).1
        refine ⟨fun h1 => absurd h1 (nI_ne_m1 (by omega)), fun h1 => ⟨e, rfl, he, Or.inr rfl, 3 * l.length + 2, seL r i a (nI e), ?_, ⟨rfl, rfl, rfl, rfl, trivial⟩, Or.inr (Or.inr (Or.inl ⟨P, e, l, Q, upd T e 1, g, ho, hQ, hg, fun x hx => ?_, rfl, rfl, rfl, rfl, up2_tW μ r e T g _, rfl, rfl⟩))⟩⟩
        · rw [List.length_cons]; omega
        · by_cases q : x = e
          · subst q
            rw [upd_eq]
            refine ⟨fun w => absurd w (by decide), fun w => absurd (List.mem_append_right _ List.mem_cons_self) w⟩
          · rw [upd_ne _ _ q, hT x hx]
            constructor
            · intro w z
              rcases List.mem_append.mp z with z | z
              · exact w z
              · exact q (List.mem_singleton.mp z)
            · exact fun w z => w (List.mem_append_left _ z)
    · have c5 : (rW (tW μ r T) r g).1 (r + 1) (a + 5) = nI Q.2.1.length := by rw [rW_at]; exact hg.2.2.2.1
      have c1 : (rW (tW μ r T) r g).1 (r + 1) (a + 1) = Q.1 := by rw [rW_at]; exact hg.2.2.1
      have plen : P.length + (l.length + 1) ≤ 16 := by
        rw [ho, List.length_append] at olen
        exact olen
      have qlen := hQ.2.1
      have he : e < 16 := ((ordN_mem (cB X) e 16).mp (by rw [ho]; exact List.mem_append_right _ List.mem_cons_self)).1
      have hEe : (rW (tW μ r T) r g).1 (r + 1) (3 + 3 * e) = E e 0 ∧ sOK (E e 0) := by
        rw [rW_at, hg.2.1 _ (by omega)]
        exact hE e he
      have hBe : sOK (cB Q.2.2 e 2) := by
        rw [hQ.2.2.2.2.2 e 2 (by omega)]
        exact hB e he
      have s4 : (rW (tW μ r T) r g).1 (r + 1) (51 + 2406 * i + 4) = cS Q.2.2 4 := by rw [rW_at]; exact hg.1.1 4 (by omega)
      have ho' : ordN (cB X) 16 = (P ++ [e]) ++ l := by rw [ho, List.append_assoc]; rfl
      have hQ' := SQ_S hQ e
      refine ⟨i, e, Q.2.2, E, rfl, rfl, hi, he, by rw [rW_at]; exact hg.1, hEe, hBe, a + 1, nI_add _ 1, by omega, i, 4, rfl, rfl, by omega, fun h1 => ?_, fun h1 => ?_⟩
      · have h1 : (rW (tW μ r T) r g).1 (r + 1) (51 + 2406 * i + 4) < (rW (tW μ r T) r g).1 (r + 1) (a + 1) + nI (prc Q.2.2 E e) := h1
        rw [s4, c1] at h1
        have e1 : putQ E Q e = Q := if_neg (Int32.not_le.mpr h1)
        rw [e1] at hQ'
        exact ⟨3 * l.length + 1, [some (.inr (.inr (20, r))), some (.inl (nI i)), some (.inl (nI a)), none, none], by omega, ⟨rfl, rfl, rfl, trivial⟩, Or.inr (Or.inr (Or.inr ⟨P ++ [e], l, Q, T, g, ho', hQ', hg, hT, rfl, rfl, rfl, rfl, rfl, rfl, rfl⟩))⟩
      · have h1 : ¬ (rW (tW μ r T) r g).1 (r + 1) (51 + 2406 * i + 4) < (rW (tW μ r T) r g).1 (r + 1) (a + 1) + nI (prc Q.2.2 E e) := h1
        rw [s4, c1] at h1
        have e1 : putQ E Q e = (Q.1 + nI (prc Q.2.2 E e), Q.2.1 ++ [mkE Q.2.2 E e], setB Q.2.2 e 0 0) := if_pos (Int32.not_lt.mp h1)
        have ix : nI a + nI 6 + nI 5 * (rW (tW μ r T) r g).1 (r + 1) (a + 5) = nI (a + 6 + 5 * Q.2.1.length) := by
          rw [c5, nI_mul, nI_add, nI_add]
        refine ⟨a + 5, nI_add _ 5, by omega, i, a + 6 + 5 * Q.2.1.length, e, Q.2.2, E, rfl, ix, rfl, hi, he, by rw [rW_at]; exact hg.1, by omega, hEe, hBe, a + 1, nI_add _ 1, by omega, a + 1, nI_add _ 1, by omega, a + 5, nI_add _ 5, by omega, a + 5, nI_add _ 5, by omega, i, e, rfl, rfl, 51 + 2406 * i + (1958 + 3 * e), rfl, by omega, ?_⟩
        rw [rW_rW, rW_at]
        have mem : ((up2 (up2 (up2 (rW (tW μ r T) r (putF g (a + 6 + 5 * Q.2.1.length) (mkE Q.2.2 E e) 5)).1 (r + 1) (a + 1) ((rW (tW μ r T) r (putF g (a + 6 + 5 * Q.2.1.length) (mkE Q.2.2 E e) 5)).1 (r + 1) (a + 1) + nI (prc Q.2.2 E e))) (r + 1) (a + 5) ((up2 (rW (tW μ r T) r (putF g (a + 6 + 5 * Q.2.1.length) (mkE Q.2.2 E e) 5)).1 (r + 1) (a + 1) ((rW (tW μ r T) r (putF g (a + 6 + 5 * Q.2.1.length) (mkE Q.2.2 E e) 5)).1 (r + 1) (a + 1) + nI (prc Q.2.2 E e))) (r + 1) (a + 5) + Int32.ofInt 1)) (r + 1) (51 + 2406 * i + (1958 + 3 * e)) (Int32.ofInt 0), (rW (tW μ r T) r (putF g (a + 6 + 5 * Q.2.1.length) (mkE Q.2.2 E e) 5)).2) : MM) = rW (tW μ r T) r (upd (upd (upd (putF g (a + 6 + 5 * Q.2.1.length) (mkE Q.2.2 E e) 5) (a + 1) (Q.1 + nI (prc Q.2.2 E e))) (a + 5) (nI (Q.2.1.length + 1))) (51 + 2406 * i + (1958 + 3 * e)) 0) := by
          have g1 : putF g (a + 6 + 5 * Q.2.1.length) (mkE Q.2.2 E e) 5 (a + 1) = Q.1 := by
            rw [putF_ne _ _ (by omega)]
            exact hg.2.2.1
          have g5 : putF g (a + 6 + 5 * Q.2.1.length) (mkE Q.2.2 E e) 5 (a + 5) = nI Q.2.1.length := by
            rw [putF_ne _ _ (by omega)]
            exact hg.2.2.2.1
          have n1 : nI Q.2.1.length + Int32.ofInt 1 = nI (Q.2.1.length + 1) := nI_add _ 1
          simp only [up2_stF, stF_stF, stF_at, rW_at, stF_rW, g1]
          rw [upd_ne (k := a + 5) _ _ (by omega), g5, n1]
          rfl
        refine ⟨3 * l.length + 1, [some (.inr (.inr (20, r))), some (.inl (nI i)), some (.inl (nI a)), none, none], by omega, ⟨rfl, rfl, rfl, trivial⟩, Or.inr (Or.inr (Or.inr ⟨P ++ [e], l, putQ E Q e, T, _, ho', hQ', ?_, hT, rfl, rfl, rfl, rfl, mem, rfl, rfl⟩))⟩
        rw [e1]
        have kp : ∀ z, (z < a ∨ a + 86 ≤ z) → ¬ z = 51 + 2406 * i + (1958 + 3 * e) → upd (upd (upd (putF g (a + 6 + 5 * Q.2.1.length) (mkE Q.2.2 E e) 5) (a + 1) (Q.1 + nI (prc Q.2.2 E e))) (a + 5) (nI (Q.2.1.length + 1))) (51 + 2406 * i + (1958 + 3 * e)) 0 z = g z := fun z hz hz2 => by
          rw [upd_ne _ _ hz2, upd_ne _ _ (by omega), upd_ne _ _ (by omega), putF_ne _ _ (by omega)]
        refine ⟨?_, fun z hz => (kp z (by omega) (by omega)).trans (hg.2.1 z hz), ?_, ?_, fun j en hj k hk => ?_⟩
        · obtain ⟨h1, h2, h3, h4, h5⟩ := hg.1
          have pl : (cP Q.2.2).length = (cP X).length := by rw [hQ.2.2.2.1]
          refine ⟨RS.keep h1 fun z z1 z2 => kp z (by omega) (by omega), RA.keep h2 fun z z1 z2 => kp z (by omega) (by omega), ⟨by rw [kp _ (by omega) (by omega)]; exact h3.1, h3.2.1, fun j p hp => ?_⟩, fun e' he' k hk => ?_, RD.keep h5 fun z z1 z2 => kp z (by omega) (by omega)⟩
          · have hj : j < (cP Q.2.2).length := (List.getElem?_eq_some_iff.mp hp).1
            exact (h3.2.2 j p hp).keep fun z z1 z2 => kp z (by omega) (by omega)
          · show _ = up2 (cB Q.2.2) e 0 0 e' k
            unfold up2
            by_cases q : e' = e ∧ k = 0
            · rw [if_pos q, q.1, q.2]
              exact upd_eq _ _ _
            · rw [if_neg q, kp _ (by omega) (by omega)]
              exact h4 e' he' k hk
        · rw [upd_ne _ _ (by omega), upd_ne _ _ (by omega), upd_eq]
        · rw [upd_ne _ _ (by omega), upd_eq]
          show _ = nI (Q.2.1 ++ [_]).length
          rw [List.length_append]
          rfl
        · have hj : (Q.2.1 ++ [mkE Q.2.2 E e])[j]? = some en := hj
          have hjl : j < (Q.2.1 ++ [mkE Q.2.2 E e]).length := (List.getElem?_eq_some_iff.mp hj).1
          rw [List.length_append] at hjl
          have hjl : j < Q.2.1.length + 1 := hjl
          rw [upd_ne _ _ (by omega), upd_ne _ _ (by omega), upd_ne _ _ (by omega)]
          by_cases q : j < Q.2.1.length
          · rw [List.getElem?_append_left q] at hj
            rw [putF_ne _ _ (by omega)]
            exact hg.2.2.2.2 j en hj k hk
          · obtain rfl : j = Q.2.1.length := by omega
            rw [List.getElem?_append_right (Nat.le_refl _), Nat.sub_self] at hj
            cases hj
            exact putF_at _ _ _ hk
    · refine ⟨i, Q.2.2, rfl, hi, by rw [rW_at]; exact hg.1, 3 * l.length, seL r i a (oV l.head?), by omega, ⟨rfl, rfl, rfl, ?_, trivial⟩, Or.inr (Or.inl ⟨P, l, Q, T, g, ho, hQ, hg, hT, rfl, rfl, rfl, rfl, rfl, rfl, rfl⟩)⟩
      rw [rt_5, nxt_after ho hQ.2.2.2.2.1 hT]