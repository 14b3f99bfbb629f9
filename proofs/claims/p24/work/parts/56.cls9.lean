/-! THE CLASS, a client sends a packet. -/
/-- the packet while it is written -/
def sdP (X : CS) (t d : Int32) (Q : Int32 × List EN × CS) : PK := (fun k => match k with
  | 0 => cS X 8 + 1
  | 1 => Q.1
  | 2 => t
  | 3 => t + d
  | _ => 1, Q.2.1)
theorem flyL_lau (t d : Int32) (Q : Int32 × List EN × CS) : flyL (lau t d Q) = flyL Q.2.2 ++ [(hdr t d Q.1 Q.2.2, Q.2.1)] := by
  unfold flyL
  show ((cP Q.2.2) ++ [(hdr t d Q.1 Q.2.2, Q.2.1)]).filter _ = _
  rw [List.filter_append]
  rfl
theorem wayL_lau (t d : Int32) (Q : Int32 × List EN × CS) (h : 0 < t + d) : wayL (lau t d Q) = if 0 < cS Q.2.2 5 then wayL Q.2.2 else wayL Q.2.2 ++ [(hdr t d Q.1 Q.2.2, Q.2.1)] := by
  unfold wayL
  show ((cP Q.2.2) ++ [(hdr t d Q.1 Q.2.2, Q.2.1)]).filter _ = _
  have e3 : (hdr t d Q.1 Q.2.2, Q.2.1).1 3 = if 0 < cS Q.2.2 5 then 0 else t + d := rfl
  rw [List.filter_append]
  by_cases q : 0 < cS Q.2.2 5
  · rw [if_pos q] at e3 ⊢
    have e : [(hdr t d Q.1 Q.2.2, Q.2.1)].filter (fun p : PK => decide (0 < p.1 3)) = [] := List.filter_cons_of_neg (by rw [e3]; decide)
    rw [e, List.append_nil]
  · rw [if_neg q] at e3 ⊢
    have e : [(hdr t d Q.1 Q.2.2, Q.2.1)].filter (fun p : PK => decide (0 < p.1 3)) = [(hdr t d Q.1 Q.2.2, Q.2.1)] := List.filter_cons_of_pos (by rw [e3]; exact decide_eq_true h)
    rw [e]
theorem putQ_S (E : Nat → Nat → Int32) (Q : Int32 × List EN × CS) (e : Nat) : cS (putQ E Q e).2.2 = cS Q.2.2 ∧ cA (putQ E Q e).2.2 = cA Q.2.2 ∧ cP (putQ E Q e).2.2 = cP Q.2.2 ∧ cR (putQ E Q e).2.2 = cR Q.2.2 := by
  unfold putQ
  split <;> exact ⟨rfl, rfl, rfl, rfl⟩
theorem putL_S (E : Nat → Nat → Int32) : ∀ (l : List Nat) (Q : Int32 × List EN × CS), cS (l.foldl (putQ E) Q).2.2 = cS Q.2.2 ∧ cA (l.foldl (putQ E) Q).2.2 = cA Q.2.2 ∧ cP (l.foldl (putQ E) Q).2.2 = cP Q.2.2 ∧ cR (l.foldl (putQ E) Q).2.2 = cR Q.2.2
  | [], _ => ⟨rfl, rfl, rfl, rfl⟩
  | e :: l, Q => by
    obtain ⟨a1, a2, a3, a4⟩ := putL_S E l (putQ E Q e)
    obtain ⟨b1, b2, b3, b4⟩ := putQ_S E Q e
    exact ⟨a1.trans b1, a2.trans b2, a3.trans b3, a4.trans b4⟩
theorem ekV_same {X Y : CS} {E : Nat → Nat → Int32} {e : Nat} (h1 : cS Y = cS X) (h2 : cB Y e 2 = cB X e 2) : ekV Y E e = ekV X E e := by
  unfold ekV inA dstC
  rw [h1, h2]
def spL (a n s k w : Nat) (t d : Int32) : LC := [some (.inr (.inr (14, a))), some (.inr (.inr (8, n))), some (.inl t), some (.inl d), some (.inr (.inr (11, s))), some (.inl (nI w)), some (.inl (nI k))]
def spM (a s : Nat) : LC := [some (.inr (.inr (14, a))), none, none, none, some (.inr (.inr (11, s))), none, none]
/-- the scalars of a client whose packet goes -/
theorem CSc.lau {F F' : Nat → Nat → Int32} {a : Nat} {Q : Int32 × List EN × CS} (t d : Int32) (h : CSc F a (cS Q.2.2)) (h0 : ∀ k, k < 7 → ¬ k = 5 → F' a k = F a k) (h5 : F' a 5 = if 0 < cS Q.2.2 5 then cS Q.2.2 5 + -1 else cS Q.2.2 5) (g0 : F' (a + 1) 0 = F (a + 1) 0 + 1) (g1 : F' (a + 1) 1 = F (a + 1) 1 + Q.1) (g2 : F' (a + 1) 2 = if 0 < cS Q.2.2 5 then F (a + 1) 2 + 1 else F (a + 1) 2) (g8 : F' (a + 1) 8 = F (a + 1) 8 + nI Q.2.1.length) (gk : ∀ k, k < 8 → 2 < k → F' (a + 1) k = F (a + 1) k) : CSc F' a (cS (lau t d Q)) := by
  obtain ⟨s1, s2, s3⟩ := h
  have c : ∀ k, k < 9 → ¬ k = 6 → F (a + 1) k = cS Q.2.2 (cnI k) := s2
  refine ⟨fun k hk => ?_, fun k hk k6 => ?_, ?_⟩
  · by_cases q : k = 5
    · rw [q]; exact h5
    · rw [h0 k hk q, s1 k hk]
      have : k = 0 ∨ k = 1 ∨ k = 2 ∨ k = 3 ∨ k = 4 ∨ k = 6 := by omega
      rcases this with rfl | rfl | rfl | rfl | rfl | rfl <;> rfl
  · have : k = 0 ∨ k = 1 ∨ k = 2 ∨ k = 3 ∨ k = 4 ∨ k = 5 ∨ k = 7 ∨ k = 8 := by omega
    rcases this with rfl | rfl | rfl | rfl | rfl | rfl | rfl | rfl
    · rw [g0, c 0 hk k6]; rfl
    · rw [g1, c 1 hk k6]; rfl
    · rw [g2, c 2 hk k6]; rfl
    · rw [gk 3 (by omega) (by omega), c 3 hk k6]; rfl
    · rw [gk 4 (by omega) (by omega), c 4 hk k6]; rfl
    · rw [gk 5 (by omega) (by omega), c 5 hk k6]; rfl
    · rw [gk 7 (by omega) (by omega), c 7 hk k6]; rfl
    · rw [g8, c 8 hk k6]; rfl
  · show cS Q.2.2 7 + 1 = cS Q.2.2 8 + 1
    rw [s3]
def sp_X1_sendPacket : SPc := fun As μ K => match As with
  | [.inr (.inr (14, a)), .inr (.inr (8, n)), .inl t, .inl d] => ∃ (X : CS) (E : Nat → Nat → Int32), CC μ.1 μ.2.1 a X ∧ SE μ.1 n E ∧ (n + 4 ≤ a ∨ a + 161 ≤ n) ∧ (∀ e, e < 16 → sOK (cB X e 2)) ∧ (∀ e, e < 16 → 0 < cB X e 0 → ¬ ekV X E e = -1) ∧ (wayL X).length < 12 ∧ 0 < t + d ∧ ∀ μ', CC μ'.1 μ'.2.1 a (if (flyL X).length < 12 then snd1 t d E X else X) → FRm μ μ' a (a + 161) → K (.inl none) μ'
  | _ => False
def ct_X1_sendPacket : List (Nat × CI) := [(158, ci_X4_isFull), (162, ci_X3_begin), (165, ci_X1_orderByPriority), (169, ci_X1_offerEntry), (179, ci_X4_addCopy)]
def ci_X1_sendPacket : CI := (yX1_sendPacket, cX1_sendPacket, 7, none, 4, (4, 0, 0, 95), 11, [], sp_X1_sendPacket)
set_option maxRecDepth 100000 in
theorem ck_X1_sendPacket : chkM ci_X1_sendPacket RX1 co_X1_sendPacket ct_X1_sendPacket [] false false = true := by decide +kernel
set_option maxHeartbeats 4000000 in
set_option maxRecDepth 100000 in
theorem ms_X1_sendPacket {g : GPT} {ot : OT} {l : Launch} (hl : l.stackTraces = false) (hot : otOK ot) : MS g ot l ci_X1_sendPacket := by
  refine ms_of hl RX1 co_X1_sendPacket ct_X1_sendPacket [] false false [54,90,142] 108 ck_X1_sendPacket (List.forall_mem_cons.mpr ⟨ms_X4_isFull hl, List.forall_mem_cons.mpr ⟨ms_X3_begin hl, List.forall_mem_cons.mpr ⟨ms_X1_orderByPriority hl, List.forall_mem_cons.mpr ⟨ms_X1_offerEntry hl hot, List.forall_mem_cons.mpr ⟨ms_X4_addCopy hl, fun _ h => nomatch h⟩⟩⟩⟩⟩) ?_
  intro As μ K h
  simp only [ci_X1_sendPacket, sp_X1_sendPacket] at h
  split at h
  case h_2 => exact h.elim
  rename_i a n t d
  obtain ⟨X, E, hX, hE, hn, hB2, hek, hw, htd, h⟩ := h
  obtain ⟨x1, x2, x3, x4, x5, x6⟩ := id hX
  have fl := x4.1
  have fl12 := x4.2.1
  have olen := ordN_len (cB X) 16
  refine ⟨Nat.le_of_ble_eq_true rfl, fun m pc lc st μ' ce sl => (∃ P l Q F, (flyL X).length < 12 ∧ ordN (cB X) 16 = P ++ l ∧ SQ E X P Q ∧ m = l.length + 10 ∧ pc = 54 ∧ lc = spL a n (μ.2.1 (a + 10) (flyL X).length) P.length (ordN (cB X) 16).length t d ∧ st = [] ∧ μ' = (F, μ.2) ∧ CBs F a (cB Q.2.2) ∧ PC true F (μ.2.1 (a + 10) (flyL X).length) (sdP X t d Q) ∧ OR (F (a + 160)) (ordN (cB X) 16) ∧ (∀ z, (z < μ.2.1 (a + 10) (flyL X).length ∨ μ.2.1 (a + 10) (flyL X).length + 6 ≤ z) → ¬ z = a + 2 → ¬ z = a + 160 → F z = μ.1 z) ∧ ce = 0 ∧ sl = 0) ∨
    (∃ F, (flyL X).length < 12 ∧ ¬ (sndQ E X).2.1 = [] ∧ m = 5 ∧ pc = 90 ∧ lc = spM a (μ.2.1 (a + 10) (flyL X).length) ∧ st = [] ∧ μ' = (F, μ.2) ∧ CBs F a (cB (sndQ E X).2.2) ∧ PC true F (μ.2.1 (a + 10) (flyL X).length) (sdP X t d (sndQ E X)) ∧ (∀ z, (z < μ.2.1 (a + 10) (flyL X).length ∨ μ.2.1 (a + 10) (flyL X).length + 6 ≤ z) → ¬ z = a + 2 → ¬ z = a + 160 → F z = μ.1 z) ∧ ce = 0 ∧ sl = 0) ∨
    (∃ F F0, (flyL X).length < 12 ∧ ¬ (sndQ E X).2.1 = [] ∧ m = 2 ∧ pc = 142 ∧ lc = spM a (μ.2.1 (a + 10) (flyL X).length) ∧ st = [] ∧ μ' = (F, μ.2) ∧ CBs F0 a (cB (sndQ E X).2.2) ∧ PC true F0 (μ.2.1 (a + 10) (flyL X).length) (sdP X t d (sndQ E X)) ∧ (∀ z, (z < μ.2.1 (a + 10) (flyL X).length ∨ μ.2.1 (a + 10) (flyL X).length + 6 ≤ z) → ¬ z = a + 2 → ¬ z = a + 160 → F0 z = μ.1 z) ∧ (∀ z, ¬ z = a + 1 → ¬ z = a + 9 → F z = F0 z) ∧ F (a + 9) 0 = nI ((flyL X).length + 1) ∧ F (a + 1) 0 = μ.1 (a + 1) 0 + 1 ∧ F (a + 1) 1 = μ.1 (a + 1) 1 + (sndQ E X).1 ∧ F (a + 1) 8 = μ.1 (a + 1) 8 + nI (sndQ E X).2.1.length ∧ (∀ k, ¬ k = 0 → ¬ k = 1 → ¬ k = 8 → F (a + 1) k = μ.1 (a + 1) k) ∧ ce = 0 ∧ sl = 0), ?_, ?_⟩
  · refine ⟨fun q => ⟨(flyL X).length, fl, ?_, ?_, 0, rfl, by omega, fun F1 hF1 hF1o => ⟨cB X, fun e he => ?_, fun F2 hF2 hF2o => ?_⟩⟩, fun q => ?_⟩
    · have q : iB (¬ μ.1 (a + 9) 0 < 12) = 0 := q
      rw [iB_eq0, fl, Classical.not_not] at q
      have q : nI (flyL X).length < nI 12 := q
      rw [nI_lt_iff (by omega) (by omega)] at q
      exact q
    · have q : iB (¬ μ.1 (a + 9) 0 < 12) = 0 := q
      rw [iB_eq0, fl, Classical.not_not] at q
      have q : nI (flyL X).length < nI 12 := q
      rw [nI_lt_iff (by omega) (by omega)] at q
      rw [x4.2.2.1.1]
      exact q
    · have q : iB (¬ μ.1 (a + 9) 0 < 12) = 0 := q
      rw [iB_eq0, fl, Classical.not_not] at q
      have q : nI (flyL X).length < nI 12 := q
      rw [nI_lt_iff (by omega) (by omega)] at q
      have r := x4.2.2.1.rng q
      have hF1o : ∀ b, ¬ b = μ.2.1 (a + 9 + 1) (flyL X).length → F1 b = μ.1 b := hF1o
      show F1 (a + 2) e = _
      rw [hF1o _ (by omega)]
      exact (x2 e he).1
    · have q : iB (¬ μ.1 (a + 9) 0 < 12) = 0 := q
      rw [iB_eq0, fl, Classical.not_not] at q
      have q : nI (flyL X).length < nI 12 := q
      rw [nI_lt_iff (by omega) (by omega)] at q
      have r := x4.2.2.1.rng q
      have r : a + 11 ≤ μ.2.1 (a + 10) (flyL X).length ∧ μ.2.1 (a + 10) (flyL X).length + 6 ≤ a + 83 := by
        have e : a + 9 + 1 = a + 10 := rfl
        rw [e] at r
        omega
      have hF1o : ∀ b, ¬ b = μ.2.1 (a + 10) (flyL X).length → F1 b = μ.1 b := hF1o
      have hF2o : ∀ z, ¬ z = a + 160 → F2 z = F1 z := hF2o
      refine ⟨(ordN (cB X) 16).length + 10, spL a n (μ.2.1 (a + 10) (flyL X).length) 0 (ordN (cB X) 16).length t d, ⟨rfl, rfl, rfl, rfl, rfl, rfl, rfl, trivial⟩, Or.inl ⟨[], ordN (cB X) 16, (4, [], X), F2, q, rfl, SQ_0 E X, rfl, rfl, rfl, rfl, rfl, ?_, ?_, hF2, fun z hz hz2 hz3 => ?_, rfl, rfl⟩⟩
      · refine CBs.keep x2 fun z z1 z2 => ?_
        rw [hF2o _ (by omega), hF1o _ (by omega)]
      · have hF1 : PC true F1 (μ.2.1 (a + 10) (flyL X).length) (bgP (μ.1 (a + 1) 0 + Int32.ofInt 1) t (t + d)) := hF1
        have e0 : μ.1 (a + 1) 0 = cS X 8 := x1.2.1 0 (by omega) (by omega)
        rw [e0] at hF1
        refine (hF1.keep fun z z1 z2 => hF2o z (by omega)).as ⟨rfl, rfl, rfl, fun _ => rfl, rfl⟩
      · rw [hF2o _ hz3]
        exact hF1o z (by omega)
    · have q : ¬ iB (¬ μ.1 (a + 9) 0 < 12) = 0 := q
      rw [iB_ne0, fl] at q
      have q : ¬ nI (flyL X).length < nI 12 := q
      rw [nI_lt_iff (by omega) (by omega)] at q
      refine h _ ?_ ⟨fun z _ => ⟨rfl, rfl⟩, rfl⟩
      rw [if_neg q]
      exact hX
  · rintro m pc lc st μ' ce sl (⟨P, l, Q, F, hf, ho, hQ, rfl, rfl, rfl, rfl, rfl, hb, hp, hor, hF, rfl, rfl⟩ | ⟨F, hf, hne, rfl, rfl, rfl, rfl, rfl, hb, hp, hF, rfl, rfl⟩ | ⟨F, F0, hf, hne, rfl, rfl, rfl, rfl, rfl, hb, hp, hF0, hF, f9, c0, c1, c8, ck, rfl, rfl⟩)
    · have r := x4.2.2.1.rng hf
      have r : a + 11 ≤ μ.2.1 (a + 10) (flyL X).length ∧ μ.2.1 (a + 10) (flyL X).length + 6 ≤ a + 83 := by
        have e : a + 9 + 1 = a + 10 := rfl
        rw [e] at r
        omega
      obtain ⟨y1, y2, y3, y4⟩ : cS Q.2.2 = cS X ∧ cA Q.2.2 = cA X ∧ cP Q.2.2 = cP X ∧ cR Q.2.2 = cR X := by
        rw [hQ.1]
        exact putL_S E P (4, [], X)
      have plen : P.length + l.length ≤ 16 := by
        rw [ho, List.length_append] at olen
        exact olen
      have hSF : CSc F a (cS Q.2.2) := by
        rw [y1]
        exact x1.keep fun z z1 z2 => hF z (by omega) (by omega) (by omega)
      refine ⟨fun q => ?_, fun q => ?_⟩
      · have q : nI (ordN (cB X) 16).length ≤ nI P.length := q
        rw [nI_le_iff (by omega) (by omega), ho, List.length_append] at q
        have l0 : l = [] := List.length_eq_zero_iff.mp (by omega)
        subst l0
        rw [List.append_nil] at ho
        have hq : sndQ E X = Q := by
          unfold sndQ
          rw [ho]
          exact hQ.1.symm
        refine ⟨fun q2 => ⟨5, spM a (μ.2.1 (a + 10) (flyL X).length), by omega, ⟨rfl, rfl, trivial⟩, Or.inr (Or.inl ⟨F, hf, ?_, rfl, rfl, rfl, rfl, rfl, by rw [hq]; exact hb, by rw [hq]; exact hp, hF, rfl, rfl⟩)⟩, fun q2 => ?_⟩
        · have q2 : ¬ F (μ.2.1 (a + 10) (flyL X).length) 2 = 0 := q2
          rw [hp.2.2.1] at q2
          rw [hq]
          intro w
          have w2 : (sdP X t d Q).2 = [] := w
          rw [w2] at q2
          exact q2 rfl
        · have q2 : ¬ ¬ F (μ.2.1 (a + 10) (flyL X).length) 2 = 0 := q2
          rw [hp.2.2.1, z_nI, nI_eq_iff (by have : (sdP X t d Q).2.length ≤ 16 := hp.2.2.2.2.2.1; omega) (by omega), Classical.not_not] at q2
          have q0 : Q.2.1 = [] := List.length_eq_zero_iff.mp q2
          have hx := hQ.2.2.1 q0
          refine h _ ?_ ⟨fun z hz => ⟨hF z (by omega) (by omega) (by omega), rfl⟩, rfl⟩
          have e : (if (flyL X).length < 12 then snd1 t d E X else X) = X := by
            rw [if_pos hf]
            unfold snd1
            rw [hq, if_pos q0]
          rw [e]
          rw [hx] at hb
          refine ⟨x1.keep fun z z1 z2 => hF z (by omega) (by omega) (by omega), hb, x3.keep fun z z1 z2 => hF z (by omega) (by omega) (by omega), ⟨?_, x4.2.1, x4.2.2.1, fun j p hj => ?_⟩, x5.keep (fun z z1 z2 => hF z (by omega) (by omega) (by omega)) rfl, x6.keep fun z z1 z2 => hF z (by omega) (by omega) (by omega)⟩
          · show F (a + 9) 0 = _
            rw [hF _ (by omega) (by omega) (by omega)]
            exact fl
          · have hjl : j < (flyL X).length := (List.getElem?_eq_some_iff.mp hj).1
            have s := x4.2.2.1.sep (i := j) (j := (flyL X).length) (by omega) hf (by omega)
            have r2 := x4.2.2.1.rng (j := j) (by omega)
            refine (x4.2.2.2 j p hj).keep fun z z1 z2 => hF z ?_ (by omega) (by omega)
            have e : a + 9 + 1 = a + 10 := rfl
            rw [e] at s z1 z2
            omega
      · have q : ¬ nI (ordN (cB X) 16).length ≤ nI P.length := q
        rw [nI_le_iff (by omega) (by omega), ho, List.length_append] at q
        obtain ⟨e, l', rfl⟩ : ∃ e l', l = e :: l' := by
          cases l with
          | nil => exact absurd q (by simp)
          | cons e l' => exact ⟨e, l', rfl⟩
        have hme : e ∈ ordN (cB X) 16 := by rw [ho]; exact List.mem_append_right _ List.mem_cons_self
        obtain ⟨he, hpe⟩ := (ordN_mem (cB X) e 16).mp hme
        have hoe : (ordN (cB X) 16)[P.length]? = some e := by
          rw [ho, List.getElem?_append_right (Nat.le_refl _), Nat.sub_self]
          rfl
        have hek' : ¬ ekV Q.2.2 E e = -1 := by
          rw [ekV_same y1 (hQ.2.2.2.2.2 e 2 (by omega))]
          exact hek e he hpe
        have hb2 : sOK (cB Q.2.2 e 2) := by
          rw [hQ.2.2.2.2.2 e 2 (by omega)]
          exact hB2 e he
        have hEF : SE F n E := fun x hx => by
          rw [hF _ (by omega) (by omega) (by omega)]
          exact hE x hx
        have ho' : ordN (cB X) 16 = (P ++ [e]) ++ l' := by rw [ho, List.append_assoc]; rfl
        have hQ' := SQ_S hQ e
        have plen2 : P.length + (l'.length + 1) ≤ 16 := plen
        have qlen := hQ.2.1
        have lcs : subL (spL a n (μ.2.1 (a + 10) (flyL X).length) (P ++ [e]).length (ordN (cB X) 16).length t d) [some (.inr (.inr (14, a))), some (.inr (.inr (8, n))), some (.inl t), some (.inl d), some (.inr (.inr (11, μ.2.1 (a + 10) (flyL X).length))), some (.inl (nI (ordN (cB X) 16).length)), some (.inl (nI P.length + Int32.ofInt 1))] := ⟨rfl, rfl, rfl, rfl, rfl, rfl, by rw [List.length_append]; exact inc_tv _, trivial⟩
        refine ⟨P.length, rfl, by omega, e, Q.2.2, E, sdP X t d Q, hor _ _ hoe, he, hSF, hb, hEF, hb2, hek', hp, by show Q.2.1.length < 16; omega, r, hn, fun w => ⟨l'.length + 10, _, by show _ < l'.length + 1 + 10; omega, lcs, Or.inl ⟨P ++ [e], l', putQ E Q e, F, hf, ho', hQ', rfl, rfl, rfl, rfl, rfl, ?_, ?_, hor, hF, rfl, rfl⟩⟩, fun w F' hF' hB' hFo => ⟨l'.length + 10, _, by show _ < l'.length + 1 + 10; omega, lcs, Or.inl ⟨P ++ [e], l', putQ E Q e, F', hf, ho', hQ', rfl, rfl, rfl, rfl, rfl, ?_, ?_, ?_, ?_, rfl, rfl⟩⟩⟩
        · have e1 : putQ E Q e = Q := if_neg w
          rw [e1]; exact hb
        · have e1 : putQ E Q e = Q := if_neg w
          rw [e1]; exact hp
        · have e1 : putQ E Q e = (Q.1 + nI (prc Q.2.2 E e), Q.2.1 ++ [mkE Q.2.2 E e], setB Q.2.2 e 0 0) := if_pos w
          rw [e1]; exact hB'
        · have e1 : putQ E Q e = (Q.1 + nI (prc Q.2.2 E e), Q.2.1 ++ [mkE Q.2.2 E e], setB Q.2.2 e 0 0) := if_pos w
          rw [e1]
          exact PC.as hF' ⟨rfl, rfl, rfl, fun _ => rfl, rfl⟩
        · have hFo : ∀ z, (z < μ.2.1 (a + 10) (flyL X).length ∨ μ.2.1 (a + 10) (flyL X).length + 6 ≤ z) → ¬ z = a + 2 → F' z = F z := hFo
          rw [hFo _ (by omega) (by omega)]
          exact hor
        · have hFo : ∀ z, (z < μ.2.1 (a + 10) (flyL X).length ∨ μ.2.1 (a + 10) (flyL X).length + 6 ≤ z) → ¬ z = a + 2 → F' z = F z := hFo
          intro z hz hz2 hz3
          rw [hFo z hz hz2]
          exact hF z hz hz2 hz3
    · have r := x4.2.2.1.rng hf
      have r : a + 11 ≤ μ.2.1 (a + 10) (flyL X).length ∧ μ.2.1 (a + 10) (flyL X).length + 6 ≤ a + 83 := by
        have e : a + 9 + 1 = a + 10 := rfl
        rw [e] at r
        omega
      have cc : ∀ k, F (a + 1) k = μ.1 (a + 1) k := fun k => by rw [hF _ (by omega) (by omega) (by omega)]
      have p1 : F (μ.2.1 (a + 10) (flyL X).length) 1 = (sndQ E X).1 := hp.2.1
      have p2 : F (μ.2.1 (a + 10) (flyL X).length) 2 = nI (sndQ E X).2.1.length := hp.2.2.1
      generalize μ.2.1 (a + 10) (flyL X).length = s at *
      refine ⟨0, rfl, by omega, 0, rfl, by omega, 1, rfl, by omega, 1, rfl, by omega, 8, rfl, by omega, 8, rfl, by omega, 2, spM a s, by omega, ⟨rfl, rfl, trivial⟩, Or.inr (Or.inr ⟨_, F, hf, hne, rfl, rfl, rfl, rfl, rfl, hb, hp, hF, fun z hz hz2 => ?_, ?_, ?_, ?_, ?_, fun k k0 k1 k8 => ?_, rfl, rfl⟩)⟩
      · dsimp only
        simp (disch := omega) only [u2_ne]
      · dsimp only
        simp (disch := omega) only [u2_ne, u2_eq]
        rw [hF _ (by omega) (by omega) (by omega), fl]
        exact nI_add _ 1
      · dsimp only
        simp (disch := omega) only [u2_ne, u2_nj, u2_eq]
        rw [cc]
        rfl
      · dsimp only
        simp (disch := omega) only [u2_ne, u2_nj, u2_eq]
        rw [cc, p1]
      · dsimp only
        simp (disch := omega) only [u2_ne, u2_nj, u2_eq]
        rw [cc, p2]
      · dsimp only
        simp (disch := omega) only [u2_ne, u2_nj]
        exact cc k
    · have r := x4.2.2.1.rng hf
      have r : a + 11 ≤ μ.2.1 (a + 10) (flyL X).length ∧ μ.2.1 (a + 10) (flyL X).length + 6 ≤ a + 83 := by
        have e : a + 9 + 1 = a + 10 := rfl
        rw [e] at r
        omega
      obtain ⟨y1, y2, y3, y4⟩ : cS (sndQ E X).2.2 = cS X ∧ cA (sndQ E X).2.2 = cA X ∧ cP (sndQ E X).2.2 = cP X ∧ cR (sndQ E X).2.2 = cR X := putL_S E (ordN (cB X) 16) (4, [], X)
      have yf : flyL (sndQ E X).2.2 = flyL X := by unfold flyL; rw [y3]
      have yw : wayL (sndQ E X).2.2 = wayL X := by unfold wayL; rw [y3]
      have hs : (if (flyL X).length < 12 then snd1 t d E X else X) = lau t d (sndQ E X) := by
        rw [if_pos hf]
        unfold snd1
        rw [if_neg hne]
      rw [hs] at h
      have f5 : F a 5 = cS X 5 := by
        rw [hF _ (by omega) (by omega), hF0 _ (by omega) (by omega) (by omega)]
        exact x1.1 5 (by omega)
      have fa : ∀ k, F a k = μ.1 a k := fun k => by rw [hF _ (by omega) (by omega), hF0 _ (by omega) (by omega) (by omega)]
      have fin : ∀ F', (∀ z, ¬ z = a → ¬ z = a + 1 → (z < a + 83 ∨ a + 157 ≤ z) → F' z = F z) → CSc F' a (cS (lau t d (sndQ E X))) → PL true F' μ.2.1 (a + 83) (wayL (lau t d (sndQ E X))) → K (.inl none) (F', μ.2) := fun F' hF' hS' hW' => by
        have go : ∀ z, ¬ z = a → ¬ z = a + 1 → ¬ z = a + 9 → (z < a + 83 ∨ a + 157 ≤ z) → (z < μ.2.1 (a + 10) (flyL X).length ∨ μ.2.1 (a + 10) (flyL X).length + 6 ≤ z) → ¬ z = a + 2 → ¬ z = a + 160 → F' z = μ.1 z := fun z h1 h2 h3 h4 h5 h6 h7 => by
          rw [hF' z h1 h2 h4, hF z h2 h3]
          exact hF0 z h5 h6 h7
        refine h (F', μ.2) ⟨hS', ?_, ?_, ?_, hW', ?_⟩ ⟨fun z hz => ⟨go z (by omega) (by omega) (by omega) (by omega) (by omega) (by omega) (by omega), rfl⟩, rfl⟩
        · show CBs F' a (cB (sndQ E X).2.2)
          refine hb.keep fun z z1 z2 => ?_
          rw [hF' _ (by omega) (by omega) (by omega), hF _ (by omega) (by omega)]
        · show CD F' (a + 5) (cR (sndQ E X).2.2)
          rw [y4]
          exact x3.keep fun z z1 z2 => go z (by omega) (by omega) (by omega) (by omega) (by omega) (by omega) (by omega)
        · rw [flyL_lau, yf]
          refine ⟨?_, by rw [List.length_append]; exact hf, x4.2.2.1, fun j p hj => ?_⟩
          · show F' (a + 9) 0 = _
            rw [hF' _ (by omega) (by omega) (by omega), f9, List.length_append]
            rfl
          · have hjl : j < (flyL X ++ [(hdr t d (sndQ E X).1 (sndQ E X).2.2, (sndQ E X).2.1)]).length := (List.getElem?_eq_some_iff.mp hj).1
            rw [List.length_append] at hjl
            have hjl : j < (flyL X).length + 1 := hjl
            by_cases w : j < (flyL X).length
            · rw [List.getElem?_append_left w] at hj
              have s := x4.2.2.1.sep (i := j) (j := (flyL X).length) (by omega) hf (by omega)
              have r2 := x4.2.2.1.rng (j := j) (by omega)
              refine (x4.2.2.2 j p hj).keep fun z z1 z2 => ?_
              have e : a + 9 + 1 = a + 10 := rfl
              rw [e] at s r2 z1 z2
              exact go z (by omega) (by omega) (by omega) (by omega) (by omega) (by omega) (by omega)
            · obtain rfl : j = (flyL X).length := by omega
              rw [List.getElem?_append_right (Nat.le_refl _), Nat.sub_self] at hj
              cases hj
              show PC false F' (μ.2.1 (a + 10) (flyL X).length) _
              refine (hp.loose.keep fun z z1 z2 => ?_).as ⟨?_, rfl, rfl, fun w => absurd w (by decide), rfl⟩
              · rw [hF' _ (by omega) (by omega) (by omega), hF _ (by omega) (by omega)]
              · show cS (sndQ E X).2.2 7 + 1 = cS X 8 + 1
                rw [y1, x1.2.2]
        · show CA F' (a + 157) (cA (sndQ E X).2.2)
          rw [y2]
          exact x6.keep fun z z1 z2 => go z (by omega) (by omega) (by omega) (by omega) (by omega) (by omega) (by omega)
      have x1' : CSc μ.1 a (cS (sndQ E X).2.2) := by rw [y1]; exact x1
      have hW : PL true F μ.2.1 (a + 83) (wayL X) := x5.keep (fun z z1 z2 => by rw [hF _ (by omega) (by omega), hF0 _ (by omega) (by omega) (by omega)]) rfl
      refine ⟨fun q => ⟨wayL X, sdP X t d (sndQ E X), hW, hw, hp.keep fun z z1 z2 => hF z (by omega) (by omega), by omega, fun F' hF' hFo => ?_⟩, fun q => ⟨2, rfl, by omega, 2, rfl, by omega, ?_⟩⟩
      · have q : F a 5 ≤ 0 := q
        rw [f5] at q
        have q' : ¬ 0 < cS (sndQ E X).2.2 5 := by rw [y1]; exact Int32.not_lt.mpr q
        have hFo : ∀ z, (z < a + 83 ∨ a + 83 + 74 ≤ z) → F' z = F z := hFo
        refine fin F' (fun z _ _ hz => hFo z (by omega)) (CSc.lau t d x1' (fun k hk k5 => ?_) ?_ ?_ ?_ ?_ ?_ fun k hk k2 => ?_) ?_
        · rw [hFo _ (by omega)]; exact fa k
        · rw [hFo _ (by omega), f5, y1, if_neg (Int32.not_lt.mpr q)]
        · rw [hFo _ (by omega)]; exact c0
        · rw [hFo _ (by omega)]; exact c1
        · rw [hFo _ (by omega), if_neg q']
          exact ck 2 (by omega) (by omega) (by omega)
        · rw [hFo _ (by omega)]; exact c8
        · rw [hFo _ (by omega)]
          exact ck k (by omega) (by omega) (by omega)
        · rw [wayL_lau t d _ htd, if_neg q', yw]
          refine hF'.as (by rw [List.length_append, List.length_append]; rfl) fun j p p' hj hj' => ?_
          have hjl : j < (wayL X ++ [sdP X t d (sndQ E X)]).length := (List.getElem?_eq_some_iff.mp hj).1
          rw [List.length_append] at hjl
          have hjl : j < (wayL X).length + 1 := hjl
          by_cases w : j < (wayL X).length
          · rw [List.getElem?_append_left w] at hj hj'
            rw [hj] at hj'
            cases hj'
            exact ⟨rfl, rfl, rfl, fun _ => rfl, rfl⟩
          · obtain rfl : j = (wayL X).length := by omega
            rw [List.getElem?_append_right (Nat.le_refl _), Nat.sub_self] at hj hj'
            cases hj
            cases hj'
            refine ⟨?_, rfl, rfl, fun _ => ?_, rfl⟩
            · show cS (sndQ E X).2.2 7 + 1 = cS X 8 + 1
              rw [y1, x1.2.2]
            · show (if 0 < cS (sndQ E X).2.2 5 then 0 else t + d) = t + d
              rw [if_neg q']
      · have q : ¬ F a 5 ≤ 0 := q
        rw [f5] at q
        have q' : 0 < cS (sndQ E X).2.2 5 := by rw [y1]; exact Int32.not_le.mp q
        refine fin _ (fun z hz hz2 _ => ?_) (CSc.lau t d x1' (fun k hk k5 => ?_) ?_ ?_ ?_ ?_ ?_ fun k hk k2 => ?_) ?_
        · dsimp only
          rw [u2_ne _ _ hz2, u2_ne _ _ hz]
        · dsimp only
          rw [u2_ne _ _ (by omega), u2_nj _ _ k5]
          exact fa k
        · dsimp only
          rw [u2_ne _ _ (by omega), u2_eq, if_pos q', f5, y1, Int32.sub_eq_add_neg]
          rfl
        · dsimp only
          simp (disch := omega) only [u2_ne, u2_nj]
          exact c0
        · dsimp only
          simp (disch := omega) only [u2_ne, u2_nj]
          exact c1
        · dsimp only
          simp (disch := omega) only [u2_ne, u2_eq]
          rw [if_pos q', ck 2 (by omega) (by omega) (by omega)]
          rfl
        · dsimp only
          simp (disch := omega) only [u2_ne, u2_nj]
          exact c8
        · dsimp only
          simp (disch := omega) only [u2_ne, u2_nj]
          exact ck k (by omega) (by omega) (by omega)
        · rw [wayL_lau t d _ htd, if_pos q', yw]
          refine hW.keep (fun z z1 z2 => ?_) rfl
          dsimp only
          rw [u2_ne _ _ (by omega), u2_ne _ _ (by omega)]
