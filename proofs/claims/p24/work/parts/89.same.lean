/-! THE LAW: same. -/
def smB (a b : Int32) : Nat → Int32
  | 0 => 1
  | n + 1 => if smB a b n = 0 then 0 else if nI (pz a n) = nI (pz b n) then 1 else 0
theorem smB_01 (a b : Int32) : ∀ n, smB a b n = 0 ∨ smB a b n = 1
  | 0 => Or.inr rfl
  | n + 1 => by
    unfold smB
    split
    · exact Or.inl rfl
    · split
      · exact Or.inr rfl
      · exact Or.inl rfl
theorem smB_1 (a b : Int32) : ∀ n, smB a b n = 1 ↔ ∀ k, k < n → nI (pz a k) = nI (pz b k)
  | 0 => ⟨fun _ k hk => absurd hk (Nat.not_lt_zero k), fun _ => rfl⟩
  | n + 1 => by
    have ih := smB_1 a b n
    have e : smB a b (n + 1) = if smB a b n = 0 then 0 else if nI (pz a n) = nI (pz b n) then 1 else 0 := rfl
    rw [e]
    rcases smB_01 a b n with q | q
    · rw [if_pos q]
      refine ⟨fun w => absurd w (by decide), fun w => ?_⟩
      rw [ih.mpr fun k hk => w k (by omega)] at q
      exact absurd q (by decide)
    · rw [if_neg (by rw [q]; decide)]
      by_cases c : nI (pz a n) = nI (pz b n)
      · rw [if_pos c]
        refine ⟨fun _ k hk => ?_, fun _ => rfl⟩
        by_cases w : k = n
        · rw [w]
          exact c
        · exact ih.mp q k (by omega)
      · rw [if_neg c]
        exact ⟨fun w => absurd w (by decide), fun w => (c (w n (by omega))).elim⟩
theorem smB_4 {a b : Int32} (ha : sOK a) (hb : sOK b) (na : ¬ a = -1) (nb : ¬ b = -1) : smB a b 4 = iB (a = b) := by
  obtain ⟨n, n1, n2, n3⟩ := sOK_ne ha na
  obtain ⟨m, m1, m2, m3⟩ := sOK_ne hb nb
  have za : ∀ k, pz a k = prt n k := fun k => by
    unfold pz
    rw [if_neg na, n3]
  have zb : ∀ k, pz b k = prt m k := fun k => by
    unfold pz
    rw [if_neg nb, m3]
  by_cases c : a = b
  · rw [iB_1 c]
    exact (smB_1 a b 4).mpr fun k _ => by rw [c]
  · rw [iB_0 c]
    rcases smB_01 a b 4 with q | q
    · exact q
    · exfalso
      have h := (smB_1 a b 4).mp q
      have g : ∀ k, k < 4 → prt n k = prt m k := fun k hk => by
        have := h k hk
        rw [za, zb] at this
        have l1 := prt_lt n1 k
        have l2 := prt_lt m1 k
        exact nI_inj (by omega) (by omega) this
      have g0 := g 0 (by omega)
      have g1 := g 1 (by omega)
      have g2 := g 2 (by omega)
      have g3 := g 3 (by omega)
      simp only [prt] at g0 g1 g2 g3
      have : n = m := by omega
      exact c (by rw [n2, m2, this])
theorem enV_p (E : Nat → Nat → Int32) (e : Nat) {k : Nat} (h1 : 1 ≤ k) (h5 : k < 5) : enV E e k = nI (pz (E e 0) (k - 1)) := by
  unfold enV
  rw [if_neg (by omega), if_pos h5]
def saL (x i j : Nat) (b is : Int32) (k : Nat) : LC := [some (.inr (.inr (19, x))), some (.inl (nI i)), some (.inl (nI j)), some (.inl b), some (.inl is), some (.inl (nI k))]
def sp_L_same : SPc := fun As μ K => match As with
  | [.inr (.inr (19, x)), .inl c, .inl e, .inl b] => ∃ (M : Nat) (W : WS) (U : List WS) (i j : Nat) (S : Int32), WKS M W U ∧ M + 200 < 2 ^ 31 ∧ CXo μ x W U ∧ i < 3 ∧ j < 16 ∧ c = nI i ∧ e = nI j ∧ ((b = 1 ∧ cnn (wC W i) ∧ S = cB (wC W i) j 2) ∨ (b = 0 ∧ S = lastS (cR (wC W i) j))) ∧ (sOK S ∧ ¬ S = -1) ∧ (sOK (wE W j 0) ∧ ¬ wE W j 0 = -1) ∧ ∀ μ', CXo μ' x W U → FRq μ μ' x → K (.inl (some (.inl (iB (wE W j 0 = S))))) μ'
  | _ => False
def ct_L_same : List (Nat × CI) := [(80, ci_L_entity), (85, ci_L_kept), (88, ci_L_copy)]
def ci_L_same : CI := (yL_same, cL_same, 6, some .boolean, 4, (9, 24, 144, 160), 0, [], sp_L_same)
set_option maxRecDepth 100000 in
theorem ck_L_same : chkM ci_L_same RL co_L_same ct_L_same [] true false = true := by decide +kernel
set_option maxHeartbeats 4000000 in
set_option maxRecDepth 100000 in
theorem ms_L_same {g : GPT} {ot : OT} {l : Launch} (hl : l.stackTraces = false) (hot : otOK ot) : MS g ot l ci_L_same := by
  refine ms_of hl RL co_L_same ct_L_same [] true false [6,57] 42 ck_L_same (List.forall_mem_cons.mpr ⟨ms_L_entity hl hot, List.forall_mem_cons.mpr ⟨ms_L_kept hl hot, List.forall_mem_cons.mpr ⟨ms_L_copy hl hot, fun _ h => nomatch h⟩⟩⟩) ?_
  intro As μ K h
  simp only [ci_L_same, sp_L_same] at h
  split at h
  case h_2 => exact h.elim
  rename_i x c e b
  obtain ⟨M, W, U, i, j, S, hK, hM, hX, hi, hj, rfl, rfl, hb, ⟨s1, s2⟩, ⟨t1, t2⟩, h⟩ := h
  refine ⟨Nat.le_of_ble_eq_true rfl, fun m pc lc st μ' ce sl => CXo μ' x W U ∧ FRq μ μ' x ∧ ∃ k, 1 ≤ k ∧ k ≤ 5 ∧ ((pc = 6 ∧ st = [] ∧ lc = saL x i j b (smB (wE W j 0) S (k - 1)) k ∧ m = 2 * (6 - k) ∧ ce ≤ 6 * (k - 1) ∧ sl ≤ 36 * (k - 1)) ∨
    (k < 5 ∧ pc = 57 ∧ st = [.inl (smB (wE W j 0) S k)] ∧ (∃ is, lc = saL x i j b is k) ∧ m = 2 * (6 - k) - 1 ∧ ce ≤ 6 * k ∧ sl ≤ 36 * k)), ?_, ?_⟩
  · exact ⟨2 * (6 - 1), saL x i j b 1 1, by exact ⟨rfl, rfl, rfl, rfl, rfl, rfl, trivial⟩, hX, FRq.refl _ _, 1, by omega, by omega, Or.inl ⟨rfl, rfl, rfl, rfl, by omega, by omega⟩⟩
  · rintro m pc lc st μ' ce sl ⟨hX', hF, k, hk1, hk5, (⟨rfl, rfl, rfl, rfl, hce, hsl⟩ | ⟨hk, rfl, rfl, ⟨is, rfl⟩, rfl, hce, hsl⟩)⟩
    · have nx : ∀ (ν : MM) (v is : Int32) (ce' sl' : Nat), k < 5 → v = smB (wE W j 0) S k → CXo ν x W U → FRq μ ν x → ce' ≤ 6 * k → sl' ≤ 36 * k → ∃ n' lc', n' < 2 * (6 - k) ∧ subL lc' (saL x i j b is k) ∧ CXo ν x W U ∧ FRq μ ν x ∧ ∃ k, 1 ≤ k ∧ k ≤ 5 ∧ ((57 = 6 ∧ ([.inl v] : List TV) = [] ∧ lc' = saL x i j b (smB (wE W j 0) S (k - 1)) k ∧ n' = 2 * (6 - k) ∧ ce' ≤ 6 * (k - 1) ∧ sl' ≤ 36 * (k - 1)) ∨
          (k < 5 ∧ 57 = 57 ∧ ([.inl v] : List TV) = [.inl (smB (wE W j 0) S k)] ∧ (∃ is, lc' = saL x i j b is k) ∧ n' = 2 * (6 - k) - 1 ∧ ce' ≤ 6 * k ∧ sl' ≤ 36 * k)) := by
        intro ν v is ce' sl' hk hv hν hf h1 h2
        rw [hv]
        exact ⟨2 * (6 - k) - 1, _, by omega, subL_rf, hν, hf, k, hk1, hk5, Or.inr ⟨hk, rfl, rfl, ⟨_, rfl⟩, rfl, h1, h2⟩⟩
      have es : ∀ k', k = k' + 1 → smB (wE W j 0) S k = if smB (wE W j 0) S (k - 1) = 0 then 0 else if nI (pz (wE W j 0) (k - 1)) = nI (pz S (k - 1)) then 1 else 0 := fun k' hk' => by
        subst hk'
        rfl
      have es := es (k - 1) (by omega)
      refine ⟨fun q => ?_, fun q => ⟨fun q2 => ?_, fun q2 => ?_⟩⟩
      · have q : nI 5 ≤ nI k := q
        rw [nI_le_iff (by omega) (by omega)] at q
        obtain rfl : k = 5 := by omega
        refine ⟨smB_01 _ _ _, ?_⟩
        show K (.inl (some (.inl (smB (wE W j 0) S 4)))) μ'
        rw [smB_4 t1 s1 t2 s2]
        exact h μ' hX' hF
      · have q : ¬ nI 5 ≤ nI k := q
        rw [nI_le_iff (by omega) (by omega)] at q
        have q2 : smB (wE W j 0) S (k - 1) = 0 := q2
        exact nx μ' _ _ _ _ (by omega) (by rw [es, if_pos q2]; rfl) hX' hF (by omega) (by omega)
      · have q : ¬ nI 5 ≤ nI k := q
        rw [nI_le_iff (by omega) (by omega)] at q
        have q2 : ¬ smB (wE W j 0) S (k - 1) = 0 := q2
        rw [if_neg q2] at es
        have b1 : ce + 2 ≤ 24 := by omega
        have b2 : sl + 12 ≤ 144 := by omega
        refine ⟨⟨b1, b2⟩, M, W, U, hK, hM, hX', fun μ2 hX2 hF2 => ⟨fun q3 => ?_, fun q3 => ?_⟩⟩
        · rcases hb with ⟨rfl, _⟩ | ⟨rfl, hS⟩
          · exact absurd (show (1 : Int32) = 0 from q3) (by decide)
          · refine ⟨⟨by show ce + 2 + 3 ≤ 24; omega, by show sl + 12 + 18 ≤ 144; omega⟩, M, W, U, hK, hM, hX2, fun μ3 hX3 hF3 => ?_⟩
            have e1 : ansR xc0 (oEnt (nI j) (nI k) W U) = nI (pz (wE W j 0) (k - 1)) := (an_ent hj (by omega) W U).trans (enV_p _ _ hk1 (by omega))
            have e2 : ansR xc0 (oCopy (nI i) (nI j) (nI k) W U) = nI (pz S (k - 1)) := (an_copy hi hj (by omega) W U).trans ((cpV_d _ (by omega) (by omega) (by omega)).trans (by rw [hS]))
            refine ⟨fun q4 => ?_, fun q4 => ?_⟩
            · have q4 : ¬ ansR xc0 (oEnt (nI j) (nI k) W U) = ansR xc0 (oCopy (nI i) (nI j) (nI k) W U) := q4
              rw [e1, e2] at q4
              exact nx μ3 _ _ _ _ (by omega) (by rw [es, if_neg q4]; rfl) hX3 (hF.trans (hF2.trans hF3)) (by omega) (by omega)
            · have q4 : ¬ ¬ ansR xc0 (oEnt (nI j) (nI k) W U) = ansR xc0 (oCopy (nI i) (nI j) (nI k) W U) := q4
              rw [e1, e2] at q4
              exact nx μ3 _ _ _ _ (by omega) (by rw [es, if_pos (Classical.not_not.mp q4)]; rfl) hX3 (hF.trans (hF2.trans hF3)) (by omega) (by omega)
        · rcases hb with ⟨rfl, hcn, hS⟩ | ⟨rfl, _⟩
          · refine ⟨⟨by show ce + 2 + 4 ≤ 24; omega, by show sl + 12 + 24 ≤ 144; omega⟩, M, W, U, hK, hM, hX2, fun μ3 hX3 hF3 => ?_⟩
            have e1 : ansR xc0 (oEnt (nI j) (nI k) W U) = nI (pz (wE W j 0) (k - 1)) := (an_ent hj (by omega) W U).trans (enV_p _ _ hk1 (by omega))
            have e2 : ansR xc0 (oKept (nI i) (nI j) (Int32.ofInt 2 + nI k) W U) = nI (pz S (k - 1)) := by
              have e3 : Int32.ofInt 2 + nI k = nI (2 + k) := nI_add 2 k
              rw [e3, an_kept hi hj (by omega) hcn, kpV_d _ _ _ (by omega) (by omega), hS]
              have e4 : 2 + k - 3 = k - 1 := by omega
              rw [e4]
            refine ⟨fun q4 => ?_, fun q4 => ?_⟩
            · have q4 : ¬ ansR xc0 (oEnt (nI j) (nI k) W U) = ansR xc0 (oKept (nI i) (nI j) (Int32.ofInt 2 + nI k) W U) := q4
              rw [e1, e2] at q4
              exact nx μ3 _ _ _ _ (by omega) (by rw [es, if_neg q4]; rfl) hX3 (hF.trans (hF2.trans hF3)) (by omega) (by omega)
            · have q4 : ¬ ¬ ansR xc0 (oEnt (nI j) (nI k) W U) = ansR xc0 (oKept (nI i) (nI j) (Int32.ofInt 2 + nI k) W U) := q4
              rw [e1, e2] at q4
              exact nx μ3 _ _ _ _ (by omega) (by rw [es, if_pos (Classical.not_not.mp q4)]; rfl) hX3 (hF.trans (hF2.trans hF3)) (by omega) (by omega)
          · exact absurd (rfl : (0 : Int32) = 0) q3
    · refine ⟨2 * (6 - (k + 1)), saL x i j b (smB (wE W j 0) S (k + 1 - 1)) (k + 1), by omega, ⟨rfl, rfl, rfl, rfl, rfl, inc_tv k, trivial⟩, hX', hF, k + 1, by omega, by omega, Or.inl ⟨rfl, rfl, rfl, rfl, by omega, by omega⟩⟩
