/-! THE LAW: what packets in flight answer. -/
theorem an_pkt {c p w : Nat} {X : PK} (hc : c < 3) {W : WS} (hp : (flyL (wC W c))[p]? = some X) (hl : p < 2 ^ 31) (hw : w ≤ 3) (U : List WS) : ansR xc0 (oPkt (nI c) (nI p) (nI w) W U) = pkV (wT W 0) X w := by
  have P : inR 0 3 (nI w) := inR_n (n := 3) hw (by omega)
  have fa : flyA (wC W (sN (nI c))) (nI p) = some X := by
    rw [sNi (by omega)]
    exact flyA_at hp hl
  rw [oPkt_0 (isC_m hc) fa P, ansR_0 rfl]
  show pkV (wT W 0) X (sN (nI w)) = _
  rw [sNi (by omega)]
theorem an_pktn {c : Nat} {i w : Int32} (hc : c < 3) {W : WS} (h : flyA (wC W c) i = none) (U : List WS) : ansR xc0 (oPkt (nI c) i w W U) = Int32.ofInt (-901) := by
  have fa : flyA (wC W (sN (nI c))) i = none := by
    rw [sNi (by omega)]
    exact h
  rw [oPkt_n (isC_m hc) fa, ansR_n (show ¬ (2 : Nat) = 0 by decide)]
  rfl
theorem flyA_len (X : CS) {n : Nat} (hn : n = (flyL X).length) (h : n < 2 ^ 31) : flyA X (nI n) = none := by
  unfold flyA
  rw [if_pos (nI_0le h), sNi h, hn]
  exact List.getElem?_eq_none (Nat.le_refl _)
theorem flyA_m1 (X : CS) : flyA X (Int32.ofInt (-1)) = none := by
  unfold flyA
  rw [if_neg (by decide)]
theorem an_etr {c p k w : Nat} {X : PK} {en : EN} (hc : c < 3) {W : WS} (hp : (flyL (wC W c))[p]? = some X) (hl : p < 2 ^ 31) (hk : X.2[k]? = some en) (hl2 : k < 2 ^ 31) (hw : w ≤ 4) (U : List WS) : ansR xc0 (oEntry (nI c) (nI p) (nI k) (nI w) W U) = etV en w := by
  have P : inR 0 4 (nI w) := inR_n (n := 4) hw (by omega)
  have fa : flyA (wC W (sN (nI c))) (nI p) = some X := by
    rw [sNi (by omega)]
    exact flyA_at hp hl
  have ea : entA X (nI k) = some en := by
    unfold entA
    rw [if_pos (nI_0le hl2), sNi hl2]
    exact hk
  rw [oEntry_0 (isC_m hc) fa ea P, ansR_0 rfl]
  show etV en (sN (nI w)) = _
  rw [sNi (by omega)]
theorem an_etrn {c p : Nat} {w : Int32} {X : PK} (hc : c < 3) {W : WS} (hp : (flyL (wC W c))[p]? = some X) (hl : p < 2 ^ 31) (hl2 : X.2.length < 2 ^ 31) (U : List WS) : ansR xc0 (oEntry (nI c) (nI p) (nI X.2.length) w W U) = Int32.ofInt (-901) := by
  have fa : flyA (wC W (sN (nI c))) (nI p) = some X := by
    rw [sNi (by omega)]
    exact flyA_at hp hl
  have ea : entA X (nI X.2.length) = none := by
    unfold entA
    rw [if_pos (nI_0le hl2), sNi hl2]
    exact List.getElem?_eq_none (Nat.le_refl _)
  rw [oEntry_e (isC_m hc) fa ea, ansR_n (show ¬ (2 : Nat) = 0 by decide)]
  rfl
/-! the entities told, as bits -/
def orE (l : List Nat) : Nat := l.foldl (fun a e => a ||| 2 ^ e) 0
theorem orE_app (l : List Nat) (e : Nat) : orE (l ++ [e]) = orE l ||| 2 ^ e := by
  unfold orE
  rw [List.foldl_append]
  rfl
theorem orE_lt : ∀ (l : List Nat), (∀ e ∈ l, e < 16) → orE l < 2 ^ 16 := fun l h => by
  have go : ∀ (l : List Nat) (a : Nat), a < 2 ^ 16 → (∀ e ∈ l, e < 16) → l.foldl (fun a e => a ||| 2 ^ e) a < 2 ^ 16 := fun l => by
    induction l with
    | nil => exact fun a ha _ => ha
    | cons e l ih => exact fun a ha h => ih _ (Nat.or_lt_two_pow ha (Nat.pow_lt_pow_right (by omega) (h e List.mem_cons_self))) fun x hx => h x (List.mem_cons_of_mem _ hx)
  exact go l 0 (by decide) h
theorem orE_bit (l : List Nat) (e : Nat) (h : ¬ e ∈ l) : orE l / 2 ^ e % 2 = 0 := by
  have go : ∀ (l : List Nat) (a : Nat), a.testBit e = false → ¬ e ∈ l → (l.foldl (fun a e => a ||| 2 ^ e) a).testBit e = false := fun l => by
    induction l with
    | nil => exact fun a ha _ => ha
    | cons x l ih =>
      intro a ha hn
      refine ih _ ?_ fun w => hn (List.mem_cons_of_mem _ w)
      rw [Nat.testBit_or, ha, Nat.testBit_two_pow]
      have : ¬ x = e := fun w => hn (by rw [w]; exact List.mem_cons_self)
      simp [this]
  have := go l 0 (Nat.zero_testBit e) h
  have t : (orE l).testBit e = false := this
  rw [Nat.testBit_eq_decide_div_mod_eq] at t
  have t := of_decide_eq_false t
  omega
theorem sh16 : ∀ e, e < 16 → ((nI e &&& 31).toBitVec.smod 32).toNat = e := by decide +kernel
theorem told_1 {a e : Nat} (ha : a < 2 ^ 16) (he : e < 16) : nI a >>> (nI e &&& 31) &&& Int32.ofInt 1 = nI (a / 2 ^ e % 2) := by
  have h1 : a / 2 ^ e ≤ a := Nat.div_le_self _ _
  rw [pk_shrN (by omega) _ e (sh16 e he), pk_andN (by omega) 1 (by decide +kernel), Nat.pow_one]
theorem shl16 : ∀ e, e < 16 → Int32.ofInt 1 <<< (nI e &&& 31) = nI (2 ^ e) := by decide +kernel
theorem told_2 (a : Nat) {e : Nat} (he : e < 16) : nI a ||| Int32.ofInt 1 <<< (nI e &&& 31) = nI (a ||| 2 ^ e) := by
  rw [shl16 e he, nI_or']
/-- the bits of a mask, counted -/
def setI (m : Int32) : Int32 := (m &&& Int32.ofInt 1) + (m >>> (Int32.ofInt 1 &&& 31) &&& Int32.ofInt 1) + (m >>> (Int32.ofInt 2 &&& 31) &&& Int32.ofInt 1) + (m >>> (Int32.ofInt 3 &&& 31) &&& Int32.ofInt 1)
theorem setI_16 : ∀ m, m < 16 → setI (nI m) = nI (bts m) := by decide +kernel
theorem etV_2 {n : Nat} {en : EN} (h : enG n en) : etV en 2 = nI (dueN en) := by
  have e : etV en 2 = if en 0 = 0 then 2 else if en 0 = 1 then 6 else nI (2 + bts (sN (en 3))) := rfl
  rw [e]
  unfold dueN
  split
  · rfl
  · split
    · rfl
    · rfl
theorem sumD_take {l : List EN} {k : Nat} {en : EN} (h : l[k]? = some en) : sumD (l.take (k + 1)) = sumD (l.take k) + dueN en := by
  rw [List.take_add_one, h]
  exact sumD_app _ _
theorem eNt_take {l : List EN} {k : Nat} {en : EN} (h : l[k]? = some en) : orE ((l.take (k + 1)).map eN) = orE ((l.take k).map eN) ||| 2 ^ eN en := by
  rw [List.take_add_one, h]
  show orE ((l.take k ++ [en]).map eN) = _
  rw [List.map_append]
  exact orE_app _ _
theorem nd_take {l : List EN} {k : Nat} {en : EN} (h : l[k]? = some en) (hd : (l.map eN).Nodup) : ¬ eN en ∈ (l.take k).map eN := by
  have hk : k < l.length := (List.getElem?_eq_some_iff.mp h).1
  have e : l = l.take k ++ (en :: l.drop (k + 1)) := by
    have h2 : l.drop k = en :: l.drop (k + 1) := by
      rw [List.drop_eq_getElem_cons hk]
      congr 1
      exact (List.getElem?_eq_some_iff.mp h).2
    rw [← h2, List.take_append_drop]
  rw [e, List.map_append, List.map_cons] at hd
  intro w
  exact (List.nodup_append.mp hd).2.2 _ w _ List.mem_cons_self rfl
theorem sumD_le {l : List EN} (k : Nat) : sumD (l.take k) ≤ sumD l := by
  have e : sumD l = sumD (l.take k) + sumD (l.drop k) := by
    unfold sumD
    rw [← List.sum_append, ← List.map_append, List.take_append_drop]
  omega
/-- the number of the packet before the p-th -/
def bfP (L : List PK) (p : Nat) (v : Int32) : Prop := (p = 0 ∧ v = 0) ∨ ∃ q Y, p = q + 1 ∧ L[q]? = some Y ∧ v = Y.1 0
theorem NS_at {l : List PK} (h : NS l) {i j : Nat} {p q : PK} (hi : l[i]? = some p) (hj : l[j]? = some q) (hij : i < j) : p.1 0 < q.1 0 := by
  obtain ⟨i1, i2⟩ := List.getElem?_eq_some_iff.mp hi
  obtain ⟨j1, j2⟩ := List.getElem?_eq_some_iff.mp hj
  have := List.pairwise_iff_getElem.mp h i j i1 j1 hij
  rw [i2, j2] at this
  exact this
