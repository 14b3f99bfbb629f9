/-! WHAT A TICK DOES to a client, of the state alone. -/
theorem upd_eq (f : Nat → Int32) (i : Nat) (v : Int32) : upd f i v i = v := by unfold upd; rw [if_pos rfl]
theorem upd_ne (f : Nat → Int32) {i k : Nat} (v : Int32) (h : ¬ k = i) : upd f i v k = f k := by unfold upd; rw [if_neg h]
abbrev setS (X : CS) (k : Nat) (v : Int32) : CS := (upd X.1 k v, X.2)
abbrev setA (X : CS) (l : List (Int32 × Int32)) : CS := (X.1, l, X.2.2)
abbrev setP (X : CS) (l : List PK) : CS := (X.1, X.2.1, l, X.2.2.2)
abbrev setB (X : CS) (e k : Nat) (v : Int32) : CS := (X.1, X.2.1, X.2.2.1, up2 X.2.2.2.1 e k v, X.2.2.2.2)
abbrev setR (X : CS) (e : Nat) (l : List (Int32 × Int32)) : CS := (X.1, X.2.1, X.2.2.1, X.2.2.2.1, up1 X.2.2.2.2 e l)
/-- the parts of a client's cells -/
def RS (f : Nat → Int32) (c : Nat) (s : Nat → Int32) : Prop := ∀ k, k < 16 → f (51 + 2406 * c + k) = s k
def RA (f : Nat → Int32) (c : Nat) (l : List (Int32 × Int32)) : Prop := f (51 + 2406 * c + 16) = nI l.length ∧ l.length ≤ 24 ∧ ∀ (i : Nat) (q : Int32 × Int32), l[i]? = some q → f (51 + 2406 * c + (17 + 2 * i)) = q.1 ∧ f (51 + 2406 * c + (17 + 2 * i) + 1) = q.2
def RPL (f : Nat → Int32) (c : Nat) (l : List PK) : Prop := f (51 + 2406 * c + 65) = nI l.length ∧ l.length ≤ 22 ∧ ∀ (i : Nat) (p : PK), l[i]? = some p → RP f (51 + 2406 * c + (66 + 86 * i)) p
def RB (f : Nat → Int32) (c : Nat) (b : Nat → Nat → Int32) : Prop := ∀ e, e < 16 → ∀ k, k < 3 → f (51 + 2406 * c + (1958 + 3 * e) + k) = b e k
def RD (f : Nat → Int32) (c : Nat) (d : Nat → List (Int32 × Int32)) : Prop := ∀ e, e < 16 → RR f (51 + 2406 * c + (2006 + 25 * e)) (d e)
theorem RC_iff (f : Nat → Int32) (c : Nat) (X : CS) : RC f c X ↔ RS f c (cS X) ∧ RA f c (cA X) ∧ RPL f c (cP X) ∧ RB f c (cB X) ∧ RD f c (cR X) := Iff.rfl
theorem RS.keep {f g : Nat → Int32} {c : Nat} {s : Nat → Int32} (h : RS f c s) (hg : ∀ k, 51 + 2406 * c ≤ k → k < 51 + 2406 * c + 16 → g k = f k) : RS g c s := fun k hk => by
  rw [hg _ (by omega) (by omega)]
  exact h k hk
theorem RA.keep {f g : Nat → Int32} {c : Nat} {l : List (Int32 × Int32)} (h : RA f c l) (hg : ∀ k, 51 + 2406 * c + 16 ≤ k → k < 51 + 2406 * c + 65 → g k = f k) : RA g c l := by
  obtain ⟨h1, h2, h3⟩ := h
  refine ⟨by rw [hg _ (by omega) (by omega)]; exact h1, h2, fun i q hq => ?_⟩
  have hi : i < l.length := (List.getElem?_eq_some_iff.mp hq).1
  rw [hg _ (by omega) (by omega), hg _ (by omega) (by omega)]
  exact h3 i q hq
theorem RP.keep {f g : Nat → Int32} {a : Nat} {p : PK} (h : RP f a p) (hg : ∀ k, a ≤ k → k < a + 86 → g k = f k) : RP g a p := by
  obtain ⟨a1, a2, a3, a4⟩ := h
  refine ⟨fun k hk => by rw [hg _ (by omega) (by omega)]; exact a1 k hk, by rw [hg _ (by omega) (by omega)]; exact a2, a3, fun j en hj k hk => ?_⟩
  have hj2 : j < p.2.length := (List.getElem?_eq_some_iff.mp hj).1
  rw [hg _ (by omega) (by omega)]
  exact a4 j en hj k hk
theorem RPL.keep {f g : Nat → Int32} {c : Nat} {l : List PK} (h : RPL f c l) (hg : ∀ k, 51 + 2406 * c + 65 ≤ k → k < 51 + 2406 * c + 1958 → g k = f k) : RPL g c l := by
  obtain ⟨h1, h2, h3⟩ := h
  refine ⟨by rw [hg _ (by omega) (by omega)]; exact h1, h2, fun i p hp => ?_⟩
  have hi : i < l.length := (List.getElem?_eq_some_iff.mp hp).1
  exact (h3 i p hp).keep fun k k1 k2 => hg k (by omega) (by omega)
theorem RB.keep {f g : Nat → Int32} {c : Nat} {b : Nat → Nat → Int32} (h : RB f c b) (hg : ∀ k, 51 + 2406 * c + 1958 ≤ k → k < 51 + 2406 * c + 2006 → g k = f k) : RB g c b := fun e he k hk => by
  rw [hg _ (by omega) (by omega)]
  exact h e he k hk
theorem RR.keep {f g : Nat → Int32} {a : Nat} {l : List (Int32 × Int32)} (h : RR f a l) (hg : ∀ k, a ≤ k → k < a + 25 → g k = f k) : RR g a l := by
  obtain ⟨a1, a2, a3⟩ := h
  refine ⟨by rw [hg _ (by omega) (by omega)]; exact a1, a2, fun i q hq => ?_⟩
  have hi : i < l.length := (List.getElem?_eq_some_iff.mp hq).1
  rw [hg _ (by omega) (by omega), hg _ (by omega) (by omega)]
  exact a3 i q hq
theorem RD.keep {f g : Nat → Int32} {c : Nat} {d : Nat → List (Int32 × Int32)} (h : RD f c d) (hg : ∀ k, 51 + 2406 * c + 2006 ≤ k → k < 51 + 2406 * c + 2406 → g k = f k) : RD g c d := fun e he => (h e he).keep fun k k1 k2 => hg k (by omega) (by omega)
theorem RC.S {f : Nat → Int32} {c : Nat} {X : CS} (h : RC f c X) {k : Nat} (hk : k < 16) (v : Int32) : RC (upd f (51 + 2406 * c + k) v) c (setS X k v) := by
  obtain ⟨h1, h2, h3, h4, h5⟩ := h
  refine ⟨fun j hj => ?_, RA.keep h2 fun z z1 z2 => upd_ne _ _ (by omega), RPL.keep h3 fun z z1 z2 => upd_ne _ _ (by omega), RB.keep h4 fun z z1 z2 => upd_ne _ _ (by omega), RD.keep h5 fun z z1 z2 => upd_ne _ _ (by omega)⟩
  show upd f (51 + 2406 * c + k) v (51 + 2406 * c + j) = upd X.1 k v j
  by_cases hjk : j = k
  · subst hjk
    rw [upd_eq, upd_eq]
  · rw [upd_ne _ _ (by omega), upd_ne _ _ hjk]
    exact h1 j hj
theorem RC.B {f : Nat → Int32} {c : Nat} {X : CS} (h : RC f c X) {e k : Nat} (he : e < 16) (hk : k < 3) (v : Int32) : RC (upd f (51 + 2406 * c + (1958 + 3 * e) + k) v) c (setB X e k v) := by
  obtain ⟨h1, h2, h3, h4, h5⟩ := h
  refine ⟨RS.keep h1 fun z z1 z2 => upd_ne _ _ (by omega), RA.keep h2 fun z z1 z2 => upd_ne _ _ (by omega), RPL.keep h3 fun z z1 z2 => upd_ne _ _ (by omega), fun e' he' k' hk' => ?_, RD.keep h5 fun z z1 z2 => upd_ne _ _ (by omega)⟩
  show upd f (51 + 2406 * c + (1958 + 3 * e) + k) v (51 + 2406 * c + (1958 + 3 * e') + k') = up2 X.2.2.2.1 e k v e' k'
  unfold up2
  by_cases hjk : e' = e ∧ k' = k
  · rw [if_pos hjk, hjk.1, hjk.2, upd_eq]
  · rw [if_neg hjk, upd_ne _ _ (by omega)]
    exact h4 e' he' k' hk'
theorem RC.PH {f : Nat → Int32} {c : Nat} {X : CS} (h : RC f c X) {i k : Nat} {p : PK} (hp : (cP X)[i]? = some p) (hk : k < 5) (v : Int32) : RC (upd f (51 + 2406 * c + (66 + 86 * i) + k) v) c (setP X ((cP X).set i (upd p.1 k v, p.2))) := by
  obtain ⟨h1, h2, h3, h4, h5⟩ := h
  have hi : i < (cP X).length := (List.getElem?_eq_some_iff.mp hp).1
  have hl := h3.2.1
  refine ⟨RS.keep h1 fun z z1 z2 => upd_ne _ _ (by omega), RA.keep h2 fun z z1 z2 => upd_ne _ _ (by omega), ⟨?_, ?_, fun j q hq => ?_⟩, RB.keep h4 fun z z1 z2 => upd_ne _ _ (by omega), RD.keep h5 fun z z1 z2 => upd_ne _ _ (by omega)⟩
  · show upd f _ v _ = nI ((cP X).set i _).length
    rw [upd_ne _ _ (by omega), List.length_set]
    exact h3.1
  · show ((cP X).set i _).length ≤ 22
    rw [List.length_set]
    exact hl
  · have hq : ((cP X).set i (upd p.1 k v, p.2))[j]? = some q := hq
    by_cases hij : i = j
    · subst hij
      rw [List.getElem?_set_self hi] at hq
      cases hq
      obtain ⟨a1, a2, a3, a4⟩ := h3.2.2 i p hp
      refine ⟨fun m hm => ?_, by rw [upd_ne _ _ (by omega)]; exact a2, a3, fun m en hm z hz => by rw [upd_ne _ _ (by omega)]; exact a4 m en hm z hz⟩
      show upd f _ v _ = upd p.1 k v m
      by_cases hmk : m = k
      · subst hmk
        rw [upd_eq, upd_eq]
      · rw [upd_ne _ _ (by omega), upd_ne _ _ hmk]
        exact a1 m hm
    · rw [List.getElem?_set_ne hij] at hq
      have hj : j < (cP X).length := (List.getElem?_eq_some_iff.mp hq).1
      exact (h3.2.2 j q hq).keep fun z z1 z2 => upd_ne _ _ (by omega)
/-- the records of one entity -/
theorem RC.R {f g : Nat → Int32} {c : Nat} {X : CS} (h : RC f c X) {e : Nat} (he : e < 16) {l : List (Int32 × Int32)} (hl : RR g (51 + 2406 * c + (2006 + 25 * e)) l) (hg : ∀ k, k < 51 + 2406 * c + (2006 + 25 * e) ∨ 51 + 2406 * c + (2006 + 25 * e) + 25 ≤ k → g k = f k) : RC g c (setR X e l) := by
  obtain ⟨h1, h2, h3, h4, h5⟩ := h
  refine ⟨RS.keep h1 fun z z1 z2 => hg _ (by omega), RA.keep h2 fun z z1 z2 => hg _ (by omega), RPL.keep h3 fun z z1 z2 => hg _ (by omega), RB.keep h4 fun z z1 z2 => hg _ (by omega), fun e' he' => ?_⟩
  show RR g _ (up1 X.2.2.2.2 e l e')
  unfold up1
  by_cases hee : e' = e
  · subst hee
    rw [if_pos rfl]
    exact hl
  · rw [if_neg hee]
    exact RR.keep (h5 e' he') fun z z1 z2 => hg _ (by omega)
def eN (en : EN) : Nat := sN (en 1)
def addRec (l : List (Int32 × Int32)) (n s : Int32) : List (Int32 × Int32) := (if l.length = 12 then l.drop 1 else l) ++ [(n, s)]
def rcvE (n : Int32) (X : CS) (en : EN) : CS :=
  if n ≤ lastN (cR X (eN en)) then X
  else if en 0 = 2 then
    (if recS (cR X (eN en)) (en 2) = -1 then setS X 13 (cS X 13 + 1)
     else setR X (eN en) (addRec (cR X (eN en)) n (nI (mxN (sN (recS (cR X (eN en)) (en 2))) (sN (en 4)) (sN (en 3))))))
  else setR X (eN en) (addRec (cR X (eN en)) n (en 4))
def ackS (t d n : Int32) (X : CS) : CS := if 0 < cS X 6 then setS (setS X 6 (cS X 6 + -1)) 11 (cS X 11 + 1) else setA X (cA X ++ [(n, t + d)])
def rcvP (t d : Int32) (p : PK) (X : CS) : CS := ackS t d (p.1 0) (p.2.foldl (rcvE (p.1 0)) X)
def arrP (t d : Int32) (l : List PK) (X : CS) : CS := l.foldl (fun X p => if p.1 3 = t then rcvP t d p X else X) X
def zeroA (t : Int32) (p : PK) : PK := if p.1 3 = t then (upd p.1 3 0, p.2) else p
abbrev kpP (p : PK) : Prop := p.1 4 = 1 ∨ 0 < p.1 3
abbrev swp (l : List PK) : List PK := l.filter fun p => decide (kpP p)
def arr1 (t d : Int32) (X : CS) : CS := setP (arrP t d (cP X) X) (swp ((cP X).map (zeroA t)))
def setl (n : Int32) (X : CS) (en : EN) : CS := if cB X (eN en) 1 < n then setB (setB X (eN en) 1 n) (eN en) 2 (en 4) else X
abbrev hit (n : Int32) (p : PK) : Prop := p.1 0 = n ∧ p.1 4 = 1
def ackF (n : Int32) (l : List PK) (X : CS) : CS := l.foldl (fun X p => if hit n p then p.2.foldl (setl n) X else X) X
def zeroF (n : Int32) (p : PK) : PK := if p.1 0 ≤ n then (upd p.1 4 0, p.2) else p
def anyH (n : Int32) (l : List PK) : Bool := l.any fun p => decide (hit n p)
def ackN (n : Int32) (X : CS) : CS := setP (ackF n (cP X) (setS X 12 (cS X 12 + 1))) (swp (if anyH n (cP X) = true then (cP X).map (zeroF n) else cP X))
def arr2 (t : Int32) (X : CS) : CS := setA ((cA X).foldl (fun X a => if a.2 = t then ackN a.1 X else X) X) ((cA X).filter fun a => decide (¬ a.2 = t))
def arrC (t d : Int32) (X : CS) : CS := arr2 t (arr1 t d X)
abbrev old (t lim : Int32) (p : PK) : Prop := p.1 4 = 1 ∧ lim ≤ t - p.1 2
def zeroO (t lim : Int32) (p : PK) : PK := if old t lim p then (upd p.1 4 0, p.2) else p
def oldN (t lim : Int32) (l : List PK) : Nat := (l.filter fun p => decide (old t lim p)).length
def giv (t lim : Int32) (X : CS) : CS := setP (setS X 14 (cS X 14 + nI (oldN t lim (cP X)))) (swp ((cP X).map (zeroO t lim)))
def rsd (X : CS) (E : Nat → Nat → Int32) (e : Nat) : Int32 := if inA X (E e 0) then (if ¬ cB X e 2 = E e 0 then cB X e 0 + nI (2 ^ prt (sN (E e 0)) 2) * (32 - dstC X (E e 0)) else 0) else (if ¬ cB X e 2 = -1 then cB X e 0 + 100 else 0)
/-- the priorities of the entities below n, raised -/
def raiN (X : CS) (E : Nat → Nat → Int32) : Nat → CS
  | 0 => X
  | n + 1 => setB (raiN X E n) n 0 (rsd (raiN X E n) E n)
/-- the entry that is put -/
def mkE (X : CS) (E : Nat → Nat → Int32) (e : Nat) : EN := fun k => match k with
  | 0 => if inA X (E e 0) then (if cB X e 2 = -1 then 1 else 2) else 0
  | 1 => nI e
  | 2 => if inA X (E e 0) ∧ ¬ cB X e 2 = -1 then cB X e 1 else 0
  | 3 => if inA X (E e 0) then (if cB X e 2 = -1 then 15 else nI (mkN (sN (cB X e 2)) (sN (E e 0)))) else 0
  | _ => if inA X (E e 0) then E e 0 else -1
/-- where an entity stands in the order -/
def ins (B : Nat → Nat → Int32) (e : Nat) : List Nat → List Nat
  | [] => [e]
  | x :: l => if B x 0 < B e 0 then e :: x :: l else x :: ins B e l
def ordN (B : Nat → Nat → Int32) : Nat → List Nat
  | 0 => []
  | n + 1 => if 0 < B n 0 then ins B n (ordN B n) else ordN B n
def putQ (E : Nat → Nat → Int32) (Q : Int32 × List EN × CS) (e : Nat) : Int32 × List EN × CS := if Q.1 + nI (prc Q.2.2 E e) ≤ cS Q.2.2 4 then (Q.1 + nI (prc Q.2.2 E e), Q.2.1 ++ [mkE Q.2.2 E e], setB Q.2.2 e 0 0) else Q
def sndQ (E : Nat → Nat → Int32) (X : CS) : Int32 × List EN × CS := (ordN (cB X) 16).foldl (putQ E) (4, [], X)
def hdr (t d : Int32) (b : Int32) (X : CS) : Nat → Int32 := fun k => match k with
  | 0 => cS X 7 + 1
  | 1 => b
  | 2 => t
  | 3 => if 0 < cS X 5 then 0 else t + d
  | _ => 1
def lauS (b : Int32) (n : Nat) (X : CS) : Nat → Int32 := fun k => match k with
  | 5 => if 0 < cS X 5 then cS X 5 + -1 else cS X 5
  | 7 => cS X 7 + 1
  | 8 => cS X 8 + 1
  | 9 => cS X 9 + b
  | 10 => if 0 < cS X 5 then cS X 10 + 1 else cS X 10
  | 15 => cS X 15 + nI n
  | k => cS X k
def lau (t d : Int32) (Q : Int32 × List EN × CS) : CS := (lauS Q.1 Q.2.1.length Q.2.2, cA Q.2.2, cP Q.2.2 ++ [(hdr t d Q.1 Q.2.2, Q.2.1)], Q.2.2.2.2.2)
def snd1 (t d : Int32) (E : Nat → Nat → Int32) (X : CS) : CS := if (sndQ E X).2.1 = [] then X else lau t d (sndQ E X)
def srv (t d i : Int32) (E : Nat → Nat → Int32) (X : CS) : CS := if t % i = 0 ∧ flyN (cP (raiN (giv t (4 * d + i) X) E 16)) < 12 then snd1 t d E (raiN (giv t (4 * d + i) X) E 16) else raiN (giv t (4 * d + i) X) E 16
