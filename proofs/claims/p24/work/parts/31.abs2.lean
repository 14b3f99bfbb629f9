/-! WHAT A TICK DOES to a client, of the state alone. -/
theorem upd_eq (f : Nat → Int32) (i : Nat) (v : Int32) : upd f i v i = v := by unfold upd; rw [if_pos rfl]
theorem upd_ne (f : Nat → Int32) {i k : Nat} (v : Int32) (h : ¬ k = i) : upd f i v k = f k := by unfold upd; rw [if_neg h]
abbrev setS (X : CS) (k : Nat) (v : Int32) : CS := (upd X.1 k v, X.2)
abbrev setA (X : CS) (l : List (Int32 × Int32)) : CS := (X.1, l, X.2.2)
abbrev setP (X : CS) (l : List PK) : CS := (X.1, X.2.1, l, X.2.2.2)
abbrev setB (X : CS) (e k : Nat) (v : Int32) : CS := (X.1, X.2.1, X.2.2.1, up2 X.2.2.2.1 e k v, X.2.2.2.2)
abbrev setR (X : CS) (e : Nat) (l : List (Int32 × Int32)) : CS := (X.1, X.2.1, X.2.2.1, X.2.2.2.1, up1 X.2.2.2.2 e l)
def eN (en : EN) : Nat := sN (en 1)
def addRec (l : List (Int32 × Int32)) (n s : Int32) : List (Int32 × Int32) := (if l.length = 12 then l.drop 1 else l) ++ [(n, s)]
def rcvE (n : Int32) (X : CS) (en : EN) : CS :=
  if n ≤ lastN (cR X (eN en)) then X
  else if en 0 = 2 then
    (if recS (cR X (eN en)) (en 2) = -1 then setS X 13 (cS X 13 + 1)
     else setR X (eN en) (addRec (cR X (eN en)) n (nI (mxN (sN (recS (cR X (eN en)) (en 2))) (sN (en 4)) (sN (en 3))))))
  else setR X (eN en) (addRec (cR X (eN en)) n (en 4))
def ackS (t d n : Int32) (X : CS) : CS := if 0 < cS X 6 then setS (setS X 6 (cS X 6 + -1)) 11 (cS X 11 + 1) else setA X (cA X ++ [(n, t + d)])
def rcvP (t d : Int32) (p : PK) (X : CS) : CS := ackS t d (p.1 0) (p.2.foldl (rcvE (p.1 0)) X)
def arrP (t d : Int32) (l : List PK) (X : CS) : CS := l.foldl (fun X p => if p.1 3 = t then rcvP t d p X else X) X
def zeroA (t : Int32) (p : PK) : PK := if p.1 3 = t then (upd p.1 3 0, p.2) else p
abbrev kpP (p : PK) : Prop := p.1 4 = 1 ∨ 0 < p.1 3
abbrev swp (l : List PK) : List PK := l.filter fun p => decide (kpP p)
def arr1 (t d : Int32) (X : CS) : CS := setP (arrP t d (cP X) X) (swp ((cP X).map (zeroA t)))
def setl (n : Int32) (X : CS) (en : EN) : CS := if cB X (eN en) 1 < n then setB (setB X (eN en) 1 n) (eN en) 2 (en 4) else X
abbrev hit (n : Int32) (p : PK) : Prop := p.1 0 = n ∧ p.1 4 = 1
def ackF (n : Int32) (l : List PK) (X : CS) : CS := l.foldl (fun X p => if hit n p then p.2.foldl (setl n) X else X) X
def zeroF (n : Int32) (p : PK) : PK := if p.1 0 ≤ n then (upd p.1 4 0, p.2) else p
def anyH (n : Int32) (l : List PK) : Bool := l.any fun p => decide (hit n p)
def ackN (n : Int32) (X : CS) : CS := setP (ackF n (cP X) (setS X 12 (cS X 12 + 1))) (swp (if anyH n (cP X) = true then (cP X).map (zeroF n) else cP X))
def arr2 (t : Int32) (X : CS) : CS := setA ((cA X).foldl (fun X a => if a.2 = t then ackN a.1 X else X) X) ((cA X).filter fun a => decide (¬ a.2 = t))
def arrC (t d : Int32) (X : CS) : CS := arr2 t (arr1 t d X)
abbrev old (t lim : Int32) (p : PK) : Prop := p.1 4 = 1 ∧ lim ≤ t - p.1 2
def zeroO (t lim : Int32) (p : PK) : PK := if old t lim p then (upd p.1 4 0, p.2) else p
def oldN (t lim : Int32) (l : List PK) : Nat := (l.filter fun p => decide (old t lim p)).length
def giv (t lim : Int32) (X : CS) : CS := setP (setS X 14 (cS X 14 + nI (oldN t lim (cP X)))) (swp ((cP X).map (zeroO t lim)))
def rsd (X : CS) (E : Nat → Nat → Int32) (e : Nat) : Int32 := if inA X (E e 0) then (if ¬ cB X e 2 = E e 0 then cB X e 0 + nI (2 ^ prt (sN (E e 0)) 2) * (32 - dstC X (E e 0)) else 0) else (if ¬ cB X e 2 = -1 then cB X e 0 + 100 else 0)
/-- the priorities of the entities below n, raised -/
def raiN (X : CS) (E : Nat → Nat → Int32) : Nat → CS
  | 0 => X
  | n + 1 => setB (raiN X E n) n 0 (rsd (raiN X E n) E n)
/-- the entry that is put -/
def mkE (X : CS) (E : Nat → Nat → Int32) (e : Nat) : EN := fun k => match k with
  | 0 => if inA X (E e 0) then (if cB X e 2 = -1 then 1 else 2) else 0
  | 1 => nI e
  | 2 => if inA X (E e 0) ∧ ¬ cB X e 2 = -1 then cB X e 1 else 0
  | 3 => if inA X (E e 0) then (if cB X e 2 = -1 then 15 else nI (mkN (sN (cB X e 2)) (sN (E e 0)))) else 0
  | _ => if inA X (E e 0) then E e 0 else -1
/-- where an entity stands in the order -/
def ins (B : Nat → Nat → Int32) (e : Nat) : List Nat → List Nat
  | [] => [e]
  | x :: l => if B x 0 < B e 0 then e :: x :: l else x :: ins B e l
def ordN (B : Nat → Nat → Int32) : Nat → List Nat
  | 0 => []
  | n + 1 => if 0 < B n 0 then ins B n (ordN B n) else ordN B n
def putQ (E : Nat → Nat → Int32) (Q : Int32 × List EN × CS) (e : Nat) : Int32 × List EN × CS := if Q.1 + nI (prc Q.2.2 E e) ≤ cS Q.2.2 4 then (Q.1 + nI (prc Q.2.2 E e), Q.2.1 ++ [mkE Q.2.2 E e], setB Q.2.2 e 0 0) else Q
def sndQ (E : Nat → Nat → Int32) (X : CS) : Int32 × List EN × CS := (ordN (cB X) 16).foldl (putQ E) (4, [], X)
def hdr (t d : Int32) (b : Int32) (X : CS) : Nat → Int32 := fun k => match k with
  | 0 => cS X 7 + 1
  | 1 => b
  | 2 => t
  | 3 => if 0 < cS X 5 then 0 else t + d
  | _ => 1
def lauS (b : Int32) (n : Nat) (X : CS) : Nat → Int32 := fun k => match k with
  | 5 => if 0 < cS X 5 then cS X 5 + -1 else cS X 5
  | 7 => cS X 7 + 1
  | 8 => cS X 8 + 1
  | 9 => cS X 9 + b
  | 10 => if 0 < cS X 5 then cS X 10 + 1 else cS X 10
  | 15 => cS X 15 + nI n
  | k => cS X k
def lau (t d : Int32) (Q : Int32 × List EN × CS) : CS := (lauS Q.1 Q.2.1.length Q.2.2, cA Q.2.2, cP Q.2.2 ++ [(hdr t d Q.1 Q.2.2, Q.2.1)], Q.2.2.2.2.2)
def snd1 (t d : Int32) (E : Nat → Nat → Int32) (X : CS) : CS := if (sndQ E X).2.1 = [] then X else lau t d (sndQ E X)
def srv (t d i : Int32) (E : Nat → Nat → Int32) (X : CS) : CS := if t % i = 0 ∧ flyN (cP (raiN (giv t (4 * d + i) X) E 16)) < 12 then snd1 t d E (raiN (giv t (4 * d + i) X) E 16) else raiN (giv t (4 * d + i) X) E 16
