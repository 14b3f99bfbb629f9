def enV (E : Nat → Nat → Int32) (e w : Nat) : Int32 := if w = 0 then iB (¬ E e 0 = -1) else if w < 5 then nI (pz (E e 0) (w - 1)) else E e (w - 4)
def hs (h : Int64) (v : Int32) : Int64 := Int64.ofNat 31 * h + v.toInt64
def hsR (F : Nat → Int32) (h : Int64) : Nat → Int64
  | 0 => h
  | n + 1 => hs (hsR F h n) (F n)
def hW (μ : MM) (r : Nat) (h : Int64) : MM := (μ.1, μ.2.1, up2 μ.2.2.1 r 7 h, μ.2.2.2)
def dgE (X : CS) (E : Nat → Nat → Int32) (e : Nat) (b : Prop) [Decidable b] (h : Int64) : Int64 := if b then hs (hsR (kpV X E e) (hsR (cpV (cR X e)) h 7) 9) (nI (prc X E e)) else hsR (cpV (cR X e)) h 7
def dgL (l : List EN) (h : Int64) : Int64 := l.foldl (fun h en => hsR (etV en) h 5) h
def dgP (t : Int32) (p : PK) (h : Int64) : Int64 := dgL p.2 (hsR (pkV t p) h 4)
theorem dgL_S {l : List EN} {k : Nat} {en : EN} (h : l[k]? = some en) (x : Int64) : dgL (l.take (k + 1)) x = hsR (etV en) (dgL (l.take k) x) 5 := by
  have ht : l.take (k + 1) = l.take k ++ [en] := by rw [List.take_add_one, h]; rfl
  unfold dgL
  rw [ht, List.foldl_append]
  rfl
def dgR (F : Nat → Int64 → Int64) (h : Int64) : Nat → Int64
  | 0 => h
  | n + 1 => F n (dgR F h n)
def dgPs (t : Int32) (l : List PK) (h : Int64) : Int64 := l.foldl (fun h p => dgP t p h) h
theorem dgPs_S {l : List PK} {k : Nat} {p : PK} (h : l[k]? = some p) (t : Int32) (x : Int64) : dgPs t (l.take (k + 1)) x = dgP t p (dgPs t (l.take k) x) := by
  have ht : l.take (k + 1) = l.take k ++ [p] := by rw [List.take_add_one, h]; rfl
  unfold dgPs
  rw [ht, List.foldl_append]
  rfl
def dgC1 (X : CS) (b : Prop) [Decidable b] (h : Int64) : Int64 := hsR (cnV X) (Int64.ofNat 31 * h + (if b then 1 else 0)) 9
def dgC2 (X : CS) (E : Nat → Nat → Int32) (b : Prop) [Decidable b] (h : Int64) : Int64 := if b then hs (hsR (fun k => cS X (k + 1)) h 6) (nI (staleN X E)) else h
abbrev cnn (X : CS) : Prop := cS X 0 = 1
def dgC (t : Int32) (X : CS) (E : Nat → Nat → Int32) (h : Int64) : Int64 := dgPs t (flyL X) (dgR (fun e => dgE X E e (cnn X)) (dgC2 X E (cnn X) (dgC1 X (cnn X) h)) 16)
theorem flyL_mem {X : CS} {k : Nat} {p : PK} (h : (flyL X)[k]? = some p) : p ∈ cP X := (List.mem_filter.mp (List.mem_of_getElem? h)).1
theorem iB_ne0 (p : Prop) [Decidable p] : (¬ iB p = 0) ↔ p := by rw [iB_eq0, Classical.not_not]
