/-! p24: A CLIENT OF WHICH NOTHING IS LOST, under one delay: no difference is broken, nothing is given up. A: arrivals up to then have been, K: acknowledgements up to then have been. -/
abbrev aft (l : List (Int32 × Int32)) (b : Int32) : Nat := (l.filter fun r => decide (b < r.1)).length
abbrev bfr (A d : Nat) (l : List PK) (s : Nat) : Nat := (l.filter fun q => decide (A < sNt q + d ∧ sNt q < s)).length
abbrev rcd (A d : Nat) (l : List PK) : List PK := l.filter fun q => decide (sNt q + d ≤ A)
def wh1 (X : CS) : Prop := cS X 5 = 0 ∧ cS X 6 = 0 ∧ cS X 10 = 0 ∧ cS X 11 = 0 ∧ cS X 13 = 0 ∧ cS X 14 = 0
def wh2 (A K d : Nat) (X : CS) : Prop := ∀ p ∈ cP X, fly p ∧ K < sNt p + 2 * d ∧ p.1 3 = if A < sNt p + d then nI (sNt p + d) else 0
def wh3 (A d : Nat) (X : CS) : Prop := (∀ a ∈ cA X, ∃ p ∈ cP X, a = (p.1 0, nI (sNt p + 2 * d)) ∧ sNt p + d ≤ A) ∧ ∀ p ∈ cP X, sNt p + d ≤ A → (p.1 0, nI (sNt p + 2 * d)) ∈ cA X
def whR0 (X : CS) : Prop := ∀ e, e < 16 → ∀ p ∈ cP X, cB X e 1 < p.1 0
def whR1 (A d : Nat) (X : CS) : Prop := ∀ e, e < 16 → ∀ r ∈ cR X e, cB X e 1 < r.1 → ∃ p ∈ cP X, sNt p + d ≤ A ∧ p.1 0 = r.1 ∧ ∃ en ∈ p.2, eN en = e
def whR2 (X : CS) : Prop := ∀ e, e < 16 → ¬ cB X e 2 = -1 → ∃ st, ¬ st = -1 ∧ (cB X e 1, st) ∈ cR X e
def whR3 (A d : Nat) (X : CS) : Prop := ∀ p ∈ cP X, sNt p + d ≤ A → ∀ en ∈ p.2, ∃ st, (p.1 0, st) ∈ cR X (eN en) ∧ (¬ en 4 = -1 → ¬ st = -1)
def whJ (A d : Nat) (X : CS) : Prop := ∀ p ∈ cP X, A < sNt p + d → ∀ en ∈ p.2, en 0 = 2 → ∃ st, ¬ st = -1 ∧ (en 2, st) ∈ cR X (eN en) ∧ aft (cR X (eN en)) (en 2) + bfr A d (cP X) (sNt p) ≤ 11
def WHm (A K d : Nat) (X : CS) : Prop := wh1 X ∧ wh2 A K d X ∧ wh3 A d X ∧ whR0 X ∧ whR1 A d X ∧ whR2 X ∧ whR3 A d X ∧ whJ A d X
theorem nd_len : ∀ (l m : List Int32), l.Nodup → (∀ x ∈ l, x ∈ m) → l.length ≤ m.length
  | [], _, _, _ => Nat.zero_le _
  | x :: l, m, h, g => by
    obtain ⟨h1, h2⟩ := List.nodup_cons.mp h
    have hx := g x List.mem_cons_self
    have ih := nd_len l (m.erase x) h2 fun y hy => (List.mem_erase_of_ne (fun w : y = x => h1 (by rw [← w]; exact hy))).mpr (g y (List.mem_cons_of_mem _ hy))
    rw [List.length_erase_of_mem hx] at ih
    have := List.length_pos_of_mem hx
    rw [List.length_cons]
    omega
theorem fil_le {α : Type} {P Q : α → Bool} {l : List α} (h : ∀ y ∈ l, P y = true → Q y = true) : (l.filter P).length ≤ (l.filter Q).length := by
  rw [← List.countP_eq_length_filter, ← List.countP_eq_length_filter]
  exact List.countP_mono_left h
theorem fil_lt {α : Type} {P Q : α → Bool} : ∀ {l : List α} {x : α}, (∀ y ∈ l, P y = true → Q y = true) → x ∈ l → Q x = true → ¬ P x = true → (l.filter P).length + 1 ≤ (l.filter Q).length
  | [], _, _, hx, _, _ => absurd hx List.not_mem_nil
  | y :: l, x, h, hx, hq, hn => by
    have h' : ∀ y ∈ l, P y = true → Q y = true := fun z hz => h z (List.mem_cons_of_mem _ hz)
    rcases List.mem_cons.mp hx with rfl | hx
    · rw [List.filter_cons_of_pos hq, List.filter_cons_of_neg hn, List.length_cons]
      exact Nat.add_le_add_right (fil_le h') 1
    · have ih := fil_lt h' hx hq hn
      by_cases p : P y = true
      · rw [List.filter_cons_of_pos p, List.filter_cons_of_pos (h y List.mem_cons_self p), List.length_cons, List.length_cons]
        omega
      · rw [List.filter_cons_of_neg p]
        have := (List.Sublist.filter Q (List.sublist_cons_self y l)).length_le
        omega
theorem recS_of : ∀ {l : List (Int32 × Int32)} {b st : Int32}, l.Pairwise (fun p q => p.1 < q.1) → (b, st) ∈ l → recS l b = st
  | [], _, _, _, h => absurd h List.not_mem_nil
  | r :: l, b, st, hp, h => by
    obtain ⟨h1, h2⟩ := List.pairwise_cons.mp hp
    rcases List.mem_cons.mp h with rfl | h
    · unfold recS
      rw [List.find?_cons_of_pos (by simp)]
    · have ne : ¬ r.1 = b := fun w => by
        have := h1 _ h
        rw [w] at this
        exact i_irr _ this
      have ih := recS_of h2 h
      unfold recS at ih ⊢
      rw [List.find?_cons_of_neg (by simpa using ne)]
      exact ih
theorem aft_add (l : List (Int32 × Int32)) (n s b : Int32) : aft (addRec l n s) b ≤ aft l b + 1 := by
  unfold addRec
  show (List.filter _ (_ ++ [(n, s)])).length ≤ _
  rw [List.filter_append, List.length_append]
  have h1 : ((if l.length = 12 then l.drop 1 else l).filter fun r => decide (b < r.1)).length ≤ aft l b := by
    split
    · exact (List.Sublist.filter _ (List.drop_sublist 1 l)).length_le
    · exact Nat.le_refl _
  have h2 : (([(n, s)] : List (Int32 × Int32)).filter fun r => decide (b < r.1)).length ≤ 1 := List.length_filter_le _ _
  exact Nat.add_le_add h1 h2
theorem addRec_keep {l : List (Int32 × Int32)} {n s b st : Int32} (hp : l.Pairwise (fun p q => p.1 < q.1)) (h : (b, st) ∈ l) (ha : aft l b ≤ 10) : (b, st) ∈ addRec l n s := by
  unfold addRec
  refine List.mem_append_left _ ?_
  by_cases q : l.length = 12
  · rw [if_pos q]
    cases l with
    | nil => exact absurd h List.not_mem_nil
    | cons r l =>
      obtain ⟨h1, h2⟩ := List.pairwise_cons.mp hp
      show _ ∈ l
      rcases List.mem_cons.mp h with rfl | h
      · exfalso
        have e : (l.filter fun r => decide (b < r.1)) = l := List.filter_eq_self.mpr fun r hr => decide_eq_true (h1 r hr)
        have h3 : (l.filter fun r => decide (b < r.1)).length ≤ aft ((b, st) :: l) b := (List.Sublist.filter _ (List.sublist_cons_self _ _)).length_le
        rw [e] at h3
        rw [List.length_cons] at q
        omega
      · exact h
  · rw [if_neg q]
    exact h
theorem addRec_new (l : List (Int32 × Int32)) (n s : Int32) : (n, s) ∈ addRec l n s := List.mem_append_right _ List.mem_cons_self
theorem pw_num : ∀ {l : List PK}, NS l → l.Pairwise (fun p q => sNt p < sNt q) → ∀ {p q : PK}, p ∈ l → q ∈ l → sNt p < sNt q → p.1 0 < q.1 0
  | [], _, _, _, _, h, _, _ => absurd h List.not_mem_nil
  | x :: l, hn, hs, p, q, hp, hq, h => by
    obtain ⟨n1, n2⟩ := List.pairwise_cons.mp hn
    obtain ⟨s1, s2⟩ := List.pairwise_cons.mp hs
    rcases List.mem_cons.mp hp with rfl | hp2 <;> rcases List.mem_cons.mp hq with rfl | hq2
    · omega
    · exact n1 q hq2
    · have := s1 p hp2
      omega
    · exact pw_num n2 s2 hp2 hq2 h
theorem arrP_no (t d : Int32) : ∀ (l : List PK) (X : CS), (∀ p ∈ l, ¬ p.1 3 = t) → arrP t d l X = X
  | [], _, _ => rfl
  | p :: l, X, h => by
    show arrP t d l (if p.1 3 = t then rcvP t d p X else X) = X
    rw [if_neg (h p List.mem_cons_self)]
    exact arrP_no t d l X fun q hq => h q (List.mem_cons_of_mem _ hq)
theorem arrP_one (t d : Int32) : ∀ (l : List PK) (X : CS) (p : PK), l.Pairwise (fun p q => sNt p < sNt q) → p ∈ l → p.1 3 = t → (∀ q ∈ l, q.1 3 = t → sNt q = sNt p) → arrP t d l X = rcvP t d p X
  | [], _, _, _, h, _, _ => absurd h List.not_mem_nil
  | x :: l, X, p, hs, hp, ht, hu => by
    obtain ⟨s1, s2⟩ := List.pairwise_cons.mp hs
    show arrP t d l (if x.1 3 = t then rcvP t d x X else X) = _
    rcases List.mem_cons.mp hp with rfl | hp
    · rw [if_pos ht]
      exact arrP_no t d l _ fun q hq w => by
        have := s1 q hq
        have := hu q (List.mem_cons_of_mem _ hq) w
        omega
    · have nx : ¬ x.1 3 = t := fun w => by
        have := s1 p hp
        have := hu x List.mem_cons_self w
        omega
      rw [if_neg nx]
      exact arrP_one t d l X p s2 hp ht fun q hq => hu q (List.mem_cons_of_mem _ hq)
theorem rcvL_nd (n : Int32) : ∀ (l : List EN) (X : CS), RI X → (l.map eN).Nodup → (∀ en ∈ l, enOK en) → (∀ en ∈ l, lastN (cR X (eN en)) < n) → (∀ en ∈ l, en 0 = 2 → ¬ recS (cR X (eN en)) (en 2) = -1) →
    cS (rcvL n l X) = cS X ∧ (∀ e, (∀ en ∈ l, ¬ eN en = e) → cR (rcvL n l X) e = cR X e) ∧ ∀ en ∈ l, ∃ st, cR (rcvL n l X) (eN en) = addRec (cR X (eN en)) n st ∧ (¬ en 4 = -1 → ¬ st = -1)
  | [], X, _, _, _, _, _ => ⟨rfl, fun _ _ => rfl, fun en h => absurd h List.not_mem_nil⟩
  | en :: l, X, hI, hd, ho, hl, hr => by
    rw [List.map_cons] at hd
    obtain ⟨d1, d2⟩ := List.nodup_cons.mp hd
    have dn : ∀ x ∈ l, ¬ eN x = eN en := fun x hx w => d1 (by rw [← w]; exact List.mem_map_of_mem hx)
    have step : ∃ st, rcvE n X en = setR X (eN en) (addRec (cR X (eN en)) n st) ∧ (¬ en 4 = -1 → ¬ st = -1) := by
      have nl : ¬ n ≤ lastN (cR X (eN en)) := Int32.not_le.mpr (hl en List.mem_cons_self)
      obtain ⟨o1, ⟨e, he, o2⟩, ⟨m, hm, o3⟩, o4, o5⟩ := ho en List.mem_cons_self
      have e0 := eN_of o2 he
      unfold rcvE
      rw [if_neg nl]
      by_cases k : en 0 = 2
      · have hne := hr en List.mem_cons_self k
        rw [if_pos k, if_neg hne]
        refine ⟨_, rfl, fun _ => nI_ne_m1 ?_⟩
        obtain ⟨b1, b2, b3, b4⟩ := sOK_ne (recS_ok (hI (eN en) (by rw [e0]; exact he)).2 (en 2)) hne
        obtain ⟨c1, c2, c3⟩ := o5 (by rw [k]; decide)
        have := mxN_lt (a := sN (recS (cR X (eN en)) (en 2))) (b := sN (en 4)) (m := sN (en 3)) (by rw [b4]; exact b2) (by rw [c3, sN_nI c2]; exact c2)
        omega
      · rw [if_neg k]
        exact ⟨en 4, rfl, fun w => w⟩
    obtain ⟨st, e1, e2⟩ := step
    have cne : ∀ e, ¬ e = eN en → cR (rcvE n X en) e = cR X e := fun e he => by
      rw [e1]
      exact up1_ne' _ _ he
    obtain ⟨r1, r2, r3⟩ := rcvL_nd n l (rcvE n X en) (rcvE_RI hI (ho en List.mem_cons_self) n) d2 (fun x hx => ho x (List.mem_cons_of_mem _ hx)) (fun x hx => by rw [cne _ (dn x hx)]; exact hl x (List.mem_cons_of_mem _ hx)) (fun x hx => by rw [cne _ (dn x hx)]; exact hr x (List.mem_cons_of_mem _ hx))
    refine ⟨r1.trans (by rw [e1]), fun e he => (r2 e fun x hx => he x (List.mem_cons_of_mem _ hx)).trans (cne e fun w => he en List.mem_cons_self w.symm), fun x hx => ?_⟩
    rcases List.mem_cons.mp hx with rfl | hx
    · refine ⟨st, ?_, e2⟩
      refine (r2 _ fun y hy => dn y hy).trans ?_
      rw [e1]
      exact up1_eq' _ _ _
    · obtain ⟨s2, a, b⟩ := r3 x hx
      exact ⟨s2, a.trans (by rw [cne _ (dn x hx)]), b⟩
theorem eN_lt {en : EN} (h : enOK en) : eN en < 16 := by
  obtain ⟨_, ⟨e, he, o2⟩, _⟩ := h
  rw [eN_of o2 he]
  exact he
theorem swp_all {f : PK → PK} {l : List PK} (h : ∀ p ∈ l, fly (f p)) : swp (l.map f) = l.map f := by
  refine List.filter_eq_self.mpr fun q hq => ?_
  obtain ⟨p, hp, rfl⟩ := List.mem_map.mp hq
  exact decide_eq_true (Or.inl (h p hp))
/-- how many records an entity has behind its baseline -/
theorem aft_rcd {A d : Nat} {X : CS} (hI : RI X) (h1 : whR1 A d X) {e : Nat} (he : e < 16) : aft (cR X e) (cB X e 1) ≤ (rcd A d (cP X)).length := by
  have e1 : aft (cR X e) (cB X e 1) = (((cR X e).filter fun r => decide (cB X e 1 < r.1)).map Prod.fst).length := (List.length_map _).symm
  have e2 : (rcd A d (cP X)).length = ((rcd A d (cP X)).map fun p => p.1 0).length := (List.length_map _).symm
  rw [e1, e2]
  refine nd_len _ _ ?_ fun x hx => ?_
  · refine List.pairwise_map.mpr ((List.Pairwise.filter _ (hI e he).1).imp fun w q => ?_)
    rw [q] at w
    exact i_irr _ w
  · obtain ⟨r, hr, rfl⟩ := List.mem_map.mp hx
    obtain ⟨r1, r2⟩ := List.mem_filter.mp hr
    obtain ⟨p, p1, p2, p3, _⟩ := h1 e he r r1 (of_decide_eq_true r2)
    exact List.mem_map.mpr ⟨p, List.mem_filter.mpr ⟨p1, decide_eq_true p2⟩, p3⟩
theorem rcd_10 {T d : Nat} {X : CS} (hs : (cP X).Pairwise (fun p q => sNt p < sNt q)) (h2 : wh2 T T d X) (hd : 1 ≤ d ∧ d ≤ 10) : (rcd T d (cP X)).length ≤ 10 := by
  rw [← List.length_map (f := sNt)]
  refine ph 10 (T + 1 - 2 * d) _ (pw_nd (List.Pairwise.filter _ hs)) fun x hx => ?_
  obtain ⟨p, hp, rfl⟩ := List.mem_map.mp hx
  obtain ⟨p1, p2⟩ := List.mem_filter.mp hp
  have p2 : sNt p + d ≤ T := of_decide_eq_true p2
  have := (h2 p p1).2.1
  omega
theorem aft_mono {l : List (Int32 × Int32)} {a b : Int32} (h : a ≤ b) : aft l b ≤ aft l a := fil_le fun y _ hy => decide_eq_true (Int32.lt_of_le_of_lt h (of_decide_eq_true hy))
