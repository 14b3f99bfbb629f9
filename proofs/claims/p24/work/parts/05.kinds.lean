/-! The kinds of the cells. -/
def kdL : List KD := [
  /- 0 None -/ .inr (0, 0, 0, 0, 0),
  /- 1 ('A', 0, 16) -/ .inr (0, 16, 0, 0, 0),
  /- 2 ('A', 0, 9) -/ .inr (0, 9, 0, 0, 0),
  /- 3 ('A', 0, 192) -/ .inr (0, 192, 0, 0, 0),
  /- 4 ('A', 0, 24) -/ .inr (0, 24, 0, 0, 0),
  /- 5 ('A', 0, 7269) -/ .inr (0, 7269, 0, 0, 0),
  /- 6 None -/ .inr (0, 0, 0, 0, 0),
  /- 7 None -/ .inr (0, 0, 0, 0, 0),
  /- 8 Entities -/ .inl (2, [(4, 1), (4, 2), (4, 3)]),
  /- 9 Records -/ .inl (5, [(4, 1), (6, 2), (6, 3)]),
  /- 10 AckList -/ .inl (0, [(0, 0), (7, 1), (7, 2)]),
  /- 11 Packet -/ .inl (3, [(0, 0), (0, 0), (0, 0), (0, 0), (0, 0), (4, 1), (4, 2), (4, 3), (4, 4), (4, 5)]),
  /- 12 ('Q', 4, 12, 11, 0, 0) -/ .inr (4, 12, 11, 0, 0),
  /- 13 PacketList -/ .inl (4, [(0, 0), (15, 1)]),
  /- 14 Client -/ .inl (1, [(0, 1), (0, 0), (0, 0), (0, 0), (0, 0), (0, 0), (0, 0), (5, 1), (4, 2), (4, 3), (4, 4), (12, 5), (16, 9), (16, 83), (13, 157), (4, 160)]),
  /- 15 ('Q', 3, 3, 14, 1, 161) -/ .inr (3, 3, 14, 1, 161),
  /- 16 World -/ .inl (7, [(0, 0), (0, 0), (0, 0), (11, 1), (18, 5)]),
  /- 17 ('Q', 5, 3, 16, 0, 0) -/ .inr (5, 3, 16, 0, 0),
  /- 18 UndoStack -/ .inl (6, [(0, 0), (20, 1)]),
  /- 19 WorldDeltas -/ .inl (8, [(19, 1), (21, 490)]),
  /- 20 ('A', 0, 3) -/ .inr (0, 3, 0, 0, 0),
  /- 21 Entities raw0 -/ .inl (2, [(2, 0), (2, 0), (2, 0)]),
  /- 22 Entities raw1 -/ .inl (2, [(4, 1), (2, 0), (2, 0)]),
  /- 23 Entities raw2 -/ .inl (2, [(4, 1), (4, 2), (2, 0)]),
  /- 24 Records raw0 -/ .inl (5, [(2, 0), (2, 0), (2, 0)]),
  /- 25 Records raw1 -/ .inl (5, [(4, 1), (2, 0), (2, 0)]),
  /- 26 Records raw2 -/ .inl (5, [(4, 1), (6, 2), (2, 0)]),
  /- 27 AckList raw0 -/ .inl (0, [(0, 0), (2, 0), (2, 0)]),
  /- 28 AckList raw1 -/ .inl (0, [(0, 0), (7, 1), (2, 0)]),
  /- 29 Packet raw0 -/ .inl (3, [(0, 0), (0, 0), (0, 0), (0, 0), (0, 0), (2, 0), (2, 0), (2, 0), (2, 0), (2, 0)]),
  /- 30 Packet raw1 -/ .inl (3, [(0, 0), (0, 0), (0, 0), (0, 0), (0, 0), (4, 1), (2, 0), (2, 0), (2, 0), (2, 0)]),
  /- 31 Packet raw2 -/ .inl (3, [(0, 0), (0, 0), (0, 0), (0, 0), (0, 0), (4, 1), (4, 2), (2, 0), (2, 0), (2, 0)]),
  /- 32 Packet raw3 -/ .inl (3, [(0, 0), (0, 0), (0, 0), (0, 0), (0, 0), (4, 1), (4, 2), (4, 3), (2, 0), (2, 0)]),
  /- 33 Packet raw4 -/ .inl (3, [(0, 0), (0, 0), (0, 0), (0, 0), (0, 0), (4, 1), (4, 2), (4, 3), (4, 4), (2, 0)]),
  /- 34 PacketList raw0 -/ .inl (4, [(0, 0), (2, 0)]),
  /- 35 Client raw0 -/ .inl (1, [(0, 1), (0, 0), (0, 0), (0, 0), (0, 0), (0, 0), (0, 0), (2, 0), (2, 0), (2, 0), (2, 0), (2, 0), (2, 0), (2, 0), (2, 0), (2, 0)]),
  /- 36 Client raw1 -/ .inl (1, [(0, 1), (0, 0), (0, 0), (0, 0), (0, 0), (0, 0), (0, 0), (5, 1), (2, 0), (2, 0), (2, 0), (2, 0), (2, 0), (2, 0), (2, 0), (2, 0)]),
  /- 37 Client raw2 -/ .inl (1, [(0, 1), (0, 0), (0, 0), (0, 0), (0, 0), (0, 0), (0, 0), (5, 1), (4, 2), (2, 0), (2, 0), (2, 0), (2, 0), (2, 0), (2, 0), (2, 0)]),
  /- 38 Client raw3 -/ .inl (1, [(0, 1), (0, 0), (0, 0), (0, 0), (0, 0), (0, 0), (0, 0), (5, 1), (4, 2), (4, 3), (2, 0), (2, 0), (2, 0), (2, 0), (2, 0), (2, 0)]),
  /- 39 Client raw4 -/ .inl (1, [(0, 1), (0, 0), (0, 0), (0, 0), (0, 0), (0, 0), (0, 0), (5, 1), (4, 2), (4, 3), (4, 4), (2, 0), (2, 0), (2, 0), (2, 0), (2, 0)]),
  /- 40 Client raw5 -/ .inl (1, [(0, 1), (0, 0), (0, 0), (0, 0), (0, 0), (0, 0), (0, 0), (5, 1), (4, 2), (4, 3), (4, 4), (12, 5), (2, 0), (2, 0), (2, 0), (2, 0)]),
  /- 41 Client raw6 -/ .inl (1, [(0, 1), (0, 0), (0, 0), (0, 0), (0, 0), (0, 0), (0, 0), (5, 1), (4, 2), (4, 3), (4, 4), (12, 5), (16, 9), (2, 0), (2, 0), (2, 0)]),
  /- 42 Client raw7 -/ .inl (1, [(0, 1), (0, 0), (0, 0), (0, 0), (0, 0), (0, 0), (0, 0), (5, 1), (4, 2), (4, 3), (4, 4), (12, 5), (16, 9), (16, 83), (2, 0), (2, 0)]),
  /- 43 Client raw8 -/ .inl (1, [(0, 1), (0, 0), (0, 0), (0, 0), (0, 0), (0, 0), (0, 0), (5, 1), (4, 2), (4, 3), (4, 4), (12, 5), (16, 9), (16, 83), (13, 157), (2, 0)]),
  /- 44 World raw0 -/ .inl (7, [(0, 0), (0, 0), (0, 0), (2, 0), (2, 0)]),
  /- 45 World raw1 -/ .inl (7, [(0, 0), (0, 0), (0, 0), (11, 1), (2, 0)]),
  /- 46 UndoStack raw0 -/ .inl (6, [(0, 0), (2, 0)]),
  /- 47 WorldDeltas raw0 -/ .inl (8, [(2, 0), (2, 0)]),
  /- 48 WorldDeltas raw1 -/ .inl (8, [(19, 1), (2, 0)]),
  /- 49 None -/ .inr (0, 0, 0, 0, 0),
  /- 50 None -/ .inr (0, 0, 0, 0, 0),
  /- 51 None -/ .inr (0, 0, 0, 0, 0),
  /- 52 None -/ .inr (0, 0, 0, 0, 0),
  /- 53 None -/ .inr (0, 0, 0, 0, 0)]
def KT (k : Nat) : KD := kdL.getD k (.inr (0, 0, 0, 0, 0))
/-- what each kind of array is -/
def tyA : Nat → FieldType := fun t => match t with
  | 0 => .int
  | 1 => .int
  | 2 => .int
  | 3 => .object RX1
  | 4 => .object RX3
  | _ => .object RX8
/-- the object's class of an array's elements, by its place in vwCl -/
def ciA : Nat → Nat := fun t => match t with
  | 3 => 1
  | 4 => 3
  | _ => 7
/-- a field's code beside its type -/
def okF (q : Nat × Nat) (ty : FieldType) : Bool := match q.1, q.2 with
  | 0, 0 => decide (ty = .int)
  | 0, 1 => decide (ty = .boolean)
  | 0, _ => false
  | 1, _ => decide (ty = .long)
  | _, _ => match ty with
    | .object _ => true
    | .array _ => true
    | _ => false
def okFs (T : u_T) : Nat → List (Nat × Nat) → Bool
  | _, [] => true
  | k, q :: r => (match parseFieldDescriptor (T k).2.2.1 with | some ty => okF q ty | none => false) && okFs T (k + 1) r
/-- the kinds are as the classes have them -/
def okK : KD → Bool
  | .inl (ci, fs) => match vwCl[ci]? with
    | some r => decide (fs.length = r.2.2) && okFs r.2.1 0 fs
    | none => false
  | .inr (t, n, ek, _, _) => decide (t < 6) && decide (n < 100000) && decide (t ≠ 1 ∧ t ≠ 2) && (decide (t < 3) || (match kdL[ek]? with | some (.inl (ci, _)) => decide (ci = ciA t) | _ => false))
theorem kd_ok : kdL.all okK = true := by decide +kernel
theorem KT_ok (k : Nat) : okK (KT k) = true := by
  unfold KT
  rw [List.getD_eq_getElem?_getD]
  cases h : kdL[k]? with
  | none => decide +kernel
  | some x => exact List.all_eq_true.mp kd_ok x (List.mem_of_getElem? h)
theorem okFs_at {T : u_T} : ∀ (fs : List (Nat × Nat)) (k0 k : Nat) (q : Nat × Nat), okFs T k0 fs = true → fs[k]? = some q → ∃ ty, parseFieldDescriptor (T (k0 + k)).2.2.1 = some ty ∧ okF q ty = true
  | [], _, _, _, _, h => by simp at h
  | q0 :: r, k0, k, q, h, hq => by
    simp only [okFs, Bool.and_eq_true] at h
    cases k with
    | zero =>
      rw [List.getElem?_cons_zero] at hq
      cases hq
      cases hp : parseFieldDescriptor (T k0).2.2.1 with
      | none => rw [hp] at h; exact absurd h.1 Bool.false_ne_true
      | some ty => rw [hp] at h; exact ⟨ty, rfl, h.1⟩
    | succ k =>
      rw [List.getElem?_cons_succ] at hq
      obtain ⟨ty, h1, h2⟩ := okFs_at r (k0 + 1) k q h.2 hq
      exact ⟨ty, by rw [show k0 + (k + 1) = k0 + 1 + k by omega]; exact h1, h2⟩
/-- the word lists' good words: what every method here may lean on -/
def GW : List Jvm.Cond := lw_tbl.filter goodWord
theorem GW_good : GoodIn GW GW := fun w h => ⟨h, good_of_word (List.mem_filter.mp h).2⟩
/-- a table's word, by its table and place -/
def lwAt (t i : Nat) : Option Jvm.Cond := match t with
  | 0 => (k2_sels lw_privs)[i]?
  | 1 => tables_1_1[i]?
  | 2 => tables_1_2[i]?
  | 3 => tables_1_3[i]?
  | _ => tables_1_4[i]?
theorem lwAt_mem {t i : Nat} {w : Jvm.Cond} (h : lwAt t i = some w) : w ∈ lw_tbl := by
  have hm : ∀ {l : List Jvm.Cond} {i : Nat}, l[i]? = some w → w ∈ l := fun h => List.mem_of_getElem? h
  unfold lw_tbl tables_1
  unfold lwAt at h
  split at h
  · exact List.mem_append_left _ (hm h)
  · exact List.mem_append_right _ (List.mem_append_left _ (hm h))
  · exact List.mem_append_right _ (List.mem_append_right _ (List.mem_append_left _ (hm h)))
  · exact List.mem_append_right _ (List.mem_append_right _ (List.mem_append_right _ (List.mem_append_left _ (hm h))))
  · exact List.mem_append_right _ (List.mem_append_right _ (List.mem_append_right _ (List.mem_append_right _ (hm h))))
def isW (t i : Nat) (w : Jvm.Cond) : Bool := decide (lwAt t i = some w) && goodWord w
theorem isW_in {t i : Nat} {w : Jvm.Cond} (h : isW t i w = true) : w ∈ GW := by
  simp only [isW, Bool.and_eq_true, decide_eq_true_eq] at h
  exact List.mem_filter.mpr ⟨lwAt_mem h.1, h.2⟩
set_option maxRecDepth 100000 in
theorem uw_in0 : ∀ r ∈ vwCl, ∀ w ∈ u_ws r.1 r.2.1 r.2.2, (decide (w ∈ tables_1) && goodWord w) = true := by decide +kernel
theorem uw_in {r : vw_C} (hr : r ∈ vwCl) : ∀ w ∈ u_ws r.1 r.2.1 r.2.2, w ∈ GW := fun w hw => by
  have h := uw_in0 r hr w hw
  simp only [Bool.and_eq_true, decide_eq_true_eq] at h
  exact List.mem_filter.mpr ⟨List.mem_append_right _ h.1, h.2⟩
