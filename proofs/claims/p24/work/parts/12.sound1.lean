/-! WHAT THE SECOND READING SAYS HOLDS OF THE MACHINE: one instruction. -/
def MO (ex : Option Nat) (μ0 μ : MM) : Prop := μ0.2.2.2.2 ≤ μ.2.2.2.2 ∧ ∀ b, b < μ0.2.2.2.2 → some b ≠ ex → μ.2.2.2.1 b = μ0.2.2.2.1 b
theorem MO.rf {ex : Option Nat} {μ : MM} : MO ex μ μ := ⟨Nat.le_refl _, fun _ _ _ => rfl⟩
theorem MO.tr {ex : Option Nat} {μ0 μ1 μ2 : MM} (h1 : MO ex μ0 μ1) (hz : μ1.2.2.2.2 ≤ μ2.2.2.2.2) (h2 : ∀ b, b < μ0.2.2.2.2 → some b ≠ ex → μ2.2.2.2.1 b = μ1.2.2.2.1 b) : MO ex μ0 μ2 := ⟨Nat.le_trans h1.1 hz, fun b h0 he => (h2 b h0 he).trans (h1.2 b h0 he)⟩
theorem HP.lt {g : GPT} {μ : MM} {H : Heap} (h : HP g μ H) {b : Nat} (hb : ¬ μ.2.2.2.1 b = 0) : b < μ.2.2.2.2 := by
  have := (h.2.2 b hb).2.lt
  rw [h.1] at this
  exact this
/-- what stands of the walk's method -/
def CX (p : Program) (s : State) (m : MethodId) (args : Array Value) (c : Code) (cc : ByteArray) (nL : Nat) (own : String) (g : GPT) (ot : OT) : Prop :=
  p.tables.exec = Jvm.exec ∧ c.code = cc ∧ c.maxLocals = nL ∧ s.vm.findClass own = some m.cls ∧ (∀ w ∈ GW, w.before args s = true) ∧ KU g ot s
section SW
variable {p : Program} {l : Launch} {e : Env} {R : Room} {s : State} {m : MethodId} {args : Array Value} {below : List Frame} {meth : Method} {c : Code} {Q : State → Prop}
variable {cc : ByteArray} {g : GPT} {ot : OT} {own : String} {nL : Nat} {ex : Option Nat} {μ0 : MM}
def WW (p : Program) (l : Launch) (e : Env) (R : Room) (s : State) (m : MethodId) (args : Array Value) (below : List Frame) (meth : Method) (c : Code) (Q : State → Prop) (g : GPT) (nL : Nat) (ex : Option Nat) (μ0 : MM)
    (pc : Nat) (lc : LC) (st : List TV) (μ : MM) (ce sl : Nat) : Prop :=
  WT μ → tOKl g μ lc → tOKs g μ st → MO ex μ0 μ → (ce ≤ R.cells ∧ sl ≤ R.slots) → ∀ (H : Heap) (locs : List Loc) (ls : Array Slot), HP g μ H → va_S (Ag g) s.heap H locs → LH ls nL lc → W p l e R s m args below meth c H locs ce sl Q (F0 m pc ls (st.map tvV))
def WWr (p : Program) (l : Launch) (e : Env) (R : Room) (s : State) (m : MethodId) (args : Array Value) (below : List Frame) (meth : Method) (c : Code) (Q : State → Prop) (g : GPT) (nL : Nat) (ex : Option Nat) (μ0 : MM) : GC := fun rest lc st μ ce sl => match rest with
  | [] => False
  | e0 :: _ => WW p l e R s m args below meth c Q g nL ex μ0 e0.1 lc st μ ce sl
/-- where a row follows on another -/
def folE (e0 : Ent) (rest : List Ent) : Prop := ∀ e1 r, rest = e1 :: r → e1.1 = e0.1 + e0.2.2.1
theorem WWr.nx {e0 : Ent} {rest : List Ent} {lc : LC} {st : List TV} {μ : MM} {ce sl : Nat} (h : WWr p l e R s m args below meth c Q g nL ex μ0 rest lc st μ ce sl) (hf : folE e0 rest) : WW p l e R s m args below meth c Q g nL ex μ0 (e0.1 + e0.2.2.1) lc st μ ce sl := by
  cases rest with
  | nil => exact h.elim
  | cons e1 r =>
    rw [← hf e1 r rfl]
    exact h
theorem goTo_hd {code : List Ent} {t : Nat} {e1 : Ent} {r : List Ent} (h : goTo code t = e1 :: r) : e1.1 = t := by
  induction code with
  | nil => cases h
  | cons e0 code ih =>
    simp only [goTo] at h
    split at h
    · rename_i he
      cases h
      exact he
    · exact ih h
theorem WWr.jp {code : List Ent} {t : Nat} {lc : LC} {st : List TV} {μ : MM} {ce sl : Nat} (h : WWr p l e R s m args below meth c Q g nL ex μ0 (goTo code t) lc st μ ce sl) : WW p l e R s m args below meth c Q g nL ex μ0 t lc st μ ce sl := by
  cases hg : goTo code t with
  | nil => rw [hg] at h; exact h.elim
  | cons e1 r =>
    rw [hg] at h
    rw [← goTo_hd hg]
    exact h
theorem goTo_sfx {code : List Ent} {t : Nat} : ∃ pre, code = pre ++ goTo code t := by
  induction code with
  | nil => exact ⟨[], rfl⟩
  | cons e0 code ih =>
    simp only [goTo]
    split
    · exact ⟨[], rfl⟩
    · obtain ⟨pre, h⟩ := ih
      exact ⟨e0 :: pre, by rw [List.cons_append, ← h]⟩
/-! what the instructions of the stack and the locals do -/
theorem s_load {pc len i : Nat} {lc : LC} {st : List TV} {μ : MM} {ce sl : Nat} {v : TV} (hg : getL lc i = some v) (k : WW p l e R s m args below meth c Q g nL ex μ0 (pc + len) lc (v :: st) μ ce sl)
    (hr : ∀ (H : Heap) (locs : List Loc) (ls : Array Slot), ls[i]? = some (Slot.val (tvV v)) → W p l e R s m args below meth c H locs ce sl Q (F0 m (pc + len) ls (tvV v :: st.map tvV)) → W p l e R s m args below meth c H locs ce sl Q (F0 m pc ls (st.map tvV))) : WW p l e R s m args below meth c Q g nL ex μ0 pc lc st μ ce sl := by
  intro wt tl ts mo rm H locs ls hP hS hL
  exact hr H locs ls (hL.2.2.2 i v (getL_at hg)) (k wt tl (tOKs_cons.mpr ⟨tl i v (getL_at hg), ts⟩) mo rm H locs ls hP hS hL)
theorem s_push {pc len : Nat} {lc : LC} {st : List TV} {μ : MM} {ce sl : Nat} {v : TV} (hv : tOK g μ v) (k : WW p l e R s m args below meth c Q g nL ex μ0 (pc + len) lc (v :: st) μ ce sl)
    (hr : ∀ (H : Heap) (locs : List Loc) (ls : Array Slot), W p l e R s m args below meth c H locs ce sl Q (F0 m (pc + len) ls (tvV v :: st.map tvV)) → W p l e R s m args below meth c H locs ce sl Q (F0 m pc ls (st.map tvV))) : WW p l e R s m args below meth c Q g nL ex μ0 pc lc st μ ce sl := by
  intro wt tl ts mo rm H locs ls hP hS hL
  exact hr H locs ls (k wt tl (tOKs_cons.mpr ⟨hv, ts⟩) mo rm H locs ls hP hS hL)
theorem s_un {pc len : Nat} {lc : LC} {st : List TV} {μ : MM} {ce sl : Nat} {v w : TV} (hv : tOK g μ v) (k : WW p l e R s m args below meth c Q g nL ex μ0 (pc + len) lc (v :: st) μ ce sl)
    (hr : ∀ (H : Heap) (locs : List Loc) (ls : Array Slot), W p l e R s m args below meth c H locs ce sl Q (F0 m (pc + len) ls (tvV v :: st.map tvV)) → W p l e R s m args below meth c H locs ce sl Q (F0 m pc ls (tvV w :: st.map tvV))) : WW p l e R s m args below meth c Q g nL ex μ0 pc lc (w :: st) μ ce sl := by
  intro wt tl ts mo rm H locs ls hP hS hL
  exact hr H locs ls (k wt tl (tOKs_cons.mpr ⟨hv, (tOKs_cons.mp ts).2⟩) mo rm H locs ls hP hS hL)
theorem s_bin {pc len : Nat} {lc : LC} {st : List TV} {μ : MM} {ce sl : Nat} {v w1 w2 : TV} (hv : tOK g μ v) (k : WW p l e R s m args below meth c Q g nL ex μ0 (pc + len) lc (v :: st) μ ce sl)
    (hr : ∀ (H : Heap) (locs : List Loc) (ls : Array Slot), W p l e R s m args below meth c H locs ce sl Q (F0 m (pc + len) ls (tvV v :: st.map tvV)) → W p l e R s m args below meth c H locs ce sl Q (F0 m pc ls (tvV w1 :: tvV w2 :: st.map tvV))) : WW p l e R s m args below meth c Q g nL ex μ0 pc lc (w1 :: w2 :: st) μ ce sl := by
  intro wt tl ts mo rm H locs ls hP hS hL
  exact hr H locs ls (k wt tl (tOKs_cons.mpr ⟨hv, (tOKs_cons.mp (tOKs_cons.mp ts).2).2⟩) mo rm H locs ls hP hS hL)
theorem s_st1 {pc len i : Nat} {lc : LC} {st : List TV} {μ : MM} {ce sl : Nat} {v : TV} (hc : tvC v = 1) (hi : i < lc.length) (k : WW p l e R s m args below meth c Q g nL ex μ0 (pc + len) (setL lc i v) st μ ce sl)
    (hr : ∀ (H : Heap) (locs : List Loc) (ls : Array Slot) (lv : List (Nat × Value)), lv_has ls nL lv → i < nL → (∀ ls' : Array Slot, lv_has ls' nL ((i, tvV v) :: lv.filter (fun q => !(q.1 == i) && !(q.1 + 1 == i && q.2.category == 2))) → W p l e R s m args below meth c H locs ce sl Q (F0 m (pc + len) ls' (st.map tvV))) → W p l e R s m args below meth c H locs ce sl Q (F0 m pc ls (tvV v :: st.map tvV))) : WW p l e R s m args below meth c Q g nL ex μ0 pc lc (v :: st) μ ce sl := by
  intro wt tl ts mo rm H locs ls hP hS hL
  obtain ⟨t1, t2⟩ := tOKs_cons.mp ts
  exact hr H locs ls _ hL.flat (by rw [← hL.1]; exact hi) fun ls' h' => k wt (tl.set t1) t2 mo rm H locs ls' hP hS (hL.st1 hc h')
theorem s_st2 {pc len i : Nat} {lc : LC} {st : List TV} {μ : MM} {ce sl : Nat} {v : TV} (hc : tvC v = 2) (hi : i + 1 < lc.length) (k : WW p l e R s m args below meth c Q g nL ex μ0 (pc + len) (setL lc i v) st μ ce sl)
    (hr : ∀ (H : Heap) (locs : List Loc) (ls : Array Slot) (lv : List (Nat × Value)), lv_has ls nL lv → i + 1 < nL → (∀ ls' : Array Slot, lv_has ls' nL ((i, tvV v) :: lv.filter (fun q => !(q.1 == i) && (!(q.1 == i + 1) && !(q.1 + 1 == i && q.2.category == 2)))) → W p l e R s m args below meth c H locs ce sl Q (F0 m (pc + len) ls' (st.map tvV))) → W p l e R s m args below meth c H locs ce sl Q (F0 m pc ls (tvV v :: st.map tvV))) : WW p l e R s m args below meth c Q g nL ex μ0 pc lc (v :: st) μ ce sl := by
  intro wt tl ts mo rm H locs ls hP hS hL
  obtain ⟨t1, t2⟩ := tOKs_cons.mp ts
  exact hr H locs ls _ hL.flat (by rw [← hL.1]; exact hi) fun ls' h' => k wt (tl.set t1) t2 mo rm H locs ls' hP hS (hL.st2 hc h')
theorem s_iinc {pc i : Nat} {n : Int} {lc : LC} {st : List TV} {μ : MM} {ce sl : Nat} {x : Int32} (hx : p.tables.exec = Jvm.exec) (hb : c.code = cc) (hg : getL lc i = some (.inl x)) (hi : i < lc.length) (hd : decode cc pc = .ok (.iinc i n, 3)) (k : WW p l e R s m args below meth c Q g nL ex μ0 (pc + 3) (setL lc i (.inl (x + Int32.ofInt n))) st μ ce sl) : WW p l e R s m args below meth c Q g nL ex μ0 pc lc st μ ce sl := by
  intro wt tl ts mo rm H locs ls hP hS hL
  have hm : (i, Value.int x) ∈ (flL lc).map fun q => (q.1, tvV q.2) := List.mem_map.mpr ⟨(i, .inl x), flL_mem.mpr (getL_at hg), rfl⟩
  obtain ⟨kk, hk⟩ := List.getElem?_of_mem hm
  exact lv_iinc hx hb hd hL.flat hk rfl (by rw [← hL.1]; exact hi) rfl fun ls' h' => k wt (tl.set trivial) ts mo rm H locs ls' hP hS (hL.st1 (v := .inl (x + Int32.ofInt n)) rfl h')
end SW
