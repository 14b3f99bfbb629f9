/-! The machine's rows over a memory: reads and writes of fields and arrays. -/
/-- the exceptions' classes, by what vc calls them -/
def exN : Nat → String
  | 1 => "java/lang/IndexOutOfBoundsException"
  | 2 => "java/lang/IllegalArgumentException"
  | _ => "java/lang/IllegalStateException"
/-- the texts of the class's throws -/
def SLs : List (String × Nat × String) := [(RX9, 208, "no such number of an entity"), (RX9, 213, "an argument is out of range"), (RX9, 220, "the entity does not exist"), (RX9, 222, "no such client"), (RX9, 224, "the client is not connected"), (RX9, 226, "no such packet"), (RX9, 158, "the undo stack is empty")]
/-- the constructors that an exception's constructor calls -/
def DCs : List String := ["java/lang/RuntimeException", "java/lang/Exception", Bundle.tN]
def NMs : List (String × Nat × MethodName × String) := [(RX1, 26, yX5_init, RX9), (RX4, 17, yX3_init, RX9), (RX1, 43, yX0_init, RX9)]
/-- what a method's start gives beside its cells: the classes, the old rows, what a throw reads -/
def KU (g : GPT) (ot : OT) (U : State) : Prop := va_K g.2.1 vwCl (tysG g) U ∧ (∀ k : Nat, 90 ≤ k → k < 93 → ot.1 k < 2 ^ 31 ∧ va_T .int (g.2.2.2 k) (ot.1 k) (fun j => .int (ot.2 k j)) (Ag g) U U.heap) ∧
  (∀ C ∈ [RX1, RX3, RX8], va_AO C U) ∧ (∀ q ∈ NMs, va_Nw (.methodLinkNest q.1 q.2.1 q.2.2.1 q.2.2.2) U) ∧ (∀ i ∈ [1, 2, 3], va_Nw (.castable (exN i) (exN i)) U) ∧ (∀ C ∈ DCs, va_Nw (.declares (Bundle.initS C)) U) ∧ (∀ i ∈ [1, 2, 3], ∀ j ∈ [1, 2, 3], i ≠ j → va_Nc (exN i) (exN j) U) ∧
  va_Z RX6 "SHIFTS" "[I" (.ref (g.2.2.2 91)) (Ag g) U U.heap ∧ va_Z RX6 "MASKS" "[I" (.ref (g.2.2.2 92)) (Ag g) U U.heap ∧
  vx_Zq Bundle.tN "UNASSIGNED_STACK" Bundle.steD (Ag g) U U.heap ∧ vx_Zq Bundle.tN "SUPPRESSED_SENTINEL" Bundle.listD (Ag g) U U.heap ∧ (∀ q ∈ SLs, ∃ a, vk_R q.1 q.2.1 q.2.2 a U)
theorem KU.moved {g : GPT} {ot : OT} {s U : State} (h : KU g ot s) (hW : s.WarmedH U.vm) (hq : ∀ q : Nat, q < s.heap.size → ¬ Ag g q → U.heap[q]? = s.heap[q]?) : KU g ot U := by
  obtain ⟨h1, h2, h3, h4, h5, h5d, h6, h7, h8, h9, h10, h11⟩ := h
  have ha := hW.alike
  refine ⟨h1.moved ha, fun k a b => ⟨(h2 k a b).1, ((h2 k a b).2.moved ha).kept hq⟩, fun C hC => (h3 C hC).moved ha, fun q hq => (h4 q hq).warmM hW, fun i hi => ?_, fun C hC => (h5d C hC).warmD hW, fun i hi j hj ne => (h6 i hi j hj ne).moved ha, (h7.moved ha).kept hq, (h8.moved ha).kept hq, (h9.moved ha).kept hq, (h10.moved ha).kept hq, fun q hq => ?_⟩
  · have e := Cond.castable_setVm (args := #[]) ha (exN i) (exN i)
    exact va_tabs rfl (rfl : (s.setVm U.vm).vm = U.vm) (e.trans (h5 i hi))
  · obtain ⟨a, q1⟩ := h11 q hq
    exact ⟨a, q1.warm hW⟩
theorem va_in_of' {i : Int32} {j n : Nat} (h : i = nI j) (hj : j < n) (hn : n < 2 ^ 31) : vp_in i n ∧ i.toNatClampNeg = j := by
  subst h
  have h1 := nI_clamp (n := j) (by omega)
  refine ⟨?_, h1⟩
  unfold vp_in
  rw [h1]
  intro q
  rcases q with q | q
  · exact nI_pos (by omega) q
  · omega
theorem ob_all {t : Nat} {r : vw_C} (h : t + 3 < 6) (hr : vwCl[ciA (t + 3)]? = some r) : tyA (t + 3) = .object r.1 := by
  match t, h with
  | 0, _ =>
    have h1 : (vwCl[ciA (0 + 3)]?).map (fun q => q.1) = some RX1 := rfl
    rw [hr] at h1
    exact congrArg FieldType.object (Option.some.inj h1).symm
  | 1, _ =>
    have h1 : (vwCl[ciA (1 + 3)]?).map (fun q => q.1) = some RX3 := rfl
    rw [hr] at h1
    exact congrArg FieldType.object (Option.some.inj h1).symm
  | 2, _ =>
    have h1 : (vwCl[ciA (2 + 3)]?).map (fun q => q.1) = some RX8 := rfl
    rw [hr] at h1
    exact congrArg FieldType.object (Option.some.inj h1).symm
section RW
variable {p : Program} {l : Launch} {e : Env} {R : Room} {s : State} {m : MethodId} {args : Array Value} {below : List Frame} {meth : Method} {c : Code} {H : Heap} {locs : List Loc} {cells slots : Nat} {Q : State → Prop}
variable {cc : ByteArray} {pc : Nat} {ls : Array Slot} {rest : List Value} {g : GPT} {ot : OT} {μ : MM} {own : String}
theorem HP.sing {a k : Nat} (h : HP g μ H) (hk : μ.2.2.2.1 a = k) (h0 : ¬ k = 0) : va_P g.2.1 vwCl [(a, FE g μ k a)] H ∧ Ag g a := by
  subst hk
  obtain ⟨h1, h2⟩ := h.2.2 a h0
  refine ⟨fun i q hq => ?_, h1⟩
  have hi : i < 1 := (List.getElem?_eq_some_iff.mp hq).1
  have : i = 0 := by omega
  subst this
  rw [List.getElem?_cons_zero] at hq
  cases hq
  exact h2
theorem r_get (hx : p.tables.exec = Jvm.exec) (hb : c.code = cc) (hown : s.vm.findClass own = some m.cls) (hts : ∀ w ∈ GW, w.before args s = true) (hK : KU g ot s) (hP : HP g μ H)
    {a k ci f ix : Nat} {q : Nat × Nat} {r : vw_C} (hk : μ.2.2.2.1 a = k) (h0 : ¬ k = 0) (hf : fldK KT k ci f = some q) (hr : vwCl[ci]? = some r) (hn : f < r.2.2) (hw : (Jvm.Cond.fieldLink own ix (r.2.1 f).1 (r.2.1 f).2.1 (r.2.1 f).2.2.1) ∈ GW) (hdg : decode cc pc = .ok (.getfield ix, 3))
    (kk : W p l e R s m args below meth c H locs cells slots Q (F0 m (pc + 3) ls (fvl μ a f q :: rest))) : W p l e R s m args below meth c H locs cells slots Q (F0 m pc ls (.ref a :: rest)) := by
  obtain ⟨fs, e1, e2⟩ := fldK_spec hf
  have hP1 := (hP.sing hk h0).1
  have e3 : FE g μ k a = .inr (ci, fvs μ a 0 fs) := by unfold FE; rw [e1]
  rw [e3] at hP1
  have e4 := fvs_at (μ := μ) (a := a) (k0 := 0) e2
  rw [Nat.zero_add] at e4
  exact va_get hx hb hts (uw_in (List.mem_of_getElem? hr)) hown hK.1 hP1 0 (fs := fvs μ a 0 fs) rfl hr f hn (hts _ hw) (fun x h => h) e4 hdg kk
/-- the parts that va_put rests on, told with what stays -/
theorem r_putV (hx : p.tables.exec = Jvm.exec) (hb : c.code = cc) (hown : s.vm.findClass own = some m.cls) (hts : ∀ w ∈ GW, w.before args s = true) (hK : KU g ot s) (hP : HP g μ H) (hS0 : va_S (Ag g) s.heap H locs)
    {a k ci f ix : Nat} {q : Nat × Nat} {r : vw_C} (hk : μ.2.2.2.1 a = k) (h0 : ¬ k = 0) (hf : fldK KT k ci f = some q) (hr : vwCl[ci]? = some r) (hn : f < r.2.2) (hw : (Jvm.Cond.fieldLink own ix (r.2.1 f).1 (r.2.1 f).2.1 (r.2.1 f).2.2.1) ∈ GW)
    (hfin : (r.2.1 f).2.2.2 = false ∨ ((r.2.1 f).2.2.2 = true ∧ meth.name = "<init>" ∧ r.1 = own)) {ty : FieldType} {v : Value} (hd : parseFieldDescriptor (r.2.1 f).2.2.1 = some ty) (hv : narrow ty v = v) (hfit : fits ty v = true) (hdg : decode cc pc = .ok (.putfield ix, 3))
    {μ' : MM} {k1 : Nat} {fs1 : List (Nat × Nat)} (h1 : μ'.2.2.2.1 a = k1) (e1' : KT k1 = .inl (ci, fs1)) (hsz : μ'.2.2.2.2 = μ.2.2.2.2) (hag : ∀ b, b ≠ a → μ'.2.2.2.1 b = μ.2.2.2.1 b ∧ agA μ μ' b)
    (hV : ∀ fs, KT k = .inl (ci, fs) → ∀ j, j < r.2.2 → updV (vp_V (fvs μ a 0 fs)) f v j = vp_V (fvs μ' a 0 fs1) j)
    (kk : ∀ (H1 : Heap) (locs1 : List Loc), HP g μ' H1 → va_S (Ag g) s.heap H1 locs1 → W p l e R s m args below meth c H1 locs1 cells slots Q (F0 m (pc + 3) ls rest)) : W p l e R s m args below meth c H locs cells slots Q (F0 m pc ls (v :: .ref a :: rest)) := by
  obtain ⟨fs, e1, e2⟩ := fldK_spec hf
  have hrm := List.mem_of_getElem? hr
  obtain ⟨hP1, hA⟩ := hP.sing hk h0
  have e3 : FE g μ k a = .inr (ci, fvs μ a 0 fs) := by unfold FE; rw [e1]
  rw [e3] at hP1
  obtain ⟨ty0, hty⟩ := ty_all r hrm
  have hin := uw_in hrm
  have hap := va_apart (own := own) hts hin ty0 hty (nm_all r hrm) hK.1 hr
  obtain ⟨r', g1, cell, q1, q2, q3, q4⟩ := hP1 0 _ rfl
  have hr' : r' = r := Option.some.inj (g1.symm.trans hr)
  subst hr'
  obtain ⟨hS, hfc, kC, hkC, hkind⟩ := hK.1.1 ci _ hr
  obtain ⟨cf, kf, fi, fd, hi, hsl⟩ := hS f hn
  have hlay := hts _ (hin _ (u_in_lay hn))
  have hst := (u_facts hfc hkC (u_lays hts hin hn) hi).1
  have fin : ∀ H' : Heap, H'[a]? = some (cell.setSlot (g.2.1.2 ci f) v) → H'.size = H.size → (∀ q : Nat, q ≠ a → H'[q]? = H[q]?) → W p l e R s m args below meth c H' (locs ++ [⟨a, g.2.1.2 ci f⟩]) cells slots Q (F0 m (pc + 3) ls rest) := by
    intro H' x1 x2 x3
    refine kk H' _ (hP.upd hsz x2 x3 (by rw [hk]; exact h0) ?_ hag) (hS0.put x2 x3 hA)
    rw [h1]
    have e5 : FE g μ' k1 a = .inr (ci, fvs μ' a 0 fs1) := by unfold FE; rw [e1']
    rw [e5]
    exact ⟨r', hr, t_OB.to (V := updV (vp_V (fvs μ a 0 fs)) f v) ⟨_, x1, q2, q3, t_set q4 hap hn v⟩ (hV fs e1)⟩
  rcases hfin with hfin | ⟨hfin, hin2, hdecl⟩
  · unfold u_lay at hlay
    rw [if_neg (by rw [hfin]; decide)] at hlay
    have h6 := u_store hfc hkC hkind hlay hi hd hv hfit
    refine W.putK hx hb (f := fd) ⟨hown, hts _ hw, ⟨_, _, _, hi⟩, hst⟩ (by rw [q2]; exact h6) q1 q3 (by rw [hsl]; exact k2_hasslot (q4 f hn)) rfl rfl hdg fun H' x1 x2 x3 => ?_
    rw [hsl] at x1 ⊢
    exact fin H' x1 x2 x3
  · unfold u_lay at hlay
    rw [if_pos hfin] at hlay
    have hcf : m.cls = cf := by
      obtain ⟨_, _, c', _, _, _, -, -, hf', -, -, -, hown2, -⟩ := Cond.laysFinal_spec hlay
      have z1 : c' = cf := by have := hi.symm.trans hf'; simp at this; exact this.1.symm
      rw [decl_all r' hrm f hn, hdecl] at hown2
      rw [← z1]; exact Option.some.inj (hown.symm.trans hown2)
    have h6 := u_fits hfc hkC hkind (Or.inr hlay) hi hd hv hfit
    refine W.putFinK hx hb hown (hts _ hw) hi hst hcf hin2 (by rw [q2]; exact h6) q1 q3 (by rw [hsl]; exact k2_hasslot (q4 f hn)) rfl rfl hdg fun H' x1 x2 x3 => ?_
    rw [hsl] at x1 ⊢
    exact fin H' x1 x2 x3
theorem FE_arr {k a t n ek o d : Nat} (h : KT k = .inr (t, n, ek, o, d)) : FE g μ k a = .inl (g.2.2.1 t, arv μ a t n o d) := by unfold FE; rw [h]
theorem tysG_at {t : Nat} (h : t < 6) : (tysG g)[t]? = some (g.2.2.1 t, tyA t) := by
  match t, h with
  | 0, _ => rfl
  | 1, _ => rfl
  | 2, _ => rfl
  | 3, _ => rfl
  | 4, _ => rfl
  | 5, _ => rfl
theorem r_iald (hx : p.tables.exec = Jvm.exec) (hb : c.code = cc) (hK : KU g ot s) (hP : HP g μ H) {a k n j : Nat} {q : Nat × Nat × Nat} {i : Int32} (hk : μ.2.2.2.1 a = k) (h0 : ¬ k = 0) (hf : arrK KT k = some (0, n, q)) (hi : i = nI j) (hj : j < n) (hdg : decode cc pc = .ok (.iaload, 1))
    (kk : W p l e R s m args below meth c H locs cells slots Q (F0 m (pc + 1) ls (.int (μ.1 a j) :: rest))) : W p l e R s m args below meth c H locs cells slots Q (F0 m pc ls (.int i :: .ref a :: rest)) := by
  obtain ⟨ek, o, d⟩ := q
  have e1 := arrK_spec hf
  have hP1 := (hP.sing hk h0).1
  rw [FE_arr e1] at hP1
  obtain ⟨i1, i2⟩ := va_in_of' hi hj (by have := (KT_inr e1).2; omega)
  refine va_iald hx hb hK.1 hP1 0 0 (n := n) (f := μ.1 a) rfl rfl i1 hdg ?_
  rw [i2]
  exact kk
theorem r_aald (hx : p.tables.exec = Jvm.exec) (hb : c.code = cc) (hK : KU g ot s) (hP : HP g μ H) {a k n j t ek o d : Nat} {i : Int32} (hk : μ.2.2.2.1 a = k) (h0 : ¬ k = 0) (hf : arrK KT k = some (t + 3, n, ek, o, d)) (hi : i = nI j) (hj : j < n) (hfl : j < μ.2.1 a n) (hdg : decode cc pc = .ok (.aaload, 1))
    (kk : W p l e R s m args below meth c H locs cells slots Q (F0 m (pc + 1) ls (.ref (if d = 0 then μ.2.1 a j else a + o + d * j) :: rest))) : W p l e R s m args below meth c H locs cells slots Q (F0 m pc ls (.int i :: .ref a :: rest)) := by
  have e1 := arrK_spec hf
  have hP1 := (hP.sing hk h0).1
  rw [FE_arr e1] at hP1
  obtain ⟨ht, hn⟩ := KT_inr e1
  obtain ⟨i1, i2⟩ := va_in_of' hi hj (by omega)
  have hty := tysG_at (g := g) ht
  have hob : ∃ C, tyA (t + 3) = .object C := by
    match t, ht with
    | 0, _ => exact ⟨_, rfl⟩
    | 1, _ => exact ⟨_, rfl⟩
    | 2, _ => exact ⟨_, rfl⟩
  obtain ⟨C, hC⟩ := hob
  rw [hC] at hty
  refine va_aldq hx hb hK.1 hP1 0 (t + 3) (n := n) (f := rfs μ a n o d) rfl hty i1 hdg ?_
  rw [i2]
  have : va_rf (rfs μ a n o d j) = .ref (if d = 0 then μ.2.1 a j else a + o + d * j) := by
    unfold rfs
    rw [if_pos hfl]
    split <;> rfl
  rw [this]
  exact kk
/-- an array's cell, written -/
theorem r_arrSet (hP : HP g μ H) (hS : va_S (Ag g) s.heap H locs) {a k t n ek o d j : Nat} (hk : μ.2.2.2.1 a = k) (h0 : ¬ k = 0) (e1 : KT k = .inr (t, n, ek, o, d)) {μ' : MM} (hkk : μ'.2.2.2 = μ.2.2.2) (hag : ∀ b, b ≠ a → agA μ μ' b) {H1 : Heap} (z : H1.size = H.size) (oq : ∀ q : Nat, q ≠ a → H1[q]? = H[q]?)
    (hc : H1[a]? = some (vp_cell (g.2.2.1 t) (arv μ' a t n o d))) : HP g μ' H1 ∧ va_S (Ag g) s.heap H1 (locs ++ [⟨a, j⟩]) := by
  refine ⟨hP.upd (by rw [hkk]) z oq (by rw [hk]; exact h0) ?_ (fun b hb => ⟨by rw [hkk], hag b hb⟩), hS.put z oq (hP.sing hk h0).2⟩
  rw [hkk, hk, FE_arr e1]
  exact hc
theorem upd_up2 {f : Nat → Nat → Int32} {a j : Nat} {x : Int32} : upd (f a) j x = up2 f a j x a := by
  funext q
  simp [upd, up2]
theorem r_iast (hx : p.tables.exec = Jvm.exec) (hb : c.code = cc) (hK : KU g ot s) (hP : HP g μ H) (hS : va_S (Ag g) s.heap H locs) {a k n j : Nat} {q : Nat × Nat × Nat} {i x : Int32} (hk : μ.2.2.2.1 a = k) (h0 : ¬ k = 0) (hf : arrK KT k = some (0, n, q)) (hi : i = nI j) (hj : j < n) (hdg : decode cc pc = .ok (.iastore, 1))
    (kk : ∀ (H1 : Heap) (locs1 : List Loc), HP g (up2 μ.1 a j x, μ.2) H1 → va_S (Ag g) s.heap H1 locs1 → W p l e R s m args below meth c H1 locs1 cells slots Q (F0 m (pc + 1) ls rest)) : W p l e R s m args below meth c H locs cells slots Q (F0 m pc ls (.int x :: .int i :: .ref a :: rest)) := by
  obtain ⟨ek, o, d⟩ := q
  have e1 := arrK_spec hf
  have hP1 := (hP.sing hk h0).1
  rw [FE_arr e1] at hP1
  obtain ⟨i1, i2⟩ := va_in_of' hi hj (by have := (KT_inr e1).2; omega)
  have hc0 : H[a]? = some (vp_cell (g.2.2.1 0) (n, .inl (μ.1 a))) := hP1 0 _ rfl
  refine W.iast hx hb hc0 ((hK.1.2 0 _ rfl).1 n (fun j => .int (μ.1 a j))) (fun q => by cases q) (by show ¬ (i < 0 ∨ (arrV _ _ _).slots.size ≤ _); rw [arrV_size]; exact i1) rfl rfl hdg fun H1 x1 z oq => ?_
  obtain ⟨y1, y2⟩ := r_arrSet (j := i.toNatClampNeg) (μ' := (up2 μ.1 a j x, μ.2)) hP hS hk h0 e1 rfl (fun b hb => ⟨up2_ne hb, rfl, rfl⟩) z oq (by
    rw [x1, i2]
    show some ((vp_cell _ _).setSlot j _) = some (vp_cell (g.2.2.1 0) (n, .inl (up2 μ.1 a j x a)))
    rw [← upd_up2, vp_cell_i, vp_cell_i, arrV_store]
    congr 2
    funext q
    by_cases hq : q = j
    · subst hq
      simp [updV, upd]
    · simp [updV, upd, hq])
  exact kk H1 _ y1 y2
theorem z_nar {x : Int32} (h : x = 0 ∨ x = 1) : vp_nar .boolean x = x ∧ narrow .boolean (.int x) = .int x ∧ fits .boolean (.int x) = true := by
  rcases h with rfl | rfl
  · decide +kernel
  · decide +kernel
/-- a reference stored into a row of references: 'μ2' is what the memory holds of the row behind it -/
theorem r_aast (hx : p.tables.exec = Jvm.exec) (hb : c.code = cc) (hK : KU g ot s) (hP : HP g μ H) (hS : va_S (Ag g) s.heap H locs) {a k n j t ek o d b : Nat} {i : Int32} (hk : μ.2.2.2.1 a = k) (h0 : ¬ k = 0) (hf : arrK KT k = some (t + 3, n, ek, o, d)) (hi : i = nI j) (hj : j < n) (hkb : μ.2.2.2.1 b = ek) (h0b : ¬ ek = 0)
    {r2 : Nat → Nat → Nat} (hr2 : ∀ q, q ≠ a → r2 q = μ.2.1 q) (hrow : ∀ q, q < n → va_up (rfs μ a n o d) j (some b) q = rfs (μ.1, r2, μ.2.2) a n o d q) (hdg : decode cc pc = .ok (.aastore, 1))
    (kk : ∀ (H1 : Heap) (locs1 : List Loc), HP g (μ.1, r2, μ.2.2) H1 → va_S (Ag g) s.heap H1 locs1 → W p l e R s m args below meth c H1 locs1 cells slots Q (F0 m (pc + 1) ls rest)) : W p l e R s m args below meth c H locs cells slots Q (F0 m pc ls (.ref b :: .int i :: .ref a :: rest)) := by
  have e1 := arrK_spec hf
  have hP1 := (hP.sing hk h0).1
  rw [FE_arr e1] at hP1
  obtain ⟨ht, hn⟩ := KT_inr e1
  obtain ⟨i1, i2⟩ := va_in_of' hi hj (by omega)
  have hlt : i.toNatClampNeg < n := by rw [i2]; exact hj
  have hi0 : ¬ i < 0 := fun q => i1 (Or.inl q)
  have hc0 : H[a]? = some (vp_cell (g.2.2.1 (t + 3)) (n, .inr (.inr (.inr (.inr (rfs μ a n o d)))))) := hP1 0 _ rfl
  obtain ⟨fs, hfs⟩ := KT_ek e1 (by omega)
  have hPb := (hP.sing hkb h0b).1
  have eb : FE g μ ek b = .inr (ciA (t + 3), fvs μ b 0 fs) := by unfold FE; rw [hfs]
  rw [eb] at hPb
  obtain ⟨r', hr', cellV, g1, g2, g3, -⟩ := hPb 0 _ rfl
  have hcls := (hK.1.1 (ciA (t + 3)) r' hr').2
  have hob : tyA (t + 3) = .object r'.1 := ob_all ht hr'
  have hty := tysG_at (g := g) ht
  rw [hob] at hty
  obtain ⟨kA, comp, k1, k2, k3, -⟩ := (hK.1.2 (t + 3) _ hty).2
  have hcomp : comp = g.2.1.1 (ciA (t + 3)) := Option.some.inj (k3.symm.trans hcls.1)
  subst hcomp
  obtain ⟨kC, hkC, -⟩ := hcls.2
  refine W.aast hx hb hc0 (fun q h => by cases h) (fun h => by cases h) k1 k2 rfl hkC ⟨hi0, by show _ < (arrV _ _ _).slots.size; rw [arrV_size]; exact hlt⟩ g1 (fun q h => by rw [g3] at h; cases h) (by rw [g2]; exact hkC) (by rw [g2]; exact va_assign hcls) rfl rfl hdg fun H1 x1 z oq => ?_
  obtain ⟨y1, y2⟩ := r_arrSet (j := i.toNatClampNeg) (μ' := (μ.1, r2, μ.2.2)) hP hS hk h0 e1 rfl (fun q hq => ⟨rfl, hr2 q hq, rfl⟩) z oq (by
    rw [x1, i2]
    show some ((vp_cell _ _).setSlot j _) = some (vp_cell (g.2.2.1 (t + 3)) (n, .inr (.inr (.inr (.inr (rfs (μ.1, r2, μ.2.2) a n o d))))))
    rw [vp_cell_q, vp_cell_q, arrV_store]
    congr 1
    unfold arrV
    congr 2
    funext q
    show updV (fun j => va_rf (rfs μ a n o d j)) j (.ref b) q.1 = va_rf (rfs (μ.1, r2, μ.2.2) a n o d q.1)
    rw [← hrow q.1 q.2]
    by_cases hq : q.1 = j
    · simp [updV, va_up, hq]
      rfl
    · simp [updV, va_up, hq])
  exact kk H1 _ y1 y2
end RW
