/-! New cells, copies of rows, statics. -/
section NR
variable {p : Program} {l : Launch} {e : Env} {R : Room} {s : State} {m : MethodId} {args : Array Value} {below : List Frame} {meth : Method} {c : Code} {H : Heap} {locs : List Loc} {cells slots : Nat} {Q : State → Prop}
variable {cc : ByteArray} {pc : Nat} {ls : Array Slot} {rest : List Value} {g : GPT} {ot : OT} {μ : MM} {own : String}
/-- a cell more at the heap's end -/
theorem HP.push {μ' : MM} {H1 : Heap} {k : Nat} (h : HP g μ H) (hsz : μ'.2.2.2.2 = μ.2.2.2.2 + 1) (z : H1.size = H.size + 1) (oq : ∀ q : Nat, q < H.size → H1[q]? = H[q]?) (hk : μ'.2.2.2.1 μ.2.2.2.2 = k)
    (ha : va_at g.2.1 vwCl (H.size, FE g μ' k H.size) H1) (hag : ∀ b, b ≠ μ.2.2.2.2 → μ'.2.2.2.1 b = μ.2.2.2.1 b ∧ agA μ μ' b) : HP g μ' H1 := by
  have hs := h.1
  refine ⟨by rw [z, hsz, hs], by have := h.2.1; omega, fun b hb => ?_⟩
  by_cases e : b = μ.2.2.2.2
  · subst e
    rw [hk]
    refine ⟨by have := h.2.1; omega, ?_⟩
    rw [← hs]
    exact ha
  · obtain ⟨h1, h2⟩ := hag b e
    rw [h1] at hb ⊢
    obtain ⟨h3, h4⟩ := h.2.2 b hb
    refine ⟨h3, ?_⟩
    rw [FE_ag h2]
    exact h4.kept (oq b h4.lt)
theorem S_push {H1 : Heap} (hS : va_S (Ag g) s.heap H locs) (z : H1.size = H.size + 1) (oq : ∀ q : Nat, q < H.size → H1[q]? = H[q]?) : va_S (Ag g) s.heap H1 locs :=
  ⟨Nat.le_trans hS.1 (by omega), fun x h1 h2 => (oq x (Nat.lt_of_lt_of_le h1 hS.1)).trans (hS.2.1 x h1 h2), hS.2.2⟩
theorem fvs_clr {μ : MM} {a : Nat} (h1 : ∀ k, μ.1 a k = 0) (h2 : ∀ k, μ.2.2.1 a k = 0) : ∀ (fs : List (Nat × Nat)) (T : u_T) (k0 : Nat), okFs T k0 fs = true → (∀ q ∈ fs, q.1 < 3) → ∀ k, k < fs.length → ∀ ty, parseFieldDescriptor (T (k0 + k)).2.2.1 = some ty → defaultValue ty = vp_V (fvs μ a k0 fs) k
  | [], _, _, _, _, k, hk, _, _ => absurd hk (Nat.not_lt_zero k)
  | q :: r, T, k0, hok, hq, 0, _, ty, hty => by
    simp only [okFs, Bool.and_eq_true] at hok
    rw [Nat.add_zero] at hty
    rw [hty] at hok
    have h3 := hq q List.mem_cons_self
    obtain ⟨q1, q2⟩ := q
    have e : vp_V (fvs μ a k0 ((q1, q2) :: r)) 0 = fvl μ a k0 (q1, q2) := by simp [vp_V, fvs]
    rw [e]
    have h4 := hok.1
    match q1, h3 with
    | 0, _ =>
      show _ = Value.int (μ.1 a k0)
      rw [h1]
      match q2 with
      | 0 =>
        have : ty = .int := of_decide_eq_true h4
        subst this; rfl
      | 1 =>
        have : ty = .boolean := of_decide_eq_true h4
        subst this; rfl
      | n + 2 => exact absurd h4 Bool.false_ne_true
    | 1, _ =>
      show _ = Value.long (μ.2.2.1 a k0)
      rw [h2]
      have : ty = .long := of_decide_eq_true h4
      subst this; rfl
    | 2, _ =>
      show _ = Value.null
      cases ty <;> first | rfl | exact absurd h4 Bool.false_ne_true
  | q :: r, T, k0, hok, hq, k + 1, hk, ty, hty => by
    simp only [okFs, Bool.and_eq_true] at hok
    have h := fvs_clr (a := a) h1 h2 r T (k0 + 1) hok.2 (fun x hx => hq x (List.mem_cons_of_mem _ hx)) k (by simpa using hk) ty (by rw [show k0 + 1 + k = k0 + (k + 1) by omega]; exact hty)
    rw [h]
    simp [vp_V, fvs]
theorem r_new (hx : p.tables.exec = Jvm.exec) (hb : c.code = cc) (hown : s.vm.findClass own = some m.cls) (hts : ∀ w ∈ GW, w.before args s = true) (hK : KU g ot s) (hP : HP g μ H) (hS : va_S (Ag g) s.heap H locs)
    {k ci ix n : Nat} {fs : List (Nat × Nat)} {r : vw_C} (hk : KT k = .inl (ci, fs)) (hraw : ∀ q ∈ fs, q.1 < 3) (hr : vwCl[ci]? = some r) (hn : n = r.2.2) (w1 : (Jvm.Cond.classLink own ix r.1) ∈ GW) (w2 : (Jvm.Cond.instantiable r.1 n) ∈ GW) (w3 : (Jvm.Cond.initialized r.1) ∈ GW)
    (hdg : decode cc pc = .ok (.new ix, 3)) (hc : cells + 1 ≤ R.cells) (hs : slots + n ≤ R.slots)
    (kk : ∀ (H1 : Heap), HP g (clr μ.1 μ.2.2.2.2 0, μ.2.1, clr μ.2.2.1 μ.2.2.2.2 0, up1 μ.2.2.2.1 μ.2.2.2.2 k, μ.2.2.2.2 + 1) H1 → va_S (Ag g) s.heap H1 locs → W p l e R s m args below meth c H1 locs (cells + 1) (slots + n) Q (F0 m (pc + 3) ls (.ref μ.2.2.2.2 :: rest))) :
    W p l e R s m args below meth c H locs cells slots Q (F0 m pc ls rest) := by
  subst hn
  have hrm := List.mem_of_getElem? hr
  have hKn := hK.1.1 ci _ hr
  obtain ⟨ty0, hty⟩ := ty_all r hrm
  have hok := KT_ok k
  rw [hk] at hok
  simp only [okK, hr, Bool.and_eq_true, decide_eq_true_eq] at hok
  refine W.newcK hx hb hown (hts _ w1) (hts _ w2) (hts _ w3) rfl hdg hc hs hKn.2.1 rfl fun H1 kC hkC e1 z1 o1 => ?_
  rw [hP.1]
  refine kk H1 ?_ (S_push hS z1 o1)
  refine hP.push (k := k) rfl z1 o1 up1_eq ?_ (fun b hb => ⟨up1_ne hb, clr_ne hb, rfl, clr_ne hb⟩)
  have e5 : FE g (clr μ.1 μ.2.2.2.2 0, μ.2.1, clr μ.2.2.1 μ.2.2.2.2 0, up1 μ.2.2.2.1 μ.2.2.2.2 k, μ.2.2.2.2 + 1) k H.size = .inr (ci, fvs (clr μ.1 μ.2.2.2.2 0, μ.2.1, clr μ.2.2.1 μ.2.2.2.2 0, up1 μ.2.2.2.1 μ.2.2.2.2 k, μ.2.2.2.2 + 1) H.size 0 fs) := by unfold FE; rw [hk]
  rw [e5]
  refine ⟨r, hr, (u_born ty0 hts (uw_in hrm) hKn hkC e1 hty).to fun j hj => ?_⟩
  refine fvs_clr (fun j => ?_) (fun j => ?_) fs r.2.1 0 hok.2 hraw j (by omega) (ty0 j) (by rw [Nat.zero_add]; exact hty j hj)
  · rw [hP.1]; simp [clr]
  · rw [hP.1]; simp [clr]
theorem findA {t : Nat} (hK : KU g ot s) (ht : t < 3) : s.vm.findClass ("[" ++ (tyA t).toString) = some (g.2.2.1 t) := by
  have h := (hK.1.2 t _ (tysG_at (g := g) (by omega))).2
  match t, ht with
  | 0, _ => exact h
  | 1, _ => exact h
  | 2, _ => exact h
theorem r_newa (hx : p.tables.exec = Jvm.exec) (hb : c.code = cc) (hts : ∀ w ∈ GW, w.before args s = true) (hK : KU g ot s) (hP : HP g μ H) (hS : va_S (Ag g) s.heap H locs)
    {k t n : Nat} {q : Nat × Nat × Nat} {x : Int32} {at' : ArrayType} (hk : KT k = .inr (t, n, q)) (ht : t < 3) (hat : newarray.typeOf at' = tyA t) (hxn : x = Int32.ofNat n) (w1 : (Jvm.Cond.arrayClass (newarray.typeOf at')) ∈ GW)
    (hdg : decode cc pc = .ok (.newarray at', 2)) (hc : cells + 1 ≤ R.cells) (hs : slots + n ≤ R.slots)
    (kk : ∀ (H1 : Heap), HP g (clr μ.1 μ.2.2.2.2 0, μ.2.1, clr μ.2.2.1 μ.2.2.2.2 0, up1 μ.2.2.2.1 μ.2.2.2.2 k, μ.2.2.2.2 + 1) H1 → va_S (Ag g) s.heap H1 locs → W p l e R s m args below meth c H1 locs (cells + 1) (slots + n) Q (F0 m (pc + 2) ls (.ref μ.2.2.2.2 :: rest))) :
    W p l e R s m args below meth c H locs cells slots Q (F0 m pc ls (.int x :: rest)) := by
  obtain ⟨ek, o, d⟩ := q
  have hn := (KT_inr hk).2
  have hx1 : x = nI n := hxn
  have c1 : x.toNatClampNeg = n := by rw [hx1]; exact nI_clamp (by omega)
  have hbt : componentBytes (newarray.typeOf at') ≤ 8 := by cases at' <;> decide
  refine va_newaK hx hb (hts _ w1) rfl hdg rfl (by rw [hx1]; exact nI_pos (by omega)) c1 (by
    have : n * componentBytes (newarray.typeOf at') ≤ n * 8 := Nat.mul_le_mul_left _ hbt
    omega) hc hs rfl fun H1 cA e1 z1 o1 hAr hNm => ?_
  have hcA : cA = g.2.2.1 t := by
    rw [hat] at hNm
    exact Option.some.inj (hNm.symm.trans (findA hK ht))
  subst hcA
  rw [hP.1]
  refine kk H1 ?_ (S_push hS z1 o1)
  refine hP.push (k := k) rfl z1 o1 up1_eq ?_ (fun b hb => ⟨up1_ne hb, clr_ne hb, rfl, clr_ne hb⟩)
  rw [FE_arr hk]
  show H1[H.size]? = some (vp_cell _ _)
  rw [e1, hat]
  congr 1
  have z0 : clr μ.1 μ.2.2.2.2 0 H.size = fun _ => 0 := by funext j; rw [hP.1]; simp [clr]
  have z2 : clr μ.2.2.1 μ.2.2.2.2 0 H.size = fun _ => 0 := by funext j; rw [hP.1]; simp [clr]
  match t, ht with
  | 0, _ => show _ = vp_cell _ (n, .inl (clr μ.1 μ.2.2.2.2 0 H.size)); rw [z0]; rfl
  | 1, _ => exact absurd rfl (KT_n12 hk).1
  | 2, _ => exact absurd rfl (KT_n12 hk).2
theorem r_newq (hx : p.tables.exec = Jvm.exec) (hb : c.code = cc) (hown : s.vm.findClass own = some m.cls) (hts : ∀ w ∈ GW, w.before args s = true) (hK : KU g ot s) (hP : HP g μ H) (hS : va_S (Ag g) s.heap H locs)
    {k t n ix : Nat} {q : Nat × Nat × Nat} {x : Int32} {r : vw_C} (hk : KT k = .inr (t + 3, n, q)) (hr : vwCl[ciA (t + 3)]? = some r) (hxn : x = Int32.ofNat n) (w1 : (Jvm.Cond.classLink own ix r.1) ∈ GW)
    (hdg : decode cc pc = .ok (.anewarray ix, 3)) (hc : cells + 1 ≤ R.cells) (hs : slots + n ≤ R.slots)
    (kk : ∀ (H1 : Heap), HP g (μ.1, up2 μ.2.1 μ.2.2.2.2 n 0, μ.2.2.1, up1 μ.2.2.2.1 μ.2.2.2.2 k, μ.2.2.2.2 + 1) H1 → va_S (Ag g) s.heap H1 locs → W p l e R s m args below meth c H1 locs (cells + 1) (slots + n) Q (F0 m (pc + 3) ls (.ref μ.2.2.2.2 :: rest))) :
    W p l e R s m args below meth c H locs cells slots Q (F0 m pc ls (.int x :: rest)) := by
  obtain ⟨ek, o, d⟩ := q
  obtain ⟨ht, hn⟩ := KT_inr hk
  have hx1 : x = nI n := hxn
  have c1 : x.toNatClampNeg = n := by rw [hx1]; exact nI_clamp (by omega)
  have hob := ob_all ht hr
  have hao : va_AO r.1 s := by
    refine hK.2.2.1 r.1 ?_
    match t, ht with
    | 0, _ =>
      have h1 : tyA (0 + 3) = .object RX1 := rfl
      rw [h1] at hob
      rw [← FieldType.object.inj hob]
      simp
    | 1, _ =>
      have h1 : tyA (1 + 3) = .object RX3 := rfl
      rw [h1] at hob
      rw [← FieldType.object.inj hob]
      simp
    | 2, _ =>
      have h1 : tyA (2 + 3) = .object RX8 := rfl
      rw [h1] at hob
      rw [← FieldType.object.inj hob]
      simp
  refine W.anew hx hb hown (hts _ w1) (va_AO.use hao) rfl hdg rfl (by rw [hx1]; exact nI_pos (by omega)) (by rw [c1]; omega) hc (by rw [c1]; exact hs) fun cA kA comp f1 f2 f3 f4 => ?_
  rw [c1]
  have hcA : cA = g.2.2.1 (t + 3) := by
    have h := (hK.1.2 (t + 3) _ (tysG_at (g := g) ht)).2
    rw [hob] at h
    obtain ⟨_, _, -, -, -, h4⟩ := h
    exact Option.some.inj (f1.symm.trans h4)
  subst hcA
  generalize hH1 : H.push ({ cls := g.2.2.1 (t + 3), slots := Array.replicate n .null, vm := .none } : Cell) = H1
  have z1 : H1.size = H.size + 1 := by rw [← hH1, Array.size_push]
  have e1 : H1[H.size]? = some (arrV (g.2.2.1 (t + 3)) n (fun _ => .null)) := by rw [← hH1, Array.getElem?_push_size, ← arrV_new]
  have o1 : ∀ q : Nat, q < H.size → H1[q]? = H[q]? := fun q hq => by rw [← hH1, Array.getElem?_push, if_neg (Nat.ne_of_lt hq)]
  rw [hP.1]
  refine kk H1 ?_ (S_push hS z1 o1)
  refine hP.push (k := k) rfl z1 o1 up1_eq ?_ (fun b hb => ⟨up1_ne hb, rfl, up2_ne hb, rfl⟩)
  rw [FE_arr hk]
  show H1[H.size]? = some (vp_cell _ _)
  rw [e1]
  congr 1
  show _ = vp_cell _ (n, .inr (.inr (.inr (.inr (rfs _ _ _ _ _)))))
  rw [vp_cell_q]
  unfold arrV
  congr 2
  funext j
  have : rfs (μ.1, up2 μ.2.1 μ.2.2.2.2 n 0, μ.2.2.1, up1 μ.2.2.2.1 μ.2.2.2.2 k, μ.2.2.2.2 + 1) H.size n o d j.1 = none := by
    unfold rfs
    rw [if_neg]
    rw [hP.1]
    show ¬ j.1 < up2 μ.2.1 μ.2.2.2.2 n 0 μ.2.2.2.2 n
    rw [up2_eq]
    omega
  show Value.null = va_rf (rfs _ _ _ _ _ j.1)
  rw [this]
  rfl
theorem r_copy (hx : p.tables.exec = Jvm.exec) (hb : c.code = cc) (hml : c.maxLocals = ls.size) (hown : s.vm.findClass own = some m.cls) (hts : ∀ w ∈ GW, w.before args s = true) (hK : KU g ot s) (hP : HP g μ H) (hS : va_S (Ag g) s.heap H locs)
    {ix a0 a k0 k1 n0 n1 i0 i1 n : Nat} {q0 q1 : Nat × Nat × Nat} {sp dp x : Int32} (w1 : (Jvm.Cond.methodLink own ix arraycopyName) ∈ GW) (w2 : (Jvm.Cond.native arraycopyName) ∈ GW) (w3 : (Jvm.Cond.static arraycopyName) ∈ GW) (w4 : (Jvm.Cond.initialized "java/lang/System") ∈ GW)
    (hk0 : μ.2.2.2.1 a0 = k0) (h00 : ¬ k0 = 0) (hf0 : arrK KT k0 = some (0, n0, q0)) (hk1 : μ.2.2.2.1 a = k1) (h01 : ¬ k1 = 0) (hf1 : arrK KT k1 = some (0, n1, q1)) (hsp : sp = nI i0) (hdp : dp = nI i1) (hn : x = nI n) (b0 : i0 + n ≤ n0) (b1 : i1 + n ≤ n1)
    (hframes : 1 ≤ R.frames) (hlocals : (rest.map fun v => v.category).sum + (nativeFrameWords "java/lang/System" "arraycopy" 5 + 11) ≤ R.locals) (hdg : decode cc pc = .ok (.invokestatic ix, 3))
    (kk : ∀ (H1 : Heap) (locs1 : List Loc), HP g (cpR μ.1 a0 i0 a i1 n, μ.2) H1 → va_S (Ag g) s.heap H1 locs1 → W p l e R s m args below meth c H1 locs1 cells slots Q (F0 m (pc + 3) ls rest)) : W p l e R s m args below meth c H locs cells slots Q (F0 m pc ls (.int x :: .int dp :: .ref a :: .int sp :: .ref a0 :: rest)) := by
  obtain ⟨ek0, o0, d0⟩ := q0
  obtain ⟨ek1, o1, d1⟩ := q1
  have e0 := arrK_spec hf0
  have e1 := arrK_spec hf1
  have hb0 := (KT_inr e0).2
  have hb1 := (KT_inr e1).2
  have hP0 := (hP.sing hk0 h00).1
  rw [FE_arr e0] at hP0
  have hc0 : H[a0]? = some (vp_cell (g.2.2.1 0) (n0, .inl (μ.1 a0))) := hP0 0 _ rfl
  have hP1 := (hP.sing hk1 h01).1
  rw [FE_arr e1] at hP1
  have hc1 : H[a]? = some (vp_cell (g.2.2.1 0) (n1, .inl (μ.1 a))) := hP1 0 _ rfl
  have cs : sp.toNatClampNeg = i0 := by rw [hsp]; exact nI_clamp (by omega)
  have cd : dp.toNatClampNeg = i1 := by rw [hdp]; exact nI_clamp (by omega)
  have cn : x.toNatClampNeg = n := by rw [hn]; exact nI_clamp (by omega)
  have is : sp.toInt = (i0 : Int) := by rw [hsp]; exact nI_toInt (by omega)
  have id' : dp.toInt = (i1 : Int) := by rw [hdp]; exact nI_toInt (by omega)
  have in' : x.toInt = (n : Int) := by rw [hn]; exact nI_toInt (by omega)
  intro T hT X
  obtain ⟨-, k0', hk0', cm0, hkk0⟩ := (hK.1.2 0 _ rfl).1 n0 (fun j => .int (μ.1 a0 j))
  obtain ⟨-, k1', hk1', cm1, hkk1⟩ := (hK.1.2 0 _ rfl).1 n1 (fun j => .int (μ.1 a j))
  obtain ⟨vm', X', step⟩ := X.arraycopy hx hown (hts _ w1) (hts _ w2) (hts _ w3) (hts _ w4) (src := a0) (dst := a) (cs := vp_cell (g.2.2.1 0) (n0, .inl (μ.1 a0))) (cd := vp_cell (g.2.2.1 0) (n1, .inl (μ.1 a))) (srcPos := sp) (destPos := dp) (n := x) (by rw [hT]; exact hc0) (by rw [hT]; exact hc1)
    (fun _ h => by cases h) (fun _ h => by cases h) (fun h => by cases h) (fun h => by cases h) hk0' hk1' hkk0 hkk1 (by simp [refKind]) (by rw [hsp]; exact nI_pos (by omega)) (by rw [hdp]; exact nI_pos (by omega)) (by rw [hn]; exact nI_pos (by omega))
    (by rw [is, in']; show ¬ _ > ((arrV (g.2.2.1 0) n0 (fun j => .int (μ.1 a0 j))).slots.size : Int); rw [arrV_size]; omega)
    (by rw [id', in']; show ¬ _ > ((arrV (g.2.2.1 0) n1 (fun j => .int (μ.1 a j))).slots.size : Int); rw [arrV_size]; omega)
    (fun vm₁ _ i hi => by
      have e : (vp_cell (g.2.2.1 0) (n0, .inl (μ.1 a0))).slots.getD (sp.toNatClampNeg + i) .null = .int (μ.1 a0 (sp.toNatClampNeg + i)) := by
        show (arrV (g.2.2.1 0) n0 (fun j => .int (μ.1 a0 j))).slots.getD _ _ = _
        rw [Array.getD_eq_getD_getElem?, arrV_read _ _ (by omega)]
        rfl
      refine ⟨?_, ?_⟩
      · rw [e]; rfl
      · rw [e]
        exact trivial)
    (g := F0 m pc ls (.int x :: .int dp :: .ref a :: .int sp :: .ref a0 :: rest)) rfl (by rw [hml]) (rest := rest) rfl (by rw [hb]; exact hdg) hframes (by show 2 * 0 + _ + _ ≤ _; omega)
  have ec : copied (vp_cell (g.2.2.1 0) (n0, .inl (μ.1 a0))) (vp_cell (g.2.2.1 0) (n1, .inl (μ.1 a))) sp dp x = vp_cell (g.2.2.1 0) (n1, .inl (va_cpy (μ.1 a0) (μ.1 a) sp.toNatClampNeg dp.toNatClampNeg x.toNatClampNeg)) := va_copied (fun z => .int z) (g.2.2.1 0) (g.2.2.1 0) (μ.1 a0) (μ.1 a) (by omega)
  rw [ec, cs, cd, cn] at X' step
  have hl : a < H.size := (Array.getElem?_eq_some_iff.mp hc1).1
  have ex : va_cpy (μ.1 a0) (μ.1 a) i0 i1 n = cpR μ.1 a0 i0 a i1 n a := by
    funext j
    simp [va_cpy, cpR]
  rw [ex] at X' step
  have hheap : ((T.setVm vm').setCell a (vp_cell (g.2.2.1 0) (n1, .inl (cpR μ.1 a0 i0 a i1 n a)))).heap = H.setIfInBounds a (vp_cell (g.2.2.1 0) (n1, .inl (cpR μ.1 a0 i0 a i1 n a))) := by rw [← hT]; rfl
  have oq : ∀ q : Nat, q ≠ a → (H.setIfInBounds a (vp_cell (g.2.2.1 0) (n1, .inl (cpR μ.1 a0 i0 a i1 n a))))[q]? = H[q]? := fun q hq => by simp [Array.getElem?_setIfInBounds, Ne.symm hq]
  have hA := (hP.sing hk1 h01).2
  have y1 := (r_arrSet (j := 0) (μ' := (cpR μ.1 a0 i0 a i1 n, μ.2)) hP hS hk1 h01 e1 rfl (fun b hb => ⟨cpR_ne hb, rfl, rfl⟩) (by simp) oq (show (H.setIfInBounds a _)[a]? = some _ by simp [Array.getElem?_setIfInBounds, hl]; rfl)).1
  obtain ⟨t, a1, b2⟩ := kk _ _ y1 ⟨by simp; exact hS.1, fun q g1 g2 => by
      rw [oq q (fun e => g2 (by rw [e]; exact hA))]
      exact hS.2.1 q g1 g2, fun q hq => by
      rcases List.mem_append.mp hq with h | h
      · exact hS.2.2 q h
      · obtain ⟨z, -, hz⟩ := List.mem_map.mp h
        rw [← hz]
        exact hA⟩ _ hheap X'
  exact ⟨t, step t a1, b2⟩
end NR
