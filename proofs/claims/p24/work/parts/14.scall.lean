/-! Calls, throws and handlers in the second reading. -/
section SC
variable {p : Program} {l : Launch} {e : Env} {R : Room} {s : State} {m : MethodId} {args : Array Value} {below : List Frame} {meth : Method} {c : Code} {Q : State → Prop}
variable {cc : ByteArray} {g : GPT} {ot : OT} {own : String} {nL : Nat} {ex : Option Nat} {μ0 : MM}
/-- a throw that nobody catches here -/
def hThrQ (p : Program) (l : Launch) (e : Env) (R : Room) (s : State) (m : MethodId) (args : Array Value) (below : List Frame) (meth : Method) (c : Code) (Q : State → Prop) (g : GPT) (ex : Option Nat) (μ0 : MM) (Rt : OC → MM → Prop) (hn : List (Nat × Nat × Nat × Nat)) : Prop :=
  ∀ (i : Nat) (μ : MM) (H : Heap) (locs : List Loc) (ls : Array Slot) (rest : List Value) (pc ce sl : Nat) (q : Addr) (cell : Cell), hn = [] → i ∈ [1, 2, 3] → PO g ex μ0 μ H → Rt (.inr i) μ → (ce ≤ R.cells ∧ sl ≤ R.slots) → va_S (Ag g) s.heap H locs → H[q]? = some cell → cell.vm = .none → s.vm.findClass (exN i) = some cell.cls → vx_W p l e R s m args below meth c H locs ce sl Q (F0 m pc ls rest) q
/-- a throw that a row of the table catches -/
def hCatQ (p : Program) (l : Launch) (e : Env) (R : Room) (s : State) (m : MethodId) (args : Array Value) (below : List Frame) (meth : Method) (c : Code) (Q : State → Prop) (hn : List (Nat × Nat × Nat × Nat)) : Prop :=
  ∀ (i h pc : Nat) (H : Heap) (locs : List Loc) (ls : Array Slot) (rest : List Value) (ce sl : Nat) (q : Addr) (cell : Cell), i ∈ [1, 2, 3] → catR hn pc i = some h → H[q]? = some cell → cell.vm = .none → s.vm.findClass (exN i) = some cell.cls → W p l e R s m args below meth c H locs ce sl Q (F0 m h ls [.ref q]) → vx_W p l e R s m args below meth c H locs ce sl Q (F0 m pc ls rest) q
theorem MO.none_keep {μ μ' : MM} {H : Heap} {v : TV} (h : MO none μ μ') (hP : HP g μ H) (hv : tOK g μ v) : tOK g μ' v := hv.keep fun b hb _ _ _ _ _ => h.2 b (hP.lt hb) (fun q => nomatch q)
theorem MO.none_tr {μ μ' : MM} (h0 : MO ex μ0 μ) (h : MO none μ μ') : MO ex μ0 μ' := h0.tr h.1 fun b hb _ => h.2 b (Nat.lt_of_lt_of_le hb h0.1) (fun q => nomatch q)
theorem rmP_sp {Rn : Nat × Nat} {mc ms ce sl : Nat} {P : Prop} (hR : Rn = (R.cells, R.slots)) (h : rmP Rn mc ms ce sl P) (h0 : ¬ mc = 0 ∨ ms = 0) (hb : ce ≤ R.cells ∧ sl ≤ R.slots) : (ce + mc ≤ R.cells ∧ sl + ms ≤ R.slots) ∧ P := by
  subst hR
  unfold rmP at h
  split at h
  · have : ms = 0 := by omega
    subst this
    exact ⟨hb, h⟩
  · exact h
/-- what stands behind a call: its end by aftC -/
theorem aft_ok {code : List Ent} {hn : List (Nat × Nat × Nat × Nat)} {G : GC} {Rt : OC → MM → Prop} {rest : List Ent} {lc : LC} {st : List TV} {μ : MM} {ce sl pc : Nat} {i0 : Instr} {an : List Nat}
    (hG : ∀ (es : List Ent) (lc : LC) (st : List TV) (μ : MM) (ce sl : Nat), (∃ pre, code = pre ++ es) → G es lc st μ ce sl → WWr p l e R s m args below meth c Q g nL ex μ0 es lc st μ ce sl)
    (hsf : ∃ pre, code = pre ++ rest) (hfol : folE (pc, i0, 3, an) rest) (hThr : hThrQ p l e R s m args below meth c Q g ex μ0 Rt hn) (hCat : hCatQ p l e R s m args below meth c Q hn)
    {H0 : Heap} (hP : HP g μ H0) (tl : tOKl g μ lc) (ts : tOKs g μ st) (mo : MO ex μ0 μ) (rm : ce ≤ R.cells ∧ sl ≤ R.slots) {ls : Array Slot} (hL : LH ls nL lc) :
    (∀ (v : Option TV) (μ' : MM) (H1 : Heap) (locs1 : List Loc), PO g none μ μ' H1 → (∀ w, v = some w → tOK g μ' w) → aftC code hn G Rt pc rest lc st ce sl (.inl v) μ' → va_S (Ag g) s.heap H1 locs1 → W p l e R s m args below meth c H1 locs1 ce sl Q (F0 m (pc + 3) ls ((v.map tvV).toList ++ st.map tvV))) ∧
    (∀ (i : Nat) (μ' : MM) (H1 : Heap) (locs1 : List Loc) (q : Addr) (cell : Cell), i ∈ [1, 2, 3] → PO g none μ μ' H1 → aftC code hn G Rt pc rest lc st ce sl (.inr i) μ' → va_S (Ag g) s.heap H1 locs1 → H1[q]? = some cell → cell.vm = .none → s.vm.findClass (exN i) = some cell.cls → vx_W p l e R s m args below meth c H1 locs1 ce sl Q (F0 m pc ls (st.map tvV)) q) := by
  refine ⟨fun v μ' H1 locs1 hp hw hk hS => ?_, fun i μ' H1 locs1 q cell hi hp hk hS hc hv hcl => ?_⟩
  · have tl' : tOKl g μ' lc := fun i v h => hp.2.2.none_keep hP (tl i v h)
    have ts' : tOKs g μ' st := fun v h => hp.2.2.none_keep hP (ts v h)
    have mo' := mo.none_tr hp.2.2
    cases v with
    | none =>
      have k := (hG _ _ _ _ _ _ hsf hk).nx hfol
      exact k hp.2.1 tl' ts' mo' rm H1 locs1 ls hp.1 hS hL
    | some w =>
      have k := (hG _ _ _ _ _ _ hsf hk).nx hfol
      exact k hp.2.1 tl' (tOKs_cons.mpr ⟨hw w rfl, ts'⟩) mo' rm H1 locs1 ls hp.1 hS hL
  · simp only [aftC] at hk
    split at hk
    · rename_i h hcat
      refine hCat i h pc H1 locs1 ls _ ce sl q cell hi hcat hc hv hcl ?_
      have k := (hG _ _ _ _ _ _ goTo_sfx (hk q)).jp
      exact k hp.2.1 (fun i v h => hp.2.2.none_keep hP (tl i v h)) (tOKs_cons.mpr ⟨⟨fun h => absurd h (by omega), fun _ h => absurd h (by omega)⟩, tOKs_nil⟩) (mo.none_tr hp.2.2) rm H1 locs1 ls hp.1 hS hL
    · split at hk
      · rename_i hne
        exact hThr i μ' H1 locs1 ls _ pc ce sl q cell rfl hi ⟨hp.1, hp.2.1, mo.none_tr hp.2.2⟩ hk rm hS hc hv hcl
      · exact hk.elim
theorem good_ws {ci : CI} (h : (wsOf ci).headD .tt ∈ GW) : GoodIn GW (wsOf ci) := by
  intro w hw
  rcases List.mem_cons.mp hw with e | e
  · rw [e]; exact GW_good _ h
  · exact GW_good w e
theorem s_call {fr lo : Nat} {code : List Ent} {ct : List (Nat × CI)} {hn : List (Nat × Nat × Nat × Nat)} {Rn : Nat × Nat} {G : GC} {Rt : OC → MM → Prop} {rest : List Ent} {lc : LC} {st : List TV} {μ : MM} {ce sl pc ix : Nat} {i0 : Instr} {an ws : List Nat} {ci : CI}
    (C : CX p s m args c cc nL own g ot) (hR : Rn = (R.cells, R.slots)) (hfr : fr ≤ R.frames) (hlo : lo ≤ R.locals)
    (hG : ∀ (es : List Ent) (lc : LC) (st : List TV) (μ : MM) (ce sl : Nat), (∃ pre, code = pre ++ es) → G es lc st μ ce sl → WWr p l e R s m args below meth c Q g nL ex μ0 es lc st μ ce sl)
    (hsf : ∃ pre, code = pre ++ rest) (hfol : folE (pc, i0, 3, an) rest) (hThr : hThrQ p l e R s m args below meth c Q g ex μ0 Rt hn) (hCat : hCatQ p l e R s m args below meth c Q hn)
    (hck : chkC own ct fr lo ix ws = true) (hl : lkC ct ix = some ci) (hM : MS g ot l ci)
    (hd : (decode cc pc = .ok (.invokestatic ix, 3) ∧ (ci.2.2.2.2.2.2.1 = 0 ∨ ci.2.2.2.2.2.2.1 = 4)) ∨ (decode cc pc = .ok (.invokevirtual ix, 3) ∧ 10 ≤ ci.2.2.2.2.2.2.1))
    (h : calR KT code hn Rn G Rt ci pc rest lc st μ ce sl) : WW p l e R s m args below meth c Q g nL ex μ0 pc lc st μ ce sl := by
  obtain ⟨hx, hb, hml, hown, hts, hK⟩ := C
  obtain ⟨k0, k1, k2, k3, k4, k5, -, k6, k7, k8, -⟩ := chkC_sp hck hl
  obtain ⟨y, cb, mL, ret, n, ⟨f2, mc, ms, l2⟩, mode, hh, sp⟩ := ci
  dsimp only [calR] at h
  split at h
  case isFalse => exact h.elim
  rename_i hn1
  obtain ⟨hn1, hrc, hsum⟩ := hn1
  intro wt tl ts mo rm H locs ls hP hS hL
  obtain ⟨rm2, hsp⟩ := rmP_sp hR h k0 rm
  have ts1 : tOKs g μ (st.drop n) := fun v hv => ts v (List.mem_of_mem_drop hv)
  have ta : tOKs g μ (st.take n).reverse := fun v hv => ts v (List.mem_of_mem_take (List.mem_reverse.mp hv))
  have hlen : (st.take n).reverse.length = n := by rw [List.length_reverse, List.length_take]; omega
  obtain ⟨kk, kx⟩ := aft_ok hG hsf hfol hThr hCat hP tl ts1 mo rm2 hL
  have hM1 := hM (st.take n).reverse μ _ wt ta hlen hsp
  have hex : exO mode (st.take n).reverse = none := by
    unfold exO
    rw [if_neg]
    rcases hd with ⟨-, hd | hd⟩ | ⟨-, hd⟩ <;> dsimp only at hd <;> omega
  dsimp only at hM1
  rw [hex] at hM1
  have hsum' : (((st.drop n).map tvV).map fun v => v.category).sum ≤ 8 := by rw [tvC_sum]; exact hsum
  rcases hd with ⟨hd, hmode⟩ | ⟨hd, hmode⟩
  · obtain ⟨b1, b2, b3⟩ := k7 hmode
    have hst : st.map tvV = (((st.take n).reverse.map tvV)).reverse ++ (st.drop n).map tvV := by
      rw [← List.map_reverse, List.reverse_reverse, ← List.map_append, List.take_append_drop]
    have hT : GoodIn GW (va_wsS own ix y (wsOf (y, cb, mL, ret, n, (f2, mc, ms, l2), mode, hh, sp))) := by
      intro w hw
      unfold va_wsS at hw
      rcases List.mem_append.mp hw with q | q
      · refine GW_good w ?_
        simp only [List.mem_cons, List.not_mem_nil, or_false] at q
        rcases q with rfl | rfl | rfl
        · exact b1
        · exact b2
        · exact k5
      · exact good_ws k6 w q
    rcases hmode with hmode | hmode
    · dsimp only at hmode
      subst hmode
      have hws : wsOf (y, cb, mL, ret, n, (f2, mc, ms, l2), 0, hh, sp) = Jvm.Cond.code y cb mL ret :: GW := rfl
      refine w_call (vx_runS (As := (st.take n).reverse.map tvV) (n := n) (rest := (st.drop n).map tvV) (Ts := GW) (own := own) (index := ix) (nL := nL) ⟨hx, hb, hml, hown, hts⟩ hM1 (va_cwS n hts hT hws rfl rfl ⟨k3, k4, b3⟩ ⟨Nat.le_trans k1 hfr, Nat.le_trans k2 hlo⟩) ⟨blind_pc, pre_at hK hP hS⟩ rfl (by rw [List.length_map]; exact hlen) hL.2.1 hst (lv_room hsum') hd rm2) hS kk kx
    · dsimp only at hmode
      subst hmode
      have hws : wsOf (y, cb, mL, ret, n, (f2, mc, ms, l2), 4, hh, sp) = Jvm.Cond.codeWith y cb mL ret hh :: GW := rfl
      refine w_call (vx_runSX (As := (st.take n).reverse.map tvV) (n := n) (rest := (st.drop n).map tvV) (Ts := GW) (own := own) (index := ix) (nL := nL) ⟨hx, hb, hml, hown, hts⟩ hM1 (vx_cwSW n hts hT hws rfl rfl ⟨k3, k4, b3⟩ ⟨Nat.le_trans k1 hfr, Nat.le_trans k2 hlo⟩) ⟨blind_pc, pre_at hK hP hS⟩ rfl (by rw [List.length_map]; exact hlen) hL.2.1 hst (lv_room hsum') hd rm2) hS kk kx
  · obtain ⟨cidx, rfl⟩ : ∃ k, mode = k + 10 := ⟨mode - 10, by dsimp only at hmode; omega⟩
    obtain ⟨b0, b1, b2, b3, b4⟩ := k8 cidx rfl
    have hpos : 1 ≤ n := by
      cases hp : parseMethodDescriptor y.desc with
      | none => dsimp only at b4; rw [hp] at b4; cases b4
      | some d =>
        dsimp only at b4
        rw [hp] at b4
        have := Option.some.inj b4
        dsimp only at this
        omega
    simp only [rcvK] at hrc
    split at hrc
    case h_2 => cases hrc
    rename_i k a tl0 hdr
    split at hrc
    case h_2 => cases hrc
    rename_i ci' fs hKT
    have hci : ci' = cidx := Nat.eq_of_beq_eq_true hrc
    subst hci
    have hst1 : st = st.take (n - 1) ++ .inr (.inr (k, a)) :: st.drop n := by
      have e1 : tl0 = st.drop n := by
        have := congrArg List.tail hdr
        rw [List.tail_drop, show n - 1 + 1 = n by omega] at this
        exact this.symm
      rw [← e1, ← hdr, List.take_append_drop]
    have hAs : (st.take n).reverse = .inr (.inr (k, a)) :: (st.take (n - 1)).reverse := by
      have e2 : st.take n = st.take (n - 1) ++ [.inr (.inr (k, a))] := by
        conv => lhs; rw [hst1]
        have hl1 : (st.take (n - 1)).length = n - 1 := by rw [List.length_take]; omega
        rw [List.take_append, hl1, List.take_of_length_le (by rw [hl1]; omega), show n - (n - 1) = 1 by omega]
        rfl
      rw [e2, List.reverse_append]
      rfl
    have hlt := KT_lt hKT
    have hta : tOK g μ (.inr (.inr (k, a))) := ts _ (by rw [hst1]; exact List.mem_append_right _ List.mem_cons_self)
    obtain ⟨hk1, hk0⟩ := hta.1 (by omega)
    obtain ⟨r, hr, -⟩ := KT_inl hKT
    have hcls : r.1 = y.cls := by
      dsimp only at b0
      rw [hr] at b0
      exact Option.some.inj b0
    have hP1 := (hP.sing hk1 hk0).1
    have e3 : FE g μ k a = .inr (ci', fvs μ a 0 fs) := by unfold FE; rw [hKT]
    rw [e3] at hP1
    obtain ⟨cell, c1, c2, c3⟩ := va_recv hK.1 hP1 hr (q0 := 0) rfl
    rw [hcls] at c3
    have hst : st.map tvV = ((((st.take (n - 1)).reverse).map tvV)).reverse ++ .ref a :: (st.drop n).map tvV := by
      conv => lhs; rw [hst1]
      rw [← List.map_reverse, List.reverse_reverse, List.map_append]
      rfl
    have hT : GoodIn GW (wsV own ix y.cls y (wsOf (y, cb, mL, ret, n, (f2, mc, ms, l2), ci' + 10, hh, sp))) := by
      intro w hw
      unfold wsV at hw
      rcases List.mem_append.mp hw with q | q
      · refine GW_good w ?_
        simp only [List.mem_cons, List.not_mem_nil, or_false] at q
        rcases q with rfl | rfl | rfl | rfl
        · exact b1
        · exact b2
        · exact b3
        · exact k5
      · exact good_ws k6 w q
    have hws : wsOf (y, cb, mL, ret, n, (f2, mc, ms, l2), ci' + 10, hh, sp) = Jvm.Cond.code y cb mL ret :: GW := by
      dsimp only [wsOf]
      rw [if_neg (by omega)]
    rw [hAs] at hM1
    have hpar : (parseMethodDescriptor y.desc).map (fun d => d.parameters.length) = some (n - 1) := by
      dsimp only at b4
      cases hp : parseMethodDescriptor y.desc with
      | none => rw [hp] at b4; cases b4
      | some d =>
        rw [hp] at b4
        have := Option.some.inj b4
        dsimp only at this
        show some d.parameters.length = some (n - 1)
        rw [← this]
        rfl
    refine w_call (vx_runV (As := ((st.take (n - 1)).reverse).map tvV) (n := n - 1) (rest := (st.drop n).map tvV) (Ts := GW) (own := own) (C := y.cls) (index := ix) (nL := nL) ⟨hx, hb, hml, hown, hts⟩ hM1 (cwV (n - 1) hts hT hws rfl rfl ⟨rfl, k3, k4, hpar⟩ ⟨Nat.le_trans k1 hfr, Nat.le_trans k2 hlo⟩) ⟨blind_pc, ⟨cell, c1, c2, c3⟩, pre_at hK hP hS⟩ rfl (by rw [List.length_map, List.length_reverse, List.length_take]; omega) hL.2.1 hst (lv_room hsum') hd rm2) hS kk kx
end SC
