/-! The method's own ends: returns, throws, handlers; and its contract. -/
section MT
variable {p : Program} {l : Launch} {e : Env} {s : State} {m : MethodId} {below : List Frame} {meth : Method} {c : Code}
variable {g : GPT} {ot : OT} {nL : Nat} {ex : Option Nat} {μ0 : MM} {K : OC → MM → Prop} {args : Array Value} {cc : ByteArray} {own : String} {ret : Option FieldType} {rz : Bool} {R : Room} {mc ms : Nat}
theorem F_of {H : Heap} {locs : List Loc} {t : State} (hS : va_S (Ag g) s.heap H locs) (ht : t.heap = H) : va_F (Ag g) s t := ⟨by rw [ht]; exact hS.1, fun q h1 h2 => by rw [ht]; exact hS.2.1 q h1 h2⟩
theorem m_ret (hx : p.tables.exec = Jvm.exec) (hb : c.code = cc) (hr : meth.sig.returnType = ret) (hlocks : meth.locks = false) (hc : R.cells = mc) (hs : R.slots = ms) :
    hRetQ p l e R s m args below meth c (vx_MQ below (okQ g ex μ0 K) (okX g ex μ0 K) args s mc ms (Ag g)) cc ret rz g ex μ0 K := by
  intro v i μ H locs ls pc ce sl hri hd hpo hv hrm hS hk
  rw [hc, hs] at hrm
  refine W.widen hrm.1 hrm.2 (vx_ret ?_)
  have fin : ∀ t : State, t.heap = H → okQ g ex μ0 K args s (.returned (v.map tvV)) t := fun t ht => ⟨⟨v, μ, rfl, by rw [ht]; exact hpo, hv, hk⟩, F_of hS ht⟩
  cases v with
  | none =>
    cases i <;> first | exact hri.elim | skip
    exact W.vret hx hb (hr.trans hri) (fun t ht _ => fin t ht) hS.2.2 hd hlocks
  | some w =>
    rcases w with x | x | x
    · cases i <;> first | exact hri.elim | skip
      rcases hri with ⟨h1, -⟩ | ⟨h1, -, hz⟩
      · exact W.iret hx hb (hr.trans h1) (fun t ht _ => fin t ht) hS.2.2 hd hlocks
      · exact W.zret hx hb (hr.trans h1) (z_nar hz).2.1 (fun t ht _ => fin t ht) hS.2.2 hd hlocks
    · cases i <;> first | exact hri.elim | skip
      exact W.lret hx hb (hr.trans hri) (fun t ht _ => fin t ht) hS.2.2 hd hlocks
    · cases i <;> first | exact hri.elim | skip
      obtain ⟨n, h1⟩ := hri
      exact W.aret hx hb (hr.trans h1) (Or.inl ⟨n, rfl⟩) (Or.inr ⟨x.2, rfl⟩) (fun t ht _ => fin t ht) hS.2.2 hd hlocks
theorem m_thr {hn : List (Nat × Nat × Nat × Nat)} (hlocks : meth.locks = false) (hc : R.cells = mc) (hs : R.slots = ms) (ht : hn = [] → ∀ x ∈ c.exceptionTable.toList, False) :
    hThrQ p l e R s m args below meth c (vx_MQ below (okQ g ex μ0 K) (okX g ex μ0 K) args s mc ms (Ag g)) g ex μ0 K hn := by
  intro i μ H locs ls rest pc ce sl q cell hne hi hpo hk hrm hS hcell hv hcl
  rw [hc, hs] at hrm
  exact vx_out (fun x hx => (ht hne x hx).elim) hlocks hcell hv hcl (fun t ht' _ => ⟨⟨i, μ, hi, rfl, by rw [ht']; exact hpo, hk⟩, F_of hS ht'⟩) hS.2.2 hrm.1 hrm.2
theorem HP.grow {μ : MM} {H H1 : Heap} (h : HP g μ H) (hz : H.size ≤ H1.size) (hq : ∀ q : Nat, q < H.size → H1[q]? = H[q]?) : HP g (μ.1, μ.2.1, μ.2.2.1, μ.2.2.2.1, H1.size) H1 :=
  ⟨rfl, Nat.le_trans h.2.1 hz, fun a ha => ⟨(h.2.2 a ha).1, by
    rw [show FE g (μ.1, μ.2.1, μ.2.2.1, μ.2.2.2.1, H1.size) (μ.2.2.2.1 a) a = FE g μ (μ.2.2.2.1 a) a from FE_ag (μ := μ) ⟨rfl, rfl, rfl⟩]
    exact (h.2.2 a ha).2.kept (hq a (h.2.2 a ha).2.lt)⟩⟩
theorem exW {i : Nat} (hi : i ∈ [1, 2, 3]) : Bundle.fit (exN i) = true := by
  simp only [List.mem_cons, List.not_mem_nil, or_false] at hi
  rcases hi with rfl | rfl | rfl <;> decide +kernel
theorem fit_ns : ∀ n ∈ exNs, Bundle.fit n = true := by decide +kernel
theorem m_new (hx : p.tables.exec = Jvm.exec) (hb : c.code = cc) (hml : c.maxLocals = nL) (hown : s.vm.findClass own = some m.cls) (hts : ∀ w ∈ GW, w.before args s = true) (hK : KU g ot s) (hlocks : meth.locks = false) (hl : l.stackTraces = false) (hc : R.cells = mc) (hs : R.slots = ms) (ht : own = RX9 → ∀ x ∈ c.exceptionTable.toList, False) :
    hNewQ p l e R s m args below meth c (vx_MQ below (okQ g ex μ0 K) (okX g ex μ0 K) args s mc ms (Ag g)) cc nL own g ex μ0 K := by
  intro i j q μ H locs ls pc ce sl ho hi hq hq1 d0 d3 d4 d6 d9 hfr hlo hpo hrm hS hls hk
  rw [hc, hs] at hrm
  have ht' := ht ho
  subst ho
  obtain ⟨a, hstr⟩ := hK.2.2.2.2.2.2.2.2.2.2.2 q (List.mem_of_getElem? hq)
  rw [hq1] at hstr
  have hU := hK.2.2.2.2.2.2.2.2.2.1
  have hN := hK.2.2.2.2.2.2.2.2.2.2.1
  have a2 := fun w hw => at_in2 i hi w hw
  have w1 : (Jvm.Cond.classLink RX9 (exI i) (exN i)) ∈ GW := by
    have h := a2 _ List.mem_cons_self
    simp only [Bool.and_eq_true, decide_eq_true_eq] at h
    exact List.mem_filter.mpr ⟨h.1.1, h.2⟩
  have w2 : (Jvm.Cond.initialized (exN i)) ∈ GW := by
    have h := a2 _ (List.mem_cons_of_mem _ List.mem_cons_self)
    simp only [Bool.and_eq_true, decide_eq_true_eq] at h
    exact List.mem_filter.mpr ⟨h.1.1, h.2⟩
  have hat : ∀ w ∈ vx_atS RX9 (exC i) (exN i) exNs, w.before args s = true := by
    intro w hw
    have h := at_in i hi w hw
    simp only [Bool.and_eq_true, Bool.or_eq_true, decide_eq_true_eq] at h
    rcases h.2 with (h2 | h2) | h2
    · exact hts _ (List.mem_filter.mpr ⟨h.1.1, h2⟩)
    · rw [h2]
      exact va_Nw.use rfl (hK.2.2.2.2.1 i hi)
    · obtain ⟨C, hC, h3⟩ := List.any_eq_true.mp h2
      rw [of_decide_eq_true h3]
      exact va_Nw.use rfl (hK.2.2.2.2.2.1 C hC)
  have hgood : ∀ w ∈ Jvm.Cond.classLink RX9 (exI i) (exN i) :: Jvm.Cond.initialized (exN i) :: vx_atS RX9 (exC i) (exN i) exNs, vx_ot w = true := by
    intro w hw
    rcases List.mem_cons.mp hw with e1 | hw
    · have h := a2 w (by rw [e1]; exact List.mem_cons_self)
      simp only [Bool.and_eq_true] at h
      exact h.1.2
    · rcases List.mem_cons.mp hw with e1 | hw
      · have h := a2 w (by rw [e1]; exact List.mem_cons_of_mem _ List.mem_cons_self)
        simp only [Bool.and_eq_true] at h
        exact h.1.2
      · have h := at_in i hi w hw
        simp only [Bool.and_eq_true] at h
        exact h.1.2
  refine vx_throwS hx hb hl hown (exW hi) fit_ns (hts _ w1) (hts _ w2) hstr hat hgood hU hN hS (hls.trans hml.symm) d0 d3 d4 d6 d9 (fun x hx' => (ht' x hx').elim) (by show 2 + 3 < R.frames; omega) (by show 0 + (13 * (2 + 1) + 43) ≤ R.locals; omega) (by rw [hc]; exact hrm.1) (by rw [hs]; exact hrm.2) hlocks (fun t hal hz hq' => ?_) hS.2.2 hrm.1 hrm.2
  refine ⟨⟨i, (μ.1, μ.2.1, μ.2.2.1, μ.2.2.2.1, t.heap.size), hi, rfl, ⟨hpo.1.grow hz hq', fun b => wtK_mono (hpo.2.1 b) rfl (fun _ _ _ => rfl), hpo.2.2.tr (by show _ ≤ t.heap.size; rw [← hpo.1.1]; exact hz) (fun _ _ _ => rfl)⟩, hk _ (by rw [← hpo.1.1]; exact hz)⟩, ?_⟩
  exact ⟨Nat.le_trans hS.1 hz, fun q h1 h2 => (hq' q (Nat.lt_of_lt_of_le h1 hS.1)).trans (hS.2.1 q h1 h2)⟩
theorem cat_go {Q : State → Prop} {Hh : Heap} {locs : List Loc} {ls : Array Slot} {rest : List Value} {ce sl i h pc : Nat} {q : Addr} {cell : Cell} (hown : s.vm.findClass own = some m.cls) (hts : ∀ w ∈ GW, w.before args s = true) (hK : KU g ot s) (hi : i ∈ [1, 2, 3])
    (hcell : Hh[q]? = some cell) (hv : cell.vm = .none) (hcl : s.vm.findClass (exN i) = some cell.cls) (kk : W p l e R s m args below meth c Hh locs ce sl Q (F0 m h ls [.ref q])) :
    ∀ (hn hh : List (Nat × Nat × Nat × Nat)) (pre : List ExceptionTableEntry), tabOK own hn hh = true → catR hn pc i = some h → c.exceptionTable.toList = pre ++ tableOf hh → (∀ z ∈ pre, covers z pc = false ∨ (z.catchType ≠ 0 ∧ ∃ nm : String, (Jvm.Cond.classLink own z.catchType nm).before args s = true ∧ va_Nc (exN i) nm s)) →
      vx_W p l e R s m args below meth c Hh locs ce sl Q (F0 m pc ls rest) q
  | [], _, _, _, hc, _, _ => by cases hc
  | _ :: _, [], _, ht, _, _, _ => by cases ht
  | (a, b, h', e') :: hn, (a2, b2, h2, ix) :: hh, pre, ht, hc, htab, hpass => by
    simp only [tabOK, Bool.and_eq_true, Bool.or_eq_true, decide_eq_true_eq] at ht
    obtain ⟨⟨⟨⟨⟨⟨⟨rfl, rfl⟩, rfl⟩, h0⟩, he'⟩, hin⟩, hg⟩, hr⟩ := ht
    have hw : (Jvm.Cond.classLink own ix (exN e')).before args s = true := hts _ (List.mem_filter.mpr ⟨hin, hg⟩)
    have hcov : covers (⟨a, b, h', ix⟩ : ExceptionTableEntry) pc = (decide (a ≤ pc) && decide (pc < b)) := rfl
    simp only [catR] at hc
    split at hc
    · rename_i hcond
      obtain ⟨c1, c2, rfl⟩ := hcond
      cases Option.some.inj hc
      refine vx_catch (E := exN e') (name := exN e') hown pre ⟨a, b, h, ix⟩ (tableOf hh) htab hpass (by rw [hcov, decide_eq_true c1, decide_eq_true c2]; rfl) h0 hw (va_Nw.use rfl (hK.2.2.2.2.1 e' hi)) hcell hv hcl kk
    · rename_i hcond
      refine cat_go hown hts hK hi hcell hv hcl kk hn hh (pre ++ [⟨a, b, h', ix⟩]) hr hc (by rw [htab, List.append_assoc]; rfl) fun z hz => ?_
      rcases List.mem_append.mp hz with hz | hz
      · exact hpass z hz
      · rw [List.mem_singleton.mp hz]
        by_cases hc1 : a ≤ pc ∧ pc < b
        · refine Or.inr ⟨h0, exN e', hw, hK.2.2.2.2.2.2.1 i hi e' (by simp; omega) fun q => hcond ⟨hc1.1, hc1.2, q.symm⟩⟩
        · refine Or.inl ?_
          rw [hcov]
          by_cases c1 : a ≤ pc
          · have c2 : ¬ pc < b := fun q => hc1 ⟨c1, q⟩
            rw [decide_eq_false c2, Bool.and_false]
          · rw [decide_eq_false c1, Bool.false_and]
end MT
theorem trace0 {l : Launch} (h : l.flags = flags0) : l.stackTraces = false := by
  unfold Launch.stackTraces
  rw [h]
  decide +kernel
/-- THE CONTRACT OF A METHOD out of its second reading -/
theorem ms_of {g : GPT} {ot : OT} {l : Launch} (hl : l.stackTraces = false) {ci : CI} (own : String) (code : List Ent) (ct : List (Nat × CI)) (hn : List (Nat × Nat × Nat × Nat)) (rz ini : Bool) (cut : List Nat) (fuel : Nat)
    (hck : chkM ci own code ct hn rz ini = true) (hM : ∀ q ∈ ct, MS g ot l q.2)
    (h : ∀ (As : List TV) (μ : MM) (K : OC → MM → Prop), ci.2.2.2.2.2.2.2.2 As μ K → (entL As).length ≤ ci.2.2.1 ∧ ∃ I : Nat → Nat → LC → List TV → MM → Nat → Nat → Prop,
      vc KT ot code ct hn (ci.2.2.2.2.2.1.2.1, ci.2.2.2.2.2.1.2.2.1) rz μ.2.2.2.2 (exO ci.2.2.2.2.2.2.1 As) cut (fun pc lc st μ ce sl => ∃ n lc', subL lc' lc ∧ I n pc lc' st μ ce sl) K fuel code (padL ci.2.2.1 (entL As)) [] μ 0 0 ∧
      ∀ n pc lc st μ' ce sl, I n pc lc st μ' ce sl → vcS ot code ct hn (ci.2.2.2.2.2.1.2.1, ci.2.2.2.2.2.1.2.2.1) rz μ.2.2.2.2 (exO ci.2.2.2.2.2.2.1 As) cut (fun pc lc st μ ce sl => ∃ n' lc', n' < n ∧ subL lc' lc ∧ I n' pc lc' st μ ce sl) K fuel pc lc st μ' ce sl) : MS g ot l ci := by
  intro As μ K wt ta hlen hsp
  obtain ⟨hentl, I, hv, hI⟩ := h As μ K hsp
  obtain ⟨y, cb, mL, ret, n, ⟨f2, mc, ms, l2⟩, mode, hh, sp⟩ := ci
  simp only [chkM, Bool.and_eq_true, decide_eq_true_eq, Bool.or_eq_true, Bool.not_eq_true'] at hck
  obtain ⟨⟨⟨⟨⟨⟨k1, k2⟩, k3⟩, k4⟩, k5⟩, k6⟩, k7⟩ := hck
  dsimp only at k2 k3 k4 k7 hv hI hentl ta hsp
  have hM' : ∀ ix ci, lkC ct ix = some ci → MS g ot l ci := fun ix ci h => by
    obtain ⟨q, h1, h2⟩ := lkC_mem h
    rw [← h2]
    exact hM q h1
  have hini : ∀ {s : State} {mk : MethodId} {meth : Method}, s.methodNamed? y = some mk → s.vm.method? mk = some meth → ini = true → meth.name = "<init>" := fun h1 h2 h3 => by
    rw [(name_of_methodNamed h1 h2).1]
    rcases k3 with k3 | k3
    · rw [h3] at k3; cases k3
    · exact k3
  obtain ⟨e0, rest0, hcode, he0⟩ : ∃ e0 rest0, code = e0 :: rest0 ∧ e0.1 = 0 := by
    cases code with
    | nil => cases k6
    | cons e0 r => exact ⟨e0, r, rfl, of_decide_eq_true k6⟩
  show vx_Met l y (wsOf (y, cb, mL, ret, n, (f2, mc, ms, l2), mode, hh, sp)) { frames := f2, cells := mc, slots := ms, locals := l2 } (pcQ g ot As μ) (okQ g (exO mode As) μ K) (okX g (exO mode As) μ K) mc ms (Ag g)
  have body : ∀ (ws : List Jvm.Cond) (p : Program) (e : Env) (s : State) (m : MethodId) (args : Array Value) (below : List Frame) (meth : Method) (c : Code) (s₁ : State), (∀ w ∈ GW, w ∈ ws) → BodyLoose p l y (headSpec ws { frames := f2, cells := mc, slots := ms, locals := l2 }) cb mL ret e s m args below meth c s₁ → c.maxLocals = mL → (hn = [] → ∀ x ∈ c.exceptionTable.toList, False) → (own = RX9 → ∀ x ∈ c.exceptionTable.toList, False) → hCatQ p l e { frames := f2, cells := mc, slots := ms, locals := l2 } s m args below meth c (vx_MQ below (okQ g (exO mode As) μ K) (okX g (exO mode As) μ K) args s mc ms (Ag g)) hn → pcQ g ot As μ args s →
      W p l e { frames := f2, cells := mc, slots := ms, locals := l2 } s m args below meth c s.heap [] 0 0 (vx_MQ below (okQ g (exO mode As) μ K) (okX g (exO mode As) μ K) args s mc ms (Ag g)) (entryFrame m args mL) := by
    intro ws p e s m args below meth c s₁ hws B hml ht1 ht2 hCat hP
    obtain ⟨rfl, hP, hK⟩ := hP
    have hx := B.exec
    have hb := B.bytes
    have hr := B.returns
    have hts0 := atoms_spec (ws := ws) B.pre
    have hts : ∀ w ∈ GW, w.before (As.map tvV).toArray s = true := fun w hw => hts0 w (hws w hw)
    have hown : s.vm.findClass own = some m.cls := k2 ▸ findClass_of_methodNamed B.named
    have hlocks := B.notSynchronized
    have C : CX p s m (As.map tvV).toArray c cb mL own g ot := ⟨hx, hb, hml, hown, hts, hK⟩
    have hThr := m_thr (p := p) (l := l) (e := e) (s := s) (m := m) (below := below) (meth := meth) (c := c) (g := g) (ex := exO mode As) (μ0 := μ) (K := K) (args := (As.map tvV).toArray) (R := { frames := f2, cells := mc, slots := ms, locals := l2 }) (hn := hn) hlocks rfl rfl ht1
    have hRet := m_ret (p := p) (l := l) (e := e) (s := s) (m := m) (below := below) (meth := meth) (c := c) (g := g) (ex := exO mode As) (μ0 := μ) (K := K) (args := (As.map tvV).toArray) (R := { frames := f2, cells := mc, slots := ms, locals := l2 }) (rz := rz) hx hb hr hlocks rfl rfl
    have hNew := m_new (p := p) (l := l) (e := e) (s := s) (m := m) (below := below) (meth := meth) (c := c) (g := g) (ex := exO mode As) (μ0 := μ) (K := K) (args := (As.map tvV).toArray) (R := { frames := f2, cells := mc, slots := ms, locals := l2 }) hx hb hml hown hts hK hlocks hl rfl rfl ht2
    have hlp := loop_ok (fuel := fuel) (cut := cut) (I := I) (Rt := K) C (fun h => hini B.named B.method h) rfl (Nat.le_refl f2) (Nat.le_refl l2) hThr hCat hRet hNew hM' k4 k5 hI
    have hvk := vc_ok (cut := cut) (Rt := K) (K := fun pc lc st μ ce sl => ∃ n lc', subL lc' lc ∧ I n pc lc' st μ ce sl) C (fun h => hini B.named B.method h) rfl (Nat.le_refl f2) (Nat.le_refl l2) hThr hCat hRet hNew hM' k4 k5 (fun pc lc st μ' ce sl ⟨n', lc', hs, h'⟩ => (hlp n' pc lc' st μ' ce sl h').sub hs) fuel code _ _ _ _ _ ⟨[], rfl⟩ hv
    rw [hcode] at hvk
    have hw : WW p l e { frames := f2, cells := mc, slots := ms, locals := l2 } s m (As.map tvV).toArray below meth c (vx_MQ below (okQ g (exO mode As) μ K) (okX g (exO mode As) μ K) (As.map tvV).toArray s mc ms (Ag g)) g mL (exO mode As) μ e0.1 (padL mL (entL As)) [] μ 0 0 := hvk
    rw [he0] at hw
    rw [lg_entry_eq]
    have hle : (lg_sl (As.map tvV)).length ≤ mL := by rw [entL_len]; exact hentl
    obtain ⟨z1, z2, z3⟩ := lv_entry (As.map tvV) hle
    exact hw wt (fun i v hi => ta v (entL_at As 0 i v (padL_at hi)).2) tOKs_nil MO.rf ⟨Nat.zero_le _, Nat.zero_le _⟩ s.heap [] _ hP va_S.rf ⟨padL_len hentl, z1, z2, fun i v hi => by
      have h1 := (entL_at As 0 i v (padL_at hi)).1
      rw [Nat.zero_add] at h1
      exact z3 _ h1⟩
  by_cases hm4 : mode = 4
  · subst hm4
    rw [if_pos rfl, Bool.and_eq_true, decide_eq_true_eq] at k7
    obtain ⟨k7, k8⟩ := k7
    have hws : wsOf (y, cb, mL, ret, n, (f2, mc, ms, l2), 4, hh, sp) = Jvm.Cond.codeWith y cb mL ret hh :: GW := rfl
    rw [hws]
    refine vx_ofWH (k2 ▸ k1) rfl fun p e s m args below meth c s₁ B hml hP => ?_
    have hts0 := atoms_spec (ws := Jvm.Cond.codeWith y cb mL ret hh :: GW) B.pre
    have htab := vx_table (x := y) B (hts0 _ List.mem_cons_self)
    refine body _ p e s m args below meth c s₁ (fun w hw => List.mem_cons_of_mem _ hw) B hml (fun he => ?_) (fun he => ?_) ?_ hP
    · subst he
      cases hh with
      | nil => intro x hx; rw [htab] at hx; simp [tableOf] at hx
      | cons q r => cases k7
    · exact absurd he k8
    · obtain ⟨rfl, -, hK⟩ := hP
      intro i h pc H locs ls rest ce sl q cell hi hc hcell hv hcl kk
      exact cat_go (k2 ▸ findClass_of_methodNamed B.named) (fun w hw => hts0 w (List.mem_cons_of_mem _ hw)) hK hi hcell hv hcl kk hn hh [] k7 hc htab (fun z hz => nomatch hz)
  · rw [if_neg hm4] at k7
    have hhn : hn = [] := List.isEmpty_iff.mp k7
    have hws : wsOf (y, cb, mL, ret, n, (f2, mc, ms, l2), mode, hh, sp) = Jvm.Cond.code y cb mL ret :: GW := by
      dsimp only [wsOf]
      rw [if_neg hm4]
    rw [hws]
    refine vx_ofW (k2 ▸ k1) rfl fun p e s m args below meth c s₁ B hml ht hP => ?_
    refine body _ p e s m args below meth c s₁ (fun w hw => List.mem_cons_of_mem _ hw) B hml (fun _ => ht) (fun _ => ht) (fun i h pc H locs ls rest ce sl q cell _ hc => ?_) hP
    subst hhn
    cases hc
