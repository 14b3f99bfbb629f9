/-! THE CLAIM: what holds at the law's entry, and the law's contract there. (lw_Q, lw_P, lw_pre_spec, lw_frame, lw_limb, i_vc begin as the kit's SKELETON.whole has them.) -/
theorem tb_in {w : Jvm.Cond} (h : w ∈ tables_1) : w ∈ lw_tbl := List.mem_append_right _ h
theorem inst_in : ∀ r ∈ vwCl, Jvm.Cond.instantiable r.1 r.2.2 ∈ tables_1 := by decide +kernel
theorem nms_in : ∀ q ∈ NMs, Jvm.Cond.methodLinkNest q.1 q.2.1 q.2.2.1 q.2.2.2 ∈ tables_1 := by decide +kernel
theorem cast_in : ∀ i ∈ [1, 2, 3], Jvm.Cond.castable (exN i) (exN i) ∈ tables_1 := by decide +kernel
theorem decl_in : ∀ C ∈ DCs, Jvm.Cond.declares (Bundle.initS C) ∈ tables_1 := by decide +kernel
theorem ncast_in : ∀ i ∈ [1, 2, 3], ∀ j ∈ [1, 2, 3], i ≠ j → Jvm.Cond.not (.castable (exN i) (exN j)) ∈ flatC (Jvm.Cond.and given_1 narrow_1) := by decide +kernel
theorem over_in : ∀ C ∈ [RX1, RX3, RX8], Jvm.Cond.arrayOver (.object C) ∈ tables_1 := by decide +kernel
theorem strr_in : ∀ q ∈ SLs, Jvm.Cond.stringRef q.1 q.2.1 q.2.2 ∈ tables_1 := by decide +kernel
theorem strx_in : ∀ q ∈ SLs, Jvm.Cond.exactly (.string q.1 q.2.1) "java/lang/String" ∈ flatC (Jvm.Cond.and given_1 narrow_1) := by decide +kernel
theorem arrCk {s : State} {A : Array Value} {ty : FieldType} (h : (Jvm.Cond.arrayClass ty).before A s = true) : ∃ cA : ClassId, ArrOfT s cA ty ∧ s.vm.findClass ("[" ++ ty.toString) = some cA := by
  obtain ⟨cA, kA, comp, h1, h2, h3⟩ := Cond.arrayClass_spec (args := A) (first := s) (o := none) (s := s) (idx := []) h
  exact ⟨cA, fun n z => ⟨(fun k h => by cases h), kA, h2, comp, h3⟩, h1⟩
theorem arrO {s : State} {A : Array Value} {C : String} (h : (Jvm.Cond.arrayOver (.object C)).before A s = true) : ∃ cA : ClassId, ArrOfT s cA (.object C) ∧ va_RA s cA (.object C) := by
  obtain ⟨comp, cA, kA, h1, -, h2, h3, h4⟩ := Cond.arrayOver_spec (args := A) (first := s) (o := none) (s := s) (idx := []) h
  exact ⟨cA, fun n z => ⟨(fun k h => by cases h), kA, h2, comp, h3⟩, kA, comp, h2, h3, h1, h4⟩
def shRow : Nat → Int32 := fun j => [0, 5, 10, 12].getD j 0
def mkRow : Nat → Int32 := fun j => [31, 31, 3, 127].getD j 0
theorem sh_el : ∀ j : Nat, j < 4 → Jvm.Cond.eq (.elem (.static RX6 "SHIFTS" "[I") (.int (Int32.ofNat j))) (.int (shRow j)) ∈ flatC (Jvm.Cond.and given_1 narrow_1) := by decide +kernel
theorem mk_el : ∀ j : Nat, j < 4 → Jvm.Cond.eq (.elem (.static RX6 "MASKS" "[I") (.int (Int32.ofNat j))) (.int (mkRow j)) ∈ flatC (Jvm.Cond.and given_1 narrow_1) := by decide +kernel
/-- what the law's entry gives -/
theorem KU_start {s : State} {b : Addr} {xs : List Int32} (hw : ∀ w ∈ lw_tbl, w.before #[Value.ref b] s = true) (hg : (Jvm.Cond.and given_1 narrow_1).before #[Value.ref b] s = true) (hx : s.IntsAt b xs) (hL : xs.length ≤ 260) :
    ∃ (g : GPT) (ot : OT), g.1 = s.heap.size ∧ b = g.2.2.2 90 ∧ otOK ot ∧ ot.1 90 ≤ 260 ∧ KU g ot s := by
  have hs := flat_of_before _ hg
  have ht : ∀ w ∈ tables_1, w.before #[Value.ref b] s = true := fun w h => hw w (tb_in h)
  have hA : ∀ a : Nat, a < s.heap.size → ¬ s.heap.size ≤ a := fun a h => Nat.not_le.mpr h
  have hcls : ∀ c : Nat, ∃ q : ClassId × (Nat → Nat), ∀ r : vw_C, vwCl[c]? = some r → u_Kn s r.1 r.2.1 r.2.2 q.1 q.2 := by
    intro c
    cases hc : vwCl[c]? with
    | none => exact ⟨(0, fun _ => 0), fun r h => by cases h⟩
    | some r =>
      have hr : r ∈ vwCl := List.mem_of_getElem? hc
      obtain ⟨cC, iS, h⟩ := u_known (ws := lw_tbl) hw (fun w h => (List.mem_filter.mp (uw_in hr w h)).1) (ht _ (inst_in r hr))
      exact ⟨(cC, iS), fun r' h' => by cases h'; exact h⟩
  obtain ⟨D, hD⟩ := Classical.axiomOfChoice hcls
  obtain ⟨c0, p0, n0⟩ := arrCk (ht (.arrayClass .int) (by decide +kernel))
  obtain ⟨c3, p3, n3⟩ := arrO (ht _ (over_in RX1 (by decide)))
  obtain ⟨c4, p4, n4⟩ := arrO (ht _ (over_in RX3 (by decide)))
  obtain ⟨c5, p5, n5⟩ := arrO (ht _ (over_in RX8 (by decide)))
  obtain ⟨t1, v1, T1⟩ := va_Tof (tm := .static RX6 "SHIFTS" "[I") (ty := .int) (N := 4) (f := fun j => .int (shRow j)) (A := fun q => s.heap.size ≤ q) (by decide) (hs _ (by decide +kernel)) (va_eqt (hs _ (by decide +kernel))) (fun j hj => va_eqt (hs _ (sh_el j hj))) hA
  obtain ⟨t2, v2, T2⟩ := va_Tof (tm := .static RX6 "MASKS" "[I") (ty := .int) (N := 4) (f := fun j => .int (mkRow j)) (A := fun q => s.heap.size ≤ q) (by decide) (hs _ (by decide +kernel)) (va_eqt (hs _ (by decide +kernel))) (fun j hj => va_eqt (hs _ (mk_el j hj))) hA
  obtain ⟨scr, harrAt, hlist, hof, hsmall⟩ := hx
  obtain ⟨hcb, hkn, -, -⟩ := State.arrayAt?_spec harrAt
  have hsz : scr.slots.size = xs.length := by rw [← Array.length_toList, hlist, List.length_map]
  have hval : ∀ j : Nat, j < xs.length → scr.slots[j]? = some (.int (xs.getD j 0)) := fun j hj => by
    rw [← Array.getElem?_toList, hlist]
    simp [hj]
  have hbl : b < s.heap.size := (Array.getElem?_eq_some_iff.mp hcb).1
  have T0 : va_T .int b xs.length (fun j => .int (xs.getD j 0)) (fun q => s.heap.size ≤ q) s s.heap := ⟨scr, hcb, hof, hkn, by omega, by rw [hsz], hval, hA b hbl⟩
  refine ⟨(s.heap.size, (fun c => (D c).1, fun c => (D c).2), (fun k => match k with | 0 => c0 | 1 => c0 | 2 => c0 | 3 => c3 | 4 => c4 | _ => c5), (fun k => if k = 90 then b else if k = 91 then t1 else t2)), ((fun k => if k = 90 then xs.length else 4), fun k j => if k = 90 then xs.getD j 0 else if k = 91 then shRow j else mkRow j), rfl, rfl, ⟨rfl, rfl, ⟨rfl, rfl, rfl, rfl⟩, ⟨rfl, rfl, rfl, rfl⟩⟩, hL, ?_⟩
  refine ⟨⟨fun c r hr => hD c r hr, fun k q hq => ?_⟩, fun k h1 h2 => ?_, fun C hC => va_AO.of (ht _ (over_in C hC)), fun q hq => ?_, fun i hi => ?_, fun C hC => ?_, fun i hi j hj ne => va_Nc.of (hs _ (ncast_in i hi j hj ne)), ?_, ?_, ?_, ?_, fun q hq => ?_⟩
  · match k, hq with
    | 0, hq => cases hq; exact ⟨p0, n0⟩
    | 1, hq => cases hq; exact ⟨p0, n0⟩
    | 2, hq => cases hq; exact ⟨p0, n0⟩
    | 3, hq => cases hq; exact ⟨p3, n3⟩
    | 4, hq => cases hq; exact ⟨p4, n4⟩
    | 5, hq => cases hq; exact ⟨p5, n5⟩
    | k + 6, hq => cases hq
  · rcases (by omega : k = 90 ∨ k = 91 ∨ k = 92) with rfl | rfl | rfl
    · exact ⟨by show xs.length < 2 ^ 31; omega, T0⟩
    · exact ⟨by show 4 < 2 ^ 31; decide, T1⟩
    · exact ⟨by show 4 < 2 ^ 31; decide, T2⟩
  · have h := ht _ (nms_in q hq)
    exact h
  · have h := ht _ (cast_in i hi)
    exact h
  · have h := ht _ (decl_in C hC)
    exact h
  · exact va_Zref (ht _ (by decide +kernel)) (ht _ (by decide +kernel)) v1 hA
  · exact va_Zref (ht _ (by decide +kernel)) (ht _ (by decide +kernel)) v2 hA
  · exact vx_Zqof (ht _ (by decide +kernel)) (ht _ (by decide +kernel)) (hs _ (by decide +kernel)) hA
  · exact vx_Zqof (ht _ (by decide +kernel)) (ht _ (by decide +kernel)) (hs _ (by decide +kernel)) hA
  · obtain ⟨a, _, _, _, q1, -⟩ := Cond.exactly_spec (args := #[Value.ref b]) (first := s) (o := none) (s := s) (idx := []) (hs _ (strx_in q hq))
    exact ⟨a, vk_R.of (ht _ (strr_in q hq)) q1⟩
theorem allAtoms_of {ws : List Jvm.Cond} {args : Array Value} {s : State} (h : ∀ w ∈ ws, w.before args s = true) : (allAtoms ws).before args s = true := by
  induction ws with
  | nil => rfl
  | cons w ws ih =>
    show (Jvm.Cond.and w (allAtoms ws)).before args s = true
    rw [Cond.before_and, Bool.and_eq_true]
    exact ⟨h w List.mem_cons_self, ih fun v hv => h v (List.mem_cons_of_mem _ hv)⟩
theorem hasRoom_less {s : State} {pl : Platform} {r r' : Room} (h : s.hasRoom pl r = true) (h1 : r'.frames ≤ r.frames) (h2 : r'.cells ≤ r.cells) (h3 : r'.slots ≤ r.slots) (h4 : r'.locals ≤ r.locals) : s.hasRoom pl r' = true := by
  simp only [State.hasRoom, Bool.and_eq_true, decide_eq_true_eq] at h ⊢
  obtain ⟨⟨⟨⟨a1, a2, a3, a4, a5, a6⟩, a7⟩, a8⟩, a9⟩ := h
  exact ⟨⟨⟨⟨by omega, by omega, by omega, by omega, by omega, a6⟩, by omega⟩, by omega⟩, a9⟩
def lw_P (b : Addr) (xs : List Int32) (args : Array Value) (s : State) : Prop := args = #[.ref b] ∧ s.IntsAt b xs ∧ xs.length ≤ 260 ∧ (Jvm.Cond.and given_1 narrow_1).before args s = true
def lw_Q (_ : Array Value) (s : State) (o : Outcome) (t : State) : Prop := o = .returned (some (.int 1)) ∧ Framed s o t [] 600086 7301442
theorem lw_pre_spec {args : Array Value} {s : State} (h : (Jvm.Cond.and given_1 narrow_1).before args s = true) (hr : rest_1_c.before args s = true) : ∃ (b : Addr) (xs : List Int32), lw_P b xs args s := by
  have hs := flat_of_before _ h
  have hq := flat_of_before _ hr
  have hc : (Cond.count 1).before args s = true := hs _ (by decide +kernel)
  have harr : (Cond.arrayOf (.arg 0) .int).before args s = true := hs _ (by decide +kernel)
  have hle : (Cond.le (.length (.arg 0)) (.int 260)).before args s = true := hs _ (by decide +kernel)
  have hlen : (Cond.isInt (.length (.arg 0))).before args s = true := hq _ (by decide +kernel)
  have hall : (Cond.all (.arg 0) (.isInt (.elem (.arg 0) (.index 0)))).before args s = true := hq _ (by decide +kernel)
  obtain ⟨b, xs, hb, hx⟩ := State.ints_of_pre rfl harr hlen hall
  have hsm : xs.length < 2 ^ 31 := hx.choose_spec.2.2.2
  have hev : (Term.length (.arg 0)).eval args s none [] s = some (.int xs.length.toInt32) := hx.length_eval hb
  have hv := Cond.le_ints hev (show (Term.int 260).eval args s none [] s = some (.int 260) from rfl)
  have hd : xs.length.toInt32 ≤ 260 := by
    simpa [Cond.before, Cond.holds, hv] using hle
  have hN : xs.length ≤ 260 := (Int32.ofNat_le_ofNat hsm (by decide)).mp (show Int32.ofNat xs.length ≤ Int32.ofNat 260 from hd)
  exact ⟨b, xs, Cond.one_arg hc (show args[0]? = some (.ref b) from hb), hx, hN, h⟩
theorem lw_comes (l : Launch) (hflags : l.flags = flags0) : Comes l x (Jvm.Cond.code x code maxLocals ret :: tables_1) room_1 (fun tb e args s => Calls_1 tb e args s ∧ rest_1 tb e args s ∧ Pre_1 tb e args s)
    (fun _ _ args s o t => lw_Q args s o t) := by
  intro p e ha hc hk s m args below hf hfit hheap happ hpre
  obtain ⟨b, xs, rfl, hx, hbd, hgv⟩ := lw_pre_spec hpre.2.2 hpre.2.1
  obtain ⟨l1, l2, l3, l4, l5, l6, l7, l8⟩ := (Spec.appliesLoose_iff hf).mp ((Spec.applies_iff_loose hf).mp happ).1
  have hts0 := atoms_spec (ws := Jvm.Cond.code x code maxLocals ret :: tables_1) l8
  have hw : ∀ w ∈ lw_tbl, w.before #[Value.ref b] s = true := k2_hts_sels lw_privs (fun w hw => hts0 w (List.mem_cons_of_mem _ hw)) lw_privs_ok
  obtain ⟨g, ot, hg, hb, hot, h90, hK⟩ := KU_start hw hgv hx hbd
  have hM := ms_L_law (g := g) (trace0 hflags) hot h90 [.inr (.inr (90, b))] (fun _ _ => 0, fun _ _ => 0, fun _ _ => 0, fun _ => 0, s.heap.size) (fun o _ => o = .inl (some (.inl 1)))
    (fun a => fun h => absurd h (by decide)) (fun v hv => by
      rw [List.mem_singleton.mp hv]
      exact ⟨fun h => absurd h (by decide), fun _ _ => hb⟩) rfl (fun _ => rfl)
  have happ' : (headSpec (wsOf ci_L_law) (rmOf ci_L_law)).appliesLoose yL_law e.platform s = true := by
    refine (Spec.appliesLoose_iff hf).mpr ⟨l1, l2, l3, l4, l5, l6, hasRoom_less l7 (by decide) (by decide) (by decide) (by decide), allAtoms_of fun w hw' => ?_⟩
    rcases List.mem_cons.mp hw' with rfl | hw'
    · exact hts0 _ List.mem_cons_self
    · exact hw w (List.mem_filter.mp hw').1
  have hP : HP g (fun _ _ => 0, fun _ _ => 0, fun _ _ => 0, fun _ => 0, s.heap.size) s.heap := ⟨rfl, by rw [hg]; exact Nat.le_refl _, fun a h => (h rfl).elim⟩
  obtain ⟨n, o, h1, h2, h3, hq⟩ := hM p e ha hc hk s m #[Value.ref b] below hf happ' ⟨rfl, hP, hK⟩ trivial
  refine ⟨n, o, h1, h2, h3, ?_⟩
  rcases hq with ⟨⟨⟨v, μ', rfl, -, -, hk'⟩, -⟩, L, hF, hfree⟩ | ⟨q, -, E, ce, L, ⟨⟨i, μ', -, -, -, hk'⟩, -⟩, -⟩
  · cases hk'
    exact ⟨rfl, hF.1, hF.2.1, State.sameButNew.drop_fresh (L := []) hF.2.2 fun q hq => by
      have := hfree q hq
      rw [← hg]
      exact this⟩
  · cases hk'
theorem lw_frame {s t : State} {o : Outcome} {args : Array Value} (h : Framed s o t [] 600086 7301442) :
    Framed s o t (fieldLocs frame_1_writes args s ++ arrayLocs frame_1_arrays args s ++ staticLocs frame_1_statics s) 600086 7301442 := h
theorem lw_limb (L : Cond) (hL : ∀ (args : Array Value) (s t : State), L.after args s (.returned (some (.int 1))) t = true) :
    ArmFor flags0 classFile x code maxLocals ret World_1 tables_1 room_1 Calls_1 rest_1 Pre_1
      (fun tb e a s o t => postC L tb e a s o t ∧ Framed s o t (fieldLocs frame_1_writes a s ++ arrayLocs frame_1_arrays a s ++ staticLocs frame_1_statics s) 600086 7301442) := by
  intro l hflags _ _ p e ha hc hk s m args below hf hfit hheap happ hpre
  obtain ⟨k, o, h1, h2, h3, rfl, hF⟩ := lw_comes l hflags p e ha hc hk s m args below hf hfit hheap happ hpre
  exact ⟨k, _, h1, h2, h3, hL args s _, lw_frame hF⟩
theorem i_vc : Claimed_1_1 ∧ Claimed_1_2 := ⟨lw_limb limb_1_1 (fun args s t => by simp [limb_1_1, Cond.after, Cond.holds, Cond.value]), lw_limb limb_1_2 (fun args s t => Cond.after_iff.mpr (by
  first | (rw [show limb_1_2 = Cond.eq .result (.int 1) from rfl, Cond.eq_ints (x := 1) (y := 1) rfl rfl]; simp; done) | (simp [limb_1_2, Cond.value, Term.eval]; done)))⟩
