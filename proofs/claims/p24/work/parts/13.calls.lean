/-! Calls: what a callee's contract is, and how a caller goes on behind it. -/
/-- how the memory stands behind a call that ends -/
def PO (g : GPT) (ex : Option Nat) (μ0 μ : MM) (H : Heap) : Prop := HP g μ H ∧ WT μ ∧ MO ex μ0 μ
def okQ (g : GPT) (ex : Option Nat) (μ0 : MM) (K : OC → MM → Prop) : Array Value → State → Outcome → State → Prop := fun _ st o t =>
  (∃ (v : Option TV) (μ : MM), o = .returned (v.map tvV) ∧ PO g ex μ0 μ t.heap ∧ (∀ w, v = some w → tOK g μ w) ∧ K (.inl v) μ) ∧ va_F (Ag g) st t
def okX (g : GPT) (ex : Option Nat) (μ0 : MM) (K : OC → MM → Prop) : String → State → State → Prop := fun E st t =>
  (∃ (i : Nat) (μ : MM), i ∈ [1, 2, 3] ∧ E = exN i ∧ PO g ex μ0 μ t.heap ∧ K (.inr i) μ) ∧ va_F (Ag g) st t
def pcQ (g : GPT) (ot : OT) (As : List TV) (μ : MM) : Array Value → State → Prop := fun v U => v = (As.map tvV).toArray ∧ HP g μ U.heap ∧ KU g ot U
/-- the object that a constructor makes -/
def exO (mode : Nat) (As : List TV) : Option Nat := if mode = 2 ∨ mode = 3 then (match As with
  | .inr (.inr (_, a)) :: _ => some a
  | _ => none) else none
def wsOf (ci : CI) : List Jvm.Cond := (if ci.2.2.2.2.2.2.1 = 4 then Jvm.Cond.codeWith ci.1 ci.2.1 ci.2.2.1 ci.2.2.2.1 ci.2.2.2.2.2.2.2.1 else Jvm.Cond.code ci.1 ci.2.1 ci.2.2.1 ci.2.2.2.1) :: GW
def rmOf (ci : CI) : Room := { frames := ci.2.2.2.2.2.1.1, cells := ci.2.2.2.2.2.1.2.1, slots := ci.2.2.2.2.2.1.2.2.1, locals := ci.2.2.2.2.2.1.2.2.2 }
/-- A METHOD IS SOUND: wherever its spec lets it be called, it ends as the spec says -/
def MS (g : GPT) (ot : OT) (l : Launch) (ci : CI) : Prop := ∀ (As : List TV) (μ : MM) (K : OC → MM → Prop), WT μ → tOKs g μ As → As.length = ci.2.2.2.2.1 → ci.2.2.2.2.2.2.2.2 As μ K →
  vx_Met l ci.1 (wsOf ci) (rmOf ci) (pcQ g ot As μ) (okQ g (exO ci.2.2.2.2.2.2.1 As) μ K) (okX g (exO ci.2.2.2.2.2.2.1 As) μ K) ci.2.2.2.2.2.1.2.1 ci.2.2.2.2.2.1.2.2.1 (Ag g)
section CA
variable {p : Program} {l : Launch} {e : Env} {R : Room} {s : State} {m : MethodId} {args : Array Value} {below : List Frame} {meth : Method} {c : Code} {Q : State → Prop}
variable {cc : ByteArray} {g : GPT} {ot : OT} {own : String} {nL : Nat} {H : Heap} {locs : List Loc} {ce sl mc ms pc : Nat} {ls : Array Slot} {st0 rest : List Value} {μ : MM} {ex : Option Nat} {K : OC → MM → Prop} {a : Array Value}
theorem blind_pc {As : List TV} : FrameBlind (pcQ g ot As μ) := fun a U gg mk h => ⟨h.1, h.2.1, h.2.2.moved (State.WarmedH.refl _) (fun _ _ _ => rfl)⟩
theorem pre_at {As : List TV} (hK : KU g ot s) (hP : HP g μ H) (hS : va_S (Ag g) s.heap H locs) : ∀ U : State, U.heap = H → s.WarmedH U.vm → pcQ g ot As μ (As.map tvV).toArray U := fun U hU hW =>
  ⟨rfl, by rw [hU]; exact hP, hK.moved hW fun q h1 h2 => by rw [hU]; exact hS.2.1 q h1 h2⟩
/-- behind a call: on its return, or with its throw -/
theorem w_call (hr : vx_Run p l e R s m args below meth c H locs ce sl mc ms (F0 m pc ls st0) rest (okQ g ex μ K a) (okX g ex μ K) (Ag g)) (hS : va_S (Ag g) s.heap H locs)
    (kk : ∀ (v : Option TV) (μ' : MM) (H1 : Heap) (locs1 : List Loc), PO g ex μ μ' H1 → (∀ w, v = some w → tOK g μ' w) → K (.inl v) μ' → va_S (Ag g) s.heap H1 locs1 → W p l e R s m args below meth c H1 locs1 (ce + mc) (sl + ms) Q (F0 m (pc + 3) ls ((v.map tvV).toList ++ rest)))
    (kx : ∀ (i : Nat) (μ' : MM) (H1 : Heap) (locs1 : List Loc) (q : Addr) (cell : Cell), i ∈ [1, 2, 3] → PO g ex μ μ' H1 → K (.inr i) μ' → va_S (Ag g) s.heap H1 locs1 → H1[q]? = some cell → cell.vm = .none → s.vm.findClass (exN i) = some cell.cls → vx_W p l e R s m args below meth c H1 locs1 (ce + mc) (sl + ms) Q (F0 m pc ls rest) q) :
    W p l e R s m args below meth c H locs ce sl Q (F0 m pc ls st0) := by
  intro T hT X
  rcases hr T hT X with ⟨v, st₀, t, T', L, h0, X', hL, e1, e2, ⟨⟨w, μ', hv, hp, hw, hk⟩, hF⟩, st⟩ | ⟨q, st₀, t, T', L, E, cell, h0, X', hL, e1, e2, ⟨⟨i, μ', hi, rfl, hp, hk⟩, hF⟩, hce, hcv, hcl, st⟩
  · have hv : v = w.map tvV := Outcome.returned.inj hv
    subst hv
    obtain ⟨k1, k2, k3⟩ := vx_keep h0 e1 hS (fun q _ h => h) (fun q h => h) hL hF
    obtain ⟨t2, a1, b1⟩ := kk w μ' T'.heap (locs ++ L) (by rw [e1]; exact hp) hw hk k3 T' rfl X'
    exact ⟨t2, st t2 a1, b1⟩
  · obtain ⟨k1, k2, k3⟩ := vx_keep h0 e1 hS (fun q _ h => h) (fun q h => h) hL hF
    obtain ⟨t2, a1, b1⟩ := kx i μ' T'.heap (locs ++ L) q cell hi (by rw [e1]; exact hp) hk k3 (by rw [e1]; exact hce) hcv hcl T' rfl X'
    exact ⟨t2, st.trans a1, b1⟩
/-- .. and of a constructor, which throws nothing -/
theorem w_callN (hr : va_Run p l e R s m args below meth c H locs ce sl mc ms (F0 m pc ls st0) rest (okQ g ex μ K a) (Ag g)) (hS : va_S (Ag g) s.heap H locs)
    (kk : ∀ (v : Option TV) (μ' : MM) (H1 : Heap) (locs1 : List Loc), PO g ex μ μ' H1 → (∀ w, v = some w → tOK g μ' w) → K (.inl v) μ' → va_S (Ag g) s.heap H1 locs1 → W p l e R s m args below meth c H1 locs1 (ce + mc) (sl + ms) Q (F0 m (pc + 3) ls ((v.map tvV).toList ++ rest))) :
    W p l e R s m args below meth c H locs ce sl Q (F0 m pc ls st0) := by
  intro T hT X
  obtain ⟨v, st₀, t, T', L, h0, X', hL, e1, e2, ⟨⟨w, μ', hv, hp, hw, hk⟩, hF⟩, st⟩ := hr T hT X
  have hv : v = w.map tvV := Outcome.returned.inj hv
  subst hv
  obtain ⟨k1, k2, k3⟩ := vx_keep h0 e1 hS (fun q _ h => h) (fun q h => h) hL hF
  obtain ⟨t2, a1, b1⟩ := kk w μ' T'.heap (locs ++ L) (by rw [e1]; exact hp) hw hk k3 T' rfl X'
  exact ⟨t2, st t2 a1, b1⟩
theorem met_of {y : MethodName} {ws : List Jvm.Cond} {rm : Room} {Pc : Array Value → State → Prop} {Qc : Array Value → State → Outcome → State → Prop} {XC : String → State → State → Prop} {free : Addr → Prop} (h : vx_Met l y ws rm Pc Qc XC mc ms free) (hX : ∀ E s t, ¬ XC E s t) : Met l y ws rm Pc Qc mc ms free := by
  refine MetFree.mono h (fun _ _ h => h) (fun _ _ _ _ _ h => h) fun a s o t _ hq => ?_
  rcases hq with hq | ⟨q, rfl, E, cell, L, hx, -⟩
  · exact hq
  · exact absurd hx (hX _ _ _)
/-- what chkC says of a callee -/
theorem chkC_sp {ct : List (Nat × CI)} {fr lo ix : Nat} {ws : List Nat} {ci : CI} (h : chkC own ct fr lo ix ws = true) (hl : lkC ct ix = some ci) :
    (¬ (rmOf ci).cells = 0 ∨ (rmOf ci).slots = 0) ∧ (rmOf ci).frames + 1 ≤ fr ∧ 8 + (ci.2.2.1 + 11) + (rmOf ci).locals ≤ lo ∧ ci.1.cls ≠ "java/lang/invoke/MethodHandle" ∧ ci.1.cls ≠ "java/lang/invoke/VarHandle" ∧ Jvm.Cond.initialized ci.1.cls ∈ GW ∧ (wsOf ci).head? = some ((wsOf ci).headD .tt) ∧ (wsOf ci).headD .tt ∈ GW ∧
    ((ci.2.2.2.2.2.2.1 = 0 ∨ ci.2.2.2.2.2.2.1 = 4) → Jvm.Cond.methodLink own ix ci.1 ∈ GW ∧ Jvm.Cond.static ci.1 ∈ GW ∧ (parseMethodDescriptor ci.1.desc).map (fun d => d.parameters.length) = some ci.2.2.2.2.1) ∧
    (∀ k, ci.2.2.2.2.2.2.1 = k + 10 → (vwCl[k]?).map (fun q => q.1) = some ci.1.cls ∧ Jvm.Cond.methodLink own ix ci.1 ∈ GW ∧ Jvm.Cond.instanceMethod ci.1 ∈ GW ∧ Jvm.Cond.selects ci.1.cls ci.1 ci.1 ∈ GW ∧ (parseMethodDescriptor ci.1.desc).map (fun d => d.parameters.length + 1) = some ci.2.2.2.2.1) ∧
    ((ci.2.2.2.2.2.2.1 = 2 ∨ ci.2.2.2.2.2.2.1 = 3) → ((ci.2.2.2.2.2.2.1 = 2 ∧ Jvm.Cond.methodLink own ix ci.1 ∈ GW) ∨ (ci.2.2.2.2.2.2.1 = 3 ∧ (own, ix, ci.1, RX9) ∈ NMs)) ∧ Jvm.Cond.instanceMethod ci.1 ∈ GW ∧ ci.2.2.2.1 = none ∧ ci.1.name = "<init>" ∧ (parseMethodDescriptor ci.1.desc).map (fun d => d.parameters.length + 1) = some ci.2.2.2.2.1) := by
  obtain ⟨y, cb, mL, ret, n, ⟨f2, mc, ms, l2⟩, mode, hh, sp⟩ := ci
  unfold chkC at h
  rw [hl] at h
  simp only [Bool.and_eq_true, decide_eq_true_eq] at h
  obtain ⟨⟨⟨⟨⟨h0, h1⟩, h2⟩, h3⟩, h4⟩, h5⟩ := h
  refine ⟨h0, h1, h2, h3, h4, ?_⟩
  dsimp only [wsOf]
  split at h5
  · simp only [Bool.and_eq_true, decide_eq_true_eq] at h5
    obtain ⟨⟨⟨⟨a1, a2⟩, a3⟩, a4⟩, a5⟩ := h5
    exact ⟨isW_in a3, rfl, isW_in a4, fun _ => ⟨isW_in a1, isW_in a2, a5⟩, fun k hk => absurd hk (by omega), fun hk => absurd hk (by omega)⟩
  · simp only [Bool.and_eq_true, decide_eq_true_eq] at h5
    obtain ⟨⟨⟨⟨a1, a2⟩, a3⟩, a4⟩, a5⟩ := h5
    exact ⟨isW_in a3, rfl, isW_in a4, fun _ => ⟨isW_in a1, isW_in a2, a5⟩, fun k hk => absurd hk (by omega), fun hk => absurd hk (by omega)⟩
  · rename_i k a1 b1 a2 b2 a3 b3 a4 b4 a5 b5
    simp only [Bool.and_eq_true, decide_eq_true_eq] at h5
    obtain ⟨⟨⟨⟨⟨⟨a0, a1⟩, a2⟩, a3⟩, a4⟩, a5⟩, a6⟩ := h5
    refine ⟨isW_in a3, rfl, ?_, fun hk => absurd hk (by omega), fun k' hk => ?_, fun hk => absurd hk (by omega)⟩
    · rw [if_neg (by omega)]
      exact isW_in a4
    · have : k' = k := by omega
      subst this
      exact ⟨a0, isW_in a1, isW_in a2, isW_in a5, a6⟩
  · simp only [Bool.and_eq_true, decide_eq_true_eq] at h5
    obtain ⟨⟨⟨⟨⟨⟨a1, a2⟩, a3⟩, a4⟩, a5⟩, a6⟩, a7⟩ := h5
    exact ⟨isW_in a3, rfl, isW_in a4, fun hk => absurd hk (by omega), fun k hk => absurd hk (by omega), fun _ => ⟨Or.inl ⟨rfl, isW_in a1⟩, isW_in a2, a5, a6, a7⟩⟩
  · simp only [Bool.and_eq_true, decide_eq_true_eq] at h5
    obtain ⟨⟨⟨⟨⟨⟨a1, a2⟩, a3⟩, a4⟩, a5⟩, a6⟩, a7⟩ := h5
    exact ⟨isW_in a3, rfl, isW_in a4, fun hk => absurd hk (by omega), fun k hk => absurd hk (by omega), fun _ => ⟨Or.inr ⟨rfl, List.mem_of_getElem? a1⟩, isW_in a2, a5, a6, a7⟩⟩
  · cases h5
end CA
