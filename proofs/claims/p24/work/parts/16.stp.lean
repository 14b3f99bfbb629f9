/-! ONE INSTRUCTION OF THE SECOND READING IS THE MACHINE'S. -/
def retI (ret : Option FieldType) (rz : Bool) (i : Instr) (v : Option TV) : Prop := match i, v with
  | .ireturn, some (.inl x) => (ret = some .int ∧ rz = false) ∨ (ret = some .boolean ∧ rz = true ∧ (x = 0 ∨ x = 1))
  | .lreturn, some (.inr (.inl _)) => ret = some .long
  | .areturn, some (.inr (.inr _)) => ∃ n, ret = some (.object n)
  | .return_, none => ret = none
  | _, _ => False
def hRetQ (p : Program) (l : Launch) (e : Env) (R : Room) (s : State) (m : MethodId) (args : Array Value) (below : List Frame) (meth : Method) (c : Code) (Q : State → Prop) (cc : ByteArray) (ret : Option FieldType) (rz : Bool) (g : GPT) (ex : Option Nat) (μ0 : MM) (Rt : OC → MM → Prop) : Prop :=
  ∀ (v : Option TV) (i : Instr) (μ : MM) (H : Heap) (locs : List Loc) (ls : Array Slot) (pc ce sl : Nat), retI ret rz i v → decode cc pc = .ok (i, 1) → PO g ex μ0 μ H → (∀ w, v = some w → tOK g μ w) → (ce ≤ R.cells ∧ sl ≤ R.slots) → va_S (Ag g) s.heap H locs → Rt (.inl v) μ → W p l e R s m args below meth c H locs ce sl Q (F0 m pc ls (v.map tvV).toList)
def hNewQ (p : Program) (l : Launch) (e : Env) (R : Room) (s : State) (m : MethodId) (args : Array Value) (below : List Frame) (meth : Method) (c : Code) (Q : State → Prop) (cc : ByteArray) (nL : Nat) (own : String) (g : GPT) (ex : Option Nat) (μ0 : MM) (Rt : OC → MM → Prop) : Prop :=
  ∀ (i j : Nat) (q : String × Nat × String) (μ : MM) (H : Heap) (locs : List Loc) (ls : Array Slot) (pc ce sl : Nat), own = RX9 → i ∈ [1, 2, 3] → SLs[j]? = some q → q.1 = RX9 → decode cc pc = .ok (.new (exI i), 3) → decode cc (pc + 3) = .ok (.dup, 1) → decode cc (pc + 4) = .ok (.ldc q.2.1, 2) → decode cc (pc + 6) = .ok (.invokespecial (exC i), 3) → decode cc (pc + 9) = .ok (.athrow, 1) → 6 ≤ R.frames → 90 ≤ R.locals →
    PO g ex μ0 μ H → (ce + 1 ≤ R.cells ∧ sl + 6 ≤ R.slots) → va_S (Ag g) s.heap H locs → ls.size = nL → (∀ z : Nat, μ.2.2.2.2 ≤ z → Rt (.inr i) (μ.1, μ.2.1, μ.2.2.1, μ.2.2.2.1, z)) → W p l e R s m args below meth c H locs ce sl Q (F0 m pc ls [])
theorem chkF_sp {own : String} {ix ci f t i : Nat} (h : chkF own ix ci f t i = true) : ∃ r : vw_C, vwCl[ci]? = some r ∧ f < r.2.2 ∧ (Jvm.Cond.fieldLink own ix (r.2.1 f).1 (r.2.1 f).2.1 (r.2.1 f).2.2.1) ∈ GW := by
  unfold chkF at h
  split at h
  · rename_i r hr
    simp only [Bool.and_eq_true, decide_eq_true_eq] at h
    exact ⟨r, hr, h.1, isW_in h.2⟩
  · cases h
theorem finF_sp {own : String} {ci f : Nat} {b : Bool} {r : vw_C} (h : finF own ci f b = true) (hr : vwCl[ci]? = some r) : (r.2.1 f).2.2.2 = b ∧ (b = true → r.1 = own) := by
  unfold finF at h
  rw [hr] at h
  simp only [Bool.and_eq_true, Bool.or_eq_true, Bool.not_eq_true', decide_eq_true_eq, beq_iff_eq] at h
  exact ⟨h.1, fun hb => h.2.resolve_left (by rw [hb]; decide)⟩
theorem setK_sp {k0 k1 ci f : Nat} (h : setK k0 k1 ci f = true) : ∃ fs0 : List (Nat × Nat), KT k0 = .inl (ci, fs0) ∧ KT k1 = .inl (ci, fs0.set f ((match KT k1 with | .inl (_, fs1) => fs1 | .inr _ => []).getD f (0, 0))) ∧ 1 ≤ k1 ∧ 21 ≤ k0 := by
  unfold setK at h
  split at h
  · rename_i c0 fs0 c1 fs1 e0 e1
    simp only [Bool.and_eq_true, decide_eq_true_eq] at h
    obtain ⟨⟨⟨⟨rfl, rfl⟩, h1⟩, h2⟩, h3⟩ := h
    exact ⟨fs0, e0, by rw [e1]; dsimp only; rw [← h1], h2, h3⟩
  · cases h
section SP
variable {p : Program} {l : Launch} {e : Env} {R : Room} {s : State} {m : MethodId} {args : Array Value} {below : List Frame} {meth : Method} {c : Code} {Q : State → Prop}
variable {cc : ByteArray} {g : GPT} {ot : OT} {own : String} {nL : Nat} {ex : Option Nat} {μ0 : MM}
/-- a field's value is of its kind -/
theorem s_getf {pc ix ci f : Nat} {t i : Nat} {lc : LC} {st : List TV} {μ : MM} {ce sl k a : Nat} {q : Nat × Nat} {v : TV} (C : CX p s m args c cc nL own g ot) (hd : decode cc pc = .ok (.getfield ix, 3)) (hc : chkF own ix ci f t i = true) (hf : fldK KT k ci f = some q) (hv : tvV v = fvl μ a f q) (hk90 : k < 90)
    (hvt : WT μ → μ.2.2.2.1 a = k → tOK g μ v) (kk : WW p l e R s m args below meth c Q g nL ex μ0 (pc + 3) lc (v :: st) μ ce sl) : WW p l e R s m args below meth c Q g nL ex μ0 pc lc (.inr (.inr (k, a)) :: st) μ ce sl := by
  obtain ⟨hx, hb, hml, hown, hts, hK⟩ := C
  intro wt tl ts mo rm H locs ls hP hS hL
  obtain ⟨t1, t2⟩ := tOKs_cons.mp ts
  obtain ⟨e1, e2⟩ := t1.1 hk90
  obtain ⟨r, hr, hn, hw⟩ := chkF_sp hc
  refine r_get hx hb hown hts hK hP e1 e2 hf hr hn hw hd ?_
  rw [← hv]
  exact kk wt tl (tOKs_cons.mpr ⟨hvt wt e1, t2⟩) mo rm H locs ls hP hS hL
theorem fld90 {k ci f : Nat} {q : Nat × Nat} (h : fldK KT k ci f = some q) : k < 90 := by
  obtain ⟨fs, h1, -⟩ := fldK_spec h
  have := KT_lt h1
  omega
theorem arr90 {k : Nat} {q : Nat × Nat × Nat × Nat × Nat} (h : arrK KT k = some q) (hq : ¬ q.2.1 = 0) : k < 90 := by
  have h1 := arrK_spec h
  rcases Nat.lt_or_ge k 90 with h2 | h2
  · exact h2
  · unfold KT at h1
    rw [List.getD_eq_getElem?_getD, List.getElem?_eq_none (by rw [kd_len]; omega)] at h1
    have h3 : (0, 0, 0, 0, 0) = q := Sum.inr.inj h1
    rw [← h3] at hq
    exact absurd rfl hq
/-- a field of ints or longs, written -/
theorem s_putf {pc ix ci f t i : Nat} {lc : LC} {st : List TV} {μ μ' : MM} {ce sl k a : Nat} {q : Nat × Nat} {v : TV} {ty : FieldType} (C : CX p s m args c cc nL own g ot) (hd : decode cc pc = .ok (.putfield ix, 3)) (hc : chkF own ix ci f t i = true) (hfin : finF own ci f false = true) (hf : fldK KT k ci f = some q)
    (hty : okF q ty = true → narrow ty (tvV v) = tvV v ∧ fits ty (tvV v) = true) (hall : ∀ ty', okF q ty' = true → ty' = ty) (h2 : μ'.2.2.2 = μ.2.2.2) (h3 : μ'.2.1 = μ.2.1) (hag : ∀ b, b ≠ a → agA μ μ' b) (hme : fvl μ' a f q = tvV v) (hoth : ∀ j q', j ≠ f → fvl μ' a j q' = fvl μ a j q')
    (kk : WW p l e R s m args below meth c Q g nL ex μ0 (pc + 3) lc st μ' ce sl) : WW p l e R s m args below meth c Q g nL ex μ0 pc lc (v :: .inr (.inr (k, a)) :: st) μ ce sl := by
  obtain ⟨hx, hb, hml, hown, hts, hK⟩ := C
  intro wt tl ts mo rm H locs ls hP hS hL
  obtain ⟨-, t1⟩ := tOKs_cons.mp ts
  obtain ⟨t1, t2⟩ := tOKs_cons.mp t1
  obtain ⟨e1, e2⟩ := t1.1 (fld90 hf)
  obtain ⟨r, hr, hn, hw⟩ := chkF_sp hc
  obtain ⟨fs, g1, g2⟩ := fldK_spec hf
  obtain ⟨r', hr', hlen, hok⟩ := KT_inl g1
  cases Option.some.inj (hr'.symm.trans hr)
  obtain ⟨ty', hp, hok2⟩ := hok f q g2
  have := hall ty' hok2
  subst this
  obtain ⟨n1, n2⟩ := hty hok2
  have hk' : μ'.2.2.2.1 = μ.2.2.2.1 := by rw [h2]
  refine r_putV hx hb hown hts hK hP hS e1 e2 hf hr hn hw (Or.inl (finF_sp hfin hr).1) hp n1 n2 hd (μ' := μ') (k1 := k) (fs1 := fs) (by rw [hk']; exact e1) g1 (by rw [h2]) (fun b hb => ⟨by rw [hk'], hag b hb⟩) (fun fs' hfs' j hj => ?_) fun H1 locs1 hP1 hS1 => ?_
  · have hfe : fs' = fs := by have := Sum.inl.inj (hfs'.symm.trans g1); exact congrArg Prod.snd this
    subst hfe
    rw [vpf]
    by_cases hjf : j = f
    · subst hjf
      rw [g2]
      show updV _ j _ j = fvl μ' a (0 + j) q
      rw [Nat.zero_add, hme]
      simp [updV]
    · show (if j = f then _ else vp_V (fvs μ a 0 fs') j) = _
      rw [if_neg hjf, vpf]
      cases hq : fs'[j]? with
      | none => rfl
      | some q' =>
        show fvl μ a (0 + j) q' = fvl μ' a (0 + j) q'
        rw [Nat.zero_add, hoth j q' hjf]
  · have wt' : WT μ' := by
      intro b
      rw [hk']
      refine wtK_mono (wt b) ?_ (fun c _ _ => by rw [hk'])
      rw [h3]
    refine kk wt' (fun i v hi => (tl i v hi).keep fun b _ _ _ _ _ _ => by rw [hk']) (fun v hv => (t2 v hv).keep fun b _ _ _ _ _ _ => by rw [hk']) (mo.tr (by rw [h2]; exact Nat.le_refl _) fun b _ _ => by rw [hk']) rm H1 locs1 ls hP1 hS1 hL
end SP
