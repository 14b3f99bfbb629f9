/-! A constructor's call; a throw; a method's end. -/
section ST
variable {p : Program} {l : Launch} {e : Env} {R : Room} {s : State} {m : MethodId} {args : Array Value} {below : List Frame} {meth : Method} {c : Code} {Q : State → Prop}
variable {cc : ByteArray} {g : GPT} {ot : OT} {own : String} {nL : Nat} {ex : Option Nat} {μ0 : MM}
theorem s_ctor {fr lo : Nat} {code : List Ent} {ct : List (Nat × CI)} {Rn : Nat × Nat} {G : GC} {Rt : OC → MM → Prop} {rest : List Ent} {lc : LC} {st : List TV} {μ : MM} {ce sl pc ix k1 : Nat} {i0 : Instr} {an ws : List Nat} {ci : CI}
    (C : CX p s m args c cc nL own g ot) (hR : Rn = (R.cells, R.slots)) (hfr : fr ≤ R.frames) (hlo : lo ≤ R.locals)
    (hG : ∀ (es : List Ent) (lc : LC) (st : List TV) (μ : MM) (ce sl : Nat), (∃ pre, code = pre ++ es) → G es lc st μ ce sl → WWr p l e R s m args below meth c Q g nL ex μ0 es lc st μ ce sl)
    (hsf : ∃ pre, code = pre ++ rest) (hfol : folE (pc, i0, 3, an) rest)
    (hck : chkC own ct fr lo ix ws = true) (hl : lkC ct ix = some ci) (hM : MS g ot l ci) (hk1 : 1 ≤ k1) (hk19 : k1 < 90)
    (hd : decode cc pc = .ok (.invokespecial ix, 3)) (hmode : ci.2.2.2.2.2.2.1 = 2 ∨ ci.2.2.2.2.2.2.1 = 3)
    (h : ctoR Rn μ0.2.2.2.2 ex G Rt ci k1 pc rest lc st μ ce sl) : WW p l e R s m args below meth c Q g nL ex μ0 pc lc st μ ce sl := by
  obtain ⟨hx, hb, hml, hown, hts, hK⟩ := C
  obtain ⟨q0, q1, q2, q3, q4, q5, -, q6, -, -, q9⟩ := chkC_sp hck hl
  obtain ⟨y, cb, mL, ret, n, ⟨f2, mc, ms, l2⟩, mode, hh, sp⟩ := ci
  dsimp only [ctoR] at h
  split at h
  case h_2 => exact h.elim
  rename_i k a k' a' st'
  split at h
  case isFalse => exact h.elim
  rename_i hc
  obtain ⟨hn1, hkk, hk90, hnS, hnL, hsum⟩ := hc
  subst hn1
  subst hkk
  obtain ⟨hae, hxo, h⟩ := h
  subst hae
  intro wt tl ts mo rm H locs ls hP hS hL
  obtain ⟨rm2, hsp⟩ := rmP_sp hR h q0 rm
  obtain ⟨t1, ts1⟩ := tOKs_cons.mp ts
  obtain ⟨t2, ts2⟩ := tOKs_cons.mp ts1
  have ta : tOKs g μ [.inr (.inr (k, a'))] := tOKs_cons.mpr ⟨t1, tOKs_nil⟩
  have hM1 := hM [.inr (.inr (k, a'))] μ _ wt ta rfl hsp
  have hex : exO mode [.inr (.inr (k, a'))] = some a' := by
    unfold exO
    rw [if_pos hmode]
  dsimp only at hM1
  rw [hex] at hM1
  obtain ⟨b1, b2, b3, b4, b5⟩ := q9 hmode
  dsimp only at b1 b2 b3 b4 b5
  subst b3
  have hws : wsOf (y, cb, mL, none, 1, (f2, mc, ms, l2), mode, hh, sp) = Jvm.Cond.code y cb mL none :: GW := by
    dsimp only [wsOf]
    rw [if_neg (by dsimp only at hmode; omega)]
  have hpar : (parseMethodDescriptor y.desc).map (fun d => d.parameters.length) = some 0 := by
    cases hp : parseMethodDescriptor y.desc with
    | none => rw [hp] at b5; cases b5
    | some d =>
      rw [hp] at b5
      have := Option.some.inj b5
      dsimp only at this
      show some d.parameters.length = some 0
      congr 1
      omega
  have hgw := good_ws q6
  have hM2 := met_of hM1 (fun E s t hX => by
    obtain ⟨⟨i, μ', -, -, -, hk⟩, -⟩ := hX
    exact hk)
  obtain ⟨e1, e2⟩ := t1.1 hk90
  have fin : ∀ (v : Option TV) (μ' : MM) (H1 : Heap) (locs1 : List Loc), PO g (some a') μ μ' H1 → (∀ w, v = some w → tOK g μ' w) → (match (.inl v : OC) with
        | .inl none => μ'.2.2.2.1 a' = k1 ∧ G rest lc (.inr (.inr (k1, a')) :: st') μ' (ce + mc) (sl + ms)
        | _ => False) → va_S (Ag g) s.heap H1 locs1 → W p l e R s m args below meth c H1 locs1 (ce + mc) (sl + ms) Q (F0 m (pc + 3) ls ((v.map tvV).toList ++ (Value.ref a' :: st'.map tvV))) := by
    intro v μ' H1 locs1 hp hw hk hS1
    cases v with
    | some w => exact hk.elim
    | none =>
      obtain ⟨hk2, hk3⟩ := hk
      have kk := (hG _ _ _ _ _ _ hsf hk3).nx hfol
      obtain ⟨p1, p2, p3⟩ := hp
      have hm : ∀ b, ¬ μ.2.2.2.1 b = 0 → b ≠ a' → μ'.2.2.2.1 b = μ.2.2.2.1 b := fun b hb hne => p3.2 b (hP.lt hb) (fun q => hne (Option.some.inj q))
      refine kk p2 (fun i v hi => (tl i v hi).other e1 (nkL_spec hnL i v hi) hm) (tOKs_cons.mpr ⟨⟨fun _ => ⟨hk2, by omega⟩, fun h9 _ => absurd h9 (by omega)⟩, fun v hv => (ts2 v hv).other e1 (nkS_spec hnS v hv) hm⟩) (mo.tr p3.1 fun b hb hne => p3.2 b (Nat.lt_of_lt_of_le hb mo.1) fun q => ?_) rm2 H1 locs1 ls p1 hS1 hL
      have hba := Option.some.inj q
      subst hba
      rcases hxo with h7 | h7
      · exact hne h7.symm
      · omega
  have hini : (Jvm.Cond.initialized y.cls).before args s = true := hts _ q5
  rcases b1 with ⟨-, b1⟩ | ⟨-, b1⟩
  · refine w_callN (va_runI (As := []) (n := 0) (b := a') (rest := Value.ref a' :: st'.map tvV) (Ts := GW) (own := own) (index := ix) (nL := nL) ⟨hx, hb, hml, hown, hts⟩ hM2 (cwI 0 hts hgw hws rfl rfl hini (hts _ b1) (hts _ b2) b4 ⟨q3, q4, hpar⟩ ⟨Nat.le_trans q1 hfr, Nat.le_trans q2 hlo⟩) ⟨blind_pc, pre_at hK hP hS⟩ rfl rfl hL.2.1 rfl (lv_room hsum) hd rm2) hS fin
  · have hnw := hK.2.2.2.1 _ b1
    refine w_callN (va_runIN (As := []) (n := 0) (b := a') (rest := Value.ref a' :: st'.map tvV) (Ts := GW) (own := own) (index := ix) (nL := nL) ⟨hx, hb, hml, hown, hts⟩ hM2 ⟨va_cnB 0 hts hgw hws rfl rfl hnw hini ⟨q3, q4, hpar⟩ ⟨Nat.le_trans q1 hfr, Nat.le_trans q2 hlo⟩, b4, hts _ b2⟩ ⟨blind_pc, pre_at hK hP hS⟩ rfl rfl hL.2.1 rfl (lv_room hsum) hd rm2) hS fin
end ST
