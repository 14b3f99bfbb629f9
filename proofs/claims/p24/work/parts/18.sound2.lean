/-! ANY INSTRUCTION, continued: all of them. -/
section SA
variable {p : Program} {l : Launch} {e : Env} {R : Room} {s : State} {m : MethodId} {args : Array Value} {below : List Frame} {meth : Method} {c : Code} {Q : State → Prop}
variable {cc : ByteArray} {g : GPT} {ot : OT} {own : String} {nL : Nat} {ex : Option Nat} {μ0 : MM}
set_option maxHeartbeats 40000000 in
set_option maxRecDepth 100000 in
theorem stp_ok {fr lo : Nat} {ini rz : Bool} {ret : Option FieldType} {code : List Ent} {ct : List (Nat × CI)} {hn : List (Nat × Nat × Nat × Nat)} {Rn : Nat × Nat} {G : GC} {Rt : OC → MM → Prop} {rest : List Ent} {lc : LC} {st : List TV} {μ : MM} {ce sl : Nat} {e0 : Ent}
    (C : CX p s m args c cc nL own g ot) (hini : ini = true → meth.name = "<init>") (hR : Rn = (R.cells, R.slots)) (hfr : fr ≤ R.frames) (hlo : lo ≤ R.locals)
    (hG : ∀ (es : List Ent) (lc : LC) (st : List TV) (μ : MM) (ce sl : Nat), (∃ pre, code = pre ++ es) → G es lc st μ ce sl → WWr p l e R s m args below meth c Q g nL ex μ0 es lc st μ ce sl)
    (hsf : ∃ pre, code = pre ++ rest) (hfol : isThr e0 = false → folE e0 rest) (hThr : hThrQ p l e R s m args below meth c Q g ex μ0 Rt hn) (hCat : hCatQ p l e R s m args below meth c Q hn)
    (hRet : hRetQ p l e R s m args below meth c Q cc ret rz g ex μ0 Rt) (hNew : hNewQ p l e R s m args below meth c Q cc nL own g ex μ0 Rt)
    (hM : ∀ ix ci, lkC ct ix = some ci → MS g ot l ci)
    (hck : chkE own cc ct fr lo ini rz ret e0 = true) (h : stp KT ot code ct hn Rn rz μ0.2.2.2.2 ex G Rt e0 rest lc st μ ce sl) : WW p l e R s m args below meth c Q g nL ex μ0 e0.1 lc st μ ce sl := by
  obtain ⟨pc, i, len, an⟩ := e0
  have C' := C
  obtain ⟨hx, hb, hml, hown, hts, hK⟩ := C
  have jp : ∀ {t : Nat} {lc : LC} {st : List TV} {μ : MM} {ce sl : Nat}, G (goTo code t) lc st μ ce sl → WW p l e R s m args below meth c Q g nL ex μ0 t lc st μ ce sl := fun h => (hG _ _ _ _ _ _ goTo_sfx h).jp
  simp only [chkE, Bool.and_eq_true, decide_eq_true_eq] at hck
  obtain ⟨hd, hck⟩ := hck
  show WW p l e R s m args below meth c Q g nL ex μ0 pc lc st μ ce sl
  cases hthr : isThr (pc, i, len, an) with
  | true =>
    cases i <;> first | (cases hthr; done) | skip
    rename_i ix
    simp only [stp] at h
    split at h
    · rename_i ei j
      split at h
      · simp only [Bool.and_eq_true, Bool.or_eq_true, decide_eq_true_eq] at hck
        obtain ⟨⟨⟨⟨h1, h2⟩, h3⟩, h4⟩, h5⟩ := hck
        subst h4
        split at h5
        · rename_i q hq
          simp only [Bool.and_eq_true, decide_eq_true_eq] at h5
          obtain ⟨⟨⟨⟨⟨⟨d1, d2⟩, d3⟩, d4⟩, d5⟩, d6⟩, d7⟩ := h5
          subst h3
          obtain ⟨hr1, hr2⟩ := h
          subst hR
          intro wt tl ts mo rm H locs ls hP hS hL
          exact hNew ei j q μ H locs ls pc ce sl h1 (by simp; omega) hq d1 hd d2 d3 d4 d5 (by omega) (by omega) ⟨hP, wt, mo⟩ hr1 hS hL.2.1 hr2
        · cases h5
      · exact h.elim
    · cases hthr
    · exact h.elim
  | false =>
    have nx : ∀ {lc : LC} {st : List TV} {μ : MM} {ce sl : Nat}, G rest lc st μ ce sl → WW p l e R s m args below meth c Q g nL ex μ0 (pc + len) lc st μ ce sl := fun h => (hG _ _ _ _ _ _ hsf h).nx (hfol hthr)
    replace hfol := hfol hthr
    cases i with
    | iconst k =>
      have hl : len = 1 := of_decide_eq_true hck
      subst hl
      exact s_push (v := .inl _) trivial (nx h) fun H locs ls k' => lv_iconst hx hb hd rfl k'
    | bipush k =>
      simp only [Bool.and_eq_true, decide_eq_true_eq] at hck
      obtain ⟨hl, h8⟩ := hck
      subst hl
      exact s_push (v := .inl _) trivial (nx h) fun H locs ls k' => lv_bipush hx hb hd h8 k'
    | sipush k =>
      simp only [Bool.and_eq_true, decide_eq_true_eq] at hck
      obtain ⟨hl, h8⟩ := hck
      subst hl
      exact s_push (v := .inl _) trivial (nx h) fun H locs ls k' => lv_sipush hx hb hd h8 k'
    | lconst k =>
      have hl : len = 1 := of_decide_eq_true hck
      subst hl
      exact s_push (v := .inr (.inl _)) trivial (nx h) fun H locs ls k' => lv_lconst hx hb hd rfl k'
    | ldc ix =>
      simp only [stp] at h
      split at h
      · simp only [Bool.and_eq_true, decide_eq_true_eq] at hck
        obtain ⟨hl, h8⟩ := hck
        subst hl
        exact s_push (v := .inl _) trivial (nx h) fun H locs ls k' => lv_ldc hx hb hown (hts _ (isW_in h8)) hd k'
      · exact h.elim
    | ldc_w ix =>
      simp only [stp] at h
      split at h
      · simp only [Bool.and_eq_true, decide_eq_true_eq] at hck
        obtain ⟨hl, h8⟩ := hck
        subst hl
        exact s_push (v := .inl _) trivial (nx h) fun H locs ls k' => lv_ldcw hx hb hown (hts _ (isW_in h8)) hd k'
      · exact h.elim
    | ldc2_w ix =>
      simp only [stp] at h
      split at h
      · simp only [Bool.and_eq_true, decide_eq_true_eq] at hck
        obtain ⟨hl, h8⟩ := hck
        subst hl
        exact s_push (v := .inr (.inl _)) trivial (nx h) fun H locs ls k' => lv_ldc2 hx hb hown (hts _ (isW_in h8)) hd k'
      · exact h.elim
    | iload i =>
      have hl : len = 2 := of_decide_eq_true hck
      subst hl
      simp only [stp] at h
      split at h
      · rename_i x hg
        exact s_load (v := .inl x) hg (nx h) fun H locs ls hv k' => lv_iload hx hb hd hv k'
      · exact h.elim
    | iload_n i =>
      have hl : len = 1 := of_decide_eq_true hck
      subst hl
      simp only [stp] at h
      split at h
      · rename_i x hg
        exact s_load (v := .inl x) hg (nx h) fun H locs ls hv k' => lv_iload_n hx hb hd rfl hv k'
      · exact h.elim
    | lload i =>
      have hl : len = 2 := of_decide_eq_true hck
      subst hl
      simp only [stp] at h
      split at h
      · rename_i x hg
        exact s_load (v := .inr (.inl x)) hg (nx h) fun H locs ls hv k' => lv_lload hx hb hd hv k'
      · exact h.elim
    | lload_n i =>
      have hl : len = 1 := of_decide_eq_true hck
      subst hl
      simp only [stp] at h
      split at h
      · rename_i x hg
        exact s_load (v := .inr (.inl x)) hg (nx h) fun H locs ls hv k' => lv_lload_n hx hb hd rfl hv k'
      · exact h.elim
    | aload i =>
      have hl : len = 2 := of_decide_eq_true hck
      subst hl
      simp only [stp] at h
      split at h
      · rename_i x hg
        exact s_load (v := .inr (.inr x)) hg (nx h) fun H locs ls hv k' => lv_aload hx hb hd hv k'
      · exact h.elim
    | aload_n i =>
      have hl : len = 1 := of_decide_eq_true hck
      subst hl
      simp only [stp] at h
      split at h
      · rename_i x hg
        exact s_load (v := .inr (.inr x)) hg (nx h) fun H locs ls hv k' => lv_aload_n hx hb hd rfl hv k'
      · exact h.elim
    | istore i =>
      have hl : len = 2 := of_decide_eq_true hck
      subst hl
      simp only [stp] at h
      split at h
      · split at h
        · rename_i hi
          exact s_st1 (v := .inl _) rfl hi (nx h) fun H locs ls lv hv hn k' => lv_istore hx hb hd hv hn rfl k'
        · exact h.elim
      · exact h.elim
    | istore_n i =>
      have hl : len = 1 := of_decide_eq_true hck
      subst hl
      simp only [stp] at h
      split at h
      · split at h
        · rename_i hi
          exact s_st1 (v := .inl _) rfl hi (nx h) fun H locs ls lv hv hn k' => lv_istore_n hx hb hd rfl hv hn rfl k'
        · exact h.elim
      · exact h.elim
    | lstore i =>
      have hl : len = 2 := of_decide_eq_true hck
      subst hl
      simp only [stp] at h
      split at h
      · split at h
        · rename_i hi
          exact s_st2 (v := .inr (.inl _)) rfl hi (nx h) fun H locs ls lv hv hn k' => lv_lstore hx hb hd hv hn rfl k'
        · exact h.elim
      · exact h.elim
    | lstore_n i =>
      have hl : len = 1 := of_decide_eq_true hck
      subst hl
      simp only [stp] at h
      split at h
      · split at h
        · rename_i hi
          exact s_st2 (v := .inr (.inl _)) rfl hi (nx h) fun H locs ls lv hv hn k' => lv_lstore_n hx hb hd rfl hv hn rfl k'
        · exact h.elim
      · exact h.elim
    | astore i =>
      have hl : len = 2 := of_decide_eq_true hck
      subst hl
      simp only [stp] at h
      split at h
      · split at h
        · rename_i hi
          exact s_st1 (v := .inr (.inr _)) rfl hi (nx h) fun H locs ls lv hv hn k' => lv_astore hx hb hd hv hn rfl k'
        · exact h.elim
      · exact h.elim
    | astore_n i =>
      have hl : len = 1 := of_decide_eq_true hck
      subst hl
      simp only [stp] at h
      split at h
      · split at h
        · rename_i hi
          exact s_st1 (v := .inr (.inr _)) rfl hi (nx h) fun H locs ls lv hv hn k' => lv_astore_n hx hb hd rfl hv hn rfl k'
        · exact h.elim
      · exact h.elim
    | iinc i k =>
      have hl : len = 3 := of_decide_eq_true hck
      subst hl
      simp only [stp] at h
      split at h
      · rename_i x hg
        split at h
        · rename_i hi
          exact s_iinc hx hb hg hi hd (nx h)
        · exact h.elim
      · exact h.elim
    | iadd =>
      have hl : len = 1 := of_decide_eq_true hck
      subst hl
      simp only [stp] at h
      split at h
      · exact s_bin (v := .inl _) (w1 := .inl _) (w2 := .inl _) trivial (nx h) fun H locs ls k' => lv_iadd hx hb hd k'
      · exact h.elim
    | isub =>
      have hl : len = 1 := of_decide_eq_true hck
      subst hl
      simp only [stp] at h
      split at h
      · exact s_bin (v := .inl _) (w1 := .inl _) (w2 := .inl _) trivial (nx h) fun H locs ls k' => lv_isub hx hb hd k'
      · exact h.elim
    | imul =>
      have hl : len = 1 := of_decide_eq_true hck
      subst hl
      simp only [stp] at h
      split at h
      · exact s_bin (v := .inl _) (w1 := .inl _) (w2 := .inl _) trivial (nx h) fun H locs ls k' => lv_imul hx hb hd k'
      · exact h.elim
    | idiv =>
      have hl : len = 1 := of_decide_eq_true hck
      subst hl
      simp only [stp] at h
      split at h
      · exact s_bin (v := .inl _) (w1 := .inl _) (w2 := .inl _) trivial (nx h.2) fun H locs ls k' => lv_idiv hx hb hd h.1 k'
      · exact h.elim
    | irem =>
      have hl : len = 1 := of_decide_eq_true hck
      subst hl
      simp only [stp] at h
      split at h
      · rename_i y x st'
        exact s_bin (v := .inl _) (w1 := .inl _) (w2 := .inl _) trivial (nx h.2) fun H locs ls k' => lv_irem hx hb hd h.1 (by
          have e1 : x - x / y * y = x % y := irem_eq_mod x y
          rw [e1]
          exact k')
      · exact h.elim
    | ineg =>
      have hl : len = 1 := of_decide_eq_true hck
      subst hl
      simp only [stp] at h
      split at h
      · exact s_un (v := .inl _) (w := .inl _) trivial (nx h) fun H locs ls k' => lv_ineg hx hb hd k'
      · exact h.elim
    | iand =>
      have hl : len = 1 := of_decide_eq_true hck
      subst hl
      simp only [stp] at h
      split at h
      · exact s_bin (v := .inl _) (w1 := .inl _) (w2 := .inl _) trivial (nx h) fun H locs ls k' => lv_iand hx hb hd k'
      · exact h.elim
    | ior =>
      have hl : len = 1 := of_decide_eq_true hck
      subst hl
      simp only [stp] at h
      split at h
      · exact s_bin (v := .inl _) (w1 := .inl _) (w2 := .inl _) trivial (nx h) fun H locs ls k' => lv_ior hx hb hd k'
      · exact h.elim
    | ishl =>
      have hl : len = 1 := of_decide_eq_true hck
      subst hl
      simp only [stp] at h
      split at h
      · exact s_bin (v := .inl _) (w1 := .inl _) (w2 := .inl _) trivial (nx h) fun H locs ls k' => lv_ishl hx hb hd k'
      · exact h.elim
    | ishr =>
      have hl : len = 1 := of_decide_eq_true hck
      subst hl
      simp only [stp] at h
      split at h
      · exact s_bin (v := .inl _) (w1 := .inl _) (w2 := .inl _) trivial (nx h) fun H locs ls k' => lv_ishr hx hb hd k'
      · exact h.elim
    | iushr =>
      have hl : len = 1 := of_decide_eq_true hck
      subst hl
      simp only [stp] at h
      split at h
      · exact s_bin (v := .inl _) (w1 := .inl _) (w2 := .inl _) trivial (nx h) fun H locs ls k' => lv_iushr hx hb hd rfl k'
      · exact h.elim
    | i2l =>
      have hl : len = 1 := of_decide_eq_true hck
      subst hl
      simp only [stp] at h
      split at h
      · exact s_un (v := .inr (.inl _)) (w := .inl _) trivial (nx h) fun H locs ls k' => lv_i2l hx hb hd rfl k'
      · exact h.elim
    | ladd =>
      have hl : len = 1 := of_decide_eq_true hck
      subst hl
      simp only [stp] at h
      split at h
      · exact s_bin (v := .inr (.inl _)) (w1 := .inr (.inl _)) (w2 := .inr (.inl _)) trivial (nx h) fun H locs ls k' => lv_ladd hx hb hd k'
      · exact h.elim
    | lmul =>
      have hl : len = 1 := of_decide_eq_true hck
      subst hl
      simp only [stp] at h
      split at h
      · exact s_bin (v := .inr (.inl _)) (w1 := .inr (.inl _)) (w2 := .inr (.inl _)) trivial (nx h) fun H locs ls k' => lv_lmul hx hb hd k'
      · exact h.elim
    | lcmp =>
      have hl : len = 1 := of_decide_eq_true hck
      subst hl
      simp only [stp] at h
      split at h
      · exact s_bin (v := .inl _) (w1 := .inr (.inl _)) (w2 := .inr (.inl _)) trivial (nx h) fun H locs ls k' => W.lcmp hx hb hd k'
      · exact h.elim
    | dup =>
      have hl : len = 1 := of_decide_eq_true hck
      subst hl
      simp only [stp] at h
      split at h
      · intro wt tl ts mo rm H locs ls hP hS hL
        obtain ⟨t1, t2⟩ := tOKs_cons.mp ts
        exact lv_dup hx hb hd rfl (nx h wt tl (tOKs_cons.mpr ⟨t1, tOKs_cons.mpr ⟨t1, t2⟩⟩) mo rm H locs ls hP hS hL)
      · intro wt tl ts mo rm H locs ls hP hS hL
        obtain ⟨t1, t2⟩ := tOKs_cons.mp ts
        exact lv_dup hx hb hd rfl (nx h wt tl (tOKs_cons.mpr ⟨t1, tOKs_cons.mpr ⟨t1, t2⟩⟩) mo rm H locs ls hP hS hL)
      · exact h.elim
    | dup2 =>
      have hl : len = 1 := of_decide_eq_true hck
      subst hl
      simp only [stp] at h
      split at h
      · intro wt tl ts mo rm H locs ls hP hS hL
        obtain ⟨t1, t2⟩ := tOKs_cons.mp ts
        obtain ⟨t2, t3⟩ := tOKs_cons.mp t2
        exact lv_dup2_11 hx hb hd rfl rfl (nx h wt tl (tOKs_cons.mpr ⟨t1, tOKs_cons.mpr ⟨t2, tOKs_cons.mpr ⟨t1, tOKs_cons.mpr ⟨t2, t3⟩⟩⟩⟩) mo rm H locs ls hP hS hL)
      · exact h.elim
    | goto off =>
      simp only [stp] at h
      split at h
      · simp only [Bool.and_eq_true, decide_eq_true_eq] at hck
        intro wt tl ts mo rm H locs ls hP hS hL
        obtain ⟨hl, h8⟩ := hck
        subst hl
        exact lv_goto hx hb hd h8 (jp h wt tl ts mo rm H locs ls hP hS hL)
      · exact h.elim
    | ifCond cnd off =>
      simp only [stp] at h
      split at h
      · simp only [Bool.and_eq_true, decide_eq_true_eq] at hck
        obtain ⟨hl, h8⟩ := hck
        subst hl
        exact s_if hx hb hd h8 (fun q => jp (h.1 q)) (fun q => nx (h.2 q))
      · exact h.elim
    | if_icmp cnd off =>
      simp only [stp] at h
      split at h
      · simp only [Bool.and_eq_true, decide_eq_true_eq] at hck
        obtain ⟨hl, h8⟩ := hck
        subst hl
        exact s_icmp hx hb hd h8 (fun q => jp (h.1 q)) (fun q => nx (h.2 q))
      · exact h.elim
    | tableswitch d lo' hi offs =>
      simp only [stp] at h
      split at h
      · rename_i x st' t0 ts
        simp only [Bool.and_eq_true, decide_eq_true_eq] at hck
        obtain ⟨⟨h1, h2⟩, h3⟩ := hck
        intro wt tl tss mo rm H locs ls hP hS hL
        have t2 := (tOKs_cons.mp tss).2
        by_cases ho : x.toInt < lo' ∨ hi < x.toInt
        · exact lv_tableOut hx hb hd ho h1 (jp (h.1 ho) wt tl t2 mo rm H locs ls hP hS hL)
        · have ho1 : ¬ x.toInt < lo' := fun z => ho (Or.inl z)
          have ho2 : ¬ hi < x.toInt := fun z => ho (Or.inr z)
          have hk : (x.toInt - lo').toNat < ts.length := by omega
          obtain ⟨t, ht⟩ : ∃ t, ts[(x.toInt - lo').toNat]? = some t := ⟨_, List.getElem?_eq_getElem hk⟩
          have hoff : (offs.toList.map (fun o => (pc : Int) + o))[(x.toInt - lo').toNat]? = some (t : Int) := by rw [h2, List.getElem?_map, ht]; rfl
          rw [List.getElem?_map] at hoff
          cases hq : offs.toList[(x.toInt - lo').toNat]? with
          | none => rw [hq] at hoff; cases hoff
          | some o =>
            rw [hq] at hoff
            have ho3 : (pc : Int) + o = (t : Int) := Option.some.inj hoff
            exact lv_tableIn hx hb hd ho1 ho2 (off := o) (by rw [← Array.getElem?_toList]; exact hq) ho3 (jp (sw_at ts lo' h.2 _ t ht (by omega)) wt tl t2 mo rm H locs ls hP hS hL)
      · exact h.elim
    | lookupswitch d ps =>
      simp only [stp] at h
      split at h
      · rename_i x st' t0 ts
        simp only [Bool.and_eq_true, decide_eq_true_eq] at hck
        obtain ⟨⟨h1, h2⟩, h3⟩ := hck
        obtain ⟨t, h4, h5⟩ := lu_at h1 ps.toList ts h h2
        intro wt tl tss mo rm H locs ls hP hS hL
        have t2 := (tOKs_cons.mp tss).2
        exact lv_lookup hx hb hd h3 rfl h4 (jp h5 wt tl t2 mo rm H locs ls hP hS hL)
      · exact h.elim
    | getstatic ix =>
      simp only [stp] at h
      split at h
      · rename_i k t i
        simp only [Bool.and_eq_true, Bool.or_eq_true, decide_eq_true_eq] at hck
        obtain ⟨hl, hck⟩ := hck
        subst hl
        have kk := nx (h (g.2.2.2 k))
        intro wt tl ts mo rm H locs ls hP hS hL
        have tk : tOK g μ (.inr (.inr (k, g.2.2.2 k))) := ⟨fun q => by omega, fun _ _ => rfl⟩
        have k2 := kk wt tl (tOKs_cons.mpr ⟨tk, ts⟩) mo rm H locs ls hP hS hL
        obtain ⟨-, -, -, -, -, -, -, z1, z2, -⟩ := hK
        rcases hck with ⟨rfl, hw⟩ | ⟨rfl, hw⟩
        · exact va_gets hx hb z1 hS hown (hts _ (isW_in hw)) (fun _ h => h) hd k2
        · exact va_gets hx hb z2 hS hown (hts _ (isW_in hw)) (fun _ h => h) hd k2
      · exact h.elim
    | getfield ix =>
      simp only [stp] at h
      split at h
      · rename_i k a st' ci f t i
        simp only [Bool.and_eq_true, decide_eq_true_eq] at hck
        obtain ⟨hl, hck⟩ := hck
        subst hl
        split at h
        · rename_i o hf
          exact s_getf C' hd hck hf (v := .inl _) rfl (fld90 hf) (fun _ _ => trivial) (nx h)
        · rename_i o hf
          exact s_getf C' hd hck hf (v := .inr (.inl _)) rfl (fld90 hf) (fun _ _ => trivial) (nx h)
        · rename_i j o hf
          refine s_getf C' hd hck hf (v := .inr (.inr _)) rfl (fld90 hf) (fun wt hk => ?_) (nx h)
          obtain ⟨fs, h1, h2⟩ := fldK_spec hf
          have := wt a
          rw [hk, h1] at this
          obtain ⟨h3, h4⟩ := KT_rf h1 h2
          exact ⟨fun _ => this f j o h2, fun h5 => by omega⟩
        · exact h.elim
      · exact h.elim
    | putfield ix =>
      simp only [stp] at h
      split at h
      · rename_i x k a st' ci f t i
        simp only [Bool.and_eq_true, decide_eq_true_eq] at hck
        obtain ⟨⟨hl, hck⟩, hfin⟩ := hck
        subst hl
        split at h
        · rename_i hf
          refine s_putf C' hd hck hfin hf (v := .inl x) (ty := .int) (μ' := (up2 μ.1 a f x, μ.2)) (fun _ => ⟨rfl, rfl⟩) (fun ty' h' => of_decide_eq_true h') rfl rfl (fun b hb' => ⟨up2_ne hb', rfl, rfl⟩) (by show Value.int (up2 μ.1 a f x a f) = Value.int x; rw [up2_eq]) (fun j q' hj => ?_) (nx h)
          unfold fvl
          dsimp only
          rw [up2_nj hj]
        · rename_i hf
          refine s_putf C' hd hck hfin hf (v := .inl x) (ty := .boolean) (μ' := (up2 μ.1 a f x, μ.2)) (fun _ => ⟨(z_nar h.1).2.1, (z_nar h.1).2.2⟩) (fun ty' h' => of_decide_eq_true h') rfl rfl (fun b hb' => ⟨up2_ne hb', rfl, rfl⟩) (by show Value.int (up2 μ.1 a f x a f) = Value.int x; rw [up2_eq]) (fun j q' hj => ?_) (nx h.2)
          unfold fvl
          dsimp only
          rw [up2_nj hj]
        · exact h.elim
      · rename_i x k a st' ci f t i
        simp only [Bool.and_eq_true, decide_eq_true_eq] at hck
        obtain ⟨⟨hl, hck⟩, hfin⟩ := hck
        subst hl
        split at h
        · rename_i o hf
          refine s_putf C' hd hck hfin hf (v := .inr (.inl x)) (ty := .long) (μ' := (μ.1, μ.2.1, up2 μ.2.2.1 a f x, μ.2.2.2)) (fun _ => ⟨rfl, rfl⟩) (fun ty' h' => of_decide_eq_true h') rfl rfl (fun b hb' => ⟨rfl, rfl, up2_ne hb'⟩) (by show Value.long (up2 μ.2.2.1 a f x a f) = Value.long x; rw [up2_eq]) (fun j q' hj => ?_) (nx h)
          unfold fvl
          dsimp only
          rw [up2_nj hj]
        · exact h.elim
      · rename_i kv b k a st' ci f t i k1 k0
        simp only [Bool.and_eq_true, decide_eq_true_eq] at hck
        obtain ⟨⟨⟨⟨hl, hck⟩, hfin⟩, hinb⟩, hset⟩ := hck
        subst hl
        split at h
        · rename_i o0 j o k' a' hf hf1 hlc
          split at h
          · rename_i hc
            obtain ⟨hk1', hk2', hk3', hnk⟩ := hc
            subst hk1'
            subst hk2'
            subst hk3'
            obtain ⟨rfl, rfl, hxo, h⟩ := h
            have kk := nx h
            intro wt tl ts mo rm H locs ls hP hS hL
            obtain ⟨t1, t2⟩ := tOKs_cons.mp ts
            obtain ⟨t2, -⟩ := tOKs_cons.mp t2
            obtain ⟨e1, e2⟩ := t2.1 (fld90 hf)
            obtain ⟨fs0, g0, g1, g2, g3⟩ := setK_sp hset
            obtain ⟨fs1, g4, g5⟩ := fldK_spec hf1
            have hfs1 : fs1 = fs0.set f (kv + 3, o) := by
              have h6 : fs1 = fs0.set f ((match KT k1 with | .inl (_, fs1) => fs1 | .inr _ => []).getD f (0, 0)) := congrArg Prod.snd (Sum.inl.inj (g4.symm.trans g1))
              rw [g4] at h6
              dsimp only at h6
              rw [List.getD_eq_getElem?_getD, g5] at h6
              exact h6
            obtain ⟨r, hr, hn', hw⟩ := chkF_sp hck
            obtain ⟨r', hr', hlen, hok⟩ := KT_inl g4
            cases Option.some.inj (hr'.symm.trans hr)
            obtain ⟨ty', hp', hok2⟩ := hok f _ g5
            obtain ⟨j1, j2⟩ := KT_rf g4 g5
            obtain ⟨b1, b2⟩ := t1.1 (by omega)
            obtain ⟨f1, f2⟩ := finF_sp hfin hr
            have hkx : μ.2.2.2.1 (a' + o) = kv := b1
            have hlt := hP.lt (b := a') (by rw [e1]; exact e2)
            have key : ∀ b, b ≠ a' → up1 μ.2.2.2.1 a' k1 b = μ.2.2.2.1 b := fun b hb' => up1_ne hb'
            have tyr : narrow ty' (Value.ref (a' + o)) = Value.ref (a' + o) ∧ fits ty' (Value.ref (a' + o)) = true := by
              cases ty' <;> first | exact ⟨rfl, rfl⟩ | exact absurd hok2 Bool.false_ne_true
            refine r_putV hx hb hown hts hK hP hS e1 e2 hf hr hn' hw (Or.inr ⟨f1, hini hinb, f2 rfl⟩) hp' tyr.1 tyr.2 hd (μ' := (μ.1, μ.2.1, μ.2.2.1, up1 μ.2.2.2.1 a' k1, μ.2.2.2.2)) (k1 := k1) (fs1 := fs1) up1_eq g4 rfl (fun b hb' => ⟨key b hb', rfl, rfl, rfl⟩) (fun fs' hfs' j' hj' => ?_) fun H1 locs1 hP1 hS1 => ?_
            · have hfe : fs' = fs0 := congrArg Prod.snd (Sum.inl.inj (hfs'.symm.trans g0))
              subst hfe
              rw [vpf, hfs1]
              by_cases hjf : j' = f
              · subst hjf
                rw [← hfs1, g5]
                show updV _ j' (Value.ref (a' + o)) j' = Value.ref (a' + o)
                simp [updV]
              · rw [List.getElem?_set_ne (Ne.symm hjf)]
                show (if j' = f then _ else vp_V (fvs μ a' 0 fs') j') = _
                rw [if_neg hjf, vpf]
                rfl
            · have wt' := wt.put e1 g3 g0 (by rw [← hfs1]; exact g4) hkx
              refine kk wt' (fun i v hi => ?_) tOKs_nil (mo.tr (Nat.le_refl _) fun b hb' hne => key b fun z => ?_) rm H1 locs1 ls hP1 hS1 ⟨by rw [List.length_set]; exact hL.1, hL.2.1, hL.2.2.1, fun i v hi => ?_⟩
              · by_cases h00 : i = 0
                · subst h00
                  rw [List.getElem?_set] at hi
                  simp only [if_true] at hi
                  split at hi
                  · cases hi
                    exact ⟨fun _ => ⟨up1_eq, by omega⟩, fun h9 _ => by have := fld90 hf1; omega⟩
                  · cases hi
                · rw [List.getElem?_set_ne (Ne.symm h00)] at hi
                  refine (tl i v hi).other e1 (nkL_spec hnk (i - 1) v ?_) (fun b _ hb' => key b hb')
                  rw [← List.drop_one, List.getElem?_drop, show 1 + (i - 1) = i by omega]
                  exact hi
              · subst z
                rcases hxo with h7 | h7
                · exact hne h7.symm
                · omega
              · by_cases h00 : i = 0
                · subst h00
                  rw [List.getElem?_set] at hi
                  simp only [if_true] at hi
                  split at hi
                  · cases hi
                    have h44 := hL.2.2.2 0 _ (getL_at hlc)
                    exact h44
                  · cases hi
                · rw [List.getElem?_set_ne (Ne.symm h00)] at hi
                  exact hL.2.2.2 i v hi
          · exact h.elim
        · exact h.elim
      · exact h.elim
    | arraylength =>
      have hl : len = 1 := of_decide_eq_true hck
      subst hl
      simp only [stp] at h
      split at h
      · rename_i a st'
        have kk := nx h
        intro wt tl ts mo rm H locs ls hP hS hL
        obtain ⟨t1, t2⟩ := tOKs_cons.mp ts
        have ha : a = g.2.2.2 90 := t1.2 (Nat.le_refl _) (by omega)
        subst ha
        exact va_tlen hx hb (hK.2.1 90 (Nat.le_refl _) (by omega)).2 hS rfl hd (kk wt tl (tOKs_cons.mpr ⟨trivial, t2⟩) mo rm H locs ls hP hS hL)
      · exact h.elim
    | iaload =>
      have hl : len = 1 := of_decide_eq_true hck
      subst hl
      have old : ∀ (k a : Nat) (i : Int32) (st' : List TV), 90 ≤ k → k < 93 → (∃ j : Nat, i = nI j ∧ j < ot.1 k ∧ G rest lc (.inl (ot.2 k j) :: st') μ ce sl) → WW p l e R s m args below meth c Q g nL ex μ0 pc lc (.inl i :: .inr (.inr (k, a)) :: st') μ ce sl := by
        intro k a i st' h1 h2 h3
        obtain ⟨j, hi, hj, h3⟩ := h3
        have kk := nx h3
        intro wt tl ts mo rm H locs ls hP hS hL
        obtain ⟨-, t1⟩ := tOKs_cons.mp ts
        obtain ⟨t1, t2⟩ := tOKs_cons.mp t1
        have ha : a = g.2.2.2 k := t1.2 h1 h2
        subst ha
        obtain ⟨o1, o2⟩ := hK.2.1 k h1 h2
        obtain ⟨i1, i2⟩ := va_in_of' hi hj o1
        exact va_ti hx hb o2 hS i1 (v := .int (ot.2 k j)) (by show Value.int (ot.2 k _) = Value.int (ot.2 k j); rw [i2]) hd (kk wt tl (tOKs_cons.mpr ⟨trivial, t2⟩) mo rm H locs ls hP hS hL)
      simp only [stp] at h
      split at h
      · exact old _ _ _ _ (by omega) (by omega) h
      · exact old _ _ _ _ (by omega) (by omega) h
      · exact old _ _ _ _ (by omega) (by omega) h
      · split at h
        · rename_i i k a st' hk1 hk2 hk3 o n q hf
          obtain ⟨j, hi, hj, h⟩ := h
          have kk := nx h
          intro wt tl ts mo rm H locs ls hP hS hL
          obtain ⟨-, t1⟩ := tOKs_cons.mp ts
          obtain ⟨t1, t2⟩ := tOKs_cons.mp t1
          obtain ⟨e1, e2⟩ := t1.1 (arr90 hf (by dsimp only; omega))
          exact r_iald hx hb hK hP e1 e2 hf hi hj hd (kk wt tl (tOKs_cons.mpr ⟨trivial, t2⟩) mo rm H locs ls hP hS hL)
        · exact h.elim
      · exact h.elim
    | aaload =>
      have hl : len = 1 := of_decide_eq_true hck
      subst hl
      have go : ∀ (k a n t ek o d : Nat) (i : Int32) (j : Nat) (st' : List TV) (z : Nat), arrK KT k = some (t + 3, n, ek, o, d) → i = nI j → j < n → j < μ.2.1 a n → z = (if d = 0 then μ.2.1 a j else a + o + d * j) → G rest lc (.inr (.inr (ek, z)) :: st') μ ce sl → WW p l e R s m args below meth c Q g nL ex μ0 pc lc (.inl i :: .inr (.inr (k, a)) :: st') μ ce sl := by
        intro k a n t ek o d i j st' z hf hi hj hfl hz h3
        have kk := nx h3
        intro wt tl ts mo rm H locs ls hP hS hL
        obtain ⟨-, t1⟩ := tOKs_cons.mp ts
        obtain ⟨t1, t2⟩ := tOKs_cons.mp t1
        obtain ⟨e1, e2⟩ := t1.1 (arr90 hf (by dsimp only; omega))
        have hKk := arrK_spec hf
        obtain ⟨r1, r2⟩ := KT_re hKk (by omega)
        have hw := wt a
        rw [e1, hKk] at hw
        obtain ⟨-, -, w3⟩ := hw (by omega)
        have w4 := w3 j hfl
        rw [← hz] at w4
        refine r_aald hx hb hK hP e1 e2 hf hi hj hfl hd ?_
        rw [← hz]
        exact kk wt tl (tOKs_cons.mpr ⟨⟨fun _ => ⟨w4, by omega⟩, fun h9 _ => by omega⟩, t2⟩) mo rm H locs ls hP hS hL
      simp only [stp] at h
      split at h
      · split at h
        · rename_i i k a st' o1 t n ek o hf
          obtain ⟨j, hi, hj, hfl, h⟩ := h
          exact go k a n t ek o 0 i j st' _ hf hi hj hfl rfl h
        · rename_i i k a st' o1 t n ek o d hf
          obtain ⟨j, hi, hj, hfl, h⟩ := h
          exact go k a n t ek o (d + 1) i j st' _ hf hi hj hfl rfl h
        · exact h.elim
      · exact h.elim
    | iastore =>
      have hl : len = 1 := of_decide_eq_true hck
      subst hl
      simp only [stp] at h
      split at h
      · split at h
        · rename_i x i k a st' o n q hf
          obtain ⟨j, hi, hj, h⟩ := h
          have kk := nx h
          intro wt tl ts mo rm H locs ls hP hS hL
          obtain ⟨-, t1⟩ := tOKs_cons.mp ts
          obtain ⟨-, t1⟩ := tOKs_cons.mp t1
          obtain ⟨t1, t2⟩ := tOKs_cons.mp t1
          obtain ⟨e1, e2⟩ := t1.1 (arr90 hf (by dsimp only; omega))
          exact r_iast hx hb hK hP hS e1 e2 hf hi hj hd fun H1 locs1 hP1 hS1 => s_keep kk rfl (wt_i wt) tl t2 mo rm hP1 hS1 hL
        · exact h.elim
      · exact h.elim
    | aastore =>
      have hl : len = 1 := of_decide_eq_true hck
      subst hl
      have go : ∀ (k a n t o d b : Nat) (i : Int32) (j kv : Nat) (st' : List TV) (r2 : Nat → Nat → Nat), arrK KT k = some (t + 3, n, kv, o, d) → i = nI j → j < n → (∀ q, q ≠ a → r2 q = μ.2.1 q) → (∀ q, q < n → va_up (rfs μ a n o d) j (some b) q = rfs (μ.1, r2, μ.2.2) a n o d q) →
          (WT μ → μ.2.2.2.1 a = k → μ.2.2.2.1 b = kv → r2 a n ≤ n ∧ ∀ j, j < r2 a n → μ.2.2.2.1 (if d = 0 then r2 a j else a + o + d * j) = kv) → G rest lc st' (μ.1, r2, μ.2.2) ce sl → WW p l e R s m args below meth c Q g nL ex μ0 pc lc (.inr (.inr (kv, b)) :: .inl i :: .inr (.inr (k, a)) :: st') μ ce sl := by
        intro k a n t o d b i j kv st' r2 hf hi hj hr2 hrow hwt h3
        have kk := nx h3
        intro wt tl ts mo rm H locs ls hP hS hL
        obtain ⟨tb, t1⟩ := tOKs_cons.mp ts
        obtain ⟨-, t1⟩ := tOKs_cons.mp t1
        obtain ⟨t1, t2⟩ := tOKs_cons.mp t1
        obtain ⟨e1, e2⟩ := t1.1 (arr90 hf (by dsimp only; omega))
        have hKk := arrK_spec hf
        obtain ⟨q1, q2⟩ := KT_re hKk (by omega)
        obtain ⟨b1, b2⟩ := tb.1 (by omega)
        exact r_aast hx hb hK hP hS e1 e2 hf hi hj b1 b2 hr2 hrow hd fun H1 locs1 hP1 hS1 => s_keep kk rfl (wt.row e1 hKk hr2 (hwt wt e1 b1)) tl t2 mo rm hP1 hS1 hL
      simp only [stp] at h
      split at h
      · split at h
        · rename_i kv b i k a st' o1 t n ek o hf
          split at h
          · rename_i hkv
            subst hkv
            have hKk := arrK_spec hf
            obtain ⟨j, hi, hj, h | h⟩ := h
            · obtain ⟨hfl, h⟩ := h
              refine go k a n t o 0 b i j kv st' _ hf hi hj (fun q hq => up2_ne hq) (fun q hq => ?_) (fun wt hk hb' => ?_) h
              · have hn1 : up2 μ.2.1 a j b a n = μ.2.1 a n := up2_nj (by omega)
                show va_up (rfs μ a n o 0) j (some b) q = (if q < up2 μ.2.1 a j b a n then some (up2 μ.2.1 a j b a q) else none)
                rw [hn1]
                by_cases e : q = j
                · subst e
                  rw [va_up_self, if_pos hfl, up2_eq]
                · rw [va_up_ne _ _ e, up2_nj e]
                  rfl
              · have hn1 : up2 μ.2.1 a j b a n = μ.2.1 a n := up2_nj (by omega)
                have hw := wt a
                rw [hk, hKk] at hw
                obtain ⟨w1, -, w3⟩ := hw (by omega)
                rw [hn1]
                refine ⟨w1, fun j' hj' => ?_⟩
                show μ.2.2.2.1 (up2 μ.2.1 a j b a j') = kv
                by_cases e : j' = j
                · subst e
                  rw [up2_eq]
                  exact hb'
                · rw [up2_nj e]
                  exact w3 j' hj'
            · obtain ⟨hfl, h⟩ := h
              refine go k a n t o 0 b i j kv st' _ hf hi hj (fun q hq => by rw [up2_ne hq, up2_ne hq]) (fun q hq => ?_) (fun wt hk hb' => ?_) h
              · show va_up (rfs μ a n o 0) j (some b) q = (if q < up2 (up2 μ.2.1 a j b) a n (j + 1) a n then some (up2 (up2 μ.2.1 a j b) a n (j + 1) a q) else none)
                rw [up2_eq, up2_nj (by omega)]
                by_cases e : q = j
                · subst e
                  rw [va_up_self, if_pos (by omega), up2_eq]
                · rw [va_up_ne _ _ e, up2_nj e]
                  show (if q < μ.2.1 a n then some (μ.2.1 a q) else none) = _
                  by_cases e2 : q < μ.2.1 a n
                  · rw [if_pos e2, if_pos (by omega)]
                  · rw [if_neg e2, if_neg (by omega)]
              · have hw := wt a
                rw [hk, hKk] at hw
                obtain ⟨w1, -, w3⟩ := hw (by omega)
                rw [up2_eq]
                refine ⟨by omega, fun j' hj' => ?_⟩
                show μ.2.2.2.1 (up2 (up2 μ.2.1 a j b) a n (j + 1) a j') = kv
                rw [up2_nj (by omega)]
                by_cases e : j' = j
                · subst e
                  rw [up2_eq]
                  exact hb'
                · rw [up2_nj e]
                  exact w3 j' (by omega)
          · exact h.elim
        · rename_i kv b i k a st' o1 t n ek o d hf
          split at h
          · rename_i hkv
            subst hkv
            have hKk := arrK_spec hf
            obtain ⟨j, hi, hj, hfl, hbj, h⟩ := h
            refine go k a n t o (d + 1) b i j kv st' _ hf hi hj (fun q hq => up2_ne hq) (fun q hq => ?_) (fun wt hk hb' => ?_) h
            · show va_up (rfs μ a n o (d + 1)) j (some b) q = (if q < up2 μ.2.1 a n (j + 1) a n then some (a + o + (d + 1) * q) else none)
              rw [up2_eq]
              by_cases e : q = j
              · subst e
                rw [va_up_self, if_pos (by omega), hbj]
              · rw [va_up_ne _ _ e]
                show (if q < μ.2.1 a n then some (a + o + (d + 1) * q) else none) = _
                by_cases e2 : q < μ.2.1 a n
                · rw [if_pos e2, if_pos (by omega)]
                · rw [if_neg e2, if_neg (by omega)]
            · have hw := wt a
              rw [hk, hKk] at hw
              obtain ⟨w1, -, w3⟩ := hw (by omega)
              rw [up2_eq]
              refine ⟨by omega, fun j' hj' => ?_⟩
              show μ.2.2.2.1 (a + o + (d + 1) * j') = kv
              by_cases e : j' = j
              · subst e
                rw [← hbj]
                exact hb'
              · exact w3 j' (by omega)
          · exact h.elim
        · exact h.elim
      · exact h.elim
    | new ix =>
      simp only [stp] at h
      split at h
      · cases hthr
      · rename_i k n t1 i1 t2 i2 t3 i3
        simp only [Bool.and_eq_true, decide_eq_true_eq] at hck
        obtain ⟨hl, hck⟩ := hck
        subst hl
        unfold rawK at hck
        split at hck
        · rename_i ci fs hKk
          split at hck
          · rename_i r hr
            simp only [Bool.and_eq_true, decide_eq_true_eq] at hck
            obtain ⟨⟨⟨⟨⟨a1, a2⟩, a3⟩, a4⟩, a5⟩, a6⟩ := hck
            obtain ⟨hr1, h⟩ := h
            have kk := nx h
            subst hR
            have hraw : ∀ q ∈ fs, q.1 < 3 := fun q hq => of_decide_eq_true (List.all_eq_true.mp a2 q hq)
            intro wt tl ts mo rm H locs ls hP hS hL
            refine r_new hx hb hown hts hK hP hS hKk hraw hr a1 (isW_in a3) (isW_in a4) (isW_in a5) hd hr1.1 hr1.2 fun H1 hP1 hS1 => ?_
            have hlt := KT_lt hKk
            refine s_new a6 (by omega) kk (wt.new (k0_at hP) (fun _ _ => rfl) (fun ci' fs' h' => ?_) (fun t n ek o d h' => ?_)) tl ts mo hr1 hP hP1 hS1 hL
            · have hfe : fs' = fs := congrArg Prod.snd (Sum.inl.inj (h'.symm.trans hKk))
              subst hfe
              exact hraw
            · rw [hKk] at h'
              cases h'
          · cases hck
        · cases hck
      · exact h.elim
    | newarray at' =>
      simp only [stp] at h
      split at h
      · rename_i x st' k n t i
        simp only [Bool.and_eq_true, decide_eq_true_eq] at hck
        obtain ⟨hl, hck⟩ := hck
        subst hl
        split at hck
        · rename_i ty n' q hKk
          simp only [Bool.and_eq_true, decide_eq_true_eq] at hck
          obtain ⟨⟨⟨⟨a1, a2⟩, a3⟩, a4⟩, a5⟩ := hck
          subst a1
          obtain ⟨hxn, hr1, h⟩ := h
          have kk := nx h
          subst hR
          intro wt tl ts mo rm H locs ls hP hS hL
          have t2 := (tOKs_cons.mp ts).2
          obtain ⟨ek, o, d⟩ := q
          refine r_newa hx hb hts hK hP hS hKk a2 a3 hxn (isW_in a4) hd hr1.1 hr1.2 fun H1 hP1 hS1 => ?_
          refine s_new a5.1 a5.2 kk (wt.new (k0_at hP) (fun _ _ => rfl) (fun ci' fs' h' => ?_) (fun t n ek o d h' h3 => ?_)) tl t2 mo hr1 hP hP1 hS1 hL
          · rw [hKk] at h'
            cases h'
          · have := congrArg Prod.fst (Sum.inr.inj (h'.symm.trans hKk))
            dsimp only at this
            omega
        · cases hck
      · exact h.elim
    | anewarray ix =>
      simp only [stp] at h
      split at h
      · rename_i x st' k n t i u1 u2
        simp only [Bool.and_eq_true, decide_eq_true_eq] at hck
        obtain ⟨hl, hck⟩ := hck
        subst hl
        split at hck
        · rename_i ty n' q hKk
          simp only [Bool.and_eq_true, decide_eq_true_eq] at hck
          obtain ⟨⟨⟨a1, a2⟩, a3⟩, a4⟩ := hck
          subst a1
          split at a4
          · rename_i r hr
            obtain ⟨hxn, hr1, h⟩ := h
            have kk := nx h
            subst hR
            obtain ⟨ty', rfl⟩ : ∃ t', ty = t' + 3 := ⟨ty - 3, by omega⟩
            intro wt tl ts mo rm H locs ls hP hS hL
            have t2 := (tOKs_cons.mp ts).2
            obtain ⟨ek, o, d⟩ := q
            have hk90 : k < 90 := by
              rcases Nat.lt_or_ge k 90 with h2 | h2
              · exact h2
              · exfalso
                have h1 := hKk
                unfold KT at h1
                rw [List.getD_eq_getElem?_getD, List.getElem?_eq_none (by rw [kd_len]; omega)] at h1
                cases h1
            refine r_newq hx hb hown hts hK hP hS hKk hr hxn (isW_in a4) hd hr1.1 hr1.2 fun H1 hP1 hS1 => ?_
            refine s_new a3 hk90 kk (wt.new (k0_at hP) (fun b hb' => up2_ne hb') (fun ci' fs' h' => ?_) (fun t n2 ek o d h' h3 => ?_)) tl t2 mo hr1 hP hP1 hS1 hL
            · rw [hKk] at h'
              cases h'
            · have hq := Sum.inr.inj (h'.symm.trans hKk)
              have hn2 : n2 = n' := congrArg (fun z => z.2.1) hq
              subst hn2
              exact up2_eq
          · cases a4
        · cases hck
      · exact h.elim
    | invokevirtual ix =>
      simp only [stp] at h
      split at h
      · rename_i ci hl
        simp only [Bool.and_eq_true, decide_eq_true_eq] at hck
        obtain ⟨⟨hlen, hck⟩, hmode⟩ := hck
        subst hlen
        rw [hl] at hmode
        exact s_call C' hR hfr hlo hG hsf hfol hThr hCat hck hl (hM ix ci hl) (Or.inr ⟨hd, of_decide_eq_true hmode⟩) h
      · exact h.elim
    | invokestatic ix =>
      have hck' : (∃ a1 b1 a2 b2 a3 b3 a4 b4, an = [0, a1, b1, a2, b2, a3, b3, a4, b4] ∧ len = 3 ∧ Jvm.Cond.methodLink own ix arraycopyName ∈ GW ∧ Jvm.Cond.native arraycopyName ∈ GW ∧ Jvm.Cond.static arraycopyName ∈ GW ∧ Jvm.Cond.initialized "java/lang/System" ∈ GW ∧ 1 ≤ fr ∧ nativeFrameWords "java/lang/System" "arraycopy" 5 + 11 ≤ lo) ∨
          (∃ ws, an = 1 :: ws ∧ len = 3 ∧ chkC own ct fr lo ix ws = true ∧ (match lkC ct ix with | some ci => decide (ci.2.2.2.2.2.2.1 = 0) || decide (ci.2.2.2.2.2.2.1 = 4) | none => false) = true) ∨
          (∃ ws, an = 2 :: ws ∧ len = 3 ∧ Jvm.Cond.methodLink own ix Lib.Math.abs.name ∈ GW ∧ Jvm.Cond.static Lib.Math.abs.name ∈ GW ∧ Jvm.Cond.initialized "java/lang/Math" ∈ GW ∧ Jvm.Cond.code Lib.Math.abs.name Lib.Math.abs.code 1 (some .int) ∈ GW ∧ 1 ≤ fr ∧ 13 ≤ lo) ∨
          (∃ ws, an = 3 :: ws ∧ len = 3 ∧ Jvm.Cond.methodLink own ix Lib.Math.max.name ∈ GW ∧ Jvm.Cond.static Lib.Math.max.name ∈ GW ∧ Jvm.Cond.initialized "java/lang/Math" ∈ GW ∧ Jvm.Cond.code Lib.Math.max.name Lib.Math.max.code 2 (some .int) ∈ GW ∧ 1 ≤ fr ∧ 13 ≤ lo) := by
        rcases an with _ | ⟨n0, an⟩
        · cases hck
        · rcases n0 with _ | _ | _ | _ | n0
          · rcases an with _ | ⟨a1, _ | ⟨b1, _ | ⟨a2, _ | ⟨b2, _ | ⟨a3, _ | ⟨b3, _ | ⟨a4, _ | ⟨b4, _ | ⟨x9, an⟩⟩⟩⟩⟩⟩⟩⟩⟩
            all_goals first | (exact absurd hck Bool.false_ne_true) | skip
            simp only [Bool.and_eq_true, decide_eq_true_eq] at hck
            obtain ⟨⟨⟨⟨⟨⟨c0, c1⟩, c2⟩, c3⟩, c4⟩, c5⟩, c6⟩ := hck
            exact Or.inl ⟨a1, b1, a2, b2, a3, b3, a4, b4, rfl, c0, isW_in c1, isW_in c2, isW_in c3, isW_in c4, c5, c6⟩
          · simp only [Bool.and_eq_true, decide_eq_true_eq] at hck
            exact Or.inr (Or.inl ⟨an, rfl, hck.1.1, hck.1.2, hck.2⟩)
          · rcases an with _ | ⟨a1, _ | ⟨b1, _ | ⟨a2, _ | ⟨b2, _ | ⟨a3, _ | ⟨b3, _ | ⟨a4, _ | ⟨b4, _ | ⟨x9, an⟩⟩⟩⟩⟩⟩⟩⟩⟩
            all_goals first | (exact absurd hck Bool.false_ne_true) | skip
            simp only [Bool.and_eq_true, decide_eq_true_eq] at hck
            obtain ⟨⟨⟨⟨⟨⟨c0, c1⟩, c2⟩, c3⟩, c4⟩, c5⟩, c6⟩ := hck
            exact Or.inr (Or.inr (Or.inl ⟨_, rfl, c0, isW_in c1, isW_in c2, isW_in c3, isW_in c4, c5, c6⟩))
          · rcases an with _ | ⟨a1, _ | ⟨b1, _ | ⟨a2, _ | ⟨b2, _ | ⟨a3, _ | ⟨b3, _ | ⟨a4, _ | ⟨b4, _ | ⟨x9, an⟩⟩⟩⟩⟩⟩⟩⟩⟩
            all_goals first | (exact absurd hck Bool.false_ne_true) | skip
            simp only [Bool.and_eq_true, decide_eq_true_eq] at hck
            obtain ⟨⟨⟨⟨⟨⟨c0, c1⟩, c2⟩, c3⟩, c4⟩, c5⟩, c6⟩ := hck
            exact Or.inr (Or.inr (Or.inr ⟨_, rfl, c0, isW_in c1, isW_in c2, isW_in c3, isW_in c4, c5, c6⟩))
          · exact absurd hck Bool.false_ne_true
      rcases hck' with ⟨a1, b1, a2, b2, a3, b3, a4, b4, rfl, rfl, w1, w2, w3, w4, c5, c6⟩ | ⟨ws, rfl, rfl, hck, hmode⟩ | ⟨ws, rfl, rfl, w1, w2, w3, w4, c5, c6⟩ | ⟨ws, rfl, rfl, w1, w2, w3, w4, c5, c6⟩
      · simp only [stp] at h
        split at h
        · rename_i n dp k a sp k0 a0 st'
          split at h
          · rename_i n0 q0 n1 q1 hf0 hf1
            split at h
            · rename_i hsum
              obtain ⟨i0, i1, nn, hsp, hdp, hnn, b0, b1, h⟩ := h
              have kk := nx h
              intro wt tl ts mo rm H locs ls hP hS hL
              obtain ⟨-, t1⟩ := tOKs_cons.mp ts
              obtain ⟨-, t1⟩ := tOKs_cons.mp t1
              obtain ⟨ta, t1⟩ := tOKs_cons.mp t1
              obtain ⟨-, t1⟩ := tOKs_cons.mp t1
              obtain ⟨ta0, t2⟩ := tOKs_cons.mp t1
              have fin : k0 < 90 → k < 90 → W p l e R s m args below meth c H locs ce sl Q (F0 m pc ls ((.inl n :: .inl dp :: .inr (.inr (k, a)) :: .inl sp :: .inr (.inr (k0, a0)) :: st').map tvV)) := by
                intro h1 h2
                obtain ⟨e1, e2⟩ := ta.1 h2
                obtain ⟨e3, e4⟩ := ta0.1 h1
                exact r_copy hx hb (hml.trans hL.2.1.symm) hown hts hK hP hS w1 w2 w3 w4 e3 e4 hf0 e1 e2 hf1 hsp hdp hnn b0 b1 (by omega) (by rw [tvC_sum, hsum.1]; omega) hd fun H1 locs1 hP1 hS1 => s_keep kk rfl (wt_i wt) tl t2 mo rm hP1 hS1 hL
              exact fin hsum.2.1 hsum.2.2
            · exact h.elim
          · exact h.elim
        · exact h.elim
      · simp only [stp] at h
        split at h
        · rename_i ci hl
          rw [hl] at hmode
          simp only [Bool.or_eq_true, decide_eq_true_eq] at hmode
          exact s_call C' hR hfr hlo hG hsf hfol hThr hCat hck hl (hM ix ci hl) (Or.inl ⟨hd, hmode⟩) h
        · exact h.elim
      · simp only [stp] at h
        split at h
        · rename_i x st'
          split at h
          · rename_i hsum
            have kk := nx h
            intro wt tl ts mo rm H locs ls hP hS hL
            exact va_mabs hx hb (hml.trans hL.2.1.symm) hown (hts _ w1) (hts _ w2) (hts _ w3) (hts _ w4) (by omega) (by rw [tvC_sum, hsum]; omega) rm.1 rm.2 hd (kk wt tl (tOKs_cons.mpr ⟨trivial, (tOKs_cons.mp ts).2⟩) mo rm H locs ls hP hS hL)
          · exact h.elim
        · exact h.elim
      · simp only [stp] at h
        split at h
        · rename_i y x st'
          split at h
          · rename_i hsum
            have kk := nx h
            intro wt tl ts mo rm H locs ls hP hS hL
            exact va_mmax hx hb (hml.trans hL.2.1.symm) hown (hts _ w1) (hts _ w2) (hts _ w3) (hts _ w4) (by omega) (by rw [tvC_sum, hsum]; omega) rm.1 rm.2 hd (kk wt tl (tOKs_cons.mpr ⟨trivial, (tOKs_cons.mp (tOKs_cons.mp ts).2).2⟩) mo rm H locs ls hP hS hL)
          · exact h.elim
        · exact h.elim
    | invokespecial ix =>
      have hck' : (∃ a1 b1 a2 b2 a3 b3, an = [0, a1, b1, a2, b2, a3, b3] ∧ len = 3 ∧ Jvm.Cond.methodLink own ix Lib.objectInit ∈ GW ∧ Jvm.Cond.instanceMethod Lib.objectInit ∈ GW ∧ Jvm.Cond.code Lib.objectInit ⟨#[0xb1]⟩ 1 none ∈ GW ∧ 1 ≤ fr ∧ 12 ≤ lo) ∨
          (∃ k1 ws, an = 1 :: k1 :: ws ∧ len = 3 ∧ chkC own ct fr lo ix ws = true ∧ 1 ≤ k1 ∧ k1 < 90 ∧ (match lkC ct ix with | some ci => decide (ci.2.2.2.2.2.2.1 = 2) || decide (ci.2.2.2.2.2.2.1 = 3) | none => false) = true) := by
        rcases an with _ | ⟨n0, an⟩
        · cases hck
        · rcases n0 with _ | _ | n0
          · rcases an with _ | ⟨a1, _ | ⟨b1, _ | ⟨a2, _ | ⟨b2, _ | ⟨a3, _ | ⟨b3, _ | ⟨x9, an⟩⟩⟩⟩⟩⟩⟩
            all_goals first | (exact absurd hck Bool.false_ne_true) | skip
            simp only [Bool.and_eq_true, decide_eq_true_eq] at hck
            obtain ⟨⟨⟨⟨⟨c0, c1⟩, c2⟩, c3⟩, c5⟩, c6⟩ := hck
            exact Or.inl ⟨a1, b1, a2, b2, a3, b3, rfl, c0, isW_in c1, isW_in c2, isW_in c3, c5, c6⟩
          · rcases an with _ | ⟨k1, ws⟩
            · exact absurd hck Bool.false_ne_true
            · simp only [Bool.and_eq_true, decide_eq_true_eq] at hck
              exact Or.inr ⟨k1, ws, rfl, hck.1.1.1.1, hck.1.1.1.2, hck.1.1.2, hck.1.2, hck.2⟩
          · exact absurd hck Bool.false_ne_true
      rcases hck' with ⟨a1, b1, a2, b2, a3, b3, rfl, rfl, w1, w2, w3, c5, c6⟩ | ⟨k1, ws, rfl, rfl, hck, h1, h9, hmode⟩
      · simp only [stp] at h
        split at h
        · rename_i q st'
          split at h
          · rename_i hsum
            have kk := nx h
            intro wt tl ts mo rm H locs ls hP hS hL
            refine W.objInit hx hb hown (hts _ w1) (hts _ w2) (hts _ w3) (g := F0 m pc ls _) rfl (hL.2.1.trans hml.symm) (a := q.2) (rest := st'.map tvV) rfl hd (by omega) ?_ (kk wt tl (tOKs_cons.mp ts).2 mo rm H locs ls hP hS hL)
            rw [tvC_sum, hsum]
            show 2 * 0 + 0 + 12 ≤ R.locals
            omega
          · exact h.elim
        · exact h.elim
      · simp only [stp] at h
        split at h
        · rename_i ci hl
          rw [hl] at hmode
          simp only [Bool.or_eq_true, decide_eq_true_eq] at hmode
          exact s_ctor C' hR hfr hlo hG hsf hfol hck hl (hM ix ci hl) h1 h9 hd hmode h
        · exact h.elim
    | ireturn =>
      simp only [Bool.and_eq_true, Bool.or_eq_true, Bool.not_eq_true', decide_eq_true_eq] at hck
      obtain ⟨hl, hck⟩ := hck
      subst hl
      simp only [stp] at h
      split at h
      · rename_i x
        intro wt tl ts mo rm H locs ls hP hS hL
        split at h
        · rename_i hrz
          refine hRet (some (.inl x)) .ireturn μ H locs ls pc ce sl (Or.inr ?_) hd ⟨hP, wt, mo⟩ (fun w hw => by cases hw; trivial) rm hS h.2
          rcases hck with ⟨-, h9⟩ | ⟨h8, h9⟩
          · rw [hrz] at h9; cases h9
          · exact ⟨h8, h9, h.1⟩
        · rename_i hrz
          refine hRet (some (.inl x)) .ireturn μ H locs ls pc ce sl (Or.inl ?_) hd ⟨hP, wt, mo⟩ (fun w hw => by cases hw; trivial) rm hS h
          rcases hck with h8 | ⟨h8, h9⟩
          · exact h8
          · exact absurd h9 hrz
      · exact h.elim
    | lreturn =>
      simp only [Bool.and_eq_true, decide_eq_true_eq] at hck
      obtain ⟨hl, hck⟩ := hck
      subst hl
      simp only [stp] at h
      split at h
      · rename_i x
        intro wt tl ts mo rm H locs ls hP hS hL
        exact hRet (some (.inr (.inl x))) .lreturn μ H locs ls pc ce sl hck hd ⟨hP, wt, mo⟩ (fun w hw => by cases hw; trivial) rm hS h
      · exact h.elim
    | areturn =>
      simp only [Bool.and_eq_true, decide_eq_true_eq] at hck
      obtain ⟨hl, hck⟩ := hck
      subst hl
      simp only [stp] at h
      split at h
      · rename_i x
        intro wt tl ts mo rm H locs ls hP hS hL
        refine hRet (some (.inr (.inr x))) .areturn μ H locs ls pc ce sl ?_ hd ⟨hP, wt, mo⟩ (fun w hw => by cases hw; exact (tOKs_cons.mp ts).1) rm hS h
        split at hck
        · exact ⟨_, rfl⟩
        · cases hck
      · exact h.elim
    | return_ =>
      simp only [Bool.and_eq_true, decide_eq_true_eq] at hck
      obtain ⟨hl, hck⟩ := hck
      subst hl
      simp only [stp] at h
      split at h
      · intro wt tl ts mo rm H locs ls hP hS hL
        exact hRet none .return_ μ H locs ls pc ce sl hck hd ⟨hP, wt, mo⟩ (fun w hw => by cases hw) rm hS h
      · exact h.elim
    | _ => exact h.elim
end SA
