/-! A METHOD IS SOUND where its second reading comes through from its entry to its ends. -/
def subL : LC → LC → Prop
  | [], [] => True
  | none :: a, _ :: b => subL a b
  | some v :: a, w :: b => w = some v ∧ subL a b
  | _, _ => False
theorem subL_len : ∀ {a b : LC}, subL a b → a.length = b.length
  | [], [], _ => rfl
  | none :: a, _ :: b, h => by simp [subL_len (a := a) (b := b) h]
  | some v :: a, w :: b, h => by simp [subL_len (a := a) (b := b) h.2]
  | [], _ :: _, h => h.elim
  | none :: _, [], h => h.elim
  | some _ :: _, [], h => h.elim
theorem subL_at : ∀ {a b : LC}, subL a b → ∀ (i : Nat) (v : TV), a[i]? = some (some v) → b[i]? = some (some v)
  | [], [], _, i, v, h => by simp at h
  | none :: a, _ :: b, hs, 0, v, h => by simp at h
  | none :: a, _ :: b, hs, i + 1, v, h => by
    rw [List.getElem?_cons_succ] at h ⊢
    exact subL_at (a := a) (b := b) hs i v h
  | some v0 :: a, w :: b, hs, 0, v, h => by
    rw [List.getElem?_cons_zero] at h ⊢
    rw [hs.1]
    exact h
  | some v0 :: a, w :: b, hs, i + 1, v, h => by
    rw [List.getElem?_cons_succ] at h ⊢
    exact subL_at (a := a) (b := b) hs.2 i v h
  | [], _ :: _, h, _, _, _ => h.elim
  | none :: _, [], h, _, _, _ => h.elim
  | some _ :: _, [], h, _, _, _ => h.elim
theorem subL_rf : ∀ {a : LC}, subL a a
  | [] => trivial
  | none :: a => subL_rf (a := a)
  | some _ :: a => ⟨rfl, subL_rf (a := a)⟩
/-- the locals at the entry -/
def entL : List TV → LC
  | [] => []
  | .inr (.inl x) :: r => some (.inr (.inl x)) :: none :: entL r
  | v :: r => some v :: entL r
def padL : Nat → LC → LC
  | 0, l => l
  | n + 1, [] => none :: padL n []
  | n + 1, v :: l => v :: padL n l
theorem padL_at : ∀ {n : Nat} {l : LC} {i : Nat} {v : TV}, (padL n l)[i]? = some (some v) → l[i]? = some (some v)
  | 0, _, _, _, h => h
  | n + 1, [], 0, v, h => by simp [padL] at h
  | n + 1, [], i + 1, v, h => by
    simp only [padL, List.getElem?_cons_succ] at h
    have := padL_at h
    simp at this
  | n + 1, w :: l, 0, v, h => by simpa [padL] using h
  | n + 1, w :: l, i + 1, v, h => by
    simp only [padL, List.getElem?_cons_succ] at h ⊢
    exact padL_at h
theorem padL_len : ∀ {n : Nat} {l : LC}, l.length ≤ n → (padL n l).length = n
  | 0, [], _ => rfl
  | 0, _ :: _, h => by simp at h
  | n + 1, [], _ => by simp [padL, padL_len (n := n) (l := []) (Nat.zero_le _)]
  | n + 1, _ :: l, h => by simp [padL, padL_len (n := n) (l := l) (by simpa using h)]
theorem entL_len : ∀ (As : List TV), (lg_sl (As.map tvV)).length = (entL As).length
  | [] => rfl
  | .inl x :: r => by
    have := entL_len r
    simp only [entL, List.length_cons, ← this]
    simp [lg_sl, tvV, Value.category]
  | .inr (.inl x) :: r => by
    have := entL_len r
    simp only [entL, List.length_cons, ← this]
    simp [lg_sl, tvV, Value.category]
  | .inr (.inr x) :: r => by
    have := entL_len r
    simp only [entL, List.length_cons, ← this]
    simp [lg_sl, tvV, Value.category]
theorem entL_at : ∀ (As : List TV) (k i : Nat) (v : TV), (entL As)[i]? = some (some v) → (k + i, tvV v) ∈ lv_args k (As.map tvV) ∧ v ∈ As
  | [], k, i, v, h => by simp [entL] at h
  | .inl x :: r, k, 0, v, h => by
    simp [entL] at h
    subst h
    exact ⟨by simp [lv_args], List.mem_cons_self⟩
  | .inl x :: r, k, i + 1, v, h => by
    simp only [entL, List.getElem?_cons_succ] at h
    obtain ⟨h1, h2⟩ := entL_at r (k + 1) i v h
    refine ⟨?_, List.mem_cons_of_mem _ h2⟩
    show (k + (i + 1), tvV v) ∈ (k, _) :: lv_args _ _
    rw [show k + (i + 1) = k + 1 + i by omega]
    exact List.mem_cons_of_mem _ h1
  | .inr (.inr x) :: r, k, 0, v, h => by
    simp [entL] at h
    subst h
    exact ⟨by simp [lv_args], List.mem_cons_self⟩
  | .inr (.inr x) :: r, k, i + 1, v, h => by
    simp only [entL, List.getElem?_cons_succ] at h
    obtain ⟨h1, h2⟩ := entL_at r (k + 1) i v h
    refine ⟨?_, List.mem_cons_of_mem _ h2⟩
    show (k + (i + 1), tvV v) ∈ (k, _) :: lv_args _ _
    rw [show k + (i + 1) = k + 1 + i by omega]
    exact List.mem_cons_of_mem _ h1
  | .inr (.inl x) :: r, k, 0, v, h => by
    simp [entL] at h
    subst h
    exact ⟨by simp [lv_args], List.mem_cons_self⟩
  | .inr (.inl x) :: r, k, 1, v, h => by simp [entL] at h
  | .inr (.inl x) :: r, k, i + 2, v, h => by
    simp only [entL, List.getElem?_cons_succ] at h
    obtain ⟨h1, h2⟩ := entL_at r (k + 2) i v h
    refine ⟨?_, List.mem_cons_of_mem _ h2⟩
    show (k + (i + 2), tvV v) ∈ (k, _) :: lv_args _ _
    rw [show k + (i + 2) = k + 2 + i by omega]
    exact List.mem_cons_of_mem _ h1
/-- a handler's table beside the tables' -/
def tabOK (own : String) : List (Nat × Nat × Nat × Nat) → List (Nat × Nat × Nat × Nat) → Bool
  | [], [] => true
  | (a, b, h, e) :: r, (a', b', h', ix) :: r' => decide (a = a') && decide (b = b') && decide (h = h') && decide (¬ ix = 0) && (decide (e = 1) || decide (e = 2) || decide (e = 3)) && decide (Jvm.Cond.classLink own ix (exN e) ∈ lw_tbl) && goodWord (Jvm.Cond.classLink own ix (exN e)) && tabOK own r r'
  | _, _ => false
def chkM (ci : CI) (own : String) (code : List Ent) (ct : List (Nat × CI)) (hn : List (Nat × Nat × Nat × Nat)) (rz ini : Bool) : Bool :=
  plainName own && decide (ci.1.cls = own) && (!ini || decide (ci.1.name = "<init>")) && code.all (chkE own ci.2.1 ct ci.2.2.2.2.2.1.1 ci.2.2.2.2.2.1.2.2.2 ini rz ci.2.2.2.1) && chain code && (match code with | e :: _ => decide (e.1 = 0) | [] => false) &&
  (if ci.2.2.2.2.2.2.1 = 4 then tabOK own hn ci.2.2.2.2.2.2.2.1 && decide (¬ own = RX9) else hn.isEmpty)
theorem chain_fol {code : List Ent} (h : chain code = true) : ∀ {pre : List Ent} {e0 : Ent} {rest : List Ent}, code = pre ++ e0 :: rest → isThr e0 = false → folE e0 rest := by
  induction code with
  | nil => intro pre e0 rest he _; simp at he
  | cons e1 code ih =>
    intro pre e0 rest he ht
    cases pre with
    | nil =>
      rw [List.nil_append] at he
      injection he with h1 h2
      subst h1; subst h2
      intro e2 r hr
      subst hr
      simp only [chain, Bool.and_eq_true, Bool.or_eq_true, decide_eq_true_eq] at h
      exact h.1.resolve_left (by rw [ht]; decide)
    | cons p0 pre =>
      rw [List.cons_append] at he
      injection he with h1 h2
      refine ih ?_ h2 ht
      cases code with
      | nil => rfl
      | cons e2 r =>
        simp only [chain, Bool.and_eq_true] at h
        exact h.2
theorem lkC_mem {ct : List (Nat × CI)} {ix : Nat} {ci : CI} (h : lkC ct ix = some ci) : ∃ q ∈ ct, q.2 = ci := by
  induction ct with
  | nil => cases h
  | cons q ct ih =>
    simp only [lkC] at h
    split at h
    · cases h
      exact ⟨q, List.mem_cons_self, rfl⟩
    · obtain ⟨q', h1, h2⟩ := ih h
      exact ⟨q', List.mem_cons_of_mem _ h1, h2⟩
/-- from a cut on: one instruction, then as far as the next -/
def vcS (ot : OT) (code : List Ent) (ct : List (Nat × CI)) (hn : List (Nat × Nat × Nat × Nat)) (R : Nat × Nat) (rz : Bool) (z0 : Nat) (xo : Option Nat) (cut : List Nat) (K : Nat → LC → List TV → MM → Nat → Nat → Prop) (Rt : OC → MM → Prop) (fuel pc : Nat) (lc : LC) (st : List TV) (μ : MM) (ce sl : Nat) : Prop := match goTo code pc with
  | [] => False
  | e :: rest => stp KT ot code ct hn R rz z0 xo (vc KT ot code ct hn R rz z0 xo cut K Rt fuel) Rt e rest lc st μ ce sl
section ME
variable {p : Program} {l : Launch} {e : Env} {R : Room} {s : State} {m : MethodId} {args : Array Value} {below : List Frame} {meth : Method} {c : Code} {Q : State → Prop}
variable {cc : ByteArray} {g : GPT} {ot : OT} {own : String} {nL : Nat} {ex : Option Nat} {μ0 : MM}
theorem WW.sub {pc : Nat} {lc lc' : LC} {st : List TV} {μ : MM} {ce sl : Nat} (h : WW p l e R s m args below meth c Q g nL ex μ0 pc lc' st μ ce sl) (hs : subL lc' lc) : WW p l e R s m args below meth c Q g nL ex μ0 pc lc st μ ce sl := by
  intro wt tl ts mo rm H locs ls hP hS hL
  exact h wt (fun i v hi => tl i v (subL_at hs i v hi)) ts mo rm H locs ls hP hS ⟨by rw [subL_len hs]; exact hL.1, hL.2.1, hL.2.2.1, fun i v hi => hL.2.2.2 i v (subL_at hs i v hi)⟩
theorem vc_ok {fr lo : Nat} {ini rz : Bool} {ret : Option FieldType} {code : List Ent} {ct : List (Nat × CI)} {hn : List (Nat × Nat × Nat × Nat)} {Rn : Nat × Nat} {Rt : OC → MM → Prop} {cut : List Nat} {K : Nat → LC → List TV → MM → Nat → Nat → Prop}
    (C : CX p s m args c cc nL own g ot) (hini : ini = true → meth.name = "<init>") (hR : Rn = (R.cells, R.slots)) (hfr : fr ≤ R.frames) (hlo : lo ≤ R.locals)
    (hThr : hThrQ p l e R s m args below meth c Q g ex μ0 Rt hn) (hCat : hCatQ p l e R s m args below meth c Q hn)
    (hRet : hRetQ p l e R s m args below meth c Q cc ret rz g ex μ0 Rt) (hNew : hNewQ p l e R s m args below meth c Q cc nL own g ex μ0 Rt)
    (hM : ∀ ix ci, lkC ct ix = some ci → MS g ot l ci) (hck : code.all (chkE own cc ct fr lo ini rz ret) = true) (hch : chain code = true)
    (hKc : ∀ pc lc st μ ce sl, K pc lc st μ ce sl → WW p l e R s m args below meth c Q g nL ex μ0 pc lc st μ ce sl) :
    ∀ (fuel : Nat) (es : List Ent) (lc : LC) (st : List TV) (μ : MM) (ce sl : Nat), (∃ pre, code = pre ++ es) → vc KT ot code ct hn Rn rz μ0.2.2.2.2 ex cut K Rt fuel es lc st μ ce sl → WWr p l e R s m args below meth c Q g nL ex μ0 es lc st μ ce sl
  | 0, _, _, _, _, _, _, _, h => h.elim
  | n + 1, [], _, _, _, _, _, _, h => h.elim
  | n + 1, e0 :: rest, lc, st, μ, ce, sl, hsf, h => by
    obtain ⟨pre, hpre⟩ := hsf
    simp only [vc] at h
    split at h
    · exact hKc _ _ _ _ _ _ h
    · exact stp_ok C hini hR hfr hlo (vc_ok C hini hR hfr hlo hThr hCat hRet hNew hM hck hch hKc n) ⟨pre ++ [e0], by rw [List.append_assoc]; exact hpre⟩ (chain_fol hch hpre) hThr hCat hRet hNew hM (List.all_eq_true.mp hck e0 (by rw [hpre]; exact List.mem_append_right _ List.mem_cons_self)) h
theorem vcS_ok {fr lo fuel pc : Nat} {ini rz : Bool} {ret : Option FieldType} {code : List Ent} {ct : List (Nat × CI)} {hn : List (Nat × Nat × Nat × Nat)} {Rn : Nat × Nat} {Rt : OC → MM → Prop} {cut : List Nat} {K : Nat → LC → List TV → MM → Nat → Nat → Prop} {lc : LC} {st : List TV} {μ : MM} {ce sl : Nat}
    (C : CX p s m args c cc nL own g ot) (hini : ini = true → meth.name = "<init>") (hR : Rn = (R.cells, R.slots)) (hfr : fr ≤ R.frames) (hlo : lo ≤ R.locals)
    (hThr : hThrQ p l e R s m args below meth c Q g ex μ0 Rt hn) (hCat : hCatQ p l e R s m args below meth c Q hn)
    (hRet : hRetQ p l e R s m args below meth c Q cc ret rz g ex μ0 Rt) (hNew : hNewQ p l e R s m args below meth c Q cc nL own g ex μ0 Rt)
    (hM : ∀ ix ci, lkC ct ix = some ci → MS g ot l ci) (hck : code.all (chkE own cc ct fr lo ini rz ret) = true) (hch : chain code = true)
    (hKc : ∀ pc lc st μ ce sl, K pc lc st μ ce sl → WW p l e R s m args below meth c Q g nL ex μ0 pc lc st μ ce sl)
    (h : vcS ot code ct hn Rn rz μ0.2.2.2.2 ex cut K Rt fuel pc lc st μ ce sl) : WW p l e R s m args below meth c Q g nL ex μ0 pc lc st μ ce sl := by
  unfold vcS at h
  split at h
  · exact h.elim
  · rename_i e0 rest hg
    obtain ⟨pre, hpre⟩ := goTo_sfx (code := code) (t := pc)
    rw [hg] at hpre
    have hpc := goTo_hd hg
    have := stp_ok C hini hR hfr hlo (vc_ok C hini hR hfr hlo hThr hCat hRet hNew hM hck hch hKc fuel) ⟨pre ++ [e0], by rw [List.append_assoc]; exact hpre⟩ (chain_fol hch hpre) hThr hCat hRet hNew hM (List.all_eq_true.mp hck e0 (by rw [hpre]; exact List.mem_append_right _ List.mem_cons_self)) h
    rw [hpc] at this
    exact this
/-- loops: 'I n' holds at the cuts, n falls -/
theorem loop_ok {fr lo fuel : Nat} {ini rz : Bool} {ret : Option FieldType} {code : List Ent} {ct : List (Nat × CI)} {hn : List (Nat × Nat × Nat × Nat)} {Rn : Nat × Nat} {Rt : OC → MM → Prop} {cut : List Nat} {I : Nat → Nat → LC → List TV → MM → Nat → Nat → Prop}
    (C : CX p s m args c cc nL own g ot) (hini : ini = true → meth.name = "<init>") (hR : Rn = (R.cells, R.slots)) (hfr : fr ≤ R.frames) (hlo : lo ≤ R.locals)
    (hThr : hThrQ p l e R s m args below meth c Q g ex μ0 Rt hn) (hCat : hCatQ p l e R s m args below meth c Q hn)
    (hRet : hRetQ p l e R s m args below meth c Q cc ret rz g ex μ0 Rt) (hNew : hNewQ p l e R s m args below meth c Q cc nL own g ex μ0 Rt)
    (hM : ∀ ix ci, lkC ct ix = some ci → MS g ot l ci) (hck : code.all (chkE own cc ct fr lo ini rz ret) = true) (hch : chain code = true)
    (hI : ∀ n pc lc st μ ce sl, I n pc lc st μ ce sl → vcS ot code ct hn Rn rz μ0.2.2.2.2 ex cut (fun pc lc st μ ce sl => ∃ n' lc', n' < n ∧ subL lc' lc ∧ I n' pc lc' st μ ce sl) Rt fuel pc lc st μ ce sl) :
    ∀ (n pc : Nat) (lc : LC) (st : List TV) (μ : MM) (ce sl : Nat), I n pc lc st μ ce sl → WW p l e R s m args below meth c Q g nL ex μ0 pc lc st μ ce sl := by
  intro n
  induction n using Nat.strongRecOn with
  | _ n ih =>
    intro pc lc st μ ce sl h
    exact vcS_ok C hini hR hfr hlo hThr hCat hRet hNew hM hck hch (fun pc lc st μ ce sl ⟨n', lc', hn', hs, h'⟩ => (ih n' hn' pc lc' st μ ce sl h').sub hs) (hI n pc lc st μ ce sl h)
end ME
