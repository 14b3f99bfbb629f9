/-! ANY INSTRUCTION. -/
section SN
variable {p : Program} {l : Launch} {e : Env} {R : Room} {s : State} {m : MethodId} {args : Array Value} {below : List Frame} {meth : Method} {c : Code} {Q : State → Prop}
variable {cc : ByteArray} {g : GPT} {ot : OT} {own : String} {nL : Nat} {ex : Option Nat} {μ0 : MM}
theorem s_keep {μ μ' : MM} {pc : Nat} {lc : LC} {st : List TV} {ce sl : Nat} (kk : WW p l e R s m args below meth c Q g nL ex μ0 pc lc st μ' ce sl) (h2 : μ'.2.2.2 = μ.2.2.2) (wt' : WT μ') (tl : tOKl g μ lc) (t2 : tOKs g μ st) (mo : MO ex μ0 μ) (rm : ce ≤ R.cells ∧ sl ≤ R.slots) {H : Heap} {locs : List Loc} {ls : Array Slot} (hP : HP g μ' H) (hS : va_S (Ag g) s.heap H locs) (hL : LH ls nL lc) :
    W p l e R s m args below meth c H locs ce sl Q (F0 m pc ls (st.map tvV)) :=
  kk wt' (fun i v hi => (tl i v hi).keep fun b _ _ _ _ _ _ => by rw [h2]) (fun v hv => (t2 v hv).keep fun b _ _ _ _ _ _ => by rw [h2]) (mo.tr (by rw [h2]; exact Nat.le_refl _) fun b _ _ => by rw [h2]) rm H locs ls hP hS hL
theorem wt_i {μ : MM} {f : Nat → Nat → Int32} (h : WT μ) : WT (f, μ.2) := fun b => wtK_mono (μ' := (f, μ.2)) (h b) rfl (fun _ _ _ => rfl)
theorem wt_l {μ : MM} {f : Nat → Nat → Int64} (h : WT μ) : WT (μ.1, μ.2.1, f, μ.2.2.2) := fun b => wtK_mono (μ' := (μ.1, μ.2.1, f, μ.2.2.2)) (h b) rfl (fun _ _ _ => rfl)
/-- behind a new cell -/
theorem s_new {pc k : Nat} {lc : LC} {st : List TV} {μ : MM} {ce sl : Nat} {f' : Nat → Nat → Int32} {l' : Nat → Nat → Int64} {r' : Nat → Nat → Nat} (hk1 : 1 ≤ k) (hk90 : k < 90)
    (kk : WW p l e R s m args below meth c Q g nL ex μ0 pc lc (.inr (.inr (k, μ.2.2.2.2)) :: st) (f', r', l', up1 μ.2.2.2.1 μ.2.2.2.2 k, μ.2.2.2.2 + 1) ce sl)
    (wt' : WT (f', r', l', up1 μ.2.2.2.1 μ.2.2.2.2 k, μ.2.2.2.2 + 1)) (tl : tOKl g μ lc) (t2 : tOKs g μ st) (mo : MO ex μ0 μ) (rm : ce ≤ R.cells ∧ sl ≤ R.slots) {H0 H : Heap} {locs : List Loc} {ls : Array Slot} (hP0 : HP g μ H0) (hP : HP g (f', r', l', up1 μ.2.2.2.1 μ.2.2.2.2 k, μ.2.2.2.2 + 1) H) (hS : va_S (Ag g) s.heap H locs) (hL : LH ls nL lc) :
    W p l e R s m args below meth c H locs ce sl Q (F0 m pc ls (.ref μ.2.2.2.2 :: st.map tvV)) := by
  have key : ∀ b, ¬ μ.2.2.2.1 b = 0 → up1 μ.2.2.2.1 μ.2.2.2.2 k b = μ.2.2.2.1 b := fun b hb => up1_ne (by have := hP0.lt hb; omega)
  exact kk wt' (fun i v hi => (tl i v hi).keep fun b hb _ _ _ _ _ => key b hb) (tOKs_cons.mpr ⟨⟨fun _ => ⟨up1_eq, by omega⟩, fun h _ => absurd h (by omega)⟩, fun v hv => (t2 v hv).keep fun b hb _ _ _ _ _ => key b hb⟩)
    (mo.tr (Nat.le_succ _) fun b hb _ => up1_ne (by have := mo.1; omega)) rm H locs ls hP hS hL
theorem k0_at {μ : MM} {H : Heap} (hP : HP g μ H) : μ.2.2.2.1 μ.2.2.2.2 = 0 := by
  rcases Nat.eq_zero_or_pos (μ.2.2.2.1 μ.2.2.2.2) with h | h
  · exact h
  · have := hP.lt (b := μ.2.2.2.2) (by omega)
    omega
theorem off_eq {pc t : Nat} {off : Int} (h : (pc : Int) + off = (t : Int)) : (pc : Int) + off = (t : Int) := h
set_option maxHeartbeats 4000000 in
theorem s_if {pc t : Nat} {cnd : ClassFile.Cond} {off : Int} {lc : LC} {st : List TV} {μ : MM} {ce sl : Nat} {x : Int32} (hx : p.tables.exec = Jvm.exec) (hb : c.code = cc) (hd : decode cc pc = .ok (.ifCond cnd off, 3)) (ht : (pc : Int) + off = (t : Int))
    (k1 : ifP cnd x → WW p l e R s m args below meth c Q g nL ex μ0 t lc st μ ce sl) (k2 : ¬ ifP cnd x → WW p l e R s m args below meth c Q g nL ex μ0 (pc + 3) lc st μ ce sl) : WW p l e R s m args below meth c Q g nL ex μ0 pc lc (.inl x :: st) μ ce sl := by
  intro wt tl ts mo rm H locs ls hP hS hL
  have t2 := (tOKs_cons.mp ts).2
  cases cnd with
  | eq => exact lv_if_eq hx hb hd ht (fun h => k1 h wt tl t2 mo rm H locs ls hP hS hL) (fun h => k2 h wt tl t2 mo rm H locs ls hP hS hL)
  | ne => exact lv_if_ne hx hb hd ht (fun h => k1 h wt tl t2 mo rm H locs ls hP hS hL) (fun h => k2 (fun q => q h) wt tl t2 mo rm H locs ls hP hS hL)
  | lt => exact lv_if_lt hx hb hd ht (fun h => k1 h wt tl t2 mo rm H locs ls hP hS hL) (fun h => k2 h wt tl t2 mo rm H locs ls hP hS hL)
  | ge => exact lv_if_ge hx hb hd ht (fun h => k1 h wt tl t2 mo rm H locs ls hP hS hL) (fun h => k2 h wt tl t2 mo rm H locs ls hP hS hL)
  | gt => exact lv_if_gt hx hb hd ht (fun h => k1 h wt tl t2 mo rm H locs ls hP hS hL) (fun h => k2 h wt tl t2 mo rm H locs ls hP hS hL)
  | le => exact lv_if_le hx hb hd ht (fun h => k1 h wt tl t2 mo rm H locs ls hP hS hL) (fun h => k2 h wt tl t2 mo rm H locs ls hP hS hL)
theorem s_icmp {pc t : Nat} {cnd : ClassFile.Cond} {off : Int} {lc : LC} {st : List TV} {μ : MM} {ce sl : Nat} {x y : Int32} (hx : p.tables.exec = Jvm.exec) (hb : c.code = cc) (hd : decode cc pc = .ok (.if_icmp cnd off, 3)) (ht : (pc : Int) + off = (t : Int))
    (k1 : icP cnd x y → WW p l e R s m args below meth c Q g nL ex μ0 t lc st μ ce sl) (k2 : ¬ icP cnd x y → WW p l e R s m args below meth c Q g nL ex μ0 (pc + 3) lc st μ ce sl) : WW p l e R s m args below meth c Q g nL ex μ0 pc lc (.inl y :: .inl x :: st) μ ce sl := by
  intro wt tl ts mo rm H locs ls hP hS hL
  have t2 := (tOKs_cons.mp (tOKs_cons.mp ts).2).2
  cases cnd with
  | eq => exact lv_icmp_eq hx hb hd ht (fun h => k1 h wt tl t2 mo rm H locs ls hP hS hL) (fun h => k2 h wt tl t2 mo rm H locs ls hP hS hL)
  | ne => exact lv_icmp_ne hx hb hd ht (fun h => k1 h wt tl t2 mo rm H locs ls hP hS hL) (fun h => k2 (fun q => q h) wt tl t2 mo rm H locs ls hP hS hL)
  | lt => exact lv_icmp_lt hx hb hd ht (fun h => k1 h wt tl t2 mo rm H locs ls hP hS hL) (fun h => k2 h wt tl t2 mo rm H locs ls hP hS hL)
  | ge => exact lv_icmp_ge hx hb hd ht (fun h => k1 h wt tl t2 mo rm H locs ls hP hS hL) (fun h => k2 h wt tl t2 mo rm H locs ls hP hS hL)
  | gt => exact lv_icmp_gt hx hb hd ht (fun h => k1 h wt tl t2 mo rm H locs ls hP hS hL) (fun h => k2 h wt tl t2 mo rm H locs ls hP hS hL)
  | le => exact lv_icmp_le hx hb hd ht (fun h => k1 h wt tl t2 mo rm H locs ls hP hS hL) (fun h => k2 h wt tl t2 mo rm H locs ls hP hS hL)
theorem sw_at {code : List Ent} {G : GC} {lc : LC} {st : List TV} {μ : MM} {ce sl : Nat} {x : Int32} : ∀ (ts : List Nat) (i : Int), swR code G lc st μ ce sl x i ts → ∀ (k : Nat) (t : Nat), ts[k]? = some t → x.toInt = i + k → G (goTo code t) lc st μ ce sl
  | [], _, _, k, t, h, _ => by simp at h
  | t0 :: ts, i, h, 0, t, ht, hx => by
    rw [List.getElem?_cons_zero] at ht
    cases ht
    exact h.1 (by simpa using hx)
  | t0 :: ts, i, h, k + 1, t, ht, hx => by
    rw [List.getElem?_cons_succ] at ht
    exact sw_at ts (i + 1) h.2 k t ht (by rw [hx]; push_cast; omega)
theorem lu_at {code : List Ent} {G : GC} {lc : LC} {st : List TV} {μ : MM} {ce sl : Nat} {x : Int32} {d : Nat} {pc : Nat} {dflt : Int} (hdf : (pc : Int) + dflt = (d : Int)) : ∀ (ps : List (Int × Int)) (ts : List Nat), luR code G lc st μ ce sl x d ps ts → ps.map (fun o => (pc : Int) + o.2) = ts.map (fun (t : Nat) => (t : Int)) →
    ∃ t : Nat, (pc : Int) + Op.lookupswitch.offset ps dflt x.toInt = (t : Int) ∧ G (goTo code t) lc st μ ce sl
  | [], [], h, _ => ⟨d, hdf, h⟩
  | [], _ :: _, h, _ => h.elim
  | _ :: _, [], h, _ => h.elim
  | q :: ps, t :: ts, h, hm => by
    simp only [List.map_cons, List.cons.injEq] at hm
    by_cases hq : x.toInt = q.1
    · refine ⟨t, ?_, h.1 hq⟩
      rw [← hm.1]
      congr 1
      obtain ⟨a, b⟩ := q
      dsimp only at hq
      simp [Op.lookupswitch.offset, hq]
    · obtain ⟨t', h1, h2⟩ := lu_at hdf ps ts (h.2 hq) hm.2
      refine ⟨t', ?_, h2⟩
      rw [← h1]
      congr 1
      obtain ⟨a, b⟩ := q
      dsimp only at hq
      have : ¬ a = x.toInt := fun z => hq z.symm
      simp [Op.lookupswitch.offset, this]
end SN
