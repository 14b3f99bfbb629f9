/-! One cell of the heap changes: what the memory tells of the others stays. -/
def Ag (g : GPT) : Nat → Prop := fun q => g.1 ≤ q
def tysG (g : GPT) : List (ClassId × FieldType) := [(g.2.2.1 0, .int), (g.2.2.1 1, .int), (g.2.2.1 2, .int), (g.2.2.1 3, .object RX1), (g.2.2.1 4, .object RX3), (g.2.2.1 5, .object RX8)]
theorem vpf (μ : MM) (a : Nat) : ∀ (fs : List (Nat × Nat)) (k0 k : Nat), vp_V (fvs μ a k0 fs) k = match fs[k]? with
    | some q => fvl μ a (k0 + k) q
    | none => .null
  | [], _, k => by simp [vp_V, fvs]
  | q :: r, k0, 0 => by simp [vp_V, fvs]
  | q :: r, k0, k + 1 => by
    have h := vpf μ a r (k0 + 1) k
    rw [List.getElem?_cons_succ, show k0 + (k + 1) = k0 + 1 + k by omega, ← h]
    simp [vp_V, fvs]
theorem fvs_at {μ : MM} {a : Nat} : ∀ {fs : List (Nat × Nat)} {k0 k : Nat} {q : Nat × Nat}, fs[k]? = some q → (fvs μ a k0 fs)[k]? = some (fvl μ a (k0 + k) q)
  | [], _, _, _, h => by simp at h
  | q0 :: r, k0, 0, q, h => by
    rw [List.getElem?_cons_zero] at h
    cases h
    simp [fvs]
  | q0 :: r, k0, k + 1, q, h => by
    rw [List.getElem?_cons_succ] at h
    have := fvs_at (μ := μ) (a := a) (k0 := k0 + 1) h
    simp only [fvs, List.getElem?_cons_succ]
    rw [this, show k0 + 1 + k = k0 + (k + 1) by omega]
/-- two memories that agree at an address -/
def agA (μ μ' : MM) (b : Nat) : Prop := μ'.1 b = μ.1 b ∧ μ'.2.1 b = μ.2.1 b ∧ μ'.2.2.1 b = μ.2.2.1 b
theorem fvs_ag {μ μ' : MM} {b : Nat} (h : agA μ μ' b) : ∀ (fs : List (Nat × Nat)) (k : Nat), fvs μ' b k fs = fvs μ b k fs
  | [], _ => rfl
  | q :: r, k => by
    simp only [fvs]
    rw [fvs_ag h r (k + 1)]
    congr 1
    unfold fvl
    rw [h.1, h.2.2]
theorem FE_ag {g : GPT} {μ μ' : MM} {b k : Nat} (h : agA μ μ' b) : FE g μ' k b = FE g μ k b := by
  unfold FE
  split
  · rw [fvs_ag h]
  · unfold arv rfs
    rw [h.1, h.2.1, h.2.2]
theorem HP.upd {g : GPT} {μ μ' : MM} {H H1 : Heap} {a : Nat} (h : HP g μ H) (hsz : μ'.2.2.2.2 = μ.2.2.2.2) (z : H1.size = H.size) (oq : ∀ q : Nat, q ≠ a → H1[q]? = H[q]?) (hka : ¬ μ.2.2.2.1 a = 0)
    (ha : va_at g.2.1 vwCl (a, FE g μ' (μ'.2.2.2.1 a) a) H1) (hk : ∀ b, b ≠ a → μ'.2.2.2.1 b = μ.2.2.2.1 b ∧ agA μ μ' b) : HP g μ' H1 := by
  refine ⟨by rw [z, hsz]; exact h.1, by rw [z]; exact h.2.1, fun b hb => ?_⟩
  by_cases e : b = a
  · subst e
    exact ⟨(h.2.2 b hka).1, ha⟩
  · obtain ⟨h1, h2⟩ := hk b e
    rw [h1] at hb ⊢
    obtain ⟨h3, h4⟩ := h.2.2 b hb
    refine ⟨h3, ?_⟩
    rw [FE_ag h2]
    exact h4.kept (oq b e)
theorem up2_ne {α : Type} {f : Nat → Nat → α} {a j : Nat} {v : α} {b : Nat} (h : b ≠ a) : up2 f a j v b = f b := by
  funext k
  simp [up2, h]
theorem up2_eq {α : Type} {f : Nat → Nat → α} {a j : Nat} {v : α} : up2 f a j v a j = v := by simp [up2]
theorem up2_nj {α : Type} {f : Nat → Nat → α} {a j : Nat} {v : α} {b k : Nat} (h : k ≠ j) : up2 f a j v b k = f b k := by simp [up2, h]
theorem clr_ne {α : Type} {f : Nat → Nat → α} {a : Nat} {v : α} {b : Nat} (h : b ≠ a) : clr f a v b = f b := by
  funext k
  simp [clr, h]
theorem cpR_ne {f : Nat → Nat → Int32} {a0 sp a dp n b : Nat} (h : b ≠ a) : cpR f a0 sp a dp n b = f b := by
  funext k
  simp [cpR, h]
theorem up1_ne {α : Type} {f : Nat → α} {a : Nat} {v : α} {b : Nat} (h : b ≠ a) : up1 f a v b = f b := by simp [up1, h]
theorem up1_eq {α : Type} {f : Nat → α} {a : Nat} {v : α} : up1 f a v a = v := by simp [up1]
theorem fldK_spec {k ci f : Nat} {q : Nat × Nat} (h : fldK KT k ci f = some q) : ∃ fs, KT k = .inl (ci, fs) ∧ fs[f]? = some q := by
  unfold fldK at h
  split at h
  · rename_i c fs e
    split at h
    · rename_i hc
      subst hc
      exact ⟨fs, e, h⟩
    · cases h
  · cases h
theorem arrK_spec {k : Nat} {q : Nat × Nat × Nat × Nat × Nat} (h : arrK KT k = some q) : KT k = .inr q := by
  unfold arrK at h
  split at h
  · cases h
  · rename_i e
    cases h
    exact e
theorem KT_inl {k ci : Nat} {fs : List (Nat × Nat)} (h : KT k = .inl (ci, fs)) : ∃ r : vw_C, vwCl[ci]? = some r ∧ fs.length = r.2.2 ∧ ∀ (f : Nat) (q : Nat × Nat), fs[f]? = some q → ∃ ty, parseFieldDescriptor (r.2.1 f).2.2.1 = some ty ∧ okF q ty = true := by
  have h0 := KT_ok k
  rw [h] at h0
  simp only [okK] at h0
  cases hr : vwCl[ci]? with
  | none => rw [hr] at h0; exact absurd h0 Bool.false_ne_true
  | some r =>
    rw [hr] at h0
    simp only [Bool.and_eq_true, decide_eq_true_eq] at h0
    refine ⟨r, rfl, h0.1, fun f q hf => ?_⟩
    obtain ⟨ty, h1, h2⟩ := okFs_at fs 0 f q h0.2 hf
    rw [Nat.zero_add] at h1
    exact ⟨ty, h1, h2⟩
theorem KT_inr {k t n ek o d : Nat} (h : KT k = .inr (t, n, ek, o, d)) : t < 6 ∧ n < 100000 := by
  have h0 := KT_ok k
  rw [h] at h0
  simp only [okK, Bool.and_eq_true, decide_eq_true_eq] at h0
  exact ⟨h0.1.1.1, h0.1.1.2⟩
theorem KT_n12 {k t n ek o d : Nat} (h : KT k = .inr (t, n, ek, o, d)) : t ≠ 1 ∧ t ≠ 2 := by
  have h0 := KT_ok k
  rw [h] at h0
  simp only [okK, Bool.and_eq_true, decide_eq_true_eq] at h0
  exact h0.1.2
theorem KT_ek {k t n ek o d : Nat} (h : KT k = .inr (t, n, ek, o, d)) (h3 : 3 ≤ t) : ∃ fs, KT ek = .inl (ciA t, fs) := by
  have h0 := KT_ok k
  rw [h] at h0
  simp only [okK, Bool.and_eq_true, Bool.or_eq_true, decide_eq_true_eq] at h0
  rcases h0.2 with h1 | h1
  · omega
  · split at h1
    · rename_i ci fs e
      simp only [decide_eq_true_eq] at h1
      subst h1
      refine ⟨fs, ?_⟩
      unfold KT
      rw [List.getD_eq_getElem?_getD, e]
      rfl
    · cases h1
theorem nm_all : ∀ r ∈ vwCl, ∀ a, a < r.2.2 → ∀ b, b < r.2.2 → a ≠ b → (r.2.1 a).2.1 ≠ (r.2.1 b).2.1 := by
  intro r hr
  simp only [vwCl, List.mem_cons, List.not_mem_nil, or_false] at hr
  rcases hr with rfl | rfl | rfl | rfl | rfl | rfl | rfl | rfl | rfl
  · exact nmX0
  · exact nmX1
  · exact nmX2
  · exact nmX3
  · exact nmX4
  · exact nmX5
  · exact nmX7
  · exact nmX8
  · exact nmX9
theorem ty_all : ∀ r ∈ vwCl, ∃ ty : Nat → FieldType, ∀ k, k < r.2.2 → parseFieldDescriptor (r.2.1 k).2.2.1 = some (ty k) := by
  intro r hr
  simp only [vwCl, List.mem_cons, List.not_mem_nil, or_false] at hr
  rcases hr with rfl | rfl | rfl | rfl | rfl | rfl | rfl | rfl | rfl
  · exact ⟨_, tyX0_ok⟩
  · exact ⟨_, tyX1_ok⟩
  · exact ⟨_, tyX2_ok⟩
  · exact ⟨_, tyX3_ok⟩
  · exact ⟨_, tyX4_ok⟩
  · exact ⟨_, tyX5_ok⟩
  · exact ⟨_, tyX7_ok⟩
  · exact ⟨_, tyX8_ok⟩
  · exact ⟨_, tyX9_ok⟩
theorem decl_all : ∀ r ∈ vwCl, ∀ a, a < r.2.2 → (r.2.1 a).1 = r.1 := by
  have h : ∀ r ∈ vwCl, ∀ a, a < r.2.2 → decide ((r.2.1 a).1 = r.1) = true := by decide +kernel
  exact fun r hr a ha => of_decide_eq_true (h r hr a ha)
