def seL (r i a : Nat) (x : Int32) : LC := [some (.inr (.inr (20, r))), some (.inl (nI i)), some (.inl (nI a)), some (.inl x), none]
/-- the cells while a packet is written -/
def SC (f g : Nat → Int32) (i a : Nat) (Q : Int32 × List EN × CS) : Prop := RC g i Q.2.2 ∧ (∀ z, z < 51 + 2406 * i ∨ 51 + 2406 * i + 2406 ≤ z → g z = f z) ∧ g (a + 1) = Q.1 ∧ g (a + 5) = nI Q.2.1.length ∧ ∀ (j : Nat) (en : EN), Q.2.1[j]? = some en → ∀ k, k < 5 → g (a + 6 + 5 * j + k) = en k
theorem bef_same {B C : Nat → Nat → Int32} {x y : Nat} (hx : C x 0 = B x 0) (hy : C y 0 = B y 0) (h : bef B x y) : bef C x y := by
  unfold bef
  rw [hx, hy]
  exact h
theorem nxt_after {T : Nat → Int32} {B C : Nat → Nat → Int32} {P l : List Nat} (ho : ordN B 16 = P ++ l) (hC : ∀ e, ¬ e ∈ P → C e 0 = B e 0) (hT : ∀ e, e < 16 → (T e = 0 ↔ ¬ e ∈ P)) : nxtN T C 16 = l.head? := by
  have pw := ordN_pw B 16
  have nd := ordN_nd B 16
  rw [ho] at pw nd
  obtain ⟨p1, p2, p3⟩ := List.pairwise_append.mp pw
  obtain ⟨n1, n2, n3⟩ := List.nodup_append.mp nd
  have out : ∀ e, e ∈ l → ¬ e ∈ P := fun e he hp => n3 e hp e he rfl
  refine nxtN_of (p2.imp_of_mem fun hx hy h => bef_same (hC _ (out _ hx)) (hC _ (out _ hy)) h) fun e => ?_
  constructor
  · intro he
    have h1 : e ∈ ordN B 16 := by rw [ho]; exact List.mem_append_right _ he
    obtain ⟨h2, h3⟩ := (ordN_mem B e 16).mp h1
    refine ⟨h2, (hT e h2).mpr (out e he), ?_⟩
    rw [hC e (out e he)]
    exact h3
  · rintro ⟨h2, h3, h4⟩
    have h5 := (hT e h2).mp h3
    rw [hC e h5] at h4
    have h1 := (ordN_mem B e 16).mpr ⟨h2, h4⟩
    rw [ho] at h1
    exact (List.mem_append.mp h1).resolve_left h5
