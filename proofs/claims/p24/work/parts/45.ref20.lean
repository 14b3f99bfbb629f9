/-- what is known of the state of a sending: the packet's bytes and entries, the client's changed priorities, the entities gone through -/
def SQ (E : Nat → Nat → Int32) (X : CS) (P : List Nat) (Q : Int32 × List EN × CS) : Prop := Q = P.foldl (putQ E) (4, [], X) ∧ Q.2.1.length ≤ P.length ∧ (Q.2.1 = [] → Q.2.2 = X) ∧ cP Q.2.2 = cP X ∧ (∀ e, ¬ e ∈ P → cB Q.2.2 e 0 = cB X e 0) ∧ (∀ e k, ¬ k = 0 → cB Q.2.2 e k = cB X e k)
theorem SQ_0 (E : Nat → Nat → Int32) (X : CS) : SQ E X [] (4, [], X) := ⟨rfl, Nat.le_refl _, fun _ => rfl, rfl, fun _ _ => rfl, fun _ _ _ => rfl⟩
theorem SQ_S {E : Nat → Nat → Int32} {X : CS} {P : List Nat} {Q : Int32 × List EN × CS} (h : SQ E X P Q) (e : Nat) : SQ E X (P ++ [e]) (putQ E Q e) := by
  obtain ⟨h1, h2, h3, h4, h5, h6⟩ := h
  refine ⟨by rw [List.foldl_append, ← h1]; rfl, ?_, ?_, ?_, fun x hx => ?_, fun x k hk => ?_⟩
  · rw [List.length_append]
    unfold putQ
    split
    · show (Q.2.1 ++ [_]).length ≤ _
      rw [List.length_append]
      exact Nat.add_le_add_right h2 1
    · exact Nat.le_trans h2 (Nat.le_add_right _ _)
  · unfold putQ
    split
    · intro q
      exact absurd q (by simp)
    · exact h3
  · unfold putQ
    split
    · exact h4
    · exact h4
  · have hx1 : ¬ x ∈ P := fun q => hx (List.mem_append_left _ q)
    have hx2 : ¬ x = e := fun q => hx (List.mem_append_right _ (List.mem_singleton.mpr q))
    unfold putQ
    split
    · show up2 (cB Q.2.2) e 0 0 x 0 = _
      unfold up2
      rw [if_neg fun q => hx2 q.1]
      exact h5 x hx1
    · exact h5 x hx1
  · unfold putQ
    split
    · show up2 (cB Q.2.2) e 0 0 x k = _
      unfold up2
      rw [if_neg fun q => hk q.2]
      exact h6 x k hk
    · exact h6 x k hk
