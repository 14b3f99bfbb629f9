/-! THE LAW itself: its rows. -/
def sp_L_law : SPc := fun As μ K => match As with
  | [.inr (.inr (90, _))] => ∀ μ', K (.inl (some (.inl 1))) μ'
  | _ => False
def ct_L_law : List (Nat × CI) := [(134, ci_X9_init), (135, ci_L_undo), (138, ci_L_refuses), (142, ci_L_cell), (130, ci_X9_digest), (146, ci_X9_time), (149, ci_L_acts), (153, ci_L_world), (103, ci_L_stale), (156, ci_L_flies), (160, ci_L_keeps), (90, ci_L_count), (92, ci_L_packet), (85, ci_L_kept), (128, ci_L_tick)]
def ci_L_law : CI := (yL_law, cL_law, 13, some .boolean, 1, (11, 600086, 7301442, 230), 0, [], sp_L_law)
theorem all_cut {α : Type} {f : α → Bool} {l : List α} (n : Nat) (h1 : (l.take n).all f = true) (h2 : (l.drop n).all f = true) : l.all f = true := by
  rw [← List.take_append_drop n l, List.all_append, h1, h2]
  rfl
set_option maxRecDepth 100000 in
theorem cl_0 : ((co_L_law.drop 0).take 50).all (chkE RL ci_L_law.2.1 ct_L_law ci_L_law.2.2.2.2.2.1.1 ci_L_law.2.2.2.2.2.1.2.2.2 false true ci_L_law.2.2.2.1) = true := by decide +kernel
set_option maxRecDepth 100000 in
theorem cl_50 : ((co_L_law.drop 50).take 50).all (chkE RL ci_L_law.2.1 ct_L_law ci_L_law.2.2.2.2.2.1.1 ci_L_law.2.2.2.2.2.1.2.2.2 false true ci_L_law.2.2.2.1) = true := by decide +kernel
set_option maxRecDepth 100000 in
theorem cl_100 : ((co_L_law.drop 100).take 50).all (chkE RL ci_L_law.2.1 ct_L_law ci_L_law.2.2.2.2.2.1.1 ci_L_law.2.2.2.2.2.1.2.2.2 false true ci_L_law.2.2.2.1) = true := by decide +kernel
set_option maxRecDepth 100000 in
theorem cl_150 : ((co_L_law.drop 150).take 50).all (chkE RL ci_L_law.2.1 ct_L_law ci_L_law.2.2.2.2.2.1.1 ci_L_law.2.2.2.2.2.1.2.2.2 false true ci_L_law.2.2.2.1) = true := by decide +kernel
theorem ca_150 : (co_L_law.drop 150).all (chkE RL ci_L_law.2.1 ct_L_law ci_L_law.2.2.2.2.2.1.1 ci_L_law.2.2.2.2.2.1.2.2.2 false true ci_L_law.2.2.2.1) = true := all_cut 50 cl_150 (by rw [List.drop_drop]; decide +kernel)
theorem ca_100 : (co_L_law.drop 100).all (chkE RL ci_L_law.2.1 ct_L_law ci_L_law.2.2.2.2.2.1.1 ci_L_law.2.2.2.2.2.1.2.2.2 false true ci_L_law.2.2.2.1) = true := all_cut 50 cl_100 (by rw [List.drop_drop]; exact ca_150)
theorem ca_50 : (co_L_law.drop 50).all (chkE RL ci_L_law.2.1 ct_L_law ci_L_law.2.2.2.2.2.1.1 ci_L_law.2.2.2.2.2.1.2.2.2 false true ci_L_law.2.2.2.1) = true := all_cut 50 cl_50 (by rw [List.drop_drop]; exact ca_100)
theorem ca_0 : (co_L_law.drop 0).all (chkE RL ci_L_law.2.1 ct_L_law ci_L_law.2.2.2.2.2.1.1 ci_L_law.2.2.2.2.2.1.2.2.2 false true ci_L_law.2.2.2.1) = true := all_cut 50 cl_0 (by rw [List.drop_drop]; exact ca_50)
theorem ck_L_law : chkM ci_L_law RL co_L_law ct_L_law [] true false = true := by
  have h : co_L_law.all (chkE RL ci_L_law.2.1 ct_L_law ci_L_law.2.2.2.2.2.1.1 ci_L_law.2.2.2.2.2.1.2.2.2 false true ci_L_law.2.2.2.1) = true := ca_0
  unfold chkM
  rw [h]
  decide +kernel
