/-! THE LAW, its loop. -/
theorem lr3 {ce a b c k : Nat} (h : ce ≤ 2000 + 5 * k) (h2 : a + b + c ≤ 5) : ce + a + b + c ≤ 2000 + 5 * (k + 1) := by omega
theorem ls3 {ce a b c k : Nat} (h : ce ≤ 63000 + 30 * k) (h2 : a + b + c ≤ 30) : ce + a + b + c ≤ 63000 + 30 * (k + 1) := by omega
theorem lq2 {ce a b k : Nat} (h : ce ≤ 2000 + 5 * k) (hk : k ≤ 511) (h2 : a + b ≤ 5) : ce + a + b ≤ 601024 := by omega
theorem lt2 {ce a b k : Nat} (h : ce ≤ 63000 + 30 * k) (hk : k ≤ 511) (h2 : a + b ≤ 30) : ce + a + b ≤ 7293034 := by omega
theorem lq3 {ce a b c k : Nat} (h : ce ≤ 2000 + 5 * k) (hk : k ≤ 511) (h2 : a + b + c ≤ 5) : ce + a + b + c ≤ 601024 := by omega
theorem lt3 {ce a b c k : Nat} (h : ce ≤ 63000 + 30 * k) (hk : k ≤ 511) (h2 : a + b + c ≤ 30) : ce + a + b + c ≤ 7293034 := by omega
def ct_L_law : List (Nat × CI) := [(78, ci_X9_init), (81, ci_X10_init), (82, ci_L_place), (87, ci_X10_place), (88, ci_X10_thrown), (91, ci_L_setVelocity), (94, ci_X10_setVelocity), (95, ci_L_setHealth), (98, ci_X10_setHealth), (99, ci_L_destroy), (102, ci_X10_destroy), (103, ci_L_entity), (105, ci_X10_entity), (106, ci_L_connect), (108, ci_X10_connect), (109, ci_L_look), (112, ci_X10_look), (113, ci_L_disconnect), (115, ci_X10_disconnect), (116, ci_L_setTimes), (118, ci_X10_setTimes), (119, ci_L_lose), (121, ci_X10_lose), (122, ci_L_tick), (124, ci_X10_tick), (125, ci_X9_time), (128, ci_X10_time), (129, ci_L_copy), (131, ci_X10_copy), (132, ci_L_kept), (134, ci_X10_kept), (135, ci_L_count), (137, ci_X10_count), (138, ci_L_stale), (140, ci_X10_stale), (141, ci_L_packet), (143, ci_X10_packet), (144, ci_L_entry), (146, ci_X10_entry), (147, ci_L_price), (149, ci_X10_price), (150, ci_L_undo), (153, ci_X10_undo), (154, ci_X9_digest), (158, ci_X10_digest)]
def ci_L_law : CI := (yL_law, cL_law, 7, some .boolean, 1, (9, 601024, 7293034, 204), 0, [], sp_L_law)
theorem all_cut {α : Type} {f : α → Bool} {l : List α} (n : Nat) (h1 : (l.take n).all f = true) (h2 : (l.drop n).all f = true) : l.all f = true := by
  rw [← List.take_append_drop n l, List.all_append, h1, h2]
  rfl
set_option maxRecDepth 100000 in
theorem cl_0 : ((co_L_law.drop 0).take 50).all (chkE RL ci_L_law.2.1 ct_L_law ci_L_law.2.2.2.2.2.1.1 ci_L_law.2.2.2.2.2.1.2.2.2 false true ci_L_law.2.2.2.1) = true := by decide +kernel
set_option maxRecDepth 100000 in
theorem cl_50 : ((co_L_law.drop 50).take 50).all (chkE RL ci_L_law.2.1 ct_L_law ci_L_law.2.2.2.2.2.1.1 ci_L_law.2.2.2.2.2.1.2.2.2 false true ci_L_law.2.2.2.1) = true := by decide +kernel
set_option maxRecDepth 100000 in
theorem cl_100 : ((co_L_law.drop 100).take 50).all (chkE RL ci_L_law.2.1 ct_L_law ci_L_law.2.2.2.2.2.1.1 ci_L_law.2.2.2.2.2.1.2.2.2 false true ci_L_law.2.2.2.1) = true := by decide +kernel
set_option maxRecDepth 100000 in
theorem cl_150 : ((co_L_law.drop 150).take 50).all (chkE RL ci_L_law.2.1 ct_L_law ci_L_law.2.2.2.2.2.1.1 ci_L_law.2.2.2.2.2.1.2.2.2 false true ci_L_law.2.2.2.1) = true := by decide +kernel
set_option maxRecDepth 100000 in
theorem cl_200 : ((co_L_law.drop 200).take 50).all (chkE RL ci_L_law.2.1 ct_L_law ci_L_law.2.2.2.2.2.1.1 ci_L_law.2.2.2.2.2.1.2.2.2 false true ci_L_law.2.2.2.1) = true := by decide +kernel
set_option maxRecDepth 100000 in
theorem cl_250 : ((co_L_law.drop 250).take 50).all (chkE RL ci_L_law.2.1 ct_L_law ci_L_law.2.2.2.2.2.1.1 ci_L_law.2.2.2.2.2.1.2.2.2 false true ci_L_law.2.2.2.1) = true := by decide +kernel
set_option maxRecDepth 100000 in
theorem cl_300 : ((co_L_law.drop 300).take 50).all (chkE RL ci_L_law.2.1 ct_L_law ci_L_law.2.2.2.2.2.1.1 ci_L_law.2.2.2.2.2.1.2.2.2 false true ci_L_law.2.2.2.1) = true := by decide +kernel
set_option maxRecDepth 100000 in
theorem cl_350 : ((co_L_law.drop 350).take 50).all (chkE RL ci_L_law.2.1 ct_L_law ci_L_law.2.2.2.2.2.1.1 ci_L_law.2.2.2.2.2.1.2.2.2 false true ci_L_law.2.2.2.1) = true := by decide +kernel
set_option maxRecDepth 100000 in
theorem cl_400 : ((co_L_law.drop 400).take 50).all (chkE RL ci_L_law.2.1 ct_L_law ci_L_law.2.2.2.2.2.1.1 ci_L_law.2.2.2.2.2.1.2.2.2 false true ci_L_law.2.2.2.1) = true := by decide +kernel
set_option maxRecDepth 100000 in
theorem cl_450 : ((co_L_law.drop 450).take 50).all (chkE RL ci_L_law.2.1 ct_L_law ci_L_law.2.2.2.2.2.1.1 ci_L_law.2.2.2.2.2.1.2.2.2 false true ci_L_law.2.2.2.1) = true := by decide +kernel
set_option maxRecDepth 100000 in
theorem cl_500 : ((co_L_law.drop 500).take 50).all (chkE RL ci_L_law.2.1 ct_L_law ci_L_law.2.2.2.2.2.1.1 ci_L_law.2.2.2.2.2.1.2.2.2 false true ci_L_law.2.2.2.1) = true := by decide +kernel
set_option maxRecDepth 100000 in
theorem cl_550 : ((co_L_law.drop 550).take 50).all (chkE RL ci_L_law.2.1 ct_L_law ci_L_law.2.2.2.2.2.1.1 ci_L_law.2.2.2.2.2.1.2.2.2 false true ci_L_law.2.2.2.1) = true := by decide +kernel
set_option maxRecDepth 100000 in
theorem cl_600 : ((co_L_law.drop 600).take 50).all (chkE RL ci_L_law.2.1 ct_L_law ci_L_law.2.2.2.2.2.1.1 ci_L_law.2.2.2.2.2.1.2.2.2 false true ci_L_law.2.2.2.1) = true := by decide +kernel
set_option maxRecDepth 100000 in
theorem cl_650 : ((co_L_law.drop 650).take 50).all (chkE RL ci_L_law.2.1 ct_L_law ci_L_law.2.2.2.2.2.1.1 ci_L_law.2.2.2.2.2.1.2.2.2 false true ci_L_law.2.2.2.1) = true := by decide +kernel
set_option maxRecDepth 100000 in
theorem cl_700 : ((co_L_law.drop 700).take 50).all (chkE RL ci_L_law.2.1 ct_L_law ci_L_law.2.2.2.2.2.1.1 ci_L_law.2.2.2.2.2.1.2.2.2 false true ci_L_law.2.2.2.1) = true := by decide +kernel
set_option maxRecDepth 100000 in
theorem cl_750 : ((co_L_law.drop 750).take 50).all (chkE RL ci_L_law.2.1 ct_L_law ci_L_law.2.2.2.2.2.1.1 ci_L_law.2.2.2.2.2.1.2.2.2 false true ci_L_law.2.2.2.1) = true := by decide +kernel
set_option maxRecDepth 100000 in
theorem cl_800 : ((co_L_law.drop 800).take 50).all (chkE RL ci_L_law.2.1 ct_L_law ci_L_law.2.2.2.2.2.1.1 ci_L_law.2.2.2.2.2.1.2.2.2 false true ci_L_law.2.2.2.1) = true := by decide +kernel
set_option maxRecDepth 100000 in
theorem cl_850 : ((co_L_law.drop 850).take 50).all (chkE RL ci_L_law.2.1 ct_L_law ci_L_law.2.2.2.2.2.1.1 ci_L_law.2.2.2.2.2.1.2.2.2 false true ci_L_law.2.2.2.1) = true := by decide +kernel
set_option maxRecDepth 100000 in
theorem cl_900 : ((co_L_law.drop 900).take 50).all (chkE RL ci_L_law.2.1 ct_L_law ci_L_law.2.2.2.2.2.1.1 ci_L_law.2.2.2.2.2.1.2.2.2 false true ci_L_law.2.2.2.1) = true := by decide +kernel
set_option maxRecDepth 100000 in
theorem cl_950 : ((co_L_law.drop 950).take 50).all (chkE RL ci_L_law.2.1 ct_L_law ci_L_law.2.2.2.2.2.1.1 ci_L_law.2.2.2.2.2.1.2.2.2 false true ci_L_law.2.2.2.1) = true := by decide +kernel
theorem ca_950 : (co_L_law.drop 950).all (chkE RL ci_L_law.2.1 ct_L_law ci_L_law.2.2.2.2.2.1.1 ci_L_law.2.2.2.2.2.1.2.2.2 false true ci_L_law.2.2.2.1) = true := all_cut 50 cl_950 (by rw [List.drop_drop]; decide +kernel)
theorem ca_900 : (co_L_law.drop 900).all (chkE RL ci_L_law.2.1 ct_L_law ci_L_law.2.2.2.2.2.1.1 ci_L_law.2.2.2.2.2.1.2.2.2 false true ci_L_law.2.2.2.1) = true := all_cut 50 cl_900 (by rw [List.drop_drop]; exact ca_950)
theorem ca_850 : (co_L_law.drop 850).all (chkE RL ci_L_law.2.1 ct_L_law ci_L_law.2.2.2.2.2.1.1 ci_L_law.2.2.2.2.2.1.2.2.2 false true ci_L_law.2.2.2.1) = true := all_cut 50 cl_850 (by rw [List.drop_drop]; exact ca_900)
theorem ca_800 : (co_L_law.drop 800).all (chkE RL ci_L_law.2.1 ct_L_law ci_L_law.2.2.2.2.2.1.1 ci_L_law.2.2.2.2.2.1.2.2.2 false true ci_L_law.2.2.2.1) = true := all_cut 50 cl_800 (by rw [List.drop_drop]; exact ca_850)
theorem ca_750 : (co_L_law.drop 750).all (chkE RL ci_L_law.2.1 ct_L_law ci_L_law.2.2.2.2.2.1.1 ci_L_law.2.2.2.2.2.1.2.2.2 false true ci_L_law.2.2.2.1) = true := all_cut 50 cl_750 (by rw [List.drop_drop]; exact ca_800)
theorem ca_700 : (co_L_law.drop 700).all (chkE RL ci_L_law.2.1 ct_L_law ci_L_law.2.2.2.2.2.1.1 ci_L_law.2.2.2.2.2.1.2.2.2 false true ci_L_law.2.2.2.1) = true := all_cut 50 cl_700 (by rw [List.drop_drop]; exact ca_750)
theorem ca_650 : (co_L_law.drop 650).all (chkE RL ci_L_law.2.1 ct_L_law ci_L_law.2.2.2.2.2.1.1 ci_L_law.2.2.2.2.2.1.2.2.2 false true ci_L_law.2.2.2.1) = true := all_cut 50 cl_650 (by rw [List.drop_drop]; exact ca_700)
theorem ca_600 : (co_L_law.drop 600).all (chkE RL ci_L_law.2.1 ct_L_law ci_L_law.2.2.2.2.2.1.1 ci_L_law.2.2.2.2.2.1.2.2.2 false true ci_L_law.2.2.2.1) = true := all_cut 50 cl_600 (by rw [List.drop_drop]; exact ca_650)
theorem ca_550 : (co_L_law.drop 550).all (chkE RL ci_L_law.2.1 ct_L_law ci_L_law.2.2.2.2.2.1.1 ci_L_law.2.2.2.2.2.1.2.2.2 false true ci_L_law.2.2.2.1) = true := all_cut 50 cl_550 (by rw [List.drop_drop]; exact ca_600)
theorem ca_500 : (co_L_law.drop 500).all (chkE RL ci_L_law.2.1 ct_L_law ci_L_law.2.2.2.2.2.1.1 ci_L_law.2.2.2.2.2.1.2.2.2 false true ci_L_law.2.2.2.1) = true := all_cut 50 cl_500 (by rw [List.drop_drop]; exact ca_550)
theorem ca_450 : (co_L_law.drop 450).all (chkE RL ci_L_law.2.1 ct_L_law ci_L_law.2.2.2.2.2.1.1 ci_L_law.2.2.2.2.2.1.2.2.2 false true ci_L_law.2.2.2.1) = true := all_cut 50 cl_450 (by rw [List.drop_drop]; exact ca_500)
theorem ca_400 : (co_L_law.drop 400).all (chkE RL ci_L_law.2.1 ct_L_law ci_L_law.2.2.2.2.2.1.1 ci_L_law.2.2.2.2.2.1.2.2.2 false true ci_L_law.2.2.2.1) = true := all_cut 50 cl_400 (by rw [List.drop_drop]; exact ca_450)
theorem ca_350 : (co_L_law.drop 350).all (chkE RL ci_L_law.2.1 ct_L_law ci_L_law.2.2.2.2.2.1.1 ci_L_law.2.2.2.2.2.1.2.2.2 false true ci_L_law.2.2.2.1) = true := all_cut 50 cl_350 (by rw [List.drop_drop]; exact ca_400)
theorem ca_300 : (co_L_law.drop 300).all (chkE RL ci_L_law.2.1 ct_L_law ci_L_law.2.2.2.2.2.1.1 ci_L_law.2.2.2.2.2.1.2.2.2 false true ci_L_law.2.2.2.1) = true := all_cut 50 cl_300 (by rw [List.drop_drop]; exact ca_350)
theorem ca_250 : (co_L_law.drop 250).all (chkE RL ci_L_law.2.1 ct_L_law ci_L_law.2.2.2.2.2.1.1 ci_L_law.2.2.2.2.2.1.2.2.2 false true ci_L_law.2.2.2.1) = true := all_cut 50 cl_250 (by rw [List.drop_drop]; exact ca_300)
theorem ca_200 : (co_L_law.drop 200).all (chkE RL ci_L_law.2.1 ct_L_law ci_L_law.2.2.2.2.2.1.1 ci_L_law.2.2.2.2.2.1.2.2.2 false true ci_L_law.2.2.2.1) = true := all_cut 50 cl_200 (by rw [List.drop_drop]; exact ca_250)
theorem ca_150 : (co_L_law.drop 150).all (chkE RL ci_L_law.2.1 ct_L_law ci_L_law.2.2.2.2.2.1.1 ci_L_law.2.2.2.2.2.1.2.2.2 false true ci_L_law.2.2.2.1) = true := all_cut 50 cl_150 (by rw [List.drop_drop]; exact ca_200)
theorem ca_100 : (co_L_law.drop 100).all (chkE RL ci_L_law.2.1 ct_L_law ci_L_law.2.2.2.2.2.1.1 ci_L_law.2.2.2.2.2.1.2.2.2 false true ci_L_law.2.2.2.1) = true := all_cut 50 cl_100 (by rw [List.drop_drop]; exact ca_150)
theorem ca_50 : (co_L_law.drop 50).all (chkE RL ci_L_law.2.1 ct_L_law ci_L_law.2.2.2.2.2.1.1 ci_L_law.2.2.2.2.2.1.2.2.2 false true ci_L_law.2.2.2.1) = true := all_cut 50 cl_50 (by rw [List.drop_drop]; exact ca_100)
theorem ca_0 : (co_L_law.drop 0).all (chkE RL ci_L_law.2.1 ct_L_law ci_L_law.2.2.2.2.2.1.1 ci_L_law.2.2.2.2.2.1.2.2.2 false true ci_L_law.2.2.2.1) = true := all_cut 50 cl_0 (by rw [List.drop_drop]; exact ca_50)
theorem ck_L_law : chkM ci_L_law RL co_L_law ct_L_law [] true false = true := by
  have h : co_L_law.all (chkE RL ci_L_law.2.1 ct_L_law ci_L_law.2.2.2.2.2.1.1 ci_L_law.2.2.2.2.2.1.2.2.2 false true ci_L_law.2.2.2.1) = true := ca_0
  unfold chkM
  rw [h]
  decide +kernel
set_option maxHeartbeats 4000000 in
set_option maxRecDepth 100000 in
theorem ms_L_law {g : GPT} {ot : OT} {l : Launch} (hl : l.stackTraces = false) (hot : otOK ot) (h90 : ot.1 90 ≤ 3072) : MS g ot l ci_L_law := by
  refine ms0_of hl RL co_L_law ct_L_law [] true false 1000 ck_L_law (List.forall_mem_cons.mpr ⟨ms_X9_init hl, List.forall_mem_cons.mpr ⟨ms_X10_init hl, List.forall_mem_cons.mpr ⟨ms_L_place hl hot, List.forall_mem_cons.mpr ⟨ms_X10_place hl, List.forall_mem_cons.mpr ⟨ms_X10_thrown hl, List.forall_mem_cons.mpr ⟨ms_L_setVelocity hl, List.forall_mem_cons.mpr ⟨ms_X10_setVelocity hl, List.forall_mem_cons.mpr ⟨ms_L_setHealth hl hot, List.forall_mem_cons.mpr ⟨ms_X10_setHealth hl, List.forall_mem_cons.mpr ⟨ms_L_destroy hl, List.forall_mem_cons.mpr ⟨ms_X10_destroy hl, List.forall_mem_cons.mpr ⟨ms_L_entity hl hot, List.forall_mem_cons.mpr ⟨ms_X10_entity hl, List.forall_mem_cons.mpr ⟨ms_L_connect hl, List.forall_mem_cons.mpr ⟨ms_X10_connect hl, List.forall_mem_cons.mpr ⟨ms_L_look hl hot, List.forall_mem_cons.mpr ⟨ms_X10_look hl, List.forall_mem_cons.mpr ⟨ms_L_disconnect hl, List.forall_mem_cons.mpr ⟨ms_X10_disconnect hl, List.forall_mem_cons.mpr ⟨ms_L_setTimes hl, List.forall_mem_cons.mpr ⟨ms_X10_setTimes hl, List.forall_mem_cons.mpr ⟨ms_L_lose hl, List.forall_mem_cons.mpr ⟨ms_X10_lose hl, List.forall_mem_cons.mpr ⟨ms_L_tick hl hot, List.forall_mem_cons.mpr ⟨ms_X10_tick hl, List.forall_mem_cons.mpr ⟨ms_X9_time hl, List.forall_mem_cons.mpr ⟨ms_X10_time hl, List.forall_mem_cons.mpr ⟨ms_L_copy hl hot, List.forall_mem_cons.mpr ⟨ms_X10_copy hl, List.forall_mem_cons.mpr ⟨ms_L_kept hl hot, List.forall_mem_cons.mpr ⟨ms_X10_kept hl, List.forall_mem_cons.mpr ⟨ms_L_count hl, List.forall_mem_cons.mpr ⟨ms_X10_count hl, List.forall_mem_cons.mpr ⟨ms_L_stale hl hot, List.forall_mem_cons.mpr ⟨ms_X10_stale hl, List.forall_mem_cons.mpr ⟨ms_L_packet hl, List.forall_mem_cons.mpr ⟨ms_X10_packet hl, List.forall_mem_cons.mpr ⟨ms_L_entry hl, List.forall_mem_cons.mpr ⟨ms_X10_entry hl, List.forall_mem_cons.mpr ⟨ms_L_price hl hot, List.forall_mem_cons.mpr ⟨ms_X10_price hl, List.forall_mem_cons.mpr ⟨ms_L_undo hl, List.forall_mem_cons.mpr ⟨ms_X10_undo hl, List.forall_mem_cons.mpr ⟨ms_X9_digest hl hot, List.forall_mem_cons.mpr ⟨ms_X10_digest hl, fun _ h => nomatch h⟩⟩⟩⟩⟩⟩⟩⟩⟩⟩⟩⟩⟩⟩⟩⟩⟩⟩⟩⟩⟩⟩⟩⟩⟩⟩⟩⟩⟩⟩⟩⟩⟩⟩⟩⟩⟩⟩⟩⟩⟩⟩⟩⟩⟩) ?_