theorem csN_eq (x y r b : Int32) : setS (setS (setS (setS (setS cs0 0 1) 1 x) 2 y) 3 r) 4 b = csN x y r b := by
  refine Prod.ext ?_ rfl
  funext k
  show upd (upd (upd (upd (upd (fun _ => 0) 0 1) 1 x) 2 y) 3 r) 4 b k = _
  match k with
  | 0 => rfl
  | 1 => rfl
  | 2 => rfl
  | 3 => rfl
  | 4 => rfl
  | k + 5 =>
    rw [upd_ne _ _ (by omega), upd_ne _ _ (by omega), upd_ne _ _ (by omega), upd_ne _ _ (by omega), upd_ne _ _ (by omega)]
    rfl
