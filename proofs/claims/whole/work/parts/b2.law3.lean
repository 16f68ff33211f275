/-! THE LAW: the world at its loop -/
theorem P_l {D : va_G} {cl : List vw_C} {w1 w2 : va_W} {H : Heap} (h : va_P D cl (w1 ++ w2) H) : va_P D cl w1 H := fun k x hx => h k x (by rw [List.getElem?_append_left (List.getElem?_eq_some_iff.mp hx).1]; exact hx)
theorem P_r {D : va_G} {cl : List vw_C} {w1 w2 : va_W} {H : Heap} (h : va_P D cl (w1 ++ w2) H) : va_P D cl w2 H := fun k x hx => h (w1.length + k) x (by rw [List.getElem?_append_right (by omega), Nat.add_sub_cancel_left]; exact hx)
theorem kb9_c {E E' : En} {b : Nat} (h : ∀ n, cy E n = cy E' n) : kb9 E b = kb9 E' b := by unfold kb9; rw [h 0, h 2, h 3, h 4]
theorem kb10_c {E E' : En} {b : Nat} (h : ∀ n, cy E n = cy E' n) : kb10 E b = kb10 E' b := by unfold kb10; rw [h 0, h 1, h 2]
theorem law_world {D : va_G} {cyf : Nat → ClassId} {ad0 : Nat → Nat → Nat} {L : List (Nat × Nat)} {b0 : Nat} (tb : Nat → Nat) {x : va_E} {H : Heap} (h : va_P D vwCl (blk b0 ((kb9 (D.1, D.2, cyf, ad0, L) b0 ++ kb10 (D.1, D.2, cyf, ad0, L) (b0 + 75)) ++ [x])) H) : va_P D vwCl (wl (En0 D cyf b0 (b0 + 75) tb []) mu0) H ∧ va_at D vwCl (b0 + 113, x) H := by
  rw [blk_app, blk_app, List.length_append, kbl_9, kbl_10] at h
  refine ⟨st_P ?_ ?_, P_r h 0 _ rfl⟩
  · rw [kb9_c (E := En0 D cyf b0 (b0 + 75) tb []) (E' := (D.1, D.2, cyf, ad0, L)) (fun _ => rfl)]; exact P_l (P_l h)
  · rw [kb10_c (E := En0 D cyf b0 (b0 + 75) tb []) (E' := (D.1, D.2, cyf, ad0, L)) (fun _ => rfl)]; exact P_r (P_l h)
