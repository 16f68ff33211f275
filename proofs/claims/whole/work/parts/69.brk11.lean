/-! the first two laws, the reference -/
theorem isX_in {μ : Mm} {g j : Nat} {L : La} {x : Int32} (hM : ML μ g L) (ht : μ.1 1000 0 33 = nI g) (hj : j < zn L) (hx : ¬ x = -1) (k : Int32) : f_X10_is μ (nI j) k (-1) x = some (if zK L j = k ∧ zX L j = x then 1 else 0) := by
  have h1 := hM.1
  have h2 := hM.2.1
  unfold f_X10_is f_X10_is_b33
  rw [spot_in ht, obs, ra_in (by omega) (by omega), obs, (hM.2.2.2 j hj).1]
  by_cases a : zK L j = k
  · rw [if_pos a, if_pos rfl, if_neg hx, obs, ra_in (by omega) (by omega), obs, (hM.2.2.2 j hj).2.2.1]
    by_cases b : zX L j = x
    · rw [if_pos b, if_pos ⟨a, b⟩]
    · rw [if_neg b, if_neg (fun z => b z.2)]
  · rw [if_neg a, if_neg (fun z => a z.1)]
theorem b119_ok {F : Nat} {μ : Mm} {g j e : Nat} {L : La} {B : Bk} {d : Int32} (hM : ML μ g L) (ht : μ.1 1000 0 33 = nI g) (h : MB μ B) (hl : B.1.length + B.2.length < 200) (he : e < zn L) : ∃ μ', f_X10_spans_b119 F μ d (zM L j) (nI e) = some μ' ∧ MB μ' (if zM L e - zM L j ≤ d then B else (B.1 ++ [zM L j], B.2)) ∧ KB μ μ' := by
  have h1 := hM.1
  have h2 := hM.2.1
  unfold f_X10_spans_b119
  rw [spot_in ht, obs, ra_in (by omega) (by omega), obs, (hM.2.2.2 e he).2.2.2]
  split
  · exact ⟨μ, rfl, h, fun _ _ _ _ _ => rfl⟩
  · obtain ⟨m, e, b, f⟩ := sureM_ok h (by omega) (zM L j)
    rw [e, obs]; exact ⟨m, rfl, b, fun k i j a b => f _ _ _ (by omega) (by omega)⟩
theorem b261_ok {F : Nat} {μ : Mm} {g j e : Nat} {L : La} {B : Bk} {d : Int32} (hM : ML μ g L) (ht : μ.1 1000 0 33 = nI g) (h : MB μ B) (hl : B.1.length + B.2.length < 200) (he : e < zn L) : ∃ μ', f_X10_spans_b261 F μ d (zM L j) (nI e) = some μ' ∧ MB μ' (if zM L e - zM L j ≤ d then B else (B.1, B.2 ++ [zM L j])) ∧ KB μ μ' := by
  have h1 := hM.1
  have h2 := hM.2.1
  unfold f_X10_spans_b261
  rw [spot_in ht, obs, ra_in (by omega) (by omega), obs, (hM.2.2.2 e he).2.2.2]
  split
  · exact ⟨μ, rfl, h, fun _ _ _ _ _ => rfl⟩
  · obtain ⟨m, e, b, f⟩ := maybeM_ok h (by omega) (zM L j)
    rw [e, obs]; exact ⟨m, rfl, b, fun k i j a b => f _ _ _ (by omega) (by omega)⟩
