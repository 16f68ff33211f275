/-- a span from mark j to what was found at e, or maybe to la -/
def spB (L : La) (d : Int32) (j e la : Nat) (B : Bk) : Bk :=
  if e < zn L ∧ zK L e = 8 then (if zM L (e - 1) - zM L j ≤ d then (if zM L la - zM L j ≤ d then B else (B.1, B.2 ++ [zM L j])) else (B.1 ++ [zM L j], B.2))
  else (if zM L (lst (zn L) e) - zM L j ≤ d then B else (B.1 ++ [zM L j], B.2))
theorem spB_le (L : La) (d : Int32) (j e la : Nat) (B : Bk) : (spB L d j e la B).1.length + (spB L d j e la B).2.length ≤ B.1.length + B.2.length + 1 := by
  unfold spB
  have h1 : (B.1 ++ [zM L j]).length = B.1.length + 1 := by rw [List.length_append, List.length_singleton]
  have h2 : (B.2 ++ [zM L j]).length = B.2.length + 1 := by rw [List.length_append, List.length_singleton]
  split
  · split
    · split
      · omega
      · show B.1.length + (B.2 ++ [zM L j]).length ≤ _; omega
    · show (B.1 ++ [zM L j]).length + B.2.length ≤ _; omega
  · split
    · omega
    · show (B.1 ++ [zM L j]).length + B.2.length ≤ _; omega
theorem judgeSpan_ok {μ : Mm} {i j e la : Nat} {L : La} {B : Bk} {d : Int32} (hL : CL μ i L) (h : CB μ B) (hl : B.1.length + B.2.length < 200) (hj : j < zn L) (hje : j < e) (he : e ≤ zn L) (hla : la < zn L) (hk : zK L (lst (zn L) e) = 8 → e < zn L) :
    ∃ μ', f_X0_judgeSpan μ i (nI j) (nI (lst (zn L) e)) (nI la) d = some μ' ∧ CB μ' (spB L d j e la B) ∧ ∀ k i j, 2 < k → μ'.1 k i j = μ.1 k i j := by
  have hn := hL.1
  have hll : lst (zn L) e < zn L := by unfold lst; split <;> omega
  unfold f_X0_judgeSpan f_X0_judgeSpan_b22 f_X0_judgeSpan_b37 spB
  rw [timeOf_in hL hj, obs, kindOf_in hL hll, obs]
  have sure : ∃ μ', (f_X0_addSure μ (zM L j)).bind (fun q => some q) = some μ' ∧ CB μ' (B.1 ++ [zM L j], B.2) ∧ ∀ k i j, 2 < k → μ'.1 k i j = μ.1 k i j := by
    obtain ⟨m, e, b, f⟩ := addSure_ok h (by omega) (zM L j)
    rw [e, obs]; exact ⟨m, rfl, b, f⟩
  by_cases q : zK L (lst (zn L) e) = 8
  · have h1 := hk q
    have h2 : lst (zn L) e = e := by unfold lst; rw [if_neg (by omega)]
    rw [h2] at q ⊢
    rw [if_pos q, if_pos (show e < zn L ∧ zK L e = 8 from ⟨h1, q⟩), if_neg (show ¬ (1 : Int32) = 0 by decide), if_neg (show ¬ (1 : Int32) = 0 by decide), nsub1 (by omega), timeOf_in hL (by omega), obs, timeOf_in hL hla, obs]
    by_cases z : zM L (e - 1) - zM L j ≤ d
    · rw [if_pos z, if_pos z]
      by_cases y : zM L la - zM L j ≤ d
      · rw [if_pos y, if_pos y]; exact ⟨μ, rfl, h, fun _ _ _ _ => rfl⟩
      · rw [if_neg y, if_neg y]
        obtain ⟨m, e, b, f⟩ := addMaybe_ok h (by omega) (zM L j)
        rw [e, obs]; exact ⟨m, rfl, b, f⟩
    · rw [if_neg z, if_neg z]; exact sure
  · have h3 : ¬ (e < zn L ∧ zK L e = 8) := fun z => q (by
      have h2 : lst (zn L) e = e := by unfold lst; rw [if_neg (by omega)]
      rw [h2]; exact z.2)
    rw [if_neg q, if_pos rfl, if_neg h3, timeOf_in hL hll, obs]
    by_cases z : zM L (lst (zn L) e) - zM L j ≤ d
    · rw [if_pos z, if_pos z, if_pos rfl]; exact ⟨μ, rfl, h, fun _ _ _ _ => rfl⟩
    · rw [if_neg z, if_neg z]; exact sure
