/-- behind the search: the span to e; la what is asked of a lost -/
theorem b66_ok {F : Nat} {μ : Mm} {g j e la : Nat} {L : La} {B : Bk} {d a2 a3 : Int32} (hM : ML μ g L) (ht : μ.1 1000 0 33 = nI g) (h : MB μ B) (hl : B.1.length + B.2.length < 200) (hj : j < zn L) (hje : j < e) (he : e ≤ zn L) (hla : la < zn L)
    (hb : e < zn L → zK L e = 8 → (if a2 = 2 then f_X10_spans_b192 F F μ a3 d (zM L j) (nI (e + 1)) else f_X10_spans_b261 F μ d (zM L j) (nI e)) = f_X10_spans_b261 F μ d (zM L j) (nI la)) :
    ∃ μ', f_X10_spans_b66 F μ a2 a3 d (zM L j) (nI e) = some μ' ∧ MB μ' (spB L d j e la B) ∧ KB μ μ' := by
  have h1 := hM.1
  have h2 := hM.2.1
  have hll : lst (zn L) e < zn L := by unfold lst; split <;> omega
  have plain : ¬ (e < zn L ∧ zK L e = 8) → ∃ μ', f_X10_spans_b96 F μ d (zM L j) (nI e) = some μ' ∧ MB μ' (spB L d j e la B) ∧ KB μ μ' := fun q => by
    unfold f_X10_spans_b96 spB
    rw [ht, mk_m hM, obs, if_neg q]
    have := b119_ok (F := F) (j := j) (d := d) hM ht h hl hll
    by_cases z : e = zn L
    · rw [if_pos (by rw [z]), nsub1 (by omega)]
      have y : lst (zn L) e = e - 1 := by unfold lst; rw [if_pos z, z]
      rw [y] at this ⊢; exact this
    · rw [if_neg (fun w => z ((eqN (by omega) (by omega)).mp w))]
      have y : lst (zn L) e = e := by unfold lst; rw [if_neg z]
      rw [y] at this ⊢; exact this
  unfold f_X10_spans_b66
  rw [ht, mk_m hM, obs]
  by_cases z : e = zn L
  · rw [if_pos (by rw [z])]; exact plain (by omega)
  · rw [if_neg (fun w => z ((eqN (by omega) (by omega)).mp w)), spot_in ht, obs, ra_in (by omega) (by omega), obs, (hM.2.2.2 e (by omega)).1]
    by_cases q : zK L e = 8
    · have hc : e < zn L ∧ zK L e = 8 := ⟨by omega, q⟩
      unfold spB
      rw [if_pos q, if_pos hc, nsub1 (by omega), spot_in ht, obs, ra_in (by omega) (by omega), obs, (hM.2.2.2 (e - 1) (by omega)).2.2.2]
      by_cases y : zM L (e - 1) - zM L j ≤ d
      · rw [if_pos y, if_pos y, s1, hb hc.1 q]
        exact b261_ok hM ht h hl hla
      · rw [if_neg y, if_neg y]
        obtain ⟨m, e', b, f⟩ := sureM_ok h (by omega) (zM L j)
        rw [e', obs]; exact ⟨m, rfl, b, fun k i j a b => f _ _ _ (by omega) (by omega)⟩
    · rw [if_neg q]; exact plain (fun w => q w.2)
