theorem blocks_c {F : Nat} {μ : Mm} {i u : Nat} {L : La} {d : Int32} (hF : 1000 ≤ F) (hL : CL μ i L) (hB : CB μ ([], [])) : ∃ μ', f_X0_judgeBlocks F μ i (nI u) d = some μ' ∧ CB μ' (bkS L u d (zn L)) := by
  have hn := hL.1
  unfold f_X0_judgeBlocks
  obtain ⟨m', e, i1, i2⟩ := loop_inv (fun N m x => f_X0_judgeBlocks_b3 F N m i (nI u) d x) (fun m => some m) (zn L) (fun j m => CL m i L ∧ CB m (bkS L u d j)) (by
    intro N m j hj ⟨i1, i2⟩
    have w := bkS_le L u d j
    show ∃ s', f_X0_judgeBlocks_b3 F (N + 1) m i (nI u) d (nI j) = f_X0_judgeBlocks_b3 F N s' i (nI u) d (nI (j + 1)) ∧ _
    rw [f_X0_judgeBlocks_b3, i1.2.1, if_neg (ngt (by omega) (by omega) hj), isMarkOf_in i1 hj, obs, s1]
    unfold bkS
    by_cases q : zK L j = 0 ∧ zT L j = nI u
    · rw [if_pos q, if_pos q, if_neg (by decide), endOfWork_ok hF i1 hj, obs]
      have b := fnd_le (pW L u) (zn L - (j + 1)) (j + 1)
      have h8 := lst_8 (P := pW L u) hj (fun k z => by unfold pW; exact decide_eq_true (.inr z)) (by rw [q.1]; decide)
      generalize fnd (pW L u) (zn L - (j + 1)) (j + 1) = e at b h8 ⊢
      have hl : lst (zn L) e < zn L := by unfold lst; split <;> omega
      rw [nextSign_ok hF i1 hl, obs]
      have b2 := fnd_le (pS L u) (zn L - (lst (zn L) e + 1)) (lst (zn L) e + 1)
      have hla : lst (zn L) (fnd (pS L u) (zn L - (lst (zn L) e + 1)) (lst (zn L) e + 1)) < zn L := by
        generalize fnd (pS L u) (zn L - (lst (zn L) e + 1)) (lst (zn L) e + 1) = f at b2 ⊢
        unfold lst at *; split <;> omega
      obtain ⟨m2, e2, c2, f2⟩ := judgeSpan_ok (d := d) i1 i2 (by omega) hj (by omega) (by omega) hla h8
      rw [e2, obs]
      exact ⟨m2, rfl, i1.kept (fun k j a b => f2 _ _ _ (by omega)), c2⟩
    · rw [if_neg q, if_neg q, if_pos rfl]
      exact ⟨m, rfl, i1, i2⟩) (by
    intro N m ⟨i1, _⟩
    show f_X0_judgeBlocks_b3 F (N + 1) m i (nI u) d (nI (zn L)) = _
    rw [f_X0_judgeBlocks_b3, i1.2.1, if_pos (nle (by omega) (by omega) (by omega))]) F 0 μ (by omega) (by omega) ⟨hL, hB⟩
  exact ⟨m', e, i2⟩
theorem locks_c {F : Nat} {μ : Mm} {i : Nat} {L : La} {x d : Int32} (hF : 1000 ≤ F) (hL : CL μ i L) (hB : CB μ ([], [])) : ∃ μ', f_X0_judgeLocks F μ i x d = some μ' ∧ CB μ' (lkS L x d (zn L)) := by
  have hn := hL.1
  unfold f_X0_judgeLocks
  obtain ⟨m', e, i1, i2⟩ := loop_inv (fun N m y => f_X0_judgeLocks_b3 F N m i x d y) (fun m => some m) (zn L) (fun j m => CL m i L ∧ CB m (lkS L x d j)) (by
    intro N m j hj ⟨i1, i2⟩
    have w := lkS_le L x d j
    show ∃ s', f_X0_judgeLocks_b3 F (N + 1) m i x d (nI j) = f_X0_judgeLocks_b3 F N s' i x d (nI (j + 1)) ∧ _
    rw [f_X0_judgeLocks_b3, i1.2.1, if_neg (ngt (by omega) (by omega) hj), isMarkWith_in i1 hj, obs, s1]
    unfold lkS
    by_cases q : zK L j = 4 ∧ zX L j = x
    · rw [if_pos q, if_pos q, if_neg (by decide), endOfHold_ok hF i1 hj, obs]
      have b := fnd_le (pH L x) (zn L - (j + 1)) (j + 1)
      have h8 := lst_8 (P := pH L x) hj (fun k z => by unfold pH; exact decide_eq_true (.inr z)) (by rw [q.1]; decide)
      generalize fnd (pH L x) (zn L - (j + 1)) (j + 1) = e at b h8 ⊢
      have hl : lst (zn L) e < zn L := by unfold lst; split <;> omega
      obtain ⟨m2, e2, c2, f2⟩ := judgeSpan_ok (d := d) i1 i2 (by omega) hj (by omega) (by omega) hl h8
      rw [e2, obs]
      exact ⟨m2, rfl, i1.kept (fun k j a b => f2 _ _ _ (by omega)), c2⟩
    · rw [if_neg q, if_neg q, if_pos rfl]
      exact ⟨m, rfl, i1, i2⟩) (by
    intro N m ⟨i1, _⟩
    show f_X0_judgeLocks_b3 F (N + 1) m i x d (nI (zn L)) = _
    rw [f_X0_judgeLocks_b3, i1.2.1, if_pos (nle (by omega) (by omega) (by omega))]) F 0 μ (by omega) (by omega) ⟨hL, hB⟩
  exact ⟨m', e, i2⟩
