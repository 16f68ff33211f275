theorem blocks_m {F : Nat} {μ : Mm} {g u : Nat} {L : La} {d : Int32} (hF : 1000 ≤ F) (hM : ML μ g L) (ht : μ.1 1000 0 33 = nI g) (hu : u < 8) (hB : MB μ ([], [])) : ∃ μ', f_X10_judges_b69 F F μ (nI u) d 0 = some μ' ∧ MB μ' (bkS L u d (zn L)) := by
  have hn := hM.2.1
  have hgl := hM.1
  obtain ⟨m', e, i1, i2, i3⟩ := loop_inv (fun N m x => f_X10_judges_b69 F N m (nI u) d x) (fun m => some m) (zn L) (fun j m => ML m g L ∧ m.1 1000 0 33 = nI g ∧ MB m (bkS L u d j)) (by
    intro N m j hj ⟨i1, t1, i2⟩
    have w := bkS_le L u d j
    show ∃ s', f_X10_judges_b69 F (N + 1) m (nI u) d (nI j) = f_X10_judges_b69 F N s' (nI u) d (nI (j + 1)) ∧ _
    rw [f_X10_judges_b69, t1, mk_m i1, obs, if_neg (ngt (by omega) (by omega) hj), is_in i1 t1 hj hu, obs, s1]
    unfold bkS
    by_cases q : zK L j = 0 ∧ zT L j = nI u
    · rw [if_pos q, if_pos q, if_neg (by decide)]
      have es : f_X10_spans F m (nI j) 2 (nI u) (-1) d = f_X10_spans_b66 F m 2 (nI u) d (zM L j) (nI (fnd (pW L u) (zn L - (j + 1)) (j + 1))) := by
        unfold f_X10_spans
        rw [spot_in t1, obs, ra_in (by omega) (by omega), obs, (i1.2.2.2 j hj).2.2.2, s1]
        refine loop_fnd (fun N x => f_X10_spans_b17 F N m 2 (nI u) (-1) d (zM L j) x) (zn L) (pW L u) (fun e => f_X10_spans_b66 F m 2 (nI u) d (zM L j) (nI e)) (fun N k hk => ?_) (fun N => ?_) (zn L - (j + 1)) (j + 1) F (by omega) (by omega)
        · show f_X10_spans_b17 F (N + 1) m 2 (nI u) (-1) d (zM L j) (nI k) = _
          rw [f_X10_spans_b17, t1, mk_m i1, obs, if_neg (ngt (by omega) (by omega) hk), is_in i1 t1 hk hu, obs, spot_in t1, obs, ra_in (by omega) (by omega), obs, (i1.2.2.2 k hk).1, s1]
          unfold pW
          by_cases a : zK L k = 2 ∧ zT L k = nI u
          · rw [if_pos a, if_neg (by decide), if_pos (decide_eq_true (.inl a))]
          · rw [if_neg a, if_pos rfl]
            by_cases c : zK L k = 8
            · rw [if_pos c, if_pos (decide_eq_true (.inr c))]
            · rw [if_neg c, decide_eq_false (fun z => z.elim a c), if_neg (by decide)]
        · show f_X10_spans_b17 F (N + 1) m 2 (nI u) (-1) d (zM L j) (nI (zn L)) = _
          rw [f_X10_spans_b17, t1, mk_m i1, obs, if_pos (nle (by omega) (by omega) (by omega))]
      have b := fnd_le (pW L u) (zn L - (j + 1)) (j + 1)
      rw [es]
      generalize fnd (pW L u) (zn L - (j + 1)) (j + 1) = e at b ⊢
      have hl : lst (zn L) e < zn L := by unfold lst; split <;> omega
      have b2 := fnd_le (pS L u) (zn L - (lst (zn L) e + 1)) (lst (zn L) e + 1)
      have hla : lst (zn L) (fnd (pS L u) (zn L - (lst (zn L) e + 1)) (lst (zn L) e + 1)) < zn L := by
        generalize fnd (pS L u) (zn L - (lst (zn L) e + 1)) (lst (zn L) e + 1) = f at b2 ⊢
        unfold lst at *; split <;> omega
      obtain ⟨m2, e2, c2, k2⟩ := b66_ok (F := F) (a2 := 2) (a3 := nI u) (d := d) (e := e) (j := j) i1 t1 i2 (by omega) hj (by omega) (by omega) hla (fun h1 h2 => by
        rw [if_pos rfl, b192_ok hF i1 t1 hu h1]
        have y : lst (zn L) e = e := by unfold lst; rw [if_neg (by omega)]
        rw [y])
      rw [e2, obs]
      exact ⟨m2, rfl, k2.ml i1, k2.tr t1, c2⟩
    · rw [if_neg q, if_neg q, if_pos rfl]
      exact ⟨m, rfl, i1, t1, i2⟩) (by
    intro N m ⟨i1, t1, _⟩
    show f_X10_judges_b69 F (N + 1) m (nI u) d (nI (zn L)) = _
    rw [f_X10_judges_b69, t1, mk_m i1, obs, if_pos (nle (by omega) (by omega) (by omega))]) F 0 μ (by omega) (by omega) ⟨hM, ht, hB⟩
  exact ⟨m', e, i3⟩
