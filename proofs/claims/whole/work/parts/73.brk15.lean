theorem locks_m {F : Nat} {μ : Mm} {g l : Nat} {L : La} {x d : Int32} (hF : 1000 ≤ F) (hM : ML μ g L) (ht : μ.1 1000 0 33 = nI g) (hl : l < 8) (hx : ¬ x = -1) (hx' : μ.1 1016 0 l = x) (hB : MB μ ([], [])) : ∃ μ', f_X10_judges_b122 F F μ (nI l) d 0 = some μ' ∧ MB μ' (lkS L x d (zn L)) := by
  have hn := hM.2.1
  have hgl := hM.1
  obtain ⟨m', e, i1, i2, i3, i4⟩ := loop_inv (fun N m y => f_X10_judges_b122 F N m (nI l) d y) (fun m => some m) (zn L) (fun j m => ML m g L ∧ m.1 1000 0 33 = nI g ∧ m.1 1016 0 l = x ∧ MB m (lkS L x d j)) (by
    intro N m j hj ⟨i1, t1, x1, i2⟩
    have w := lkS_le L x d j
    show ∃ s', f_X10_judges_b122 F (N + 1) m (nI l) d (nI j) = f_X10_judges_b122 F N s' (nI l) d (nI (j + 1)) ∧ _
    rw [f_X10_judges_b122, t1, mk_m i1, obs, if_neg (ngt (by omega) (by omega) hj), ra_in hl (by omega), obs, x1, isX_in i1 t1 hj hx, obs, s1, obs]
    unfold lkS
    by_cases q : zK L j = 4 ∧ zX L j = x
    · rw [if_pos q, if_pos q, if_neg (by decide)]
      have es : f_X10_spans F m (nI j) 5 (-1) x d = f_X10_spans_b66 F m 5 (-1) d (zM L j) (nI (fnd (pH L x) (zn L - (j + 1)) (j + 1))) := by
        unfold f_X10_spans
        rw [spot_in t1, obs, ra_in (by omega) (by omega), obs, (i1.2.2.2 j hj).2.2.2, s1]
        refine loop_fnd (fun N y => f_X10_spans_b17 F N m 5 (-1) x d (zM L j) y) (zn L) (pH L x) (fun e => f_X10_spans_b66 F m 5 (-1) d (zM L j) (nI e)) (fun N k hk => ?_) (fun N => ?_) (zn L - (j + 1)) (j + 1) F (by omega) (by omega)
        · show f_X10_spans_b17 F (N + 1) m 5 (-1) x d (zM L j) (nI k) = _
          rw [f_X10_spans_b17, t1, mk_m i1, obs, if_neg (ngt (by omega) (by omega) hk), isX_in i1 t1 hk hx, obs, spot_in t1, obs, ra_in (by omega) (by omega), obs, (i1.2.2.2 k hk).1, s1]
          unfold pH
          by_cases a : zK L k = 5 ∧ zX L k = x
          · rw [if_pos a, if_neg (by decide), if_pos (decide_eq_true (.inl a))]
          · rw [if_neg a, if_pos rfl]
            by_cases c : zK L k = 8
            · rw [if_pos c, if_pos (decide_eq_true (.inr c))]
            · rw [if_neg c, decide_eq_false (fun z => z.elim a c), if_neg (by decide)]
        · show f_X10_spans_b17 F (N + 1) m 5 (-1) x d (zM L j) (nI (zn L)) = _
          rw [f_X10_spans_b17, t1, mk_m i1, obs, if_pos (nle (by omega) (by omega) (by omega))]
      have b := fnd_le (pH L x) (zn L - (j + 1)) (j + 1)
      rw [es]
      generalize fnd (pH L x) (zn L - (j + 1)) (j + 1) = e at b ⊢
      have hl' : lst (zn L) e < zn L := by unfold lst; split <;> omega
      obtain ⟨m2, e2, c2, k2⟩ := b66_ok (F := F) (a2 := 5) (a3 := -1) (d := d) (e := e) (j := j) (la := lst (zn L) e) i1 t1 i2 (by omega) hj (by omega) (by omega) hl' (fun h1 h2 => by
        have y : lst (zn L) e = e := by unfold lst; rw [if_neg (by omega)]
        rw [if_neg (by decide), y])
      rw [e2, obs]
      exact ⟨m2, rfl, k2.ml i1, k2.tr t1, by rw [k2 _ _ _ (by omega) (by omega)]; exact x1, c2⟩
    · rw [if_neg q, if_neg q, if_pos rfl]
      exact ⟨m, rfl, i1, t1, x1, i2⟩) (by
    intro N m ⟨i1, t1, _⟩
    show f_X10_judges_b122 F (N + 1) m (nI l) d (nI (zn L)) = _
    rw [f_X10_judges_b122, t1, mk_m i1, obs, if_pos (nle (by omega) (by omega) (by omega))]) F 0 μ (by omega) (by omega) ⟨hM, ht, hx', hB⟩
  exact ⟨m', e, i4⟩
