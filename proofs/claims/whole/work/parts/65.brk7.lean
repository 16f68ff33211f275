theorem isMarkWith_in {μ : Mm} {i j : Nat} {L : La} (h : CL μ i L) (hj : j < zn L) (k x : Int32) : f_X2_isMarkWith μ i (nI j) k x = some (if zK L j = k ∧ zX L j = x then 1 else 0) := by
  unfold f_X2_isMarkWith
  rw [kindOf_in h hj, obs, numberOf_in h hj, obs]
  by_cases a : zK L j = k
  · by_cases b : zX L j = x
    · rw [if_pos a, if_pos b, if_pos ⟨a, b⟩]
    · rw [if_pos a, if_neg b, if_neg (fun z => b z.2)]
  · rw [if_neg a, if_neg (fun z => a z.1)]
theorem endOfHold_ok {F : Nat} {μ : Mm} {i j : Nat} {L : La} {x : Int32} (hF : 1000 ≤ F) (hL : CL μ i L) (hj : j < zn L) : f_X2_endOfHold F μ i (nI j) x = some (nI (lst (zn L) (fnd (pH L x) (zn L - (j + 1)) (j + 1)))) := by
  have hn := hL.1
  unfold f_X2_endOfHold
  rw [s1]
  refine loop_fnd (fun N y => f_X2_endOfHold_b4 F μ N i x y) (zn L) (pH L x) (fun e => some (nI (lst (zn L) e))) (fun N k hk => ?_) (fun N => ?_) (zn L - (j + 1)) (j + 1) F (by omega) (by omega)
  · show f_X2_endOfHold_b4 F μ (N + 1) i x (nI k) = _
    rw [f_X2_endOfHold_b4, hL.2.1, if_neg (ngt (by omega) (by omega) hk), isMarkWith_in hL hk, obs, kindOf_in hL hk, obs, s1]
    have e : lst (zn L) k = k := by unfold lst; rw [if_neg (by omega)]
    unfold pH
    rw [e]
    by_cases a : zK L k = 5 ∧ zX L k = x
    · rw [if_pos a, if_neg (by decide), if_pos (decide_eq_true (.inl a))]
    · rw [if_neg a, if_pos rfl]
      by_cases c : zK L k = 8
      · rw [if_pos c, if_pos (decide_eq_true (.inr c))]
      · rw [if_neg c, decide_eq_false (fun z => z.elim a c), if_neg (by decide)]
  · show f_X2_endOfHold_b4 F μ (N + 1) i x (nI (zn L)) = _
    rw [f_X2_endOfHold_b4, hL.2.1, if_pos (nle (by omega) (by omega) (by omega)), nsub1 (by omega)]
    unfold lst; rw [if_pos rfl]
theorem nextSign_ok {F : Nat} {μ : Mm} {i j u : Nat} {L : La} (hF : 1000 ≤ F) (hL : CL μ i L) (hj : j < zn L) : f_X2_nextSignOf F μ i (nI j) (nI u) = some (nI (lst (zn L) (fnd (pS L u) (zn L - (j + 1)) (j + 1)))) := by
  have hn := hL.1
  unfold f_X2_nextSignOf
  rw [s1]
  refine loop_fnd (fun N x => f_X2_nextSignOf_b4 F μ N i (nI u) x) (zn L) (pS L u) (fun e => some (nI (lst (zn L) e))) (fun N k hk => ?_) (fun N => ?_) (zn L - (j + 1)) (j + 1) F (by omega) (by omega)
  · show f_X2_nextSignOf_b4 F μ (N + 1) i (nI u) (nI k) = _
    rw [f_X2_nextSignOf_b4, hL.2.1, if_neg (ngt (by omega) (by omega) hk), isMarkOf_in hL hk, obs, isMarkOf_in hL hk, obs, s1]
    have e : lst (zn L) k = k := by unfold lst; rw [if_neg (by omega)]
    unfold pS
    rw [e]
    by_cases a : zK L k = 0 ∧ zT L k = nI u
    · rw [if_pos a, if_neg (by decide), if_pos (decide_eq_true (.inl a))]
    · rw [if_neg a, if_pos rfl]
      by_cases c : zK L k = 1 ∧ zT L k = nI u
      · rw [if_pos c, if_neg (by decide), if_pos (decide_eq_true (.inr c))]
      · rw [if_neg c, if_pos rfl, decide_eq_false (fun z => z.elim a c), if_neg (by decide)]
  · show f_X2_nextSignOf_b4 F μ (N + 1) i (nI u) (nI (zn L)) = _
    rw [f_X2_nextSignOf_b4, hL.2.1, if_pos (nle (by omega) (by omega) (by omega)), nsub1 (by omega)]
    unfold lst; rw [if_pos rfl]
