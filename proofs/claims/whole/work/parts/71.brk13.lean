theorem b192_ok {F : Nat} {μ : Mm} {g j e u : Nat} {L : La} {d : Int32} (hF : 1000 ≤ F) (hM : ML μ g L) (ht : μ.1 1000 0 33 = nI g) (hu : u < 8) (he : e < zn L) : f_X10_spans_b192 F F μ (nI u) d (zM L j) (nI (e + 1)) = f_X10_spans_b261 F μ d (zM L j) (nI (lst (zn L) (fnd (pS L u) (zn L - (e + 1)) (e + 1)))) := by
  have h1 := hM.1
  have h2 := hM.2.1
  have k236 : ∀ f, f ≤ zn L → 1 ≤ f → f_X10_spans_b236 F μ d (zM L j) (nI f) = f_X10_spans_b261 F μ d (zM L j) (nI (lst (zn L) f)) := fun f hf hf1 => by
    unfold f_X10_spans_b236 lst
    rw [ht, mk_m hM, obs]
    by_cases z : f = zn L
    · rw [if_pos (by rw [z]), if_pos z, nsub1 hf1, z]
    · rw [if_neg (fun w => z ((eqN (by omega) (by omega)).mp w)), if_neg z]
  have b := fnd_le (pS L u) (zn L - (e + 1)) (e + 1)
  rw [← k236 _ (by omega) (by omega)]
  refine loop_fnd (fun N x => f_X10_spans_b192 F N μ (nI u) d (zM L j) x) (zn L) (pS L u) (fun f => f_X10_spans_b236 F μ d (zM L j) (nI f)) (fun N k hk => ?_) (fun N => ?_) (zn L - (e + 1)) (e + 1) F (by omega) (by omega)
  · show f_X10_spans_b192 F (N + 1) μ (nI u) d (zM L j) (nI k) = _
    rw [f_X10_spans_b192, ht, mk_m hM, obs, if_neg (ngt (by omega) (by omega) hk), is_in hM ht hk hu, obs, is_in hM ht hk hu, obs, s1]
    unfold pS
    by_cases a : zK L k = 0 ∧ zT L k = nI u
    · rw [if_pos a, if_neg (by decide), if_pos (decide_eq_true (.inl a))]
    · rw [if_neg a, if_pos rfl]
      by_cases c : zK L k = 1 ∧ zT L k = nI u
      · rw [if_pos c, if_neg (by decide), if_pos (decide_eq_true (.inr c))]
      · rw [if_neg c, if_pos rfl, decide_eq_false (fun z => z.elim a c), if_neg (by decide)]
  · show f_X10_spans_b192 F (N + 1) μ (nI u) d (zM L j) (nI (zn L)) = _
    rw [f_X10_spans_b192, ht, mk_m hM, obs, if_pos (nle (by omega) (by omega) (by omega))]
