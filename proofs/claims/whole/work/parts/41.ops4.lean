/-! CALLS: law; refusals of the host; tapes that hold rows -/
theorem ix3 (x : Int32) : (∃ k, k < 4 ∧ x = nI k) ∨ (¬ x = 0 ∧ ¬ x = 1 ∧ ¬ x = 2 ∧ ¬ x = 3 ∧ (x < 0 ∨ 3 < x)) := by
  rcases ix2 x (n := 4) (by omega) with q | ⟨k, hk, rfl⟩
  · right
    rw [ltT, leT, show (nI 4).toInt = 4 from by decide, show (0 : Int32).toInt = 0 from by decide] at q
    refine ⟨?_, ?_, ?_, ?_, ?_⟩
    · intro e; subst e; revert q; decide
    · intro e; subst e; revert q; decide
    · intro e; subst e; revert q; decide
    · intro e; subst e; revert q; decide
    · rw [ltT, ltT, show (0 : Int32).toInt = 0 from by decide, show (3 : Int32).toInt = 3 from by decide]; omega
  · exact .inl ⟨k, hk, rfl⟩
theorem Rl.setL {μ μ' : Mm} {D : Tr} {C : Nat → Tr} (h : Rl μ D C) (hl : LW μ' D) (q : ∀ k i j, ¬ (300 ≤ k ∧ k ≤ 304) → ¬ (1014 ≤ k ∧ k ≤ 1017) → ¬ (k = 1000 ∧ j = 12) → μ'.1 k i j = μ.1 k i j) (q2 : μ'.2 = μ.2) : Rl μ' D C := by
  obtain ⟨h1, h2, h3, h4, h5, h6, h7⟩ := h
  exact ⟨h1, h2.kept (by omega) (fun k i j z => q _ _ _ (by omega) (by omega) (by omega)), h3.kept (fun k j z => q _ _ _ (by omega) (by omega) (by omega)), h4.kept (fun k j z => q _ _ _ (by omega) (by omega) (by omega)), hl, h6.kept (fun k j z => q _ _ _ (by omega) (by omega) (by omega)), fun d hd => (h7 d hd).kept hd (fun k i j z => q _ _ _ (by omega) (by omega) (by omega)) (fun k i j z => by rw [q2])⟩
/-- what a law must be: both test the same -/
theorem law_add {μ : Mm} {D : Tr} {C : Nat → Tr} (h : Rl μ D C) {a b c d : Int32} (hd : ¬ d < 0) (hl : (a = 0 ∧ ∃ u, u < tT D ∧ b = nI u) ∨ (a = 1 ∧ (∃ p, p < tP D ∧ b = nI p) ∧ ∃ l, l < 4 ∧ c = nI l) ∨ (a = 2 ∧ ∃ u, u < tT D ∧ b = nI u) ∨ (a = 3 ∧ ∃ p, p < tP D ∧ b = nI p)) :
    ∃ r μ1 μ2, (if (μ.1 300 0 4) < (8 : Int32) then (f_X3_add μ a b c d).bind fun q7 => some (q7.1, q7.2) else some ((-4 : Int32), μ)) = some (r, μ1) ∧ f_X10_law_b84 μ1 a b c d = some (r, μ2) ∧ Rel μ2 ∧ ∀ k i j, ¬ (300 ≤ k ∧ k ≤ 304) → μ1.1 k i j = μ.1 k i j := by
  obtain ⟨-, -, -, -, ⟨n, hn, n1, n2, n3⟩, -⟩ := id h
  by_cases z : n = 8
  · subst z
    refine ⟨-4, μ, μ, ?_, ?_, ⟨D, C, h⟩, fun _ _ _ _ => rfl⟩
    · rw [n1, if_neg (by decide)]
    · unfold f_X10_law_b84; rw [n2, if_pos (by decide)]
  · have hn8 : n < 8 := by omega
    have lt8 : nI n < (8 : Int32) := by rw [show (8 : Int32) = nI 8 from rfl, ltN (by omega) (by omega)]; exact hn8
    have ne8 : ¬ nI n = (8 : Int32) := by rw [show (8 : Int32) = nI 8 from rfl, eqN (by omega) (by omega)]; exact z
    rw [n1, if_pos lt8]
    unfold f_X3_add
    rw [n1, if_neg (nN0 (by omega)), if_pos lt8, wa_in hn8 (by omega), obs]
    rw [show (wi μ 301 0 n a).1 300 0 4 = nI n by rw [wi_at, if_neg (by omega)]; exact n1, wa_in hn8 (by omega), obs]
    rw [show (wi (wi μ 301 0 n a) 302 0 n b).1 300 0 4 = nI n by rw [wi_at, if_neg (by omega), wi_at, if_neg (by omega)]; exact n1, wa_in hn8 (by omega), obs]
    rw [show (wi (wi (wi μ 301 0 n a) 302 0 n b) 303 0 n c).1 300 0 4 = nI n by rw [wi_at, if_neg (by omega), wi_at, if_neg (by omega), wi_at, if_neg (by omega)]; exact n1, wa_in hn8 (by omega), obs]
    rw [show (wi (wi (wi (wi μ 301 0 n a) 302 0 n b) 303 0 n c) 304 0 n d).1 300 0 4 = nI n by rw [wi_at, if_neg (by omega), wi_at, if_neg (by omega), wi_at, if_neg (by omega), wi_at, if_neg (by omega)]; exact n1, wf_eq, obs, obs, s1]
    generalize hm1 : wi (wi (wi (wi (wi μ 301 0 n a) 302 0 n b) 303 0 n c) 304 0 n d) 300 0 4 (nI (n + 1)) = m1
    have q1 : ∀ k i j, ¬ (300 ≤ k ∧ k ≤ 304) → m1.1 k i j = μ.1 k i j := fun k i j hk => by
      rw [← hm1, wi_at, if_neg (by omega), wi_at, if_neg (by omega), wi_at, if_neg (by omega), wi_at, if_neg (by omega), wi_at, if_neg (by omega)]
    have e0 : m1.1 300 0 4 = nI (n + 1) := by rw [← hm1, wi_at, if_pos ⟨rfl, rfl, rfl⟩]
    have c1 : ∀ l, m1.1 301 0 l = if l = n then a else μ.1 301 0 l := fun l => by
      rw [← hm1, wi_at, if_neg (by omega), wi_at, if_neg (by omega), wi_at, if_neg (by omega), wi_at, if_neg (by omega), wi_at]; simp
    have c2 : ∀ l, m1.1 302 0 l = if l = n then b else μ.1 302 0 l := fun l => by
      rw [← hm1, wi_at, if_neg (by omega), wi_at, if_neg (by omega), wi_at, if_neg (by omega), wi_at, wi_at, if_neg (show ¬ (302 = 301 ∧ 0 = 0 ∧ l = n) by omega)]; simp
    have c3 : ∀ l, m1.1 303 0 l = if l = n then c else μ.1 303 0 l := fun l => by
      rw [← hm1, wi_at, if_neg (by omega), wi_at, if_neg (by omega), wi_at, wi_at, if_neg (show ¬ (303 = 302 ∧ 0 = 0 ∧ l = n) by omega), wi_at, if_neg (show ¬ (303 = 301 ∧ 0 = 0 ∧ l = n) by omega)]; simp
    have c4 : ∀ l, m1.1 304 0 l = if l = n then d else μ.1 304 0 l := fun l => by
      rw [← hm1, wi_at, if_neg (by omega), wi_at, wi_at, if_neg (show ¬ (304 = 303 ∧ 0 = 0 ∧ l = n) by omega), wi_at, if_neg (show ¬ (304 = 302 ∧ 0 = 0 ∧ l = n) by omega), wi_at, if_neg (show ¬ (304 = 301 ∧ 0 = 0 ∧ l = n) by omega)]; simp
    have k2 : m1.1 1000 0 12 = nI n := by rw [q1 _ _ _ (by omega)]; exact n2
    have q12 : m1.2 = μ.2 := by rw [← hm1]; rfl
    clear hm1
    suffices hh : ∃ m2, f_X10_law_b84 m1 a b c d = some (nI n, m2) ∧ Rel m2 by
      obtain ⟨m2, x, y⟩ := hh
      exact ⟨nI n, m1, m2, by rw [e0, nI_pred], x, y, q1⟩
    unfold f_X10_law_b84
    rw [k2, if_neg ne8, wa_in hn8 (by omega), obs]
    rw [show (wi m1 1014 0 n a).1 1000 0 12 = nI n by rw [wi_at, if_neg (by omega)]; exact k2, wa_in hn8 (by omega), obs]
    rw [show (wi (wi m1 1014 0 n a) 1015 0 n b).1 1000 0 12 = nI n by rw [wi_at, if_neg (by omega), wi_at, if_neg (by omega)]; exact k2, wa_in hn8 (by omega), obs]
    rw [show (wi (wi (wi m1 1014 0 n a) 1015 0 n b) 1016 0 n c).1 1000 0 12 = nI n by rw [wi_at, if_neg (by omega), wi_at, if_neg (by omega), wi_at, if_neg (by omega)]; exact k2, wa_in hn8 (by omega), obs]
    rw [show (wi (wi (wi (wi m1 1014 0 n a) 1015 0 n b) 1016 0 n c) 1017 0 n d).1 1000 0 12 = nI n by rw [wi_at, if_neg (by omega), wi_at, if_neg (by omega), wi_at, if_neg (by omega), wi_at, if_neg (by omega)]; exact k2, wf_eq, obs, s1]
    generalize hm2 : wi (wi (wi (wi (wi m1 1014 0 n a) 1015 0 n b) 1016 0 n c) 1017 0 n d) 1000 0 12 (nI (n + 1)) = m2
    have q3 : ∀ k i j, ¬ (1014 ≤ k ∧ k ≤ 1017) → ¬ (k = 1000 ∧ j = 12) → m2.1 k i j = m1.1 k i j := fun k i j hk hk2 => by
      rw [← hm2, wi_at, if_neg (by omega), wi_at, if_neg (by omega), wi_at, if_neg (by omega), wi_at, if_neg (by omega), wi_at, if_neg (by omega)]
    have e1 : m2.1 1000 0 12 = nI (n + 1) := by rw [← hm2, wi_at, if_pos ⟨rfl, rfl, rfl⟩]
    have d1 : ∀ l, m2.1 1014 0 l = if l = n then a else μ.1 1014 0 l := fun l => by
      rw [← hm2, wi_at, if_neg (by omega), wi_at, if_neg (by omega), wi_at, if_neg (by omega), wi_at, if_neg (by omega), wi_at, q1 _ _ _ (by omega)]; simp
    have d2 : ∀ l, m2.1 1015 0 l = if l = n then b else μ.1 1015 0 l := fun l => by
      rw [← hm2, wi_at, if_neg (by omega), wi_at, if_neg (by omega), wi_at, if_neg (by omega), wi_at, wi_at, if_neg (show ¬ (1015 = 1014 ∧ 0 = 0 ∧ l = n) by omega), q1 _ _ _ (by omega)]; simp
    have d3 : ∀ l, m2.1 1016 0 l = if l = n then c else μ.1 1016 0 l := fun l => by
      rw [← hm2, wi_at, if_neg (by omega), wi_at, if_neg (by omega), wi_at, wi_at, if_neg (show ¬ (1016 = 1015 ∧ 0 = 0 ∧ l = n) by omega), wi_at, if_neg (show ¬ (1016 = 1014 ∧ 0 = 0 ∧ l = n) by omega), q1 _ _ _ (by omega)]; simp
    have d4 : ∀ l, m2.1 1017 0 l = if l = n then d else μ.1 1017 0 l := fun l => by
      rw [← hm2, wi_at, if_neg (by omega), wi_at, wi_at, if_neg (show ¬ (1017 = 1016 ∧ 0 = 0 ∧ l = n) by omega), wi_at, if_neg (show ¬ (1017 = 1015 ∧ 0 = 0 ∧ l = n) by omega), wi_at, if_neg (show ¬ (1017 = 1014 ∧ 0 = 0 ∧ l = n) by omega), q1 _ _ _ (by omega)]; simp
    have q22 : m2.2 = μ.2 := by rw [← hm2]; exact q12
    refine ⟨m2, by rw [e1, nI_pred], ⟨D, C, h.setL ⟨n + 1, by omega, by rw [q3 _ _ _ (by omega) (by omega)]; exact e0, e1, fun l hl => ?_⟩ (fun k i j x y z => by rw [q3 _ _ _ y z, q1 _ _ _ x]) q22⟩⟩
    rw [q3 301 _ _ (by omega) (by omega), q3 302 _ _ (by omega) (by omega), q3 303 _ _ (by omega) (by omega), q3 304 _ _ (by omega) (by omega), c1, c2, c3, c4, d1, d2, d3, d4]
    by_cases e : l = n
    · simp only [if_pos e]
      exact ⟨⟨trivial, trivial, trivial, trivial⟩, by assumption, hd⟩
    · simp only [if_neg e]
      exact n3 l (by omega)
theorem op_law {μ : Mm} (h : Rel μ) (a b c d : Int32) : OK2 (fun μ => f_X9_law μ a b c d) (fun μ => f_X10_law μ a b c d) μ := by
  obtain ⟨D, C, h⟩ := id h
  have hR : Rel μ := ⟨D, C, h⟩
  obtain ⟨hv, hc, hm, ho, -⟩ := id h
  have hT := hv.2.1
  have hP := hv.1
  -- refused by both
  have no : f_X9_isLaw μ a b c d = some 0 → f_X10_law μ a b c d = some (-1, μ) → OK2 (fun μ => f_X9_law μ a b c d) (fun μ => f_X10_law μ a b c d) μ := fun e1 e2 =>
    ⟨-1, μ, μ, by show f_X9_law μ a b c d = _; unfold f_X9_law; rw [e1, obs, if_pos rfl], e2, hR⟩
  have b60 : ∀ m : Mm, f_X10_law_b60 m a b c d 0 = some (-1, m) := fun m => by unfold f_X10_law_b60; rw [if_pos rfl]
  -- taken by both
  have yes : ¬ d < 0 → (a = 0 ∧ ∃ u, u < tT D ∧ b = nI u) ∨ (a = 1 ∧ (∃ p, p < tP D ∧ b = nI p) ∧ ∃ l, l < 4 ∧ c = nI l) ∨ (a = 2 ∧ ∃ u, u < tT D ∧ b = nI u) ∨ (a = 3 ∧ ∃ p, p < tP D ∧ b = nI p) → f_X9_isLaw μ a b c d = some 1 → (∀ m : Mm, (∀ k i j, ¬ (300 ≤ k ∧ k ≤ 304) → m.1 k i j = μ.1 k i j) → f_X10_law m a b c d = f_X10_law_b84 m a b c d) → OK2 (fun μ => f_X9_law μ a b c d) (fun μ => f_X10_law μ a b c d) μ := fun hd hl e1 e2 => by
    obtain ⟨r, m1, m2, x1, x2, x3, x4⟩ := law_add h hd hl
    exact ⟨r, m1, m2, by show f_X9_law μ a b c d = _; unfold f_X9_law; rw [e1, obs, if_neg i10]; exact x1, by show f_X10_law m1 a b c d = _; rw [e2 m1 x4]; exact x2, x3⟩
  by_cases hd : d < 0
  · refine no ?_ ?_
    · unfold f_X9_isLaw; rw [if_neg (by rw [leT]; rw [ltT] at hd; omega)]
    · have e : ∀ s, f_X10_law_b60 μ a b c d s = some (-1, μ) := fun s => by
        unfold f_X10_law_b60; split
        · rfl
        · first | rfl | rw [if_pos hd]
      have e34 : f_X10_law_b34 μ a b c d = some (-1, μ) := by
        unfold f_X10_law_b34
        split
        · rw [in_eq, obs]
          by_cases q9 : (if c < 0 then (0 : Int32) else if 3 < c then 0 else 1) = 0
          · rw [if_pos q9]; exact e _
          · rw [if_neg q9]; exact e _
        · split <;> exact e _
      unfold f_X10_law
      rw [in_eq, obs]
      by_cases q9 : (if a < 0 then (0 : Int32) else if 3 < a then 0 else 1) = 0
      · rw [if_pos q9]; exact e _
      · rw [if_neg q9]
        split
        · rcases ix2 b (n := tT D) (by omega) with q | ⟨u, hu, rfl⟩
          · rw [isTask_out hm.1.2.1 hT.2 q, obs, if_pos rfl]; exact e _
          · rw [isTask_in hm.1.2.1 hT.2 hu, obs, if_neg i10]; exact e34
        · rcases ix2 b (n := tP D) (by omega) with q | ⟨u, hu, rfl⟩
          · rw [isP_out hm.1.1 hP.2 q, obs, if_pos rfl]; exact e _
          · rw [isP_in hm.1.1 hP.2 hu, obs, if_neg i10]; exact e34
  have hd0 : (0 : Int32) ≤ d := by rw [leT]; rw [ltT] at hd; omega
  rcases ix3 a with ⟨k, hk, rfl⟩ | ⟨a0, a1, a2, a3, a4⟩
  · rcases (show k = 0 ∨ k = 1 ∨ k = 2 ∨ k = 3 by omega) with rfl | rfl | rfl | rfl
    · rcases ix2 b (n := tT D) (by omega) with q | ⟨u, hu, rfl⟩
      · refine no ?_ ?_
        · unfold f_X9_isLaw; rw [if_pos hd0, if_pos (by decide), hasTask_out hc.1.2.1 q, obs, if_pos rfl]
        · unfold f_X10_law; rw [in_eq, if_neg (by decide), if_neg (by decide), obs, if_neg i10, if_pos (by decide), isTask_out hm.1.2.1 hT.2 q, obs, if_pos rfl, b60]
      · by_cases c0 : c = 0
        · refine yes hd (.inl ⟨rfl, u, hu, rfl⟩) ?_ (fun m q => ?_)
          · unfold f_X9_isLaw; rw [if_pos hd0, if_pos (by decide), hasTask_in hc.1.2.1 hT.2 hu, obs, if_neg i10, if_pos c0]
          · have e2 : m.1 1000 0 2 = nI (tT D) := by rw [q _ _ _ (by omega)]; exact hm.1.2.1
            unfold f_X10_law f_X10_law_b34 f_X10_law_b60; rw [in_eq, if_neg (by decide), if_neg (by decide), obs, if_neg i10, if_pos (by decide), isTask_in e2 hT.2 hu, obs, if_neg i10, if_neg (by decide), if_pos c0, if_neg i10, if_neg hd, if_neg (by decide)]
        · refine no ?_ ?_
          · unfold f_X9_isLaw; rw [if_pos hd0, if_pos (by decide), hasTask_in hc.1.2.1 hT.2 hu, obs, if_neg i10, if_neg c0]
          · unfold f_X10_law f_X10_law_b34; rw [in_eq, if_neg (by decide), if_neg (by decide), obs, if_neg i10, if_pos (by decide), isTask_in hm.1.2.1 hT.2 hu, obs, if_neg i10, if_neg (by decide), if_neg c0, b60]
    · rcases ix2 b (n := tP D) (by omega) with q | ⟨u, hu, rfl⟩
      · refine no ?_ ?_
        · unfold f_X9_isLaw; rw [if_pos hd0, if_neg (by decide), if_pos (by decide), hasP_out hc.1.1 q, obs, if_pos rfl]
        · unfold f_X10_law; rw [in_eq, if_neg (by decide), if_neg (by decide), obs, if_neg i10, if_neg (by decide), isP_out hm.1.1 hP.2 q, obs, if_pos rfl, b60]
      · rcases ix2 c (n := 4) (by omega) with q | ⟨l, hl, rfl⟩
        · refine no ?_ ?_
          · unfold f_X9_isLaw; rw [if_pos hd0, if_neg (by decide), if_pos (by decide), hasP_in hc.1.1 hP.2 hu, obs, if_neg i10]
            rcases q with q | q
            · rw [if_pos q]
            · by_cases q0 : c < 0
              · rw [if_pos q0]
              · rw [if_neg q0, if_pos (show (4 : Int32) ≤ c from q)]
          · unfold f_X10_law f_X10_law_b34; rw [in_eq, if_neg (by decide), if_neg (by decide), obs, if_neg i10, if_neg (by decide), isP_in hm.1.1 hP.2 hu, obs, if_neg i10, if_pos (by decide), show (3 : Int32) = nI 4 - 1 from by decide, in_out (by omega) q, obs, if_pos rfl, b60]
        · refine yes hd (.inr (.inl ⟨rfl, ⟨u, hu, rfl⟩, l, hl, rfl⟩)) ?_ (fun m q => ?_)
          · unfold f_X9_isLaw; rw [if_pos hd0, if_neg (by decide), if_pos (by decide), hasP_in hc.1.1 hP.2 hu, obs, if_neg i10, if_neg (nN0 (by omega)), if_neg (n4 hl)]
          · have e2 : m.1 1000 0 1 = nI (tP D) := by rw [q _ _ _ (by omega)]; exact hm.1.1
            unfold f_X10_law f_X10_law_b34 f_X10_law_b60; rw [in_eq, if_neg (by decide), if_neg (by decide), obs, if_neg i10, if_neg (by decide), isP_in e2 hP.2 hu, obs, if_neg i10, if_pos (by decide), show (3 : Int32) = nI 4 - 1 from by decide, in_in (by omega) hl, obs, if_neg i10, if_neg i10, if_neg hd, if_neg (by decide)]
    · rcases ix2 b (n := tT D) (by omega) with q | ⟨u, hu, rfl⟩
      · refine no ?_ ?_
        · unfold f_X9_isLaw; rw [if_pos hd0, if_neg (by decide), if_neg (by decide), if_pos (by decide), hasTask_out hc.1.2.1 q, obs, if_pos rfl]
        · unfold f_X10_law; rw [in_eq, if_neg (by decide), if_neg (by decide), obs, if_neg i10, if_pos (by decide), isTask_out hm.1.2.1 hT.2 q, obs, if_pos rfl, b60]
      · by_cases c0 : c = 0
        · refine yes hd (.inr (.inr (.inl ⟨rfl, u, hu, rfl⟩))) ?_ (fun m q => ?_)
          · unfold f_X9_isLaw; rw [if_pos hd0, if_neg (by decide), if_neg (by decide), if_pos (by decide), hasTask_in hc.1.2.1 hT.2 hu, obs, if_neg i10, if_pos c0]
          · have e2 : m.1 1000 0 2 = nI (tT D) := by rw [q _ _ _ (by omega)]; exact hm.1.2.1
            unfold f_X10_law f_X10_law_b34 f_X10_law_b60; rw [in_eq, if_neg (by decide), if_neg (by decide), obs, if_neg i10, if_pos (by decide), isTask_in e2 hT.2 hu, obs, if_neg i10, if_neg (by decide), if_pos c0, if_neg i10, if_neg hd, if_neg (by decide)]
        · refine no ?_ ?_
          · unfold f_X9_isLaw; rw [if_pos hd0, if_neg (by decide), if_neg (by decide), if_pos (by decide), hasTask_in hc.1.2.1 hT.2 hu, obs, if_neg i10, if_neg c0]
          · unfold f_X10_law f_X10_law_b34; rw [in_eq, if_neg (by decide), if_neg (by decide), obs, if_neg i10, if_pos (by decide), isTask_in hm.1.2.1 hT.2 hu, obs, if_neg i10, if_neg (by decide), if_neg c0, b60]
    · rcases ix2 b (n := tP D) (by omega) with q | ⟨u, hu, rfl⟩
      · refine no ?_ ?_
        · unfold f_X9_isLaw; rw [if_pos hd0, if_neg (by decide), if_neg (by decide), if_neg (by decide), if_pos (by decide), hasP_out hc.1.1 q, obs, if_pos rfl]
        · unfold f_X10_law; rw [in_eq, if_neg (by decide), if_neg (by decide), obs, if_neg i10, if_neg (by decide), isP_out hm.1.1 hP.2 q, obs, if_pos rfl, b60]
      · by_cases c0 : c = 0
        · by_cases d0 : d = 0
          · refine yes hd (.inr (.inr (.inr ⟨rfl, u, hu, rfl⟩))) ?_ (fun m q => ?_)
            · unfold f_X9_isLaw; rw [if_pos hd0, if_neg (by decide), if_neg (by decide), if_neg (by decide), if_pos (by decide), hasP_in hc.1.1 hP.2 hu, obs, if_neg i10, if_pos c0, if_pos d0]
            · have e2 : m.1 1000 0 1 = nI (tP D) := by rw [q _ _ _ (by omega)]; exact hm.1.1
              unfold f_X10_law f_X10_law_b34 f_X10_law_b60; rw [in_eq, if_neg (by decide), if_neg (by decide), obs, if_neg i10, if_neg (by decide), isP_in e2 hP.2 hu, obs, if_neg i10, if_neg (by decide), if_pos c0, if_neg i10, if_neg hd, if_pos (by decide), if_pos d0]
          · refine no ?_ ?_
            · unfold f_X9_isLaw; rw [if_pos hd0, if_neg (by decide), if_neg (by decide), if_neg (by decide), if_pos (by decide), hasP_in hc.1.1 hP.2 hu, obs, if_neg i10, if_pos c0, if_neg d0]
            · unfold f_X10_law f_X10_law_b34 f_X10_law_b60; rw [in_eq, if_neg (by decide), if_neg (by decide), obs, if_neg i10, if_neg (by decide), isP_in hm.1.1 hP.2 hu, obs, if_neg i10, if_neg (by decide), if_pos c0, if_neg i10, if_neg hd, if_pos (by decide), if_neg d0]
        · refine no ?_ ?_
          · unfold f_X9_isLaw; rw [if_pos hd0, if_neg (by decide), if_neg (by decide), if_neg (by decide), if_pos (by decide), hasP_in hc.1.1 hP.2 hu, obs, if_neg i10, if_neg c0]
          · unfold f_X10_law f_X10_law_b34; rw [in_eq, if_neg (by decide), if_neg (by decide), obs, if_neg i10, if_neg (by decide), isP_in hm.1.1 hP.2 hu, obs, if_neg i10, if_neg (by decide), if_neg c0, b60]
  · refine no ?_ ?_
    · unfold f_X9_isLaw; rw [if_pos hd0, if_neg a0, if_neg a1, if_neg a2, if_neg a3]
    · unfold f_X10_law; rw [in_eq]
      have : (if a < 0 then (0 : Int32) else if 3 < a then 0 else 1) = 0 := by
        rcases a4 with q | q
        · rw [if_pos q]
        · by_cases q0 : a < 0
          · rw [if_pos q0]
          · rw [if_neg q0, if_pos q]
      rw [this, obs, if_pos rfl, b60]
