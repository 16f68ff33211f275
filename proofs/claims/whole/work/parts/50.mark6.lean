/-! CALL: mark -/
theorem Rl.step {μ μ' : Mm} {D D' : Tr} {C : Nat → Tr} (h : Rl μ D C) (hv : TV D') (hs : tP D' = tP D ∧ tT D' = tT D ∧ tW D' = tW D ∧ tH D' = tH D ∧ tR D' = tR D) (hc : CT μ' 0 D') (hm : MT μ' D') (hn : CN2 μ')
    (qc : ∀ k i j, k < 1000 → ¬ (200 ≤ k ∧ k < 300 ∧ i < 3) → ¬ (304 < k ∧ k ≤ 403 ∧ i < 3) → ¬ (k = 704 ∧ i = 0) → ¬ (k = 900 ∧ (j = 9 ∨ j = 10)) → μ'.1 k i j = μ.1 k i j)
    (qm : ∀ k i j, 1000 ≤ k → ¬ sc k j → ¬ (k = 1008 ∧ j < 3) → ¬ (1009 ≤ k ∧ k ≤ 1012 ∧ j < 600) → ¬ (k = 1000 ∧ (j = 17 ∨ j = 18)) → μ'.1 k i j = μ.1 k i j) (q2 : ∀ k i j, k = 601 ∨ k = 1022 → μ'.2 k i j = μ.2 k i j) : Rl μ' D' C := by
  obtain ⟨h1, h2, h3, h4, h5, h6, h7⟩ := h
  have nsc : ∀ k j, (1001 ≤ k ∧ k ≤ 1027) ∨ (k = 1000 ∧ j = 12) → ¬ sc k j := fun k j z => by unfold sc; omega
  have h5' : LW μ' D := h5.kept (fun k j z => by
    rcases z with z | z | z
    · exact qc _ _ _ (by omega) (by omega) (by omega) (by omega) (by omega)
    · exact qm _ _ _ (by omega) (nsc _ _ (by omega)) (by omega) (by omega) (by omega)
    · exact qm _ _ _ (by omega) (nsc _ _ (by omega)) (by omega) (by omega) (by omega))
  have h5'' : LW μ' D' := by
    unfold LW at h5' ⊢
    rw [hs.1, hs.2.1]; exact h5'
  refine ⟨hv, hc, hm, h4.kept (fun k j z => ?_), h5'', hn, fun d hd => (h7 d hd).kept3 hd (fun j => qc _ _ _ (by omega) (by omega) (by omega) (by omega) (by omega)) ⟨qm _ _ _ (by omega) (nsc _ _ (by omega)) (by omega) (by omega) (by omega), qm _ _ _ (by omega) (nsc _ _ (by omega)) (by omega) (by omega) (by omega)⟩ (fun j x y => qm _ _ _ (by omega) (nsc _ _ (by omega)) (by omega) (by omega) (by omega)) (fun k j a b x y => qm _ _ _ (by omega) (nsc _ _ (by omega)) (by omega) (by omega) (by omega)) (fun k a b => qm _ _ _ (by omega) (nsc _ _ (by omega)) (by omega) (by omega) (by omega)) (fun k j a b x y => qm _ _ _ (by omega) (nsc _ _ (by omega)) (by omega) (by omega) (by omega)) (fun k i j a b x => qc _ _ _ (by omega) (by omega) (by omega) (by omega) (by omega)) (fun k j a b => qc _ _ _ (by omega) (by omega) (by omega) (by omega) (by omega)) (fun j hj => ⟨q2 _ _ _ (by omega), q2 _ _ _ (by omega)⟩)⟩
  rcases z with z | z
  · exact qc _ _ _ (by omega) (by omega) (by omega) (by omega) (by omega)
  · exact qm _ _ _ (by omega) (nsc _ _ (by omega)) (by omega) (by omega) (by omega)
/-- the class's cells stay where the reference works, and the other way round -/
theorem MT.f1 {μ μ' : Mm} {D : Tr} (h : MT μ D) (f : F1 μ μ') : MT μ' D := h.kept (fun k j z => f.1 _ _ _ (by omega) (by omega) (by omega))
theorem CT.f2 {m m' : Mm} {D : Tr} (h : CT m 0 D) (f : F2 m m') : CT m' 0 D := h.kept (by omega) (fun k i j z => f.1 _ _ _ (by unfold sc; omega) (by omega) (by omega))
theorem op_mark {F : Nat} {μ : Mm} (hF : 1000 ≤ F) (h : Rel μ) (p k t x c : Int32) : OK2 (fun μ => f_X9_mark μ p k t x c) (fun μ => f_X10_mark F μ p k t x c) μ := by
  obtain ⟨D, C, h⟩ := id h
  obtain ⟨hv, hc, hm, -, -, hn, -⟩ := id h
  obtain ⟨r, D', hv', hs, st, sm'⟩ := mark_step hv p k t x c
  obtain ⟨μ1, e1, c1, f1, n1⟩ := st μ hc
  obtain ⟨m1, e2, m2, f2⟩ := sm' F μ1 hF (hm.f1 f1)
  unfold OK2 f_X9_mark f_X10_mark
  dsimp only
  rw [e1, obs]
  have a17 : m1.1 1000 0 17 = μ.1 1000 0 17 := by rw [f2.1 _ _ _ (by unfold sc; omega) (by omega) (by omega), f1.1 _ _ _ (by omega) (by omega) (by omega)]
  have a18 : m1.1 1000 0 18 = μ.1 1000 0 18 := by rw [f2.1 _ _ _ (by unfold sc; omega) (by omega) (by omega), f1.1 _ _ _ (by omega) (by omega) (by omega)]
  have a10 : m1.1 900 0 10 = μ.1 900 0 10 := by rw [f2.1 _ _ _ (by unfold sc; omega) (by omega) (by omega), f1.1 _ _ _ (by omega) (by omega) (by omega)]
  have a9' : m1.1 900 0 9 = μ1.1 900 0 9 := by rw [f2.1 _ _ _ (by unfold sc; omega) (by omega) (by omega)]
  have fin : ∀ v, (if r < 0 then μ.1 900 0 9 + 1 else μ.1 900 0 9) = v → Rel (wi m1 1000 0 17 v) := fun v hv9 => by
    refine ⟨D', C, h.step hv' hs ((c1.f2 f2).kept (by omega) (fun k i j z => by rw [wi_at, if_neg (by omega)])) (m2.kept (fun k j z => by rw [wi_at, if_neg (by omega)])) ⟨?_, ?_⟩ (fun k i j x1 x2 x3 x4 x5 => ?_) (fun k i j x1 x2 x3 x4 x5 => ?_) (fun k i j z => ?_)⟩
    · rw [wi_at, if_neg (by omega), wi_at, if_pos ⟨rfl, rfl, rfl⟩, a9', n1, hv9]
    · rw [wi_at, if_neg (by omega), wi_at, if_neg (by omega), a10, a18]; exact hn.2
    · rw [wi_at, if_neg (by omega), f2.1 _ _ _ (by unfold sc; omega) (by omega) (by omega)]
      rcases Nat.lt_or_ge k 300 with w | w
      · exact f1.1 _ _ _ (by omega) (by omega) (by omega)
      · rcases Nat.lt_or_ge 304 k with w2 | w2
        · exact f1.1 _ _ _ (by omega) (by omega) (by omega)
        · exact f1.2.1 _ _ _ w w2
    · rw [wi_at, if_neg (by omega), f2.1 _ _ _ x2 x3 x4, f1.1 _ _ _ (by omega) (by omega) (by omega)]
    · rw [wi_2, f2.2 _ _ _ z, f1.2.2 _ _ _ z]
  by_cases hr : 0 ≤ r
  · have hr' : ¬ r < 0 := by rw [ltT]; rw [leT] at hr; omega
    refine ⟨r, μ1, wi m1 1000 0 17 (m1.1 1000 0 17 + 0), rfl, by rw [e2, obs, if_pos hr, wf_eq, obs], fin _ ?_⟩
    rw [if_neg hr', add0, a17]; exact hn.1
  · have hr' : r < 0 := by rw [ltT]; rw [leT] at hr; omega
    refine ⟨r, μ1, wi m1 1000 0 17 (m1.1 1000 0 17 + 1), rfl, by rw [e2, obs, if_neg hr, wf_eq, obs], fin _ ?_⟩
    rw [if_pos hr', a17, hn.1]
