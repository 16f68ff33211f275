/-! CALLS: state, holder, told, count -/
theorem i10 : ¬ (1 : Int32) = 0 := by decide
theorem allMarks_c {F : Nat} {μ : Mm} {t a b c : Nat} (hF : 1000 ≤ F) (h0 : μ.1 200 (3 * t + 0) 5 = nI a) (h1 : μ.1 200 (3 * t + 1) 5 = nI b) (h2 : μ.1 200 (3 * t + 2) 5 = nI c) : f_X7_allMarks F μ t = some (nI (a + b + c)) := by
  obtain ⟨N, rfl⟩ : ∃ N, F = N + 4 := ⟨F - 4, by omega⟩
  unfold f_X7_allMarks
  rw [show (0 : Int32) = nI 0 from rfl, f_X7_allMarks_b4, if_neg (by decide), rq_in (by omega) (by omega), obs, h0, s1, f_X7_allMarks_b4, if_neg (by decide), rq_in (by omega) (by omega), obs, h1, s1, f_X7_allMarks_b4, if_neg (by decide), rq_in (by omega) (by omega), obs, h2, s1, f_X7_allMarks_b4, if_pos (by decide), nI_add, nI_add, nI_add, show 0 + a + b + c = a + b + c by omega]
theorem all_m {μ : Mm} {a b c : Nat} (h0 : μ.1 1008 0 0 = nI a) (h1 : μ.1 1008 0 1 = nI b) (h2 : μ.1 1008 0 2 = nI c) : f_X10_all μ = some (nI (a + b + c)) := by
  unfold f_X10_all
  rw [show (0 : Int32) = nI 0 from rfl, show (1 : Int32) = nI 1 from rfl, show (2 : Int32) = nI 2 from rfl, ra_in (by omega) (by omega), obs, ra_in (by omega) (by omega), obs, ra_in (by omega) (by omega), obs, h0, h1, h2, nI_add, nI_add]
theorem Rl.all {F : Nat} {μ : Mm} {D : Tr} {C : Nat → Tr} (hF : 1000 ≤ F) (h : Rl μ D C) : f_X7_allMarks F μ 0 = some (nI (zn (tL D 0) + zn (tL D 1) + zn (tL D 2))) ∧ f_X10_all μ = some (nI (zn (tL D 0) + zn (tL D 1) + zn (tL D 2))) := by
  obtain ⟨-, c0, m0, -⟩ := h.lane (p := 0) (by omega)
  obtain ⟨-, c1, m1, -⟩ := h.lane (p := 1) (by omega)
  obtain ⟨-, c2, m2, -⟩ := h.lane (p := 2) (by omega)
  exact ⟨allMarks_c hF c0.2.1 c1.2.1 c2.2.1, all_m m0.2.2.1 m1.2.2.1 m2.2.2.1⟩
theorem Rl.ends {F : Nat} {μ : Mm} {D : Tr} {C : Nat → Tr} {p : Nat} (hF : 1000 ≤ F) (h : Rl μ D C) (hp : p < 3) : ∃ μ', f_X10_ends F μ (nI p) = some μ' ∧ SM μ μ' ∧ RM μ' (sq (hmD D p) (tL D p) (zn (tL D p))) := by
  obtain ⟨hL, cL, mL, -⟩ := h.lane hp
  have hn := mL.2.1
  obtain ⟨m, e, s0, r1, r2, r3, r4⟩ := h.startsNow hF hp
  unfold f_X10_ends
  rw [e, obs]
  obtain ⟨m', e1, i1, i2, i3, i4⟩ := loop_inv (fun N m x => f_X10_ends_b7 F N m (nI p) x) (fun μ => some μ) (zn (tL D p)) (fun j m' => SM μ m' ∧ RM m' (sq (hmD D p) (tL D p) j) ∧ HC m' (hmD D p) ∧ m'.1 1000 0 33 = nI p) (by
      intro N m' j hj ⟨i1, i2, i3, i4⟩
      show ∃ s', f_X10_ends_b7 F (N + 1) m' (nI p) (nI j) = f_X10_ends_b7 F N s' (nI p) (nI (j + 1)) ∧ _
      have hM' := mL.kept i1
      rw [f_X10_ends_b7, ra_in hM'.1 (by omega), obs, hM'.2.2.1, if_neg (ngt (by omega) (by omega) hj)]
      obtain ⟨m2, e2, a1, a2, a3, a4⟩ := doesMark_ok (F := F) (by omega) hM' i4 i3 hL.2.1.wf hj i2
      rw [e2, obs, s1]
      exact ⟨m2, rfl, i1.trans a1, a2, a3, a4⟩) (by
      intro N m' ⟨i1, i2, i3, i4⟩
      show f_X10_ends_b7 F (N + 1) m' (nI p) (nI (zn (tL D p))) = _
      have hM' := mL.kept i1
      rw [f_X10_ends_b7, ra_in hM'.1 (by omega), obs, hM'.2.2.1, if_pos (nle (by omega) (by omega) (by omega))]) F 0 m (by omega) (by omega) ⟨s0, r1, r3, r2⟩
  have e1 : f_X10_ends_b7 F F m (nI p) 0 = some m' := e1
  rw [e1]
  exact ⟨m', rfl, i1, i2⟩
theorem op_state {F : Nat} {μ : Mm} (hF : 1000 ≤ F) (h : Rel μ) (x : Int32) : OK1 (fun μ => f_X9_state μ x) (fun μ => f_X10_state F μ x) μ := by
  obtain ⟨D, C, h⟩ := id h
  have hR : Rel μ := ⟨D, C, h⟩
  obtain ⟨hv, hc, hm, -⟩ := id h
  have hT := hv.2.1
  unfold OK1 f_X9_state f_X10_state
  dsimp only
  rcases ix2 x (n := tT D) (by omega) with q | ⟨u, hu, rfl⟩
  · exact ⟨-1, μ, by rw [hasTask_out hc.1.2.1 q, obs, if_pos rfl], by rw [isTask_out hm.1.2.1 hT.2 q, obs, if_pos rfl], hR⟩
  · obtain ⟨p, hp, hp3, hu8, hh, c1, m1, hmt⟩ := h.task hu
    obtain ⟨hL, cL, mL, rc⟩ := h.lane hp3
    obtain ⟨m, e, s, r⟩ := h.ends hF hp3
    refine ⟨hw (sq (hmD D p) (tL D p) (zn (tL D p))) u, m, ?_, ?_, ⟨D, C, h.kept s.sr⟩⟩
    · rw [hasTask_in hc.1.2.1 hT.2 hu, obs, if_neg (by decide), homeLane_in hu8 c1 hp3, obs, show 3 * 0 + p = p by omega, stateOf_in hu8, obs, rc.1.1 u hu8 hmt]
    · rw [isTask_in hm.1.2.1 hT.2 hu, obs, if_neg (by decide), ra_in hu8 (by omega), obs, m1, e, obs, ra_in hu8 (by omega), obs, r.1 u hu8]
theorem op_holder {F : Nat} {μ : Mm} (hF : 1000 ≤ F) (h : Rel μ) (x y : Int32) : OK1 (fun μ => f_X9_holder μ x y) (fun μ => f_X10_holder F μ x y) μ := by
  obtain ⟨D, C, h⟩ := id h
  have hR : Rel μ := ⟨D, C, h⟩
  obtain ⟨hv, hc, hm, -⟩ := id h
  have hT := hv.1
  unfold OK1 f_X9_holder f_X10_holder
  dsimp only
  rcases ix2 x (n := tP D) (by omega) with q | ⟨p, hp, rfl⟩
  · exact ⟨-1, μ, by rw [hasP_out hc.1.1 q, obs, if_pos rfl], by rw [isP_out hm.1.1 hT.2 q, obs, if_pos rfl], hR⟩
  · have hp3 : p < 3 := by omega
    obtain ⟨hL, cL, mL, rc⟩ := h.lane hp3
    rcases ix2 y (n := 4) (by omega) with q | ⟨l, hl, rfl⟩
    · refine ⟨-1, μ, ?_, ?_, hR⟩
      · rw [hasP_in hc.1.1 hT.2 hp, obs, if_neg (by decide)]
        rcases q with q | q
        · rw [if_pos q]
        · by_cases q0 : y < 0
          · rw [if_pos q0]
          · rw [if_neg q0, if_neg (by rw [ltT]; rw [leT] at q; exact Int.not_lt.mpr q)]
      · rw [isP_in hm.1.1 hT.2 hp, obs, if_neg (by decide), show (3 : Int32) = nI 4 - 1 from by decide, in_out (by omega) q, obs, if_pos rfl]
    · obtain ⟨m, e, s, r⟩ := h.ends hF hp3
      refine ⟨cz (hd (sq (hmD D p) (tL D p) (zn (tL D p))) l), m, ?_, ?_, ⟨D, C, h.kept s.sr⟩⟩
      · rw [hasP_in hc.1.1 hT.2 hp, obs, if_neg (by decide), if_neg (nN0 (by omega)), if_pos (by rw [show (4 : Int32) = nI 4 from rfl, ltN (by omega) (by omega)]; omega), laneOf_in hp3, obs, show 3 * 0 + p = p by omega, holderOf_in hl, obs, rc.1.2.2.1 l hl]
      · rw [isP_in hm.1.1 hT.2 hp, obs, if_neg (by decide), show (3 : Int32) = nI 4 - 1 from by decide, in_in (by omega) hl, obs, if_neg (by decide), e, obs, ra_in hl (by omega), obs, obs, r.2.2.1 l hl]
        unfold cz
        split <;> rfl
theorem op_told {μ : Mm} (h : Rel μ) (x y w : Int32) : OK0 (fun μ => f_X9_told μ x y w) (fun μ => f_X10_told μ x y w) μ := by
  obtain ⟨D, C, h⟩ := id h
  obtain ⟨hv, hc, hm, -⟩ := id h
  have hT := hv.1
  unfold OK0 f_X9_told f_X10_told
  dsimp only
  rcases ix2 x (n := tP D) (by omega) with q | ⟨p, hp, rfl⟩
  · exact ⟨-1, by rw [hasP_out hc.1.1 q, obs, if_pos rfl], by rw [isP_out hm.1.1 hT.2 q, obs, if_pos rfl]⟩
  · have hp3 : p < 3 := by omega
    obtain ⟨hL, cL, mL, rc⟩ := h.lane hp3
    have hn := cL.1
    rw [hasP_in hc.1.1 hT.2 hp, obs, if_neg i10, laneOf_in hp3, obs, show 3 * 0 + p = p by omega, isP_in hm.1.1 hT.2 hp, obs, if_neg i10, mk_m mL, obs]
    rcases ix2 y (n := zn (tL D p)) (by omega) with q | ⟨j, hj, rfl⟩
    · refine ⟨-1, ?_, by rw [in_out (by omega) q, obs, if_pos rfl]⟩
      have : f_X2_has μ p y = some 0 := by
        unfold f_X2_has
        rcases q with q | q
        · rw [if_pos q]
        · rw [cL.2.1]; split
          · rfl
          · first | rfl | rw [if_pos q]
      rw [this, obs, if_pos rfl]
    · obtain ⟨k1, k2, k3, k4⟩ := mL.2.2.2 j hj
      rw [has_in cL (by omega), if_pos hj, obs, if_neg i10, in_in (by omega) hj, obs, if_neg i10, show (200 : Int32) = nI 200 from rfl, pk_mul, nI_add, kindOf_in cL hj, taskOf_in cL hj, numberOf_in cL hj, timeOf_in cL hj, obs, obs, obs, obs, ra_in (by omega) (by omega), ra_in (by omega) (by omega), ra_in (by omega) (by omega), ra_in (by omega) (by omega), obs, obs, obs, obs, k1, k2, k3, k4]
      split
      · exact ⟨_, rfl, rfl⟩
      · split
        · exact ⟨_, rfl, rfl⟩
        · split
          · exact ⟨_, rfl, rfl⟩
          · split
            · exact ⟨_, rfl, rfl⟩
            · exact ⟨_, rfl, rfl⟩
theorem op_count {F : Nat} {μ : Mm} (hF : 1000 ≤ F) (h : Rel μ) (x : Int32) : OK0 (fun μ => f_X9_count F μ x) (fun μ => f_X10_count μ x) μ := by
  obtain ⟨D, C, h⟩ := id h
  obtain ⟨a1, a2⟩ := h.all hF
  obtain ⟨hv, hc, hm, -, ⟨n, -, n1, n2, -⟩, hn, -⟩ := id h
  have hT := hv.1
  unfold OK0 f_X9_count f_X10_count
  dsimp only
  rw [a1, a2, obs, hc.1.1, hc.1.2.1, hc.1.2.2, hm.1.1, hm.1.2.1, hm.1.2.2, n1, n2, hn.1, hn.2]
  by_cases x0 : x = 0
  · rw [if_pos x0, if_pos x0]; exact ⟨_, rfl, rfl⟩
  rw [if_neg x0, if_neg x0]
  by_cases x1 : x = 1
  · rw [if_pos x1, if_pos x1]; exact ⟨_, rfl, rfl⟩
  rw [if_neg x1, if_neg x1]
  by_cases x2 : x = 2
  · rw [if_pos x2, if_pos x2]; exact ⟨_, rfl, rfl⟩
  rw [if_neg x2, if_neg x2]
  by_cases x3 : x = 3
  · rw [if_pos x3, if_pos x3]; exact ⟨_, rfl, rfl⟩
  rw [if_neg x3, if_neg x3]
  by_cases x4 : x = 4
  · rw [if_pos x4, if_pos x4]; exact ⟨_, rfl, rfl⟩
  rw [if_neg x4, if_neg x4]
  by_cases x5 : x = 5
  · rw [if_pos x5, if_pos x5]; exact ⟨_, rfl, rfl⟩
  rw [if_neg x5, if_neg x5]
  by_cases x6 : x = 6
  · rw [if_pos x6, if_pos x6]; exact ⟨_, rfl, rfl⟩
  rw [if_neg x6, if_neg x6]
  rcases ix2 (x - 10) (n := tP D) (by omega) with q | ⟨p, hp, e⟩
  · refine ⟨-1, ?_, by rw [isP_out hm.1.1 hT.2 q, obs, if_pos rfl]⟩
    split
    · rfl
    · rw [hasP_out hc.1.1 q, obs, if_pos rfl]
  · have hp3 : p < 3 := by omega
    obtain ⟨hL, cL, mL, rc⟩ := h.lane hp3
    have hx : ¬ x < 10 := by
      have e2 : x = nI (p + 10) := by
        have : x = (x - 10) + 10 := by grind
        rw [this, e, show (10 : Int32) = nI 10 from rfl, nI_add]
      rw [e2, show (10 : Int32) = nI 10 from rfl, ltN (by omega) (by omega)]; omega
    rw [if_neg hx, e, hasP_in hc.1.1 hT.2 hp, obs, if_neg (by decide), laneOf_in hp3, obs, show 3 * 0 + p = p by omega, cL.2.1, isP_in hm.1.1 hT.2 hp, obs, if_neg (by decide), mk_m mL, obs]
    exact ⟨_, rfl, rfl⟩
