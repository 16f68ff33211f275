/-! CALLS: sums over a lane, moments, what is told -/
theorem isSum_in (μ : Mm) (x : Int32) : f_X9_isSumWhat μ x = some (if x < 0 then 0 else if 5 < x then 0 else 1) := by
  unfold f_X9_isSumWhat
  split
  · rfl
  · split <;> rfl
theorem ix2 (x : Int32) {n : Nat} (hn : n < 1000000) : (x < 0 ∨ nI n ≤ x) ∨ ∃ j : Nat, j < n ∧ x = nI j := by
  rcases ix x hn with a | a | a
  · exact .inl (.inl a)
  · exact .inl (.inr a)
  · exact .inr a
theorem op_sum {F : Nat} {μ : Mm} (hF : 1000 ≤ F) (h : Rel μ) (x w : Int32) : OK2 (fun μ => f_X9_sum F μ x w) (fun μ => f_X10_sum F μ x w) μ := by
  obtain ⟨D, C, h⟩ := id h
  have hR : Rel μ := ⟨D, C, h⟩
  obtain ⟨hv, hc, hm, -⟩ := id h
  have hT := hv.2.1
  rcases ix2 x (n := tT D) (by omega) with q | ⟨u, hu, rfl⟩
  · refine OK2.both hR (r := -1) ?_ ?_
    · show f_X9_sum F μ x w = _
      unfold f_X9_sum; rw [hasTask_out hc.1.2.1 q, obs, if_pos rfl]
    · show f_X10_sum F μ x w = _
      unfold f_X10_sum; rw [isTask_out hm.1.2.1 hT.2 q, obs, if_pos rfl]
  · obtain ⟨p, hp, hp3, hu8, hh, c1, m1, hmt⟩ := h.task hu
    unfold OK2 f_X9_sum f_X10_sum
    simp only [hasTask_in hc.1.2.1 hT.2 hu, obs, isSum_in]
    rw [if_neg (by decide)]
    by_cases w0 : w < 0 ∨ 5 < w
    · have e : (if w < 0 then (0 : Int32) else if 5 < w then 0 else 1) = 0 := by
        rcases w0 with q | q
        · rw [if_pos q]
        · split
          · rfl
          · first | rfl | rw [if_pos q]
      rw [e, if_pos rfl]
      refine ⟨-1, μ, μ, rfl, ?_, hR⟩
      rw [isTask_in hm.1.2.1 hT.2 hu, obs, if_neg (by decide), in_eq, e, obs, if_pos rfl]
    · have e : (if w < 0 then (0 : Int32) else if 5 < w then 0 else 1) = 1 := by
        rw [if_neg (fun z => w0 (.inl z)), if_neg (fun z => w0 (.inr z))]
      rw [e, if_neg (by decide)]
      obtain ⟨hL, cL, -, -⟩ := h.lane hp3
      -- the class
      have cls : ∃ r μ1, f_X9_timeCountedAs F μ 0 (nI u) w = some (r, μ1) ∧ SR μ μ1 ∧ r = if w = 5 then itf (gall (tL D p)) (zn (tL D p) - 1) 0 else itf (gsum (hmD D p) (tL D p) u w) (zn (tL D p) - 1) 0 := by
        unfold f_X9_timeCountedAs
        rw [homeLane_in hu8 c1 hp3, obs, show 3 * 0 + p = p by omega]
        by_cases w5 : w = 5
        · rw [if_pos w5, if_pos w5, whole_c cL, obs]
          exact ⟨_, μ, rfl, SR.rf μ, rfl⟩
        · rw [if_neg w5, if_neg w5]
          obtain ⟨m, e1, s1', r1⟩ := start_ok μ (hmD D p)
          obtain ⟨m', e2, s2⟩ := sum_c (u := u) (w := w) hF (cL.sw s1') hL.2.1 r1 hu8 hmt
          rw [e1, obs]
          exact ⟨_, m', e2, (s1'.trans s2).sr, rfl⟩
      obtain ⟨r, μ1, e1, s1', hr⟩ := cls
      rw [e1]
      have h1 := h.kept s1'
      obtain ⟨m, e2, s2, r1, r2, r3, r4⟩ := h1.startsNow hF hp3
      have md : ∃ μ2, f_X10_summed F m (nI u) w = some (r, μ2) ∧ SM m μ2 := by
        by_cases w5 : w = 5
        · subst w5
          rw [if_pos rfl] at hr
          obtain ⟨m', e3, s3⟩ := sum5_m hF r4 hL.2.1 r1 r3 r2 hu8
          exact ⟨m', by rw [e3, hr], s3⟩
        · rw [if_neg w5] at hr
          obtain ⟨m', e3, s3⟩ := sum_m hF r4 hL.2.1 r1 r3 r2 hu8 w5
          exact ⟨m', by rw [e3, hr], s3⟩
      obtain ⟨μ2, e3, s3⟩ := md
      refine ⟨r, μ1, μ2, rfl, ?_, ⟨D, C, h1.kept (s2.trans s3).sr⟩⟩
      obtain ⟨-, -, hm1, -⟩ := id h1
      rw [isTask_in hm1.1.2.1 hT.2 hu, obs, if_neg (by decide), in_eq, e, obs, if_neg (by decide), ra_in hu8 (by omega), obs, (hm1.2.1 u hu8).1, hh, e2, obs, e3, obs]
theorem op_busy {F : Nat} {μ : Mm} (hF : 1000 ≤ F) (h : Rel μ) (x w : Int32) : OK2 (fun μ => f_X9_busy F μ x w) (fun μ => f_X10_busy F μ x w) μ := by
  obtain ⟨D, C, h⟩ := id h
  have hR : Rel μ := ⟨D, C, h⟩
  obtain ⟨hv, hc, hm, -⟩ := id h
  have hT := hv.1
  rcases ix2 x (n := tP D) (by omega) with q | ⟨p, hp, rfl⟩
  · refine OK2.both hR (r := -1) ?_ ?_
    · show f_X9_busy F μ x w = _
      unfold f_X9_busy; rw [hasP_out hc.1.1 q, obs, if_pos rfl]
    · show f_X10_busy F μ x w = _
      unfold f_X10_busy; rw [isP_out hm.1.1 hT.2 q, obs, if_pos rfl]
  · have hp3 : p < 3 := by omega
    unfold OK2 f_X9_busy f_X10_busy
    simp only [hasP_in hc.1.1 hT.2 hp, obs]
    rw [if_neg (by decide)]
    by_cases w0 : w < 0
    · rw [if_pos w0]
      refine ⟨-1, μ, μ, rfl, ?_, hR⟩
      rw [isP_in hm.1.1 hT.2 hp, obs, if_neg (by decide), in_eq, if_pos w0, obs, if_pos rfl]
    · rw [if_neg w0]
      by_cases w3 : w ≤ 3
      · have w4 : ¬ 3 < w := by rw [ltT]; rw [leT] at w3; omega
        rw [if_pos w3, laneOf_in hp3, obs, show 3 * 0 + p = p by omega]
        obtain ⟨hL, cL, -, -⟩ := h.lane hp3
        obtain ⟨m, e1, s1', r1⟩ := start_ok μ (hmD D p)
        obtain ⟨m', e2, s2⟩ := busy_c (w := w) hF (cL.sw s1') hL.2.1 r1
        have e2' : f_X9_busy_b44 F F m w p 0 0 = _ := e2
        rw [e1, obs, e2']
        have h1 := h.kept (s1'.trans s2).sr
        obtain ⟨m2, e3, s3, r1, r2, r3, r4⟩ := h1.startsNow hF hp3
        obtain ⟨m3, e4, s4⟩ := busy_m (w := w) hF r4 hL.2.1 r1 r3 r2
        have e4' : f_X10_busy_b29 F F m2 (nI p) w 0 0 = _ := e4
        obtain ⟨-, -, hm1, -⟩ := id h1
        refine ⟨_, m', m3, rfl, ?_, ⟨D, C, h1.kept (s3.trans s4).sr⟩⟩
        rw [isP_in hm1.1.1 hT.2 hp, obs, if_neg (by decide), in_eq, if_neg w0, if_neg w4, obs, if_neg (by decide), e3, obs, e4']
      · have w4 : 3 < w := by rw [ltT]; rw [leT] at w3; omega
        rw [if_neg w3]
        refine ⟨-1, μ, μ, rfl, ?_, hR⟩
        rw [isP_in hm.1.1 hT.2 hp, obs, if_neg (by decide), in_eq, if_neg w0, if_pos w4, obs, if_pos rfl]
theorem op_wait {F : Nat} {μ : Mm} (hF : 1000 ≤ F) (h : Rel μ) (x w : Int32) : OK2 (fun μ => f_X9_wait F μ x w) (fun μ => f_X10_wait F μ x w) μ := by
  obtain ⟨D, C, h⟩ := id h
  have hR : Rel μ := ⟨D, C, h⟩
  obtain ⟨hv, hc, hm, -⟩ := id h
  have hT := hv.2.1
  rcases ix2 x (n := tT D) (by omega) with q | ⟨u, hu, rfl⟩
  · refine OK2.both hR (r := -1) ?_ ?_
    · show f_X9_wait F μ x w = _
      unfold f_X9_wait; rw [hasTask_out hc.1.2.1 q, obs, if_pos rfl]
    · show f_X10_wait F μ x w = _
      unfold f_X10_wait; rw [isTask_out hm.1.2.1 hT.2 q, obs, if_pos rfl]
  · obtain ⟨p, hp, hp3, hu8, hh, c1, m1, hmt⟩ := h.task hu
    unfold OK2 f_X9_wait f_X10_wait
    simp only [hasTask_in hc.1.2.1 hT.2 hu, obs]
    rw [if_neg (by decide)]
    by_cases w0 : w < 0
    · rw [if_pos w0]
      refine ⟨-1, μ, μ, rfl, ?_, hR⟩
      rw [isTask_in hm.1.2.1 hT.2 hu, obs, if_neg (by decide), in_eq, if_pos w0, obs, if_pos rfl]
    · rw [if_neg w0]
      by_cases w3 : w ≤ 4
      · have w4 : ¬ 4 < w := by rw [ltT]; rw [leT] at w3; omega
        rw [if_pos w3, homeLane_in hu8 c1 hp3, obs, show 3 * 0 + p = p by omega]
        obtain ⟨hL, cL, -, -⟩ := h.lane hp3
        obtain ⟨m, e1, s1', r1⟩ := start_ok μ (hmD D p)
        obtain ⟨m', e2, s2⟩ := wait_c (w := w) (rk := tR D) hF (cL.sw s1') hL.2.1 r1 hu8 hmt (fun v hv => by rw [(s1' 702 0 v (by unfold wc; omega)).1]; exact (hc.2.1 v hv).2)
        have e2' : f_X9_wait_b44 F F m (nI u) w p 0 0 = _ := e2
        rw [e1, obs, e2']
        have h1 := h.kept (s1'.trans s2).sr
        obtain ⟨m2, e3, s3, r1, r2, r3, r4⟩ := h1.startsNow hF hp3
        obtain ⟨-, -, hm1, -⟩ := id h1
        obtain ⟨m3, e4, s4⟩ := wait_m (w := w) (rk := tR D) hF r4 hL.2.1 r1 r3 r2 hu8 (fun v hv => by rw [(s3 1006 0 v (by unfold sc; omega)).1]; exact (hm1.2.1 v hv).2)
        have e4' : f_X10_hung_b16 F F m2 (nI u) w 1 0 0 = _ := e4
        refine ⟨_, m', m3, rfl, ?_, ⟨D, C, h1.kept (s3.trans s4).sr⟩⟩
        rw [isTask_in hm1.1.2.1 hT.2 hu, obs, if_neg (by decide), in_eq, if_neg w0, if_neg w4, obs, if_neg (by decide)]
        unfold f_X10_hung
        rw [ra_in hu8 (by omega), obs, (hm1.2.1 u hu8).1, hh, e3, obs, e4', obs]
      · have w4 : 4 < w := by rw [ltT]; rw [leT] at w3; omega
        rw [if_neg w3]
        refine ⟨-1, μ, μ, rfl, ?_, hR⟩
        rw [isTask_in hm.1.2.1 hT.2 hu, obs, if_neg (by decide), in_eq, if_neg w0, if_pos w4, obs, if_pos rfl]
theorem op_held {F : Nat} {μ : Mm} (hF : 1000 ≤ F) (h : Rel μ) (x w : Int32) : OK2 (fun μ => f_X9_held F μ x w) (fun μ => f_X10_held F μ x w) μ := by
  obtain ⟨D, C, h⟩ := id h
  have hR : Rel μ := ⟨D, C, h⟩
  obtain ⟨hv, hc, hm, -⟩ := id h
  have hT := hv.2.1
  rcases ix2 x (n := tT D) (by omega) with q | ⟨u, hu, rfl⟩
  · refine OK2.both hR (r := -1) ?_ ?_
    · show f_X9_held F μ x w = _
      unfold f_X9_held; rw [hasTask_out hc.1.2.1 q, obs, if_pos rfl]
    · show f_X10_held F μ x w = _
      unfold f_X10_held; rw [isTask_out hm.1.2.1 hT.2 q, obs, if_pos rfl]
  · obtain ⟨p, hp, hp3, hu8, hh, c1, m1, hmt⟩ := h.task hu
    unfold OK2 f_X9_held f_X10_held
    simp only [hasTask_in hc.1.2.1 hT.2 hu, obs]
    rw [if_neg (by decide)]
    by_cases w0 : w < 0
    · rw [if_pos w0]
      refine ⟨-1, μ, μ, rfl, ?_, hR⟩
      rw [isTask_in hm.1.2.1 hT.2 hu, obs, if_neg (by decide), in_eq, if_pos w0, obs, if_pos rfl]
    · rw [if_neg w0]
      by_cases w3 : w ≤ 6
      · have w4 : ¬ 6 < w := by rw [ltT]; rw [leT] at w3; omega
        rw [if_pos w3, homeLane_in hu8 c1 hp3, obs, show 3 * 0 + p = p by omega]
        obtain ⟨hL, cL, -, -⟩ := h.lane hp3
        obtain ⟨m, e1, s1', r1⟩ := start_ok μ (hmD D p)
        obtain ⟨m', e2, s2⟩ := held_c (w := w) (rk := tR D) hF (cL.sw s1') hL.2.1 r1 hu8 hmt (fun v hv => by rw [(s1' 702 0 v (by unfold wc; omega)).1]; exact (hc.2.1 v hv).2)
        have e2' : f_X9_held_b45 F F m (nI u) w p 0 0 = _ := e2
        rw [e1, obs, e2']
        have h1 := h.kept (s1'.trans s2).sr
        obtain ⟨m2, e3, s3, r1, r2, r3, r4⟩ := h1.startsNow hF hp3
        obtain ⟨-, -, hm1, -⟩ := id h1
        obtain ⟨m3, e4, s4⟩ := held_m (w := w) (rk := tR D) hF r4 hL.2.1 r1 r3 r2 hu8 (fun v hv => by rw [(s3 1006 0 v (by unfold sc; omega)).1]; exact (hm1.2.1 v hv).2)
        have e4' : f_X10_hung_b16 F F m2 (nI u) w 3 0 0 = _ := e4
        refine ⟨_, m', m3, rfl, ?_, ⟨D, C, h1.kept (s3.trans s4).sr⟩⟩
        rw [isTask_in hm1.1.2.1 hT.2 hu, obs, if_neg (by decide), in_eq, if_neg w0, if_neg w4, obs, if_neg (by decide)]
        unfold f_X10_hung
        rw [ra_in hu8 (by omega), obs, (hm1.2.1 u hu8).1, hh, e3, obs, e4', obs]
      · have w4 : 6 < w := by rw [ltT]; rw [leT] at w3; omega
        rw [if_neg w3]
        refine ⟨-1, μ, μ, rfl, ?_, hR⟩
        rw [isTask_in hm.1.2.1 hT.2 hu, obs, if_neg (by decide), in_eq, if_neg w0, if_pos w4, obs, if_pos rfl]
theorem op_chain {F : Nat} {μ : Mm} (hF : 1000 ≤ F) (h : Rel μ) (x : Int32) : OK2 (fun μ => f_X9_chain F μ x) (fun μ => f_X10_chain F μ x) μ := by
  obtain ⟨D, C, h⟩ := id h
  have hR : Rel μ := ⟨D, C, h⟩
  obtain ⟨hv, hc, hm, -⟩ := id h
  have hT := hv.2.1
  rcases ix2 x (n := tT D) (by omega) with q | ⟨u, hu, rfl⟩
  · refine OK2.both hR (r := -1) ?_ ?_
    · show f_X9_chain F μ x = _
      unfold f_X9_chain; rw [hasTask_out hc.1.2.1 q, obs, if_pos rfl]
    · show f_X10_chain F μ x = _
      unfold f_X10_chain; rw [isTask_out hm.1.2.1 hT.2 q, obs, if_pos rfl]
  · obtain ⟨p, hp, hp3, hu8, hh, c1, m1, hmt⟩ := h.task hu
    unfold OK2 f_X9_chain f_X10_chain
    simp only [hasTask_in hc.1.2.1 hT.2 hu, obs]
    rw [if_neg (by decide), homeLane_in hu8 c1 hp3, obs, show 3 * 0 + p = p by omega]
    obtain ⟨hL, cL, -, -⟩ := h.lane hp3
    obtain ⟨m, e1, s1', r1⟩ := start_ok μ (hmD D p)
    obtain ⟨m', e2, s2⟩ := chn_c hF (cL.sw s1') hL.2.1 r1 hu8 hmt
    have e2' : f_X9_chain_b34 F F m (nI u) p 0 0 = _ := e2
    rw [e1, obs, e2']
    have h1 := h.kept (s1'.trans s2).sr
    obtain ⟨m2, e3, s3, r1, r2, r3, r4⟩ := h1.startsNow hF hp3
    obtain ⟨-, -, hm1, -⟩ := id h1
    obtain ⟨m3, e4, s4⟩ := chn_m hF r4 hL.2.1 r1 r3 r2 hu8
    have e4' : f_X10_chain_b24 F F m2 (nI u) 0 0 = _ := e4
    refine ⟨_, m', m3, rfl, ?_, ⟨D, C, h1.kept (s3.trans s4).sr⟩⟩
    rw [isTask_in hm1.1.2.1 hT.2 hu, obs, if_neg (by decide), ra_in hu8 (by omega), obs, (hm1.2.1 u hu8).1, hh, e3, obs, e4']
