/-! CALLS: breaks, broken -/
theorem find_sr {F : Nat} {m m' : Mm} {x : Int32} (e : f_X9_findBreaks F m x = some m') : SR m m' := fun k i j h => by unfold scr at h; exact (fr_X9_findBreaks (by omega) (by omega) (by omega) (by omega) (by omega) (by omega) (by omega) (by omega) (by omega) (by omega) (by omega) e)
theorem judges_sr {F : Nat} {m m' : Mm} {x : Int32} (e : f_X10_judges F m x = some m') : SR m m' := fun k i j h => by unfold scr at h; exact (fr_X10_judges (by omega) (by omega) (by omega) (by omega) (by omega) (by omega) (by omega) (by omega) (by omega) (by omega) (by omega) (by omega) (by omega) e)
theorem hasLaw_in {μ : Mm} {n l : Nat} (h : μ.1 300 0 4 = nI n) (hn : n ≤ 8) (hl : l < n) : f_X3_has μ (nI l) = some 1 := by
  unfold f_X3_has; rw [if_neg (nN0 (by omega)), h, if_neg (ngt (by omega) (by omega) hl), if_neg (n8 (by omega))]
theorem hasLaw_out {μ : Mm} {n : Nat} {x : Int32} (h : μ.1 300 0 4 = nI n) (hx : x < 0 ∨ nI n ≤ x) : f_X3_has μ x = some 0 := by
  unfold f_X3_has
  rcases hx with q | q
  · rw [if_pos q]
  · rw [h]; split
    · rfl
    · first | rfl | rw [if_pos q]
def LWl (μ : Mm) (D : Tr) (l : Nat) : Prop := (μ.1 301 0 l = μ.1 1014 0 l ∧ μ.1 302 0 l = μ.1 1015 0 l ∧ μ.1 303 0 l = μ.1 1016 0 l ∧ μ.1 304 0 l = μ.1 1017 0 l)
  ∧ ((μ.1 301 0 l = 0 ∧ ∃ u, u < tT D ∧ μ.1 302 0 l = nI u) ∨ (μ.1 301 0 l = 1 ∧ (∃ p, p < tP D ∧ μ.1 302 0 l = nI p) ∧ ∃ b, b < 4 ∧ μ.1 303 0 l = nI b) ∨ (μ.1 301 0 l = 2 ∧ ∃ u, u < tT D ∧ μ.1 302 0 l = nI u) ∨ (μ.1 301 0 l = 3 ∧ ∃ p, p < tP D ∧ μ.1 302 0 l = nI p)) ∧ ¬ μ.1 304 0 l < 0
/-- what is written down where laws are judged from the start -/
theorem forget_ok (μ : Mm) : ∃ m0, f_X0_forget μ = some m0 ∧ SR μ m0 ∧ CB m0 ([], []) := by
  refine ⟨wi (wi μ 0 0 2 0) 0 0 3 0, rfl, fun k i j a => ⟨?_, rfl⟩, ⟨?_, fun i v e => absurd e (by simp)⟩, ?_, fun i v e => absurd e (by simp)⟩
  · unfold scr at a; rw [wi_at, if_neg (by omega), wi_at, if_neg (by omega)]
  · rw [wi_at, if_neg (by omega), wi_at, if_pos ⟨rfl, rfl, rfl⟩]; rfl
  · rw [wi_at, if_pos ⟨rfl, rfl, rfl⟩]; rfl
theorem forgetM (m : Mm) : ∃ m1, m1 = wi (wi m 1000 0 41 0) 1000 0 42 0 ∧ SR m m1 ∧ MB m1 ([], []) := by
  refine ⟨_, rfl, fun k i j a => ⟨?_, rfl⟩, ⟨?_, fun i v e => absurd e (by simp)⟩, ?_, fun i v e => absurd e (by simp)⟩
  · unfold scr at a; rw [wi_at, if_neg (by omega), wi_at, if_neg (by omega)]
  · rw [wi_at, if_neg (by omega), wi_at, if_pos ⟨rfl, rfl, rfl⟩]; rfl
  · rw [wi_at, if_pos ⟨rfl, rfl, rfl⟩]; rfl
theorem both_breaks {F n l : Nat} {μ : Mm} {D : Tr} {C : Nat → Tr} (hF : 1000 ≤ F) (h : Rl μ D C) (h1 : n ≤ 8) (h2 : μ.1 300 0 4 = nI n) (hl : l < n) (h4 : LWl μ D l) :
    ∃ B μ1, f_X9_findBreaks F μ (nI l) = some μ1 ∧ CB μ1 B ∧ B.1.length + B.2.length ≤ 200 ∧ ∀ m, SR μ m → ∃ μ2, f_X10_judges F m (nI l) = some μ2 ∧ MB μ2 B := by
  obtain ⟨⟨q1, q2, q3, q4⟩, q5, q6⟩ := h4
  have hv : TV D := h.1
  have hT := hv.2.1
  have hP := hv.1
  have c : ∀ m, SR μ m → (m.1 301 0 l = μ.1 301 0 l ∧ m.1 302 0 l = μ.1 302 0 l ∧ m.1 303 0 l = μ.1 303 0 l ∧ m.1 304 0 l = μ.1 304 0 l) ∧ (m.1 1014 0 l = μ.1 301 0 l ∧ m.1 1015 0 l = μ.1 302 0 l ∧ m.1 1016 0 l = μ.1 303 0 l ∧ m.1 1017 0 l = μ.1 304 0 l) ∧ m.1 300 0 4 = nI n := fun m s => by
    have g : ∀ k j, (300 ≤ k ∧ k ≤ 304) ∨ (1014 ≤ k ∧ k ≤ 1017) → m.1 k 0 j = μ.1 k 0 j := fun k j a => (s k 0 j (by unfold scr; omega)).1
    rw [g 301 _ (by omega), g 302 _ (by omega), g 303 _ (by omega), g 304 _ (by omega), g 1014 _ (by omega), g 1015 _ (by omega), g 1016 _ (by omega), g 1017 _ (by omega), g 300 _ (by omega)]
    exact ⟨⟨rfl, rfl, rfl, rfl⟩, ⟨q1.symm, q2.symm, q3.symm, q4.symm⟩, h2⟩
  obtain ⟨m0, e0, s0, b0⟩ := forget_ok μ
  have h0 : Rl m0 D C := h.kept s0
  obtain ⟨⟨c1, c2, c3, c4⟩, -, c5⟩ := c m0 s0
  have hl8 : l < 8 := by omega
  -- both sides, up to the kind of the law
  have fc : f_X9_findBreaks F μ (nI l) = (if μ.1 301 0 l = 0 then (f_X7_homeLane m0 0 (μ.1 302 0 l)).bind fun q43 => (f_X0_judgeBlocks F m0 q43 (μ.1 302 0 l) (μ.1 304 0 l)).bind fun q45 => some q45
      else if μ.1 301 0 l = 1 then (f_X7_laneOf m0 0 (μ.1 302 0 l)).bind fun q47 => (f_X0_judgeLocks F m0 q47 (μ.1 303 0 l) (μ.1 304 0 l)).bind fun q51 => some q51
      else if μ.1 301 0 l = 2 then (f_X7_homeLane m0 0 (μ.1 302 0 l)).bind fun q53 => (f_X0_judgeApart F m0 q53 (μ.1 302 0 l) (μ.1 304 0 l)).bind fun q55 => some q55
      else (f_X7_laneOf m0 0 (μ.1 302 0 l)).bind fun q39 => (f_X0_judgeIdle F m0 q39).bind fun q41 => some q41) := by
    unfold f_X9_findBreaks
    rw [e0, obs, hasLaw_in c5 h1 hl, obs, if_neg i10, ra_in hl8 (by omega), obs, ra_in hl8 (by omega), obs, ra_in hl8 (by omega), obs, c1, c2, c4, ra_in hl8 (by omega), c3]; rfl
  have fm : ∀ m, SR μ m → ∃ m1, SR μ m1 ∧ MB m1 ([], []) ∧ f_X10_judges F m (nI l) = (if μ.1 301 0 l = 0 then (ra m1 1005 0 8 (μ.1 302 0 l)).bind fun v69 => (f_X10_startsNow F m1 v69).bind fun q71 => f_X10_judges_b69 F F q71 (μ.1 302 0 l) (μ.1 304 0 l) 0
      else if μ.1 301 0 l = 1 then (f_X10_startsNow F m1 (μ.1 302 0 l)).bind fun q73 => f_X10_judges_b122 F F q73 (nI l) (μ.1 304 0 l) 0
      else if μ.1 301 0 l = 2 then (ra m1 1005 0 8 (μ.1 302 0 l)).bind fun v75 => (f_X10_startsNow F m1 v75).bind fun q77 => (f_X10_follows F q77 (μ.1 302 0 l) (μ.1 304 0 l)).bind fun q79 => some q79
      else (f_X10_rests F m1 (μ.1 302 0 l)).bind fun q67 => some q67) := fun m s => by
    obtain ⟨m1, e1, s1', b1⟩ := forgetM m
    have s2 := s.trans s1'
    obtain ⟨-, ⟨d1, d2, d3, d4⟩, -⟩ := c m1 s2
    refine ⟨m1, s2, b1, ?_⟩
    unfold f_X10_judges
    rw [wf_eq, obs, wf_eq, obs, ← e1, ra_in hl8 (by omega), obs, ra_in hl8 (by omega), obs, ra_in hl8 (by omega), obs, d1, d2, d4]
  have home : ∀ (m : Mm) (u p : Nat), Rl m D C → u < 8 → tH D u = nI p → m.1 701 0 u = nI p ∧ m.1 1005 0 u = nI p := fun m u p hr hu e => ⟨by rw [(hr.2.1.2.1 u hu).1]; exact e, by rw [(hr.2.2.1.2.1 u hu).1]; exact e⟩
  rcases q5 with ⟨k, u, hu, eu⟩ | ⟨k, ⟨p, hp, ep⟩, b, hb, eb⟩ | ⟨k, u, hu, eu⟩ | ⟨k, p, hp, ep⟩
  · obtain ⟨p, hp, hp3, hu8, eH, -⟩ := h.task hu
    obtain ⟨hV, hL, -, -⟩ := h0.lane hp3
    obtain ⟨μ1, f1, f2⟩ := blocks_c (u := u) (d := μ.1 304 0 l) hF hL b0
    have hb := bkS_le (tL D p) u (μ.1 304 0 l) (zn (tL D p))
    have hn := hV.1
    refine ⟨bkS (tL D p) u (μ.1 304 0 l) (zn (tL D p)), μ1, ?_, f2, by omega, fun m s => ?_⟩
    · rw [fc, if_pos k, eu, homeLane_in hu8 (home m0 u p h0 hu8 eH).1 hp3, obs, show 3 * 0 + p = p by omega, f1, obs]
    · obtain ⟨m1, s1', b1, e⟩ := fm m s
      have r1 : Rl m1 D C := h.kept s1'
      obtain ⟨m2, e2, s2, -, t2, -, M2⟩ := r1.startsNow hF hp3
      obtain ⟨μ2, g1, g2⟩ := blocks_m (u := u) (d := μ.1 304 0 l) hF M2 t2 hu8 (b1.sm s2)
      exact ⟨μ2, by rw [e, if_pos k, eu, ra_in hu8 (by omega), obs, (home m1 u p r1 hu8 eH).2, e2, obs]; exact g1, g2⟩
  · have hp3 : p < 3 := by omega
    have k0 : ¬ μ.1 301 0 l = 0 := by rw [k]; decide
    obtain ⟨hV, hL, -, -⟩ := h0.lane hp3
    obtain ⟨μ1, f1, f2⟩ := locks_c (x := nI b) (d := μ.1 304 0 l) hF hL b0
    have hb' := lkS_le (tL D p) (nI b) (μ.1 304 0 l) (zn (tL D p))
    have hn := hV.1
    refine ⟨lkS (tL D p) (nI b) (μ.1 304 0 l) (zn (tL D p)), μ1, ?_, f2, by omega, fun m s => ?_⟩
    · rw [fc, if_neg k0, if_pos k, ep, laneOf_in hp3, obs, show 3 * 0 + p = p by omega, eb, f1, obs]
    · obtain ⟨m1, s1', b1, e⟩ := fm m s
      have r1 : Rl m1 D C := h.kept s1'
      obtain ⟨m2, e2, s2, -, t2, -, M2⟩ := r1.startsNow hF hp3
      have d3 : m2.1 1016 0 l = nI b := by rw [(s2 1016 0 l (by unfold sc; omega)).1, (c m1 s1').2.1.2.2.1]; exact eb
      obtain ⟨μ2, g1, g2⟩ := locks_m (x := nI b) (d := μ.1 304 0 l) hF M2 t2 hl8 (nn1 (by omega)) d3 (b1.sm s2)
      exact ⟨μ2, by rw [e, if_neg k0, if_pos k, ep, e2, obs]; exact g1, g2⟩
  · have k0 : ¬ μ.1 301 0 l = 0 := by rw [k]; decide
    have k1 : ¬ μ.1 301 0 l = 1 := by rw [k]; decide
    obtain ⟨p, hp, hp3, hu8, eH, -⟩ := h.task hu
    obtain ⟨hV, hL, -, -⟩ := h0.lane hp3
    obtain ⟨μ1, f1, f2⟩ := apart_c (u := u) (d := μ.1 304 0 l) hF hL b0
    have hb := apS_le (tL D p) u (μ.1 304 0 l) (zn (tL D p))
    have hb1 := hb.1
    have hn := hV.1
    refine ⟨(apS (tL D p) u (μ.1 304 0 l) (zn (tL D p))).2.2, μ1, ?_, f2, by clear hb; omega, fun m s => ?_⟩
    · rw [fc, if_neg k0, if_neg k1, if_pos k, eu, homeLane_in hu8 (home m0 u p h0 hu8 eH).1 hp3, obs, show 3 * 0 + p = p by omega, f1, obs]
    · obtain ⟨m1, s1', b1, e⟩ := fm m s
      have r1 : Rl m1 D C := h.kept s1'
      obtain ⟨m2, e2, s2, -, t2, -, M2⟩ := r1.startsNow hF hp3
      obtain ⟨μ2, g1, g2⟩ := apart_m (u := u) (d := μ.1 304 0 l) hF M2 t2 hu8 (b1.sm s2)
      exact ⟨μ2, by rw [e, if_neg k0, if_neg k1, if_pos k, eu, ra_in hu8 (by omega), obs, (home m1 u p r1 hu8 eH).2, e2, obs, g1, obs], g2⟩
  · have hp3 : p < 3 := by omega
    have k0 : ¬ μ.1 301 0 l = 0 := by rw [k]; decide
    have k1 : ¬ μ.1 301 0 l = 1 := by rw [k]; decide
    have k2 : ¬ μ.1 301 0 l = 2 := by rw [k]; decide
    obtain ⟨hV, hL, -, -⟩ := h0.lane hp3
    obtain ⟨μ1, f1, f2⟩ := idle_c hF hL hV b0
    have hb' := idl_le (hmD D p) (tL D p) (zn (tL D p) - 1)
    have hn := hV.1
    refine ⟨(idl (hmD D p) (tL D p) (zn (tL D p) - 1), []), μ1, ?_, f2, by show (idl (hmD D p) (tL D p) (zn (tL D p) - 1)).length + 0 ≤ 200; omega, fun m s => ?_⟩
    · rw [fc, if_neg k0, if_neg k1, if_neg k2, ep, laneOf_in hp3, obs, show 3 * 0 + p = p by omega, f1, obs]
    · obtain ⟨m1, s1', b1, e⟩ := fm m s
      have r1 : Rl m1 D C := h.kept s1'
      obtain ⟨μ2, g1, g2⟩ := idle_m hF r1 hp3 b1
      exact ⟨μ2, by rw [e, if_neg k0, if_neg k1, if_neg k2, ep, g1, obs], g2⟩
theorem op_breaks {F : Nat} {μ : Mm} (hF : 1000 ≤ F) (h : Rel μ) (x w : Int32) : OK2 (fun μ => f_X9_breaks F μ x w) (fun μ => f_X10_breaks F μ x w) μ := by
  obtain ⟨D, C, h⟩ := id h
  have hR : Rel μ := ⟨D, C, h⟩
  obtain ⟨n, h1, h2, h3, h4⟩ := h.2.2.2.2.1
  rcases ix2 x (n := n) (by omega) with q | ⟨l, hl, rfl⟩
  · refine OK2.both hR (r := -1) ?_ ?_
    · show f_X9_breaks F μ x w = _
      unfold f_X9_breaks; rw [hasLaw_out h2 q, obs, if_pos rfl]
    · show f_X10_breaks F μ x w = _
      unfold f_X10_breaks; rw [h3, in_out (by omega) q, obs, if_pos rfl]
  · rcases ix2 w (n := 2) (by omega) with q | ⟨k, hk, rfl⟩
    · refine OK2.both hR (r := -1) ?_ ?_
      · show f_X9_breaks F μ (nI l) w = _
        unfold f_X9_breaks; rw [hasLaw_in h2 h1 hl, obs, if_neg i10]
        rcases q with q | q
        · rw [if_pos q]
        · by_cases z : w < 0
          · rw [if_pos z]
          · rw [if_neg z, if_neg]
            rw [leT, nIT (by omega)] at q
            rw [leT, show (1 : Int32).toInt = 1 from by decide]; omega
      · show f_X10_breaks F μ (nI l) w = _
        unfold f_X10_breaks; rw [h3, in_in (by omega) hl, obs, if_neg i10, show (1 : Int32) = nI 2 - 1 from by decide, in_out (by omega) q, obs, if_pos rfl]
    · obtain ⟨B, μ1, e1, c1, b1, hs⟩ := both_breaks hF h h1 h2 hl (h4 l hl)
      have s1' := find_sr e1
      obtain ⟨μ2, e2, c2⟩ := hs μ1 s1'
      have s2 := judges_sr e2
      have h31 : μ1.1 1000 0 12 = nI n := by rw [(s1' 1000 0 12 (by unfold scr; omega)).1]; exact h3
      have k1 : nI k ≤ 1 := by rw [show (1 : Int32) = nI 1 from rfl, leN (by omega) (by omega)]; omega
      refine ⟨if nI k = 0 then nI B.1.length else nI B.2.length, μ1, μ2, ?_, ?_, hR.kept (s1'.trans s2)⟩
      · show f_X9_breaks F μ (nI l) (nI k) = _
        unfold f_X9_breaks; rw [hasLaw_in h2 h1 hl, obs, if_neg i10, if_neg (nN0 (by omega)), if_pos k1, e1, obs, c1.1.1, c1.2.1]
        split <;> rfl
      · show f_X10_breaks F μ1 (nI l) (nI k) = _
        unfold f_X10_breaks; rw [h31, in_in (by omega) hl, obs, if_neg i10, show (1 : Int32) = nI 2 - 1 from by decide, in_in (by omega) hk, obs, if_neg (by decide), e2, obs, c2.1.1, c2.2.1]
        split <;> rfl
theorem rows_at {R : List Int32} {f : Nat → Int32} (h : ∀ (i : Nat) (v : Int32), R[i]? = some v → f i = v) {j : Nat} (hj : j < R.length) : (R[j]?).getD (-1) = f j := by
  rw [h j _ (List.getElem?_eq_getElem hj), List.getElem?_eq_getElem hj]; rfl
theorem row_out {R : List Int32} {x : Int32} (hl : R.length ≤ 1000) (q : x < 0 ∨ nI R.length ≤ x) : (if x < 0 then -1 else (R[x.toNatClampNeg]?).getD (-1)) = -1 := by
  by_cases z : x < 0
  · rw [if_pos z]
  · rw [if_neg z]
    rcases q with q | q
    · exact absurd q z
    · rw [leT, nIT (by omega)] at q
      rw [List.getElem?_eq_none (by rw [clT]; omega)]; rfl
theorem op_broken {F : Nat} {μ : Mm} (hF : 1000 ≤ F) (h : Rel μ) (x w y : Int32) : OK2 (fun μ => f_X9_broken F μ x w y) (fun μ => f_X10_broken F μ x w y) μ := by
  obtain ⟨D, C, h⟩ := id h
  have hR : Rel μ := ⟨D, C, h⟩
  obtain ⟨n, h1, h2, h3, h4⟩ := h.2.2.2.2.1
  rcases ix2 x (n := n) (by omega) with q | ⟨l, hl, rfl⟩
  · refine OK2.both hR (r := -1) ?_ ?_
    · show f_X9_broken F μ x w y = _
      unfold f_X9_broken; rw [hasLaw_out h2 q, obs, if_pos rfl]
    · show f_X10_broken F μ x w y = _
      unfold f_X10_broken; rw [h3, in_out (by omega) q, obs, if_pos rfl]
  · rcases ix2 w (n := 2) (by omega) with q | ⟨k, hk, rfl⟩
    · refine OK2.both hR (r := -1) ?_ ?_
      · show f_X9_broken F μ (nI l) w y = _
        unfold f_X9_broken; rw [hasLaw_in h2 h1 hl, obs, if_neg i10]
        rcases q with q | q
        · rw [if_pos q]
        · by_cases z : w < 0
          · rw [if_pos z]
          · rw [if_neg z, if_neg]
            rw [leT, nIT (by omega)] at q
            rw [leT, show (1 : Int32).toInt = 1 from by decide]; omega
      · show f_X10_broken F μ (nI l) w y = _
        unfold f_X10_broken; rw [h3, in_in (by omega) hl, obs, if_neg i10, show (1 : Int32) = nI 2 - 1 from by decide, in_out (by omega) q, obs, if_pos rfl]
    · obtain ⟨B, μ1, e1, c1, b1, hs⟩ := both_breaks hF h h1 h2 hl (h4 l hl)
      have s1' := find_sr e1
      obtain ⟨μ2, e2, c2⟩ := hs μ1 s1'
      have s2 := judges_sr e2
      have h31 : μ1.1 1000 0 12 = nI n := by rw [(s1' 1000 0 12 (by unfold scr; omega)).1]; exact h3
      have k1 : nI k ≤ 1 := by rw [show (1 : Int32) = nI 1 from rfl, leN (by omega) (by omega)]; omega
      refine ⟨if nI k = 0 then (if y < 0 then -1 else (B.1[y.toNatClampNeg]?).getD (-1)) else (if y < 0 then -1 else (B.2[y.toNatClampNeg]?).getD (-1)), μ1, μ2, ?_, ?_, hR.kept (s1'.trans s2)⟩
      · show f_X9_broken F μ (nI l) (nI k) y = _
        unfold f_X9_broken; rw [hasLaw_in h2 h1 hl, obs, if_neg i10, if_neg (nN0 (by omega)), if_pos k1, e1, obs, sureAt_ok c1 (by omega), obs, maybeAt_ok c1 (by omega), obs]
        by_cases z : nI k = 0
        · rw [if_pos z, if_pos z]
        · rw [if_neg z, if_neg z]
      · show f_X10_broken F μ1 (nI l) (nI k) y = _
        unfold f_X10_broken f_X10_broken_b47; rw [h31, in_in (by omega) hl, obs, if_neg i10, show f_X10_in μ1 (nI k) 0 1 = some 1 from in_in (n := 2) (by omega) hk, obs, if_neg i10, e2, obs, c2.1.1, c2.2.1]
        by_cases z : nI k = 0
        · rw [if_pos z, if_pos z, if_pos z]
          rcases ix2 y (n := B.1.length) (by omega) with q | ⟨j, hj, rfl⟩
          · rw [in_out (by omega) q, obs, if_pos rfl, row_out (by omega) q]
          · rw [in_in (by omega) hj, obs, if_neg i10, ra_in (by omega) (by omega), obs, if_neg (nN0 (by omega)), clN (by omega), rows_at c2.1.2 hj]
        · rw [if_neg z, if_neg z, if_neg z]
          rcases ix2 y (n := B.2.length) (by omega) with q | ⟨j, hj, rfl⟩
          · rw [in_out (by omega) q, obs, if_pos rfl, row_out (by omega) q]
          · rw [in_in (by omega) hj, obs, if_neg i10, ra_in (by omega) (by omega), obs, if_neg (nN0 (by omega)), clN (by omega), rows_at c2.2.2 hj]
