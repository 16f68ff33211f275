theorem MT.g1 {μ μ' : Mm} {D : Tr} (h : MT μ D) (f : G1 μ μ') : MT μ' D := h.kept (fun k j z => f.1 _ _ _ (by omega) (by omega) (by omega) (by omega))
theorem CT.g2 {m m' : Mm} {D : Tr} (h : CT m 0 D) (f : G2 m m') : CT m' 0 D := h.kept (by omega) (fun k i j z => f.1 _ _ _ (by unfold sc; omega) (by omega) (by omega) (by omega))
theorem op_play {F : Nat} {μ : Mm} (hF : 1000 ≤ F) (h : Rel μ) (x i n p : Int32) : OK2 (fun μ => f_X9_play F μ x i n p) (fun μ => f_X10_play F μ x i n p) μ := by
  obtain ⟨D, C, h⟩ := id h
  have hR : Rel μ := ⟨D, C, h⟩
  obtain ⟨hv, hc, hm, -, -, hcn, h7⟩ := id h
  unfold OK2 f_X9_play f_X10_play
  dsimp only
  rcases isTape_c μ x with ⟨q1, q2⟩ | ⟨d, hd, rfl⟩
  · exact ⟨-1, μ, μ, by rw [q1, obs, if_pos rfl], by rw [q2, obs, if_pos rfl], hR⟩
  rw [isTape_in hd, obs, if_neg i10]
  rcases ix2 p (n := tP D) (by have := hv.1; omega) with q | ⟨pp, hp, rfl⟩
  · exact ⟨-1, μ, μ, by rw [hasP_out hc.1.1 q, obs, if_pos rfl], by rw [isTapeM_in hd, obs, if_neg i10, isP_out hm.1.1 hv.1.2 q, obs, if_pos rfl], hR⟩
  rw [hasP_in hc.1.1 hv.1.2 hp, obs, if_neg i10]
  rcases ix2 n (n := 21) (by omega) with q | ⟨w, hw, rfl⟩
  · refine ⟨-1, μ, μ, ?_, by rw [isTapeM_in hd, obs, if_neg i10, isP_in hm.1.1 hv.1.2 hp, obs, if_neg i10, show (20 : Int32) = nI 21 - 1 from by decide, in_out (by omega) q, obs, if_pos rfl], hR⟩
    rcases q with q | q
    · rw [if_pos q]
    · by_cases q0 : n < 0
      · rw [if_pos q0]
      · rw [if_neg q0, if_neg]
        rw [leT, show (nI 21).toInt = 21 from by decide] at q
        rw [leT, show (20 : Int32).toInt = 20 from by decide]; omega
  rw [if_neg (nN0 (by omega)), if_pos (by rw [show (20 : Int32) = nI 20 from rfl]; exact nle (by omega) (by omega) (by omega)), rq_in hd (by omega), obs]
  have mhead : ∀ m : Mm, (∀ k j, 1000 ≤ k → m.1 k 0 j = μ.1 k 0 j) → f_X10_play F m (nI d) i (nI w) (nI pp) = (if μ.1 1020 0 d = 0 then some (-11, wi m 1000 0 18 (m.1 1000 0 18 + 1)) else if μ.1 1020 0 d = 3 then f_X10_play_b64 F F m (nI d) i (nI w) (nI pp) 0 else some (-12, wi m 1000 0 18 (m.1 1000 0 18 + 1))) := fun m hq => by
    have e1 : m.1 1000 0 1 = nI (tP D) := by rw [hq _ _ (by omega)]; exact hm.1.1
    unfold f_X10_play
    rw [isTapeM_in hd, obs, if_neg i10, isP_in e1 hv.1.2 hp, obs, if_neg i10, show (20 : Int32) = nI 21 - 1 from by decide, in_in (by omega) hw, obs, if_neg i10, ra_in hd (by omega), obs, obs, hq _ _ (by omega), refuse_m, refuse_m]
    rfl
  obtain ⟨s, s0, t1, t2, t3, -⟩ := h7 d hd
  rw [t1]
  by_cases z0 : nI s = 0
  · rw [if_pos z0, refuse_c, obs]
    refine ⟨-11, _, _, rfl, ?_, D, C, h.refuse⟩
    have := mhead (wi μ 900 0 10 (μ.1 900 0 10 + 1)) (fun k j hk => wi9 _ _ _ _ _ hk)
    unfold f_X10_play at this
    rw [this, t2, if_pos z0, wi9 _ _ _ _ _ (by omega)]
  rw [if_neg z0]
  by_cases z3 : nI s = 3
  · have hs3 : s = 3 := (eqN (b := 3) (by omega) (by omega)).mp z3
    subst hs3
    obtain ⟨sz, n1, n2, n3, n4⟩ := t3 (by omega) (by omega)
    clear t3
    rw [if_pos z3]
    have rwc : RwC μ d sz (μ.2 601 d) := ⟨n2, fun _ _ => rfl⟩
    -- both loops end alike: what the relation asks then
    have fin : ∀ r D' dr dh μ1 m1, TV D' → (tP D' = tP D ∧ tT D' = tT D ∧ tW D' = tW D ∧ tH D' = tH D ∧ tR D' = tR D) → CT μ1 0 D' → G1 μ μ1 → μ1.1 900 0 9 = μ.1 900 0 9 + dr → μ1.1 900 0 10 = μ.1 900 0 10 + dh → f_X9_play_b77 F F μ (nI w) (nI pp) d i.toInt64 0 = some (r, μ1) → f_X10_play_b64 F F μ1 (nI d) i (nI w) (nI pp) 0 = some (r, m1) → MT m1 D' → G2 μ1 m1 → m1.1 1000 0 17 = μ1.1 1000 0 17 + dr → m1.1 1000 0 18 = μ1.1 1000 0 18 + dh → ∃ r μ1 μ2, f_X9_play_b77 F F μ (nI w) (nI pp) d i.toInt64 0 = some (r, μ1) ∧ f_X10_play F μ1 (nI d) i (nI w) (nI pp) = some (r, μ2) ∧ Rel μ2 := by
      intro r D' dr dh μ1 m1 hv' hs' c1 g1 x1 x2 e1 e2 mt g2 x3 x4
      refine ⟨r, μ1, m1, e1, ?_, D', C, h.step hv' hs' (c1.g2 g2) mt ⟨?_, ?_⟩ (fun k i j y1 y2 y3 y4 y5 => ?_) (fun k i j y1 y2 y3 y4 y5 => ?_) (fun k i j z => by rw [g2.2 _ _ _ z, g1.2 _ _ _ z])⟩
      · rw [mhead μ1 (fun k j hk => g1.1 _ _ _ (by omega) (by omega) (by omega) (by omega)), t2, if_neg z0, if_pos z3, e2]
      · rw [g2.1 _ _ _ (by unfold sc; omega) (by omega) (by omega) (by omega), x1, x3, g1.1 _ _ _ (by omega) (by omega) (by omega) (by omega), hcn.1]
      · rw [g2.1 _ _ _ (by unfold sc; omega) (by omega) (by omega) (by omega), x2, x4, g1.1 _ _ _ (by omega) (by omega) (by omega) (by omega), hcn.2]
      · rw [g2.1 _ _ _ (by unfold sc; omega) (by omega) (by omega) (by omega), g1.1 _ _ _ y2 y3 y4 y5]
      · rw [g2.1 _ _ _ y2 y3 y4 y5, g1.1 _ _ _ (by omega) (by omega) (by omega) (by omega)]
    rcases ix2 i (n := 101) (by omega) with q | ⟨a, ha, rfl⟩
    · -- a place outside
      have hi : i.toInt < 0 ∨ 101 ≤ i.toInt := by
        rw [ltT, leT, show (nI 101).toInt = 101 from by decide, show (0 : Int32).toInt = 0 from by decide] at q; exact q
      have hb := i32b i
      obtain ⟨N, hN⟩ : ∃ N, F = N + 1 := ⟨F - 1, by omega⟩
      by_cases w0 : w = 0
      · subst w0
        refine fin (nI 0) D 0 0 μ μ hv ⟨rfl, rfl, rfl, rfl, rfl⟩ hc ⟨fun _ _ _ _ _ _ _ => rfl, fun _ _ _ _ => rfl⟩ (add0 _).symm (add0 _).symm ?_ ?_ hm ⟨fun _ _ _ _ _ _ _ => rfl, fun _ _ _ _ => rfl⟩ (add0 _).symm (add0 _).symm
        · conv => lhs; rw [show F = N + 1 from hN]
          rw [f_X9_play_b77, if_pos (by decide)]
        · conv => lhs; rw [show F = N + 1 from hN]
          rw [f_X10_play_b64, if_pos (by decide)]
      · have nw : ¬ nI w ≤ 0 := by rw [show (0 : Int32) = nI 0 from rfl]; exact ngt (by omega) (by omega) (by omega)
        refine fin (-13) D 0 1 (wi μ 900 0 10 (μ.1 900 0 10 + 1)) (wi (wi μ 900 0 10 (μ.1 900 0 10 + 1)) 1000 0 18 ((wi μ 900 0 10 (μ.1 900 0 10 + 1)).1 1000 0 18 + 1)) hv ⟨rfl, rfl, rfl, rfl, rfl⟩ (hc.kept (by omega) (fun k i j z => by rw [wi_at, if_neg (by omega)])) ⟨fun k i j _ _ _ z => by rw [wi_at, if_neg (by omega)], fun _ _ _ _ => rfl⟩ (by rw [wi_at, if_neg (by omega), add0]) (by rw [wi_at, if_pos ⟨rfl, rfl, rfl⟩]) ?_ ?_ (hm.kept (fun k j z => by rw [wi_at, if_neg (by omega), wi_at, if_neg (by omega)])) ⟨fun k i j _ _ _ z => by rw [wi_at, if_neg (by omega)], fun _ _ _ _ => rfl⟩ (by rw [wi_at, if_neg (by omega), add0]) (by rw [wi_at, if_pos ⟨rfl, rfl, rfl⟩])
        · conv => lhs; rw [show F = N + 1 from hN]
          rw [f_X9_play_b77, if_neg nw, hasPl (by rw [t64]; omega), n2, t64, nIT (by omega), show (4 : Int32).toInt = 4 from by decide, if_neg (by omega), obs, if_pos rfl, refuse_c, obs]
        · have isn : f_X10_isIn (wi μ 900 0 10 (μ.1 900 0 10 + 1)) (nI d) i = some 0 := by
            unfold f_X10_isIn
            rw [ra_in hd (by omega), obs, wi9 _ _ _ _ _ (by omega), n3, in_out (by omega), obs]
            · rfl
            · rw [ltT, leT, nIT (by omega), show (0 : Int32).toInt = 0 from by decide]; omega
          have e0 : i + (5 : Int32) * 0 + 0 = i := by grind
          conv => lhs; rw [show F = N + 1 from hN]
          rw [f_X10_play_b64, if_neg nw, f_X10_play_b73, if_neg (by decide), e0, isn, obs, if_pos rfl, refuse_m, obs]
    · obtain ⟨r, D', dr, dh, hv', hs', ic, im⟩ := play_loop (F := F) (d := d) (n := sz) (a := a) (w := w) (R := μ.2 601 d) (nI pp) hF hd n1 (by omega) (by omega) w 0 D (by omega) hv
      obtain ⟨μ1, e1, c1, g1, x1, x2⟩ := ic μ F (nI a).toInt64 (by omega) (by rw [t64, nIT (by omega)]; omega) hc rwc
      have rwm : RwM μ1 d sz (μ.2 601 d) := ⟨by rw [g1.1 _ _ _ (by omega) (by omega) (by omega) (by omega)]; exact n3, fun j hj => by rw [g1.2 _ _ _ (by omega)]; exact (n4 j hj).symm⟩
      obtain ⟨m1, e2, mt, g2, x3, x4⟩ := im μ1 F (by omega) (hm.g1 g1) rwm
      exact fin r D' dr dh μ1 m1 hv' hs' c1 g1 x1 x2 e1 e2 mt g2 x3 x4
  · rw [if_neg z3, refuse_c, obs]
    refine ⟨-12, _, _, rfl, ?_, D, C, h.refuse⟩
    have := mhead (wi μ 900 0 10 (μ.1 900 0 10 + 1)) (fun k j hk => wi9 _ _ _ _ _ hk)
    unfold f_X10_play at this
    rw [this, t2, if_neg z0, if_neg z3, wi9 _ _ _ _ _ (by omega)]
