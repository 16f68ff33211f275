/-! CALLS: keep, from whatever the copy's cells held -/
theorem keep_ok {F d : Nat} {μ m0 : Mm} {D : Tr} {C : Nat → Tr} (hF : 1000 ≤ F) (hd : d < 6) (h : Rl μ D C) (q0 : ∀ k i j, ¬ tc (d + 1) k i → ¬ (k = 600 ∧ i = d ∧ j = 3) → m0.1 k i j = μ.1 k i j) (q1 : m0.2 = μ.2) (q3 : ¬ m0.1 600 d 3 = 0) : ∃ m1 r μ2, f_X7_become F m0 (d + 1) 0 = some m1 ∧ f_X7_allMarks F (wi m1 600 d 1 5) 0 = some r ∧ f_X10_keep F (wi m1 600 d 1 5) (nI d) = some (r, μ2) ∧ Rel μ2 := by
  obtain ⟨hv, hc, hm, h4, h5, h6, h7⟩ := id h
  have hc0 : CT m0 0 D := hc.kept (by omega) (fun k i j z => q0 _ _ _ (by unfold tc; omega) (by omega))
  obtain ⟨m1, f1, c1, c2, c3⟩ := become_ok (F := F) (t := d + 1) (a := 0) (μ := m0) hF (by omega) hv hc0
  have c3 : m1.2 = μ.2 := c3.trans q1
  have c4 : ∀ k i j, ¬ tc (d + 1) k i → ¬ (k = 600 ∧ i = d ∧ j = 3) → m1.1 k i j = μ.1 k i j := fun k i j a b => by rw [c2 _ _ _ a, q0 _ _ _ a b]
  have c5 : ¬ m1.1 600 d 3 = 0 := by rw [c2 _ _ _ (by unfold tc; omega)]; exact q3
  generalize hm2 : wi m1 600 d 1 5 = m2
  have d1 : ∀ k i j, ¬ (k = 600 ∧ i = d ∧ j = 1) → m2.1 k i j = m1.1 k i j := fun k i j a => by rw [← hm2, wi_at, if_neg a]
  have d2 : m2.1 600 d 1 = 5 := by rw [← hm2, wi_at, if_pos ⟨rfl, rfl, rfl⟩]
  have d3 : m2.2 = μ.2 := by rw [← hm2]; exact c3
  have d4 : ∀ k i j, ¬ tc (d + 1) k i → ¬ (k = 600 ∧ i = d ∧ (j = 1 ∨ j = 3)) → m2.1 k i j = μ.1 k i j := fun k i j a b => by rw [d1 _ _ _ (by omega), c4 _ _ _ a (by omega)]
  have ct0 : CT m2 0 D := hc.kept (by omega) (fun k i j z => d4 _ _ _ (by unfold tc; omega) (by omega))
  have ctd : CT m2 (d + 1) D := c1.kept (by omega) (fun k i j z => d1 _ _ _ (by omega))
  have km : ∀ k i j, 1000 ≤ k → m2.1 k i j = μ.1 k i j := fun k i j hk => d4 _ _ _ (by unfold tc; omega) (by omega)
  obtain ⟨⟨p1, p2, p3⟩, p4, p5⟩ := hm.kept (μ' := m2) (fun k j z => km _ _ _ (by omega))
  -- the reference
  generalize hm3 : wi (wi (wi (wi m2 1020 0 d 5) 1023 0 d (nI (tP D))) 1024 0 d (nI (tT D))) 1025 0 d (nI (tW D)) = m3
  have g1 : ∀ k i j, ¬ ((k = 1020 ∨ k = 1023 ∨ k = 1024 ∨ k = 1025) ∧ j = d) → m3.1 k i j = m2.1 k i j := fun k i j a => by
    rw [← hm3, wi_at, if_neg (by omega), wi_at, if_neg (by omega), wi_at, if_neg (by omega), wi_at, if_neg (by omega)]
  have g0 : m3.1 1020 0 d = 5 := by rw [← hm3, wi_at, if_neg (by omega), wi_at, if_neg (by omega), wi_at, if_neg (by omega), wi_at, if_pos ⟨rfl, rfl, rfl⟩]
  have g2 : m3.1 1023 0 d = nI (tP D) := by rw [← hm3, wi_at, if_neg (by omega), wi_at, if_neg (by omega), wi_at, if_pos ⟨rfl, rfl, rfl⟩]
  have g3 : m3.1 1024 0 d = nI (tT D) := by rw [← hm3, wi_at, if_neg (by omega), wi_at, if_pos ⟨rfl, rfl, rfl⟩]
  have g4 : m3.1 1025 0 d = nI (tW D) := by rw [← hm3, wi_at, if_pos ⟨rfl, rfl, rfl⟩]
  have g5 : m3.2 = m2.2 := by rw [← hm3]; rfl
  obtain ⟨m4, l1, i1, i2, i3⟩ := loop_inv (fun N m x => f_X10_keep_b48 F N m (nI d) x) (fun m => f_X10_keep_b96 F F m (nI d) 0) 8 (fun l m => (∀ o, o < l → m.1 1026 0 (8 * d + o) = tH D o ∧ m.1 1027 0 (8 * d + o) = tR D o) ∧ m.2 = m3.2 ∧ ∀ k z o, ¬ (1026 ≤ k ∧ k ≤ 1027 ∧ 8 * d ≤ o ∧ o < 8 * d + 8) → m.1 k z o = m3.1 k z o) (by
      intro N m l hl ⟨i1, i2, i3⟩
      show ∃ s', f_X10_keep_b48 F (N + 1) m (nI d) (nI l) = f_X10_keep_b48 F N s' (nI d) (nI (l + 1)) ∧ _
      have z1 : m.1 1005 0 l = tH D l := by rw [i3 _ _ _ (by omega), g1 _ _ _ (by omega)]; exact (p4 l hl).1
      have z2 : m.1 1006 0 l = tR D l := by rw [i3 _ _ _ (by omega), g1 _ _ _ (by omega)]; exact (p4 l hl).2
      rw [f_X10_keep_b48, if_neg (n8 hl), show (8 : Int32) = nI 8 from rfl, pk_mul, nI_add, ra_in (by omega) (by omega), obs, z1, wa_in (by omega) (by omega), obs, ra_in (by omega) (by omega), obs, wi_at, if_neg (by omega), z2, wa_in (by omega) (by omega), obs, s1]
      refine ⟨_, rfl, fun o ho => ?_, i2, fun k z o hk => ?_⟩
      · by_cases eo : o = l
        · refine ⟨?_, ?_⟩
          · rw [wi_at, if_neg (by omega), wi_at, if_pos ⟨rfl, rfl, by omega⟩, eo]
          · rw [wi_at, if_pos ⟨rfl, rfl, by omega⟩, eo]
        · rw [wi_at, if_neg (by omega), wi_at, if_neg (by omega), wi_at, if_neg (by omega), wi_at, if_neg (by omega)]
          exact i1 o (by omega)
      · rw [wi_at, if_neg (by omega), wi_at, if_neg (by omega)]; exact i3 k z o hk) (by
      intro N m _
      show f_X10_keep_b48 F (N + 1) m (nI d) (nI 8) = _
      rw [f_X10_keep_b48, if_pos (by decide)]) F 0 m3 (by omega) (by omega) ⟨fun o ho => by omega, rfl, fun _ _ _ _ => rfl⟩
  have l1' : f_X10_keep_b48 F F m3 (nI d) 0 = f_X10_keep_b96 F F m4 (nI d) 0 := l1
  have k4 : ∀ k i j, k < 1020 → m4.1 k i j = m2.1 k i j := fun k i j a => by rw [i3 _ _ _ (by omega), g1 _ _ _ (by omega)]
  have lv := hv.2.2.2.2.2.1
  obtain ⟨n0, u0, v0, w0, x0⟩ := moves_ok (o := 3 + 3 * d + 0) (g := 0) hF (by omega) (by omega) ((p5 0 (by omega)).kept2 (μ' := m4) (fun k j a b => k4 _ _ _ (by omega))) (lv 0 (by omega))
  obtain ⟨n1, u1, v1, w1, x1⟩ := moves_ok (o := 3 + 3 * d + 1) (g := 1) (μ := n0) hF (by omega) (by omega) ((p5 1 (by omega)).kept3 (by rw [w0 _ _ _ (by unfold lc; omega), k4 _ _ _ (by omega)]) (fun k j a b e f => by rw [w0 _ _ _ (by unfold lc; omega), k4 _ _ _ (by omega)])) (lv 1 (by omega))
  obtain ⟨n2, u2, v2, w2, x2⟩ := moves_ok (o := 3 + 3 * d + 2) (g := 2) (μ := n1) hF (by omega) (by omega) ((p5 2 (by omega)).kept3 (by rw [w1 _ _ _ (by unfold lc; omega), w0 _ _ _ (by unfold lc; omega), k4 _ _ _ (by omega)]) (fun k j a b e f => by rw [w1 _ _ _ (by unfold lc; omega), w0 _ _ _ (by unfold lc; omega), k4 _ _ _ (by omega)])) (lv 2 (by omega))
  have kn : ∀ k i j, ¬ ((k = 1008 ∧ 3 + 3 * d ≤ j ∧ j < 6 + 3 * d) ∨ (1009 ≤ k ∧ k ≤ 1012 ∧ 600 * d + 600 ≤ j ∧ j < 600 * d + 1200)) → n2.1 k i j = m4.1 k i j := fun k i j q => by rw [w2 _ _ _ (by unfold lc; omega), w1 _ _ _ (by unfold lc; omega), w0 _ _ _ (by unfold lc; omega)]
  have b96 : f_X10_keep_b96 F F m4 (nI d) 0 = (f_X10_all n2).bind fun q23 => some (q23, n2) := by
    obtain ⟨N, rfl⟩ : ∃ N, F = N + 4 := ⟨F - 4, by omega⟩
    rw [show (0 : Int32) = nI 0 from rfl, f_X10_keep_b96, if_neg (by decide), show (3 : Int32) = nI 3 from rfl, pk_mul, nI_add, nI_add, u0, obs, s1, f_X10_keep_b96, if_neg (by decide), show (3 : Int32) = nI 3 from rfl, pk_mul, nI_add, nI_add, u1, obs, s1, f_X10_keep_b96, if_neg (by decide), show (3 : Int32) = nI 3 from rfl, pk_mul, nI_add, nI_add, u2, obs, s1, f_X10_keep_b96, if_pos (by decide)]
  have z6 : n2.2 = μ.2 := by rw [x2, x1, x0, i2, g5, d3]
  have mt : MT n2 D := by
    refine ⟨⟨?_, ?_, ?_⟩, fun u hu => ?_, fun p hp => (p5 p hp).kept3 (by rw [kn _ _ _ (by omega), k4 _ _ _ (by omega)]) (fun k j a b e f => by rw [kn _ _ _ (by omega), k4 _ _ _ (by omega)])⟩
    · rw [kn _ _ _ (by omega), k4 _ _ _ (by omega)]; exact p1
    · rw [kn _ _ _ (by omega), k4 _ _ _ (by omega)]; exact p2
    · rw [kn _ _ _ (by omega), k4 _ _ _ (by omega)]; exact p3
    · rw [kn _ _ _ (by omega), k4 _ _ _ (by omega), kn _ _ _ (by omega), k4 _ _ _ (by omega)]; exact p4 u hu
  rw [all_m (mt.2.2 0 (by omega)).2.2.1 (mt.2.2 1 (by omega)).2.2.1 (mt.2.2 2 (by omega)).2.2.1, obs] at b96
  have mc : MC n2 d D := by
    refine ⟨⟨?_, ?_, ?_⟩, fun u hu => ?_, fun p hp => ?_⟩
    · rw [kn _ _ _ (by omega), i3 _ _ _ (by omega)]; exact g2
    · rw [kn _ _ _ (by omega), i3 _ _ _ (by omega)]; exact g3
    · rw [kn _ _ _ (by omega), i3 _ _ _ (by omega)]; exact g4
    · rw [kn _ _ _ (by omega), kn _ _ _ (by omega)]; exact i1 u hu
    · rcases (show p = 0 ∨ p = 1 ∨ p = 2 by omega) with rfl | rfl | rfl
      · exact v0.kept3 (by rw [w2 _ _ _ (by unfold lc; omega), w1 _ _ _ (by unfold lc; omega)]) (fun k j a b e f => by rw [w2 _ _ _ (by unfold lc; omega), w1 _ _ _ (by unfold lc; omega)])
      · exact v1.kept3 (by rw [w2 _ _ _ (by unfold lc; omega)]) (fun k j a b e f => by rw [w2 _ _ _ (by unfold lc; omega)])
      · exact v2
  have kc : ∀ k i j, k < 1000 → n2.1 k i j = m2.1 k i j := fun k i j hk => by rw [kn _ _ _ (by omega), k4 _ _ _ (by omega)]
  have kd : ∀ k i j, k < 1008 ∨ (1013 ≤ k ∧ k < 1020) → ¬ tc (d + 1) k i → ¬ (k = 600 ∧ i = d) → n2.1 k i j = μ.1 k i j := fun k i j a b c => by
    rw [kn _ _ _ (by omega), k4 _ _ _ (by omega), d4 _ _ _ b (by omega)]
  refine ⟨m1, _, n2, f1, by rw [hm2]; exact ct0.all hF, ?_, D, fun e => if e = d then D else C e, hv, ct0.kept (by omega) (fun k i j q => kc _ _ _ (by omega)), mt, h4.kept (fun k j z => kd _ _ _ (by omega) (by unfold tc; omega) (by omega)), h5.kept (fun k j z => kd _ _ _ (by omega) (by unfold tc; omega) (by omega)), h6.kept (fun k j z => kd _ _ _ (by omega) (by unfold tc; omega) (by omega)), fun e he => ?_⟩
  · rw [hm2]
    unfold f_X10_keep
    rw [isTapeM_in hd, obs, if_neg i10, wa_in hd (by omega), obs, show (wi m2 1020 0 d 5).1 1000 0 1 = nI (tP D) from by rw [wi_at, if_neg (by omega)]; exact p1, wa_in hd (by omega), obs, show (wi (wi m2 1020 0 d 5) 1023 0 d (nI (tP D))).1 1000 0 2 = nI (tT D) from by rw [wi_at, if_neg (by omega), wi_at, if_neg (by omega)]; exact p2, wa_in hd (by omega), obs, show (wi (wi (wi m2 1020 0 d 5) 1023 0 d (nI (tP D))) 1024 0 d (nI (tT D))).1 1000 0 3 = nI (tW D) from by rw [wi_at, if_neg (by omega), wi_at, if_neg (by omega), wi_at, if_neg (by omega)]; exact p3, wa_in hd (by omega), obs, hm3, l1', b96]
  · by_cases z : e = d
    · subst z
      show TP n2 e (if e = e then D else C e)
      rw [if_pos rfl]
      refine ⟨5, by omega, ?_, ?_, fun _ w => by omega, fun _ => ⟨?_, hv, ctd.kept (by omega) (fun k i j q => kc _ _ _ (by omega)), mc⟩⟩
      · rw [kc _ _ _ (by omega)]; exact d2
      · rw [kn _ _ _ (by omega), i3 _ _ _ (by omega)]; exact g0
      · rw [kc _ _ _ (by omega), d1 _ _ _ (by omega)]; exact c5
    · show TP n2 e (if e = d then D else C e)
      rw [if_neg z]
      have ko : ∀ k j, 1008 ≤ k → ¬ ((k = 1008 ∧ 3 + 3 * d ≤ j ∧ j < 6 + 3 * d) ∨ (1009 ≤ k ∧ k ≤ 1012 ∧ 600 * d + 600 ≤ j ∧ j < 600 * d + 1200)) → ¬ (1026 ≤ k ∧ k ≤ 1027 ∧ 8 * d ≤ j ∧ j < 8 * d + 8) → ¬ ((k = 1020 ∨ k = 1023 ∨ k = 1024 ∨ k = 1025) ∧ j = d) → n2.1 k 0 j = μ.1 k 0 j := fun k j a b c f => by
        rw [kn _ _ _ b, i3 _ _ _ c, g1 _ _ _ f, km _ _ _ (by omega)]
      exact (h7 e he).kept3 he (fun j => kd _ _ _ (by omega) (by unfold tc; omega) (by omega)) ⟨ko _ _ (by omega) (by omega) (by omega) (by omega), ko _ _ (by omega) (by omega) (by omega) (by omega)⟩ (fun j a b => ko _ _ (by omega) (by omega) (by omega) (by omega)) (fun k j a b c e => ko _ _ (by omega) (by omega) (by omega) (by omega)) (fun k a b => ko _ _ (by omega) (by omega) (by omega) (by omega)) (fun k j a b c e => ko _ _ (by omega) (by omega) (by omega) (by omega)) (fun k i j a b c => kd _ _ _ (by omega) (by unfold tc; omega) (by omega)) (fun k j a b => kd _ _ _ (by omega) (by unfold tc; omega) (by omega)) (fun j hj => ⟨by rw [z6], by rw [z6]⟩)
