/-! CALLS: back -/
theorem byT {v : Int32} (h : v = -1 ∨ ∃ u, u < 8 ∧ v = nI u) : v.toInt8.toInt32 = v := by
  rcases h with rfl | ⟨u, hu, rfl⟩
  · exact nb_m1
  · exact nb_in u (by omega)
theorem byX {v : Int32} (h : v = -1 ∨ ∃ u, u < 64 ∧ v = nI u) : v.toInt8.toInt32 = v := by
  rcases h with rfl | ⟨u, hu, rfl⟩
  · exact nb_m1
  · exact nb_in u (by omega)
theorem byK {v : Int32} (h : ∃ u, u ≤ 12 ∧ v = nI u) : v.toInt8.toInt32 = v := by
  obtain ⟨u, hu, rfl⟩ := h
  exact nb_in u (by omega)
/-- the cells of a lane of the reference -/
def lc (g k j : Nat) : Prop := (k = 1008 ∧ j = g) ∨ (1009 ≤ k ∧ k ≤ 1012 ∧ 200 * g ≤ j ∧ j < 200 * g + 200)
theorem moves_ok {F g o : Nat} {μ : Mm} {hm : Nat → Bool} {L : La} (hF : 1000 ≤ F) (hgo : ¬ g = o) (ho : o < 21) (hM : ML μ g L) (hV : LV hm L) : ∃ μ', f_X10_moves F μ (nI g) (nI o) = some μ' ∧ ML μ' o L ∧ (∀ k i j, ¬ lc o k j → μ'.1 k i j = μ.1 k i j) ∧ μ'.2 = μ.2 := by
  obtain ⟨q1, q2, q3, q4⟩ := hM
  obtain ⟨-, -, v3, v4, -⟩ := hV
  generalize hm0 : wi μ 1008 0 o (nI (zn L)) = m0
  have k0 : ∀ k i j, ¬ (k = 1008 ∧ j = o) → m0.1 k i j = μ.1 k i j := fun k i j h => by rw [← hm0, wi_at, if_neg (by omega)]
  have y0 : m0.1 1008 0 o = nI (zn L) := by rw [← hm0, wi_at, if_pos ⟨rfl, rfl, rfl⟩]
  have c0 : m0.2 = μ.2 := by rw [← hm0]; rfl
  obtain ⟨m, e1, i1, i2, i3⟩ := loop_inv (fun N m x => f_X10_moves_b14 F N m (nI g) (nI o) x) (fun m => some m) (zn L) (fun l m => (∀ j, j < l → m.1 1009 0 (200 * o + j) = zK L j ∧ m.1 1010 0 (200 * o + j) = zT L j ∧ m.1 1011 0 (200 * o + j) = zX L j ∧ m.1 1012 0 (200 * o + j) = zM L j) ∧ m.2 = m0.2 ∧ ∀ k i j, ¬ (1009 ≤ k ∧ k ≤ 1012 ∧ 200 * o ≤ j ∧ j < 200 * o + 200) → m.1 k i j = m0.1 k i j) (by
      intro N m l hl ⟨i1, i2, i3⟩
      show ∃ s', f_X10_moves_b14 F (N + 1) m (nI g) (nI o) (nI l) = f_X10_moves_b14 F N s' (nI g) (nI o) (nI (l + 1)) ∧ _
      obtain ⟨x1, x2, x3, x4⟩ := q4 l hl
      have z : ∀ k, 1009 ≤ k → k ≤ 1012 → m.1 k 0 (200 * g + l) = μ.1 k 0 (200 * g + l) := fun k a b => by rw [i3 _ _ _ (by omega), k0 _ _ _ (by omega)]
      have z1 : m.1 1009 0 (200 * g + l) = zK L l := (z 1009 (by omega) (by omega)).trans x1
      have z2 : m.1 1010 0 (200 * g + l) = zT L l := (z 1010 (by omega) (by omega)).trans x2
      have z3 : m.1 1011 0 (200 * g + l) = zX L l := (z 1011 (by omega) (by omega)).trans x3
      have z4 : m.1 1012 0 (200 * g + l) = zM L l := (z 1012 (by omega) (by omega)).trans x4
      have z0 : m.1 1008 0 g = nI (zn L) := by rw [i3 _ _ _ (by omega), k0 _ _ _ (by omega)]; exact q3
      refine ⟨wi (wi (wi (wi m 1009 0 (200 * o + l) (zK L l)) 1010 0 (200 * o + l) (zT L l)) 1011 0 (200 * o + l) (zX L l)) 1012 0 (200 * o + l) (zM L l), ?_, fun j hj => ?_, i2, fun k i j h => ?_⟩
      · rw [f_X10_moves_b14, ra_in q1 (by omega), obs, z0, if_neg (ngt (by omega) (by omega) hl), show (200 : Int32) = nI 200 from rfl, pk_mul, pk_mul, nI_add, nI_add, ra_in (by omega) (by omega), obs, z1, wb_in (by omega) (by omega), obs, byK (v3 l hl), ra_in (by omega) (by omega), obs, wi_at, if_neg (by omega), z2, wb_in (by omega) (by omega), obs, byT (v4 l hl).1, ra_in (by omega) (by omega), obs, wi_at, if_neg (by omega), wi_at, if_neg (by omega), z3, wb_in (by omega) (by omega), obs, byX (v4 l hl).2, ra_in (by omega) (by omega), obs, wi_at, if_neg (by omega), wi_at, if_neg (by omega), wi_at, if_neg (by omega), z4, wa_in (by omega) (by omega), obs, s1]
      · by_cases e : j = l
        · subst e
          refine ⟨?_, ?_, ?_, ?_⟩
          · rw [wi_at, if_neg (by omega), wi_at, if_neg (by omega), wi_at, if_neg (by omega), wi_at, if_pos ⟨rfl, rfl, rfl⟩]
          · rw [wi_at, if_neg (by omega), wi_at, if_neg (by omega), wi_at, if_pos ⟨rfl, rfl, rfl⟩]
          · rw [wi_at, if_neg (by omega), wi_at, if_pos ⟨rfl, rfl, rfl⟩]
          · rw [wi_at, if_pos ⟨rfl, rfl, rfl⟩]
        · have w : ∀ k, (wi (wi (wi (wi m 1009 0 (200 * o + l) (zK L l)) 1010 0 (200 * o + l) (zT L l)) 1011 0 (200 * o + l) (zX L l)) 1012 0 (200 * o + l) (zM L l)).1 k 0 (200 * o + j) = m.1 k 0 (200 * o + j) := fun k => by
            rw [wi_at, if_neg (by omega), wi_at, if_neg (by omega), wi_at, if_neg (by omega), wi_at, if_neg (by omega)]
          rw [w, w, w, w]; exact i1 j (by omega)
      · rw [wi_at, if_neg (by omega), wi_at, if_neg (by omega), wi_at, if_neg (by omega), wi_at, if_neg (by omega)]; exact i3 k i j h) (by
      intro N m ⟨_, _, i3⟩
      show f_X10_moves_b14 F (N + 1) m (nI g) (nI o) (nI (zn L)) = _
      have z0 : m.1 1008 0 g = nI (zn L) := by rw [i3 _ _ _ (by omega), k0 _ _ _ (by omega)]; exact q3
      rw [f_X10_moves_b14, ra_in q1 (by omega), obs, z0, if_pos (nle (by omega) (by omega) (Nat.le_refl _))]) F 0 m0 (by omega) (by omega) ⟨fun j hj => by omega, rfl, fun _ _ _ _ => rfl⟩
  refine ⟨m, ?_, ⟨ho, q2, by rw [i3 _ _ _ (by omega)]; exact y0, i1⟩, fun k i j h => ?_, i2.trans c0⟩
  · unfold f_X10_moves
    rw [ra_in q1 (by omega), obs, q3, wa_in ho (by omega), obs, hm0]; exact e1
  · unfold lc at h; rw [i3 _ _ _ (by omega)]; exact k0 _ _ _ (by omega)
theorem op_back {F : Nat} {μ : Mm} (hF : 1000 ≤ F) (h : Rel μ) (x : Int32) : OK2 (fun μ => f_X9_back F μ x) (fun μ => f_X10_back F μ x) μ := by
  obtain ⟨D, C, h⟩ := id h
  have hR : Rel μ := ⟨D, C, h⟩
  unfold OK2 f_X9_back f_X10_back
  dsimp only
  rcases lacks_ok h x with ⟨r, μ1, μ2, r0, e1, e2, h2⟩ | ⟨d, hd, rfl, e1, e2, a1, a2, a3, a4⟩
  · rw [e1, obs, if_neg r0]
    exact ⟨r, μ1, μ2, rfl, by rw [e2, obs, if_neg r0], D, C, h2⟩
  obtain ⟨m1, f1, c1, c2, c3⟩ := become_ok (F := F) (t := 0) (a := d + 1) (μ := μ) hF (by omega) a2 a3
  have f2 : f_X9_forgetLawsAndOthers m1 = some (fl (wi m1 300 0 4 0) 902 0 8 (-1) 8) := rfl
  rw [e1, obs, if_pos rfl, rq_in hd (by omega), obs, if_neg a1, f1, obs, f2, obs]
  generalize hm2 : fl (wi m1 300 0 4 0) 902 0 8 (-1) 8 = m2
  have d1 : ∀ k i j, ¬ (k = 300 ∧ j = 4) → ¬ k = 902 → m2.1 k i j = m1.1 k i j := fun k i j a b => by
    rw [← hm2, fl_at, if_neg (by omega), wi_at, if_neg (by omega)]
  have d2 : m2.1 300 0 4 = 0 := by rw [← hm2, fl_at, if_neg (by omega), wi_at, if_pos ⟨rfl, rfl, rfl⟩]
  have d3 : ∀ u, u < 8 → m2.1 902 0 u = -1 := fun u hu => by rw [← hm2, fl_at, if_pos ⟨rfl, rfl, hu⟩]
  have d6 : m2.2 = μ.2 := by rw [← hm2]; exact c3
  clear hm2
  have ct2 : CT m2 0 (C d) := c1.kept (by omega) (fun k i j q => d1 _ _ _ (by omega) (by omega))
  have km : ∀ k i j, 1000 ≤ k → m2.1 k i j = μ.1 k i j := fun k i j hk => by
    rw [d1 _ _ _ (by omega) (by omega), c2 _ _ _ (by unfold tc; omega)]
  rw [ct2.all hF, obs]
  have mc2 : MC m2 d (C d) := a4.kept (fun k j q => km _ _ _ (by omega))
  obtain ⟨⟨p1, p2, p3⟩, p4, p5⟩ := id mc2
  -- the reference
  generalize hm3 : wi (wi (wi m2 1000 0 1 (nI (tP (C d)))) 1000 0 2 (nI (tT (C d)))) 1000 0 3 (nI (tW (C d))) = m3
  have g1 : ∀ k i j, ¬ (k = 1000 ∧ 1 ≤ j ∧ j ≤ 3) → m3.1 k i j = m2.1 k i j := fun k i j a => by
    rw [← hm3, wi_at, if_neg (by omega), wi_at, if_neg (by omega), wi_at, if_neg (by omega)]
  have g2 : m3.1 1000 0 1 = nI (tP (C d)) := by rw [← hm3, wi_at, if_neg (by omega), wi_at, if_neg (by omega), wi_at, if_pos ⟨rfl, rfl, rfl⟩]
  have g3 : m3.1 1000 0 2 = nI (tT (C d)) := by rw [← hm3, wi_at, if_neg (by omega), wi_at, if_pos ⟨rfl, rfl, rfl⟩]
  have g4 : m3.1 1000 0 3 = nI (tW (C d)) := by rw [← hm3, wi_at, if_pos ⟨rfl, rfl, rfl⟩]
  have g5 : m3.2 = m2.2 := by rw [← hm3]; rfl
  obtain ⟨m4, l1, i1, i2, i3⟩ := loop_inv (fun N m x => f_X10_back_b44 F N m (nI d) x) (fun m => f_X10_back_b99 F F m (nI d) 0) 8 (fun l m => (∀ o, o < l → m.1 1005 0 o = tH (C d) o ∧ m.1 1006 0 o = tR (C d) o ∧ m.1 1007 0 o = -1) ∧ m.2 = m3.2 ∧ ∀ k z o, ¬ (1005 ≤ k ∧ k ≤ 1007) → m.1 k z o = m3.1 k z o) (by
      intro N m l hl ⟨i1, i2, i3⟩
      show ∃ s', f_X10_back_b44 F (N + 1) m (nI d) (nI l) = f_X10_back_b44 F N s' (nI d) (nI (l + 1)) ∧ _
      have z1 : m.1 1026 0 (8 * d + l) = tH (C d) l := by rw [i3 _ _ _ (by omega), g1 _ _ _ (by omega)]; exact (p4 l hl).1
      have z2 : m.1 1027 0 (8 * d + l) = tR (C d) l := by rw [i3 _ _ _ (by omega), g1 _ _ _ (by omega)]; exact (p4 l hl).2
      rw [f_X10_back_b44, if_neg (n8 hl), show (8 : Int32) = nI 8 from rfl, pk_mul, nI_add, ra_in (by omega) (by omega), obs, z1, wa_in hl (by omega), obs, ra_in (by omega) (by omega), obs, wi_at, if_neg (by omega), z2, wa_in hl (by omega), obs, wa_in hl (by omega), obs, s1]
      refine ⟨_, rfl, fun o ho => ?_, i2, fun k z o hk => ?_⟩
      · by_cases eo : o = l
        · refine ⟨?_, ?_, ?_⟩
          · rw [wi_at, if_neg (by omega), wi_at, if_neg (by omega), wi_at, if_pos ⟨rfl, rfl, eo⟩, eo]
          · rw [wi_at, if_neg (by omega), wi_at, if_pos ⟨rfl, rfl, eo⟩, eo]
          · rw [wi_at, if_pos ⟨rfl, rfl, eo⟩]
        · rw [wi_at, if_neg (by omega), wi_at, if_neg (by omega), wi_at, if_neg (by omega), wi_at, if_neg (by omega), wi_at, if_neg (by omega), wi_at, if_neg (by omega), wi_at, if_neg (by omega), wi_at, if_neg (by omega), wi_at, if_neg (by omega)]
          exact i1 o (by omega)
      · rw [wi_at, if_neg (by omega), wi_at, if_neg (by omega), wi_at, if_neg (by omega)]; exact i3 k z o hk) (by
      intro N m _
      show f_X10_back_b44 F (N + 1) m (nI d) (nI 8) = _
      rw [f_X10_back_b44, if_pos (by decide)]) F 0 m3 (by omega) (by omega) ⟨fun o ho => by omega, rfl, fun _ _ _ _ => rfl⟩
  have l1' : f_X10_back_b44 F F m3 (nI d) 0 = f_X10_back_b99 F F m4 (nI d) 0 := l1
  have k4 : ∀ k i j, ¬ (1005 ≤ k ∧ k ≤ 1007) → ¬ (k = 1000 ∧ 1 ≤ j ∧ j ≤ 3) → m4.1 k i j = m2.1 k i j := fun k i j a b => by rw [i3 _ _ _ a, g1 _ _ _ b]
  have lv := a2.2.2.2.2.2.1
  obtain ⟨n0, u0, v0, w0, x0⟩ := moves_ok (g := 3 + 3 * d + 0) (o := 0) hF (by omega) (by omega) ((p5 0 (by omega)).kept2 (μ' := m4) (fun k j a b => k4 _ _ _ (by omega) (by omega))) (lv 0 (by omega))
  obtain ⟨n1, u1, v1, w1, x1⟩ := moves_ok (g := 3 + 3 * d + 1) (o := 1) (μ := n0) hF (by omega) (by omega) ((p5 1 (by omega)).kept3 (by rw [w0 _ _ _ (by unfold lc; omega), k4 _ _ _ (by omega) (by omega)]) (fun k j a b e f => by rw [w0 _ _ _ (by unfold lc; omega), k4 _ _ _ (by omega) (by omega)])) (lv 1 (by omega))
  obtain ⟨n2, u2, v2, w2, x2⟩ := moves_ok (g := 3 + 3 * d + 2) (o := 2) (μ := n1) hF (by omega) (by omega) ((p5 2 (by omega)).kept3 (by rw [w1 _ _ _ (by unfold lc; omega), w0 _ _ _ (by unfold lc; omega), k4 _ _ _ (by omega) (by omega)]) (fun k j a b e f => by rw [w1 _ _ _ (by unfold lc; omega), w0 _ _ _ (by unfold lc; omega), k4 _ _ _ (by omega) (by omega)])) (lv 2 (by omega))
  have kn : ∀ k i j, ¬ (lc 0 k j ∨ lc 1 k j ∨ lc 2 k j) → n2.1 k i j = m4.1 k i j := fun k i j q => by rw [w2 _ _ _ (fun z => q (.inr (.inr z))), w1 _ _ _ (fun z => q (.inr (.inl z))), w0 _ _ _ (fun z => q (.inl z))]
  have b99 : f_X10_back_b99 F F m4 (nI d) 0 = (f_X10_all (wi n2 1000 0 12 0)).bind fun q33 => some (q33, wi n2 1000 0 12 0) := by
    obtain ⟨N, rfl⟩ : ∃ N, F = N + 4 := ⟨F - 4, by omega⟩
    rw [show (0 : Int32) = nI 0 from rfl, f_X10_back_b99, if_neg (by decide), show (3 : Int32) = nI 3 from rfl, pk_mul, nI_add, nI_add, u0, obs, s1, f_X10_back_b99, if_neg (by decide), show (3 : Int32) = nI 3 from rfl, pk_mul, nI_add, nI_add, u1, obs, s1, f_X10_back_b99, if_neg (by decide), show (3 : Int32) = nI 3 from rfl, pk_mul, nI_add, nI_add, u2, obs, s1, f_X10_back_b99, if_pos (by decide), wf_eq, obs]
    rfl
  generalize hm6 : wi n2 1000 0 12 0 = m6 at b99
  have k6 : ∀ k i j, ¬ (k = 1000 ∧ j = 12) → m6.1 k i j = n2.1 k i j := fun k i j a => by rw [← hm6, wi_at, if_neg (by omega)]
  have y6 : m6.1 1000 0 12 = 0 := by rw [← hm6, wi_at, if_pos ⟨rfl, rfl, rfl⟩]
  have z6 : m6.2 = μ.2 := by rw [← hm6]; show n2.2 = _; rw [x2, x1, x0, i2, g5, d6]
  clear hm6
  have ml : ∀ p, p < 3 → ML m6 p (tL (C d) p) := fun p hp => by
    rcases (show p = 0 ∨ p = 1 ∨ p = 2 by omega) with rfl | rfl | rfl
    · exact v0.kept3 (by rw [k6 _ _ _ (by omega), w2 _ _ _ (by unfold lc; omega), w1 _ _ _ (by unfold lc; omega)]) (fun k j a b e f => by rw [k6 _ _ _ (by omega), w2 _ _ _ (by unfold lc; omega), w1 _ _ _ (by unfold lc; omega)])
    · exact v1.kept3 (by rw [k6 _ _ _ (by omega), w2 _ _ _ (by unfold lc; omega)]) (fun k j a b e f => by rw [k6 _ _ _ (by omega), w2 _ _ _ (by unfold lc; omega)])
    · exact v2.kept3 (by rw [k6 _ _ _ (by omega)]) (fun k j a b e f => by rw [k6 _ _ _ (by omega)])
  rw [all_m (ml 0 (by omega)).2.2.1 (ml 1 (by omega)).2.2.1 (ml 2 (by omega)).2.2.1, obs] at b99
  have kk : ∀ k i j, ¬ (k = 1000 ∧ j = 12) → ¬ (1008 ≤ k ∧ k ≤ 1012) → m6.1 k i j = m4.1 k i j := fun k i j a b => by rw [k6 _ _ _ a, kn _ _ _ (by unfold lc; omega)]
  have kc : ∀ k i j, k < 1000 → m6.1 k i j = m2.1 k i j := fun k i j hk => by rw [kk _ _ _ (by omega) (by omega), k4 _ _ _ (by omega) (by omega)]
  have ko : ∀ k i j, (1009 ≤ k ∧ k ≤ 1012 ∧ 600 ≤ j) ∨ (1013 ≤ k) ∨ (k = 1008 ∧ 3 ≤ j) → m6.1 k i j = μ.1 k i j := fun k i j hk => by
    rw [k6 _ _ _ (by omega), kn _ _ _ (by unfold lc; omega), k4 _ _ _ (by omega) (by omega), km _ _ _ (by omega)]
  have kd : ∀ k i j, k < 1000 → ¬ tc 0 k i → ¬ (k = 300 ∧ j = 4) → ¬ k = 902 → m6.1 k i j = μ.1 k i j := fun k i j a b c e => by
    rw [kc _ _ _ a, d1 _ _ _ c e, c2 _ _ _ b]
  obtain ⟨-, -, -, -, -, h6, h7⟩ := id h
  refine ⟨_, m2, m6, rfl, ?_, C d, C, a2, ct2.kept (by omega) (fun k i j q => kc _ _ _ (by omega)), ⟨⟨?_, ?_, ?_⟩, fun u hu => ⟨?_, ?_⟩, ml⟩, fun u hu => ?_, ⟨0, by omega, ?_, y6, fun l hl => by omega⟩, ⟨?_, ?_⟩, fun e he => ?_⟩
  · rw [e2 _ (fun j => km _ _ _ (by omega)), obs, if_pos rfl, ra_in hd (by omega), obs, p1, wf_eq, obs, ra_in hd (by omega), obs, wi_at, if_neg (by omega), p2, wf_eq, obs, ra_in hd (by omega), obs, wi_at, if_neg (by omega), wi_at, if_neg (by omega), p3, wf_eq, obs, hm3, l1', b99]
  · rw [kk _ _ _ (by omega) (by omega), i3 _ _ _ (by omega)]; exact g2
  · rw [kk _ _ _ (by omega) (by omega), i3 _ _ _ (by omega)]; exact g3
  · rw [kk _ _ _ (by omega) (by omega), i3 _ _ _ (by omega)]; exact g4
  · rw [kk _ _ _ (by omega) (by omega)]; exact (i1 u hu).1
  · rw [kk _ _ _ (by omega) (by omega)]; exact (i1 u hu).2.1
  · have a : m6.1 902 0 u = -1 := by rw [kc _ _ _ (by omega)]; exact d3 u hu
    have b : m6.1 1007 0 u = -1 := by rw [kk _ _ _ (by omega) (by omega)]; exact (i1 u hu).2.2
    exact ⟨by rw [a, b], .inl a⟩
  · rw [kc _ _ _ (by omega)]; exact d2
  · rw [kd _ _ _ (by omega) (by unfold tc; omega) (by omega) (by omega), kk _ _ _ (by omega) (by omega), k4 _ _ _ (by omega) (by omega), km _ _ _ (by omega)]; exact h6.1
  · rw [kd _ _ _ (by omega) (by unfold tc; omega) (by omega) (by omega), kk _ _ _ (by omega) (by omega), k4 _ _ _ (by omega) (by omega), km _ _ _ (by omega)]; exact h6.2
  · exact (h7 e he).kept3 he (fun j => kd _ _ _ (by omega) (by unfold tc; omega) (by omega) (by omega)) ⟨ko _ _ _ (by omega), ko _ _ _ (by omega)⟩ (fun j a b => ko _ _ _ (by omega)) (fun k j a b c e => ko _ _ _ (by omega)) (fun k a b => ko _ _ _ (by omega)) (fun k j a b c e => ko _ _ _ (by omega)) (fun k i j a b c => kd _ _ _ (by omega) (by unfold tc; omega) (by omega) (by omega)) (fun k j a b => kd _ _ _ (by omega) (by unfold tc; omega) (by omega) (by omega)) (fun j hj => ⟨by rw [z6], by rw [z6]⟩)
