/-! CALLS: a trace becomes another -/
theorem cp_ok {m : Mm} {k a b n c : Nat} (hc : c ≤ n) (hn : n < 1000000) : ∃ m', cpI m k a n k b n 0 0 (nI c) = some m' ∧ (∀ j, j < c → m'.1 k b j = m.1 k a j) ∧ (∀ k' i j, ¬ (k' = k ∧ i = b) → m'.1 k' i j = m.1 k' i j) ∧ m'.2 = m.2 := by
  refine ⟨sr m k b (va_cpy (m.1 k a) (m.1 k b) 0 0 c), ?_, fun j hj => ?_, fun k' i j h => ?_, rfl⟩
  · unfold cpI
    rw [clN (by omega), show (0 : Int32).toNatClampNeg = 0 from rfl, if_neg]
    intro z
    rcases z with z | z | z | z | z
    · exact absurd z (by decide)
    · exact absurd z (by decide)
    · exact nN0 (by omega) z
    · omega
    · omega
  · rw [sr_at, if_pos ⟨rfl, rfl⟩]
    unfold va_cpy
    rw [if_pos (by omega), show 0 + (j - 0) = j by omega]
  · rw [sr_at, if_neg h]
theorem RC.of {μ μ' : Mm} {a b : Nat} {s : Ms} {hm : Nat → Bool} (h : RC μ a s hm) (q1 : ∀ u, u < 8 → μ'.1 401 b u = μ.1 401 a u) (q2 : ∀ u, u < 8 → μ'.1 402 b u = μ.1 402 a u) (q3 : ∀ l, l < 4 → μ'.1 403 b l = μ.1 403 a l) (q4 : μ'.1 400 b 3 = μ.1 400 a 3) (q5 : μ'.1 400 b 4 = μ.1 400 a 4) : RC μ' b s hm := by
  obtain ⟨⟨r1, r2, r3, r4, r5⟩, r6⟩ := h
  exact ⟨⟨fun u x y => by rw [q1 u x]; exact r1 u x y, fun u x y => by rw [q1 u x]; exact r2 u x y, fun l x => by rw [q3 l x]; exact r3 l x, by rw [q4]; exact r4, by rw [q5]; exact r5⟩, fun u x y z => by rw [q2 u x]; exact r6 u x y z⟩
theorem mom_cp {μ : Mm} {a b : Nat} {s : Ms} {hm : Nat → Bool} (hab : ¬ a = b) (hr : RC μ a s hm) (hn : nn s = 0 ∨ nn s = 1) : ∃ μ', f_X4_become μ b a = some μ' ∧ RC μ' b s hm ∧ (∀ u, u < 8 → μ'.1 401 b u = μ.1 401 a u) ∧ (∀ k i j, ¬ (i = b ∧ 400 ≤ k ∧ k ≤ 403) → μ'.1 k i j = μ.1 k i j) ∧ μ'.2 = μ.2 := by
  obtain ⟨m1, e1, a1, b1, c1⟩ := cp_ok (m := μ) (k := 401) (a := a) (b := b) (n := 8) (c := 8) (by omega) (by omega)
  obtain ⟨m2, e2, a2, b2, c2⟩ := cp_ok (m := m1) (k := 402) (a := a) (b := b) (n := 8) (c := 8) (by omega) (by omega)
  obtain ⟨m3, e3, a3, b3, c3⟩ := cp_ok (m := m2) (k := 403) (a := a) (b := b) (n := 4) (c := 4) (by omega) (by omega)
  have k3 : ∀ k i j, ¬ (i = b ∧ 400 ≤ k ∧ k ≤ 403) → m3.1 k i j = μ.1 k i j := fun k i j h => by rw [b3 _ _ _ (by omega), b2 _ _ _ (by omega), b1 _ _ _ (by omega)]
  have g4 : m3.1 400 a 4 = μ.1 400 a 4 := k3 _ _ _ (by omega)
  have z4 : gz (μ.1 400 a 4) = some (μ.1 400 a 4) := by unfold gz; rw [hr.1.2.2.2.2, if_pos hn]
  have q4 : (wi m3 400 b 3 (m3.1 400 a 3)).1 400 a 4 = μ.1 400 a 4 := by rw [wi_at, if_neg (by omega)]; exact g4
  have q1 : ∀ u, u < 8 → (wi (wi m3 400 b 3 (m3.1 400 a 3)) 400 b 4 (μ.1 400 a 4)).1 401 b u = μ.1 401 a u := fun u hu => by rw [wi_at, if_neg (by omega), wi_at, if_neg (by omega), b3 _ _ _ (by omega), b2 _ _ _ (by omega), a1 u hu]
  refine ⟨wi (wi m3 400 b 3 (m3.1 400 a 3)) 400 b 4 (μ.1 400 a 4), ?_, hr.of q1 (fun u hu => ?_) (fun l hl => ?_) ?_ ?_, q1, fun k i j h => ?_, ?_⟩
  · unfold f_X4_become
    rw [show (8 : Int32) = nI 8 from rfl, show (4 : Int32) = nI 4 from rfl, e1, obs, e2, obs, e3, obs, wf_eq, obs, q4, z4, obs, wf_eq, obs]
  · rw [wi_at, if_neg (by omega), wi_at, if_neg (by omega), b3 _ _ _ (by omega), a2 u hu, b1 _ _ _ (by omega)]
  · rw [wi_at, if_neg (by omega), wi_at, if_neg (by omega), a3 l hl, b2 _ _ _ (by omega), b1 _ _ _ (by omega)]
  · rw [wi_at, if_neg (by omega), wi_at, if_pos ⟨rfl, rfl, rfl⟩]; exact k3 _ _ _ (by omega)
  · rw [wi_at, if_pos ⟨rfl, rfl, rfl⟩]
  · rw [wi_at, if_neg (by omega), wi_at, if_neg (by omega)]; exact k3 k i j h
  · show m3.2 = _
    rw [c3, c2, c1]
theorem lane_cp {μ : Mm} {a b : Nat} {L : La} {s : Ms} {hm : Nat → Bool} (hab : ¬ a = b) (hL : CL μ a L) (hr : RC μ a s hm) (hn : nn s = 0 ∨ nn s = 1) : ∃ μ', f_X2_become μ b a = some μ' ∧ CL μ' b L ∧ RC μ' b s hm ∧ (∀ u, u < 8 → μ'.1 401 b u = μ.1 401 a u) ∧ (∀ k i j, ¬ (i = b ∧ ((200 ≤ k ∧ k ≤ 204) ∨ (400 ≤ k ∧ k ≤ 403))) → μ'.1 k i j = μ.1 k i j) ∧ μ'.2 = μ.2 := by
  obtain ⟨l1, l2, l3⟩ := hL
  generalize hm0 : wi μ 200 b 5 (nI (zn L)) = m0
  have z0 : m0.1 200 b 5 = nI (zn L) := by rw [← hm0, wi_at, if_pos ⟨rfl, rfl, rfl⟩]
  have k0 : ∀ k i j, ¬ (k = 200 ∧ i = b) → m0.1 k i j = μ.1 k i j := fun k i j h => by rw [← hm0, wi_at, if_neg (by omega)]
  have c0 : m0.2 = μ.2 := by rw [← hm0]; rfl
  have ee : f_X2_become μ b a = (if nI (zn L) ≤ 0 then f_X2_become_b93 m0 b a else if 200 < nI (zn L) then f_X2_become_b93 m0 b a else (cpI m0 201 a 200 201 b 200 0 0 (m0.1 200 b 5)).bind fun m17 => (cpI m17 202 a 200 202 b 200 0 0 (m17.1 200 b 5)).bind fun m19 => (cpI m19 203 a 200 203 b 200 0 0 (m19.1 200 b 5)).bind fun m21 => (cpI m21 204 a 200 204 b 200 0 0 (m21.1 200 b 5)).bind fun m23 => f_X2_become_b93 m23 b a) := by
    unfold f_X2_become; rw [l2, wf_eq, obs, hm0, z0]
  have fin : ∀ m : Mm, (∀ k i j, ¬ (i = b ∧ 200 ≤ k ∧ k ≤ 204) → m.1 k i j = μ.1 k i j) → m.2 = μ.2 → m.1 200 b 5 = nI (zn L) → (∀ j, j < zn L → m.1 201 b j = zK L j ∧ m.1 202 b j = zT L j ∧ m.1 203 b j = zX L j ∧ m.1 204 b j = zM L j) → f_X2_become μ b a = f_X2_become_b93 m b a → ∃ μ', f_X2_become μ b a = some μ' ∧ CL μ' b L ∧ RC μ' b s hm ∧ (∀ u, u < 8 → μ'.1 401 b u = μ.1 401 a u) ∧ (∀ k i j, ¬ (i = b ∧ ((200 ≤ k ∧ k ≤ 204) ∨ (400 ≤ k ∧ k ≤ 403))) → μ'.1 k i j = μ.1 k i j) ∧ μ'.2 = μ.2 := fun m p1 p2 p3 p4 p5 => by
    obtain ⟨m', f1, f2, f3, f4, f5⟩ := mom_cp (μ := m) hab (hr.kept (fun k j x y => p1 _ _ _ (by omega))) hn
    refine ⟨m', ?_, ⟨l1, by rw [f4 _ _ _ (by omega)]; exact p3, fun j hj => ?_⟩, f2, fun u hu => by rw [f3 u hu]; exact p1 _ _ _ (by omega), fun k i j h => by rw [f4 _ _ _ (by omega)]; exact p1 _ _ _ (by omega), f5.trans p2⟩
    · rw [p5]; unfold f_X2_become_b93; rw [f1, obs]
    · rw [f4 _ _ _ (by omega), f4 _ _ _ (by omega), f4 _ _ _ (by omega), f4 _ _ _ (by omega)]; exact p4 j hj
  by_cases n0 : zn L = 0
  · refine fin m0 (fun k i j h => k0 _ _ _ (by omega)) c0 z0 (fun j hj => by omega) ?_
    rw [ee, if_pos (by rw [n0]; decide)]
  · obtain ⟨m1, e1, a1, b1, c1⟩ := cp_ok (m := m0) (k := 201) (a := a) (b := b) (n := 200) (c := zn L) l1 (by omega)
    obtain ⟨m2, e2, a2, b2, c2⟩ := cp_ok (m := m1) (k := 202) (a := a) (b := b) (n := 200) (c := zn L) l1 (by omega)
    obtain ⟨m3, e3, a3, b3, c3⟩ := cp_ok (m := m2) (k := 203) (a := a) (b := b) (n := 200) (c := zn L) l1 (by omega)
    obtain ⟨m4, e4, a4, b4, c4⟩ := cp_ok (m := m3) (k := 204) (a := a) (b := b) (n := 200) (c := zn L) l1 (by omega)
    have y1 : m1.1 200 b 5 = nI (zn L) := by rw [b1 _ _ _ (by omega)]; exact z0
    have y2 : m2.1 200 b 5 = nI (zn L) := by rw [b2 _ _ _ (by omega)]; exact y1
    have y3 : m3.1 200 b 5 = nI (zn L) := by rw [b3 _ _ _ (by omega)]; exact y2
    have y4 : m4.1 200 b 5 = nI (zn L) := by rw [b4 _ _ _ (by omega)]; exact y3
    refine fin m4 (fun k i j h => by rw [b4 _ _ _ (by omega), b3 _ _ _ (by omega), b2 _ _ _ (by omega), b1 _ _ _ (by omega)]; exact k0 _ _ _ (by omega)) (by rw [c4, c3, c2, c1, c0]) y4 (fun j hj => ?_) ?_
    · obtain ⟨x1, x2, x3, x4⟩ := l3 j hj
      refine ⟨?_, ?_, ?_, ?_⟩
      · rw [b4 _ _ _ (by omega), b3 _ _ _ (by omega), b2 _ _ _ (by omega), a1 j hj, k0 _ _ _ (by omega)]; exact x1
      · rw [b4 _ _ _ (by omega), b3 _ _ _ (by omega), a2 j hj, b1 _ _ _ (by omega), k0 _ _ _ (by omega)]; exact x2
      · rw [b4 _ _ _ (by omega), a3 j hj, b2 _ _ _ (by omega), b1 _ _ _ (by omega), k0 _ _ _ (by omega)]; exact x3
      · rw [a4 j hj, b3 _ _ _ (by omega), b2 _ _ _ (by omega), b1 _ _ _ (by omega), k0 _ _ _ (by omega)]; exact x4
    · rw [ee, if_neg (by rw [show (0 : Int32) = nI 0 from rfl, leN (by omega) (by omega)]; omega), if_neg (by rw [show (200 : Int32) = nI 200 from rfl, ltN (by omega) (by omega)]; omega), z0, e1, obs, y1, e2, obs, y2, e3, obs, y3, e4, obs]
/-- the cells of a trace -/
def tc (t k i : Nat) : Prop := (((200 ≤ k ∧ k ≤ 204) ∨ (400 ≤ k ∧ k ≤ 403)) ∧ 3 * t ≤ i ∧ i < 3 * t + 3) ∨ (700 ≤ k ∧ k ≤ 704 ∧ i = t)
theorem become_ok {F t a : Nat} {μ : Mm} {D : Tr} (hF : 1000 ≤ F) (hta : ¬ a = t) (hv : TV D) (hc : CT μ a D) : ∃ μ', f_X7_become F μ t a = some μ' ∧ CT μ' t D ∧ (∀ k i j, ¬ tc t k i → μ'.1 k i j = μ.1 k i j) ∧ μ'.2 = μ.2 := by
  obtain ⟨N, rfl⟩ : ∃ N, F = N + 4 := ⟨F - 4, by omega⟩
  obtain ⟨⟨h1, h2, h3⟩, h4, h5, h6, h7⟩ := hc
  generalize hm0 : wi (wi (wi μ 700 t 4 (nI (tP D))) 700 t 5 (nI (tT D))) 700 t 6 (nI (tW D)) = m0
  have k0 : ∀ k i j, ¬ (k = 700 ∧ i = t) → m0.1 k i j = μ.1 k i j := fun k i j h => by rw [← hm0, wi_at, if_neg (by omega), wi_at, if_neg (by omega), wi_at, if_neg (by omega)]
  have y1 : m0.1 700 t 4 = nI (tP D) := by rw [← hm0, wi_at, if_neg (by omega), wi_at, if_neg (by omega), wi_at, if_pos ⟨rfl, rfl, rfl⟩]
  have y2 : m0.1 700 t 5 = nI (tT D) := by rw [← hm0, wi_at, if_neg (by omega), wi_at, if_pos ⟨rfl, rfl, rfl⟩]
  have y3 : m0.1 700 t 6 = nI (tW D) := by rw [← hm0, wi_at, if_pos ⟨rfl, rfl, rfl⟩]
  have c0 : m0.2 = μ.2 := by rw [← hm0]; rfl
  obtain ⟨m1, e1, a1, b1, c1⟩ := cp_ok (m := m0) (k := 701) (a := a) (b := t) (n := 8) (c := 8) (by omega) (by omega)
  obtain ⟨m2, e2, a2, b2, c2⟩ := cp_ok (m := m1) (k := 702) (a := a) (b := t) (n := 8) (c := 8) (by omega) (by omega)
  obtain ⟨m3, e3, a3, b3, c3⟩ := cp_ok (m := m2) (k := 704) (a := a) (b := t) (n := 256) (c := 256) (by omega) (by omega)
  have k3 : ∀ k i j, ¬ (700 ≤ k ∧ k ≤ 704 ∧ i = t) → m3.1 k i j = μ.1 k i j := fun k i j h => by rw [b3 _ _ _ (by omega), b2 _ _ _ (by omega), b1 _ _ _ (by omega), k0 _ _ _ (by omega)]
  have ee : f_X7_become (N + 4) μ t a = f_X7_become_b72 (N + 4) (N + 4) m3 t a (nI 0) := by
    unfold f_X7_become
    rw [h1, wf_eq, obs, show (wi μ 700 t 4 (nI (tP D))).1 700 a 5 = nI (tT D) from by rw [wi_at, if_neg (by omega)]; exact h2, wf_eq, obs, show (wi (wi μ 700 t 4 (nI (tP D))) 700 t 5 (nI (tT D))).1 700 a 6 = nI (tW D) from by rw [wi_at, if_neg (by omega), wi_at, if_neg (by omega)]; exact h3, wf_eq, obs, hm0, show (8 : Int32) = nI 8 from rfl, show (256 : Int32) = nI 256 from rfl, e1, obs, e2, obs, e3, obs]; rfl
  have hn : ∀ p, p < 3 → nn (sq (hmD D p) (tL D p) (zn (tL D p))) = 0 ∨ nn (sq (hmD D p) (tL D p) (zn (tL D p))) = 1 := fun p hp => (Si_sq (hv.2.2.2.2.2.1 p hp).2.1 _ (Nat.le_refl _)).2.2.2.2
  obtain ⟨p1, f1, g1, r1, u1, v1, w1⟩ := lane_cp (μ := m3) (a := 3 * a + 0) (b := 3 * t + 0) (by omega) ((h5 0 (by omega)).1.kept (fun k j x y => k3 _ _ _ (by omega))) ((h5 0 (by omega)).2.kept (fun k j x y => k3 _ _ _ (by omega))) (hn 0 (by omega))
  obtain ⟨p2, f2, g2, r2, u2, v2, w2⟩ := lane_cp (μ := p1) (a := 3 * a + 1) (b := 3 * t + 1) (by omega) ((h5 1 (by omega)).1.kept (fun k j x y => (v1 _ _ _ (by omega)).trans (k3 _ _ _ (by omega)))) ((h5 1 (by omega)).2.kept (fun k j x y => (v1 _ _ _ (by omega)).trans (k3 _ _ _ (by omega)))) (hn 1 (by omega))
  obtain ⟨p3, f3, g3, r3, u3, v3, w3⟩ := lane_cp (μ := p2) (a := 3 * a + 2) (b := 3 * t + 2) (by omega) ((h5 2 (by omega)).1.kept (fun k j x y => (v2 _ _ _ (by omega)).trans ((v1 _ _ _ (by omega)).trans (k3 _ _ _ (by omega))))) ((h5 2 (by omega)).2.kept (fun k j x y => (v2 _ _ _ (by omega)).trans ((v1 _ _ _ (by omega)).trans (k3 _ _ _ (by omega))))) (hn 2 (by omega))
  have vv : ∀ k i j, ¬ (((200 ≤ k ∧ k ≤ 204) ∨ (400 ≤ k ∧ k ≤ 403)) ∧ 3 * t ≤ i ∧ i < 3 * t + 3) → p3.1 k i j = m3.1 k i j := fun k i j h => by rw [v3 _ _ _ (by omega), v2 _ _ _ (by omega), v1 _ _ _ (by omega)]
  have lan : ∀ p, p < 3 → CL p3 (3 * t + p) (tL D p) ∧ RC p3 (3 * t + p) (sq (hmD D p) (tL D p) (zn (tL D p))) (hmD D p) ∧ ∀ u, u < 8 → p3.1 401 (3 * t + p) u = μ.1 401 (3 * a + p) u := fun p hp => by
    rcases (show p = 0 ∨ p = 1 ∨ p = 2 by omega) with rfl | rfl | rfl
    · exact ⟨g1.kept (fun k j x y => (v3 _ _ _ (by omega)).trans (v2 _ _ _ (by omega))), r1.kept (fun k j x y => (v3 _ _ _ (by omega)).trans (v2 _ _ _ (by omega))), fun u hu => by rw [v3 _ _ _ (by omega), v2 _ _ _ (by omega), u1 u hu]; exact k3 _ _ _ (by omega)⟩
    · exact ⟨g2.kept (fun k j x y => v3 _ _ _ (by omega)), r2.kept (fun k j x y => v3 _ _ _ (by omega)), fun u hu => by rw [v3 _ _ _ (by omega), u2 u hu, v1 _ _ _ (by omega)]; exact k3 _ _ _ (by omega)⟩
    · exact ⟨g3, r3, fun u hu => by rw [u3 u hu, v2 _ _ _ (by omega), v1 _ _ _ (by omega)]; exact k3 _ _ _ (by omega)⟩
  refine ⟨p3, ?_, ⟨⟨?_, ?_, ?_⟩, fun u hu => ⟨?_, ?_⟩, fun p hp => ⟨(lan p hp).1, (lan p hp).2.1⟩, fun c x hc hx => ?_, fun p u hp z hu => by rw [(lan p hp).2.2 u hu]; exact h7 p u hp z hu⟩, fun k i j h => ?_, ?_⟩
  · rw [ee, f_X7_become_b72, if_neg (by decide), rq_in (by omega) (by omega), obs, obs, f1, obs, s1, f_X7_become_b72, if_neg (by decide), rq_in (by omega) (by omega), obs, obs, f2, obs, s1, f_X7_become_b72, if_neg (by decide), rq_in (by omega) (by omega), obs, obs, f3, obs, s1, f_X7_become_b72, if_pos (by decide)]
  · rw [vv _ _ _ (by omega), b3 _ _ _ (by omega), b2 _ _ _ (by omega), b1 _ _ _ (by omega)]; exact y1
  · rw [vv _ _ _ (by omega), b3 _ _ _ (by omega), b2 _ _ _ (by omega), b1 _ _ _ (by omega)]; exact y2
  · rw [vv _ _ _ (by omega), b3 _ _ _ (by omega), b2 _ _ _ (by omega), b1 _ _ _ (by omega)]; exact y3
  · rw [vv _ _ _ (by omega), b3 _ _ _ (by omega), b2 _ _ _ (by omega), a1 u hu, k0 _ _ _ (by omega)]; exact (h4 u hu).1
  · rw [vv _ _ _ (by omega), b3 _ _ _ (by omega), a2 u hu, b1 _ _ _ (by omega), k0 _ _ _ (by omega)]; exact (h4 u hu).2
  · rw [vv _ _ _ (by omega), a3 (64 * c + x) (by omega), b2 _ _ _ (by omega), b1 _ _ _ (by omega), k0 _ _ _ (by omega)]; exact h6 c x hc hx
  · unfold tc at h; rw [vv _ _ _ (by omega)]; exact k3 _ _ _ (by omega)
  · rw [w3, w2, w1, c3, c2, c1, c0]
