/-! CALL: play -/
def RwC (μ : Mm) (d n : Nat) (R : Nat → Int64) : Prop := μ.1 600 d 2 = nI n ∧ ∀ j, j < 100 → μ.2 601 d j = R j
def RwM (m : Mm) (d n : Nat) (R : Nat → Int64) : Prop := m.1 1021 0 d = nI n ∧ ∀ j, j < 100 → m.2 1022 0 (100 * d + j) = R j
/-- what the class leaves alone, its counters aside -/
def G1 (μ μ' : Mm) : Prop := (∀ k i j, ¬ (200 ≤ k ∧ k < 300 ∧ i < 3) → ¬ (304 < k ∧ k ≤ 403 ∧ i < 3) → ¬ (k = 704 ∧ i = 0) → ¬ (k = 900 ∧ (j = 9 ∨ j = 10)) → μ'.1 k i j = μ.1 k i j) ∧ ∀ k i j, k = 601 ∨ k = 1022 → μ'.2 k i j = μ.2 k i j
def G2 (m m' : Mm) : Prop := (∀ k i j, ¬ sc k j → ¬ (k = 1008 ∧ j < 3) → ¬ (1009 ≤ k ∧ k ≤ 1012 ∧ j < 600) → ¬ (k = 1000 ∧ (j = 17 ∨ j = 18)) → m'.1 k i j = m.1 k i j) ∧ ∀ k i j, k = 601 ∨ k = 1022 → m'.2 k i j = m.2 k i j
theorem G1.trans {a b c : Mm} (h : G1 a b) (h2 : G1 b c) : G1 a c := ⟨fun k i j x y z w => (h2.1 k i j x y z w).trans (h.1 k i j x y z w), fun k i j x => (h2.2 k i j x).trans (h.2 k i j x)⟩
theorem G2.trans {a b c : Mm} (h : G2 a b) (h2 : G2 b c) : G2 a c := ⟨fun k i j x y z w => (h2.1 k i j x y z w).trans (h.1 k i j x y z w), fun k i j x => (h2.2 k i j x).trans (h.2 k i j x)⟩
theorem F1.g1 {a b : Mm} (h : F1 a b) : G1 a b := ⟨fun k i j x y z w => by
  rcases Nat.lt_or_ge k 300 with u | u
  · exact h.1 _ _ _ (by omega) z (by omega)
  · rcases Nat.lt_or_ge 304 k with v | v
    · exact h.1 _ _ _ (by omega) z (by omega)
    · exact h.2.1 _ _ _ u v, h.2.2⟩
theorem F2.g2 {a b : Mm} (h : F2 a b) : G2 a b := ⟨fun k i j x y z _ => h.1 k i j x y z, h.2⟩
theorem RwC.g1 {a b : Mm} {d n : Nat} {R : Nat → Int64} (h : RwC a d n R) (g : G1 a b) : RwC b d n R := ⟨by rw [g.1 _ _ _ (by omega) (by omega) (by omega) (by omega)]; exact h.1, fun j hj => by rw [g.2 _ _ _ (by omega)]; exact h.2 j hj⟩
theorem RwM.g2 {a b : Mm} {d n : Nat} {R : Nat → Int64} (h : RwM a d n R) (g : G2 a b) : RwM b d n R := ⟨by rw [g.1 _ _ _ (by unfold sc; omega) (by omega) (by omega) (by omega)]; exact h.1, fun j hj => by rw [g.2 _ _ _ (by omega)]; exact h.2 j hj⟩
theorem intAt_in {μ : Mm} {d n y : Nat} {R : Nat → Int64} (h : RwC μ d n R) (hy : y < 100) : f_X6_intAt μ d (nI y) = some (R y).toInt32 := by
  unfold f_X6_intAt
  rw [if_neg (nN0 (by omega)), if_neg (by rw [show (100 : Int32) = nI 100 from rfl]; exact ngt (by omega) (by omega) hy), rl_in hy (by omega), obs, h.2 y hy]
theorem isIn_m {m : Mm} {d n y : Nat} {R : Nat → Int64} (h : RwM m d n R) (hd : d < 6) (hn : n ≤ 100) (hy : y < 1000) : f_X10_isIn m (nI d) (nI y) = some (if y < n then 1 else 0) := by
  unfold f_X10_isIn
  rw [ra_in hd (by omega), obs, h.1]
  by_cases q : y < n
  · rw [in_in (by omega) q, obs, if_pos q]; rfl
  · rw [in_out (by omega) (.inr (nle (by omega) (by omega) (by omega))), obs, if_neg q]; rfl
/-- the reference looks at the four places -/
theorem places_no {F : Nat} {m : Mm} {d n a kk : Nat} {R : Nat → Int64} {w pp : Int32} (K) (hF : 1000 ≤ F) (h : RwM m d n R) (hd : d < 6) (hn : n ≤ 100) (ha : a ≤ 100) (hkk : kk ≤ 20) (hno : ¬ a + 5 * kk + 4 ≤ n) : f_X10_play_b73 F K F m (nI d) (nI a) w pp (nI kk) 0 = some (-13, wi m 1000 0 18 (m.1 1000 0 18 + 1)) := by
  have key : ∀ (e N j : Nat), e + j = 4 → e < N → (∀ i, i < j → a + 5 * kk + i < n) → f_X10_play_b73 F K N m (nI d) (nI a) w pp (nI kk) (nI j) = some (-13, wi m 1000 0 18 (m.1 1000 0 18 + 1)) := by
    intro e
    induction e with
    | zero => intro N j h1 h2 h3; have := h3 3 (by omega); omega
    | succ e ih =>
      intro N j h1 h2 h3
      obtain ⟨N, rfl⟩ : ∃ N', N = N' + 1 := ⟨N - 1, by omega⟩
      rw [f_X10_play_b73, if_neg (by rw [show (4 : Int32) = nI 4 from rfl]; exact ngt (by omega) (by omega) (by omega)), show (5 : Int32) = nI 5 from rfl, pk_mul, nI_add, nI_add, isIn_m h hd hn (by omega), obs]
      by_cases q : a + 5 * kk + j < n
      · rw [if_pos q, if_neg i10, s1]
        exact ih N (j + 1) (by omega) (by omega) (fun i hi => by
          rcases Nat.lt_or_ge i j with u | u
          · exact h3 i u
          · rw [show i = j by omega]; exact q)
      · rw [if_neg q, if_pos rfl, refuse_m, obs]
  exact key 4 F 0 rfl (by omega) (fun i hi => by omega)
theorem places_yes {F : Nat} {m : Mm} {d n a kk : Nat} {R : Nat → Int64} {w pp : Int32} (K : Mm → Int32 → Int32 → Int32 → Int32 → Int32 → Option (Int32 × Mm)) (hF : 1000 ≤ F) (h : RwM m d n R) (hd : d < 6) (hn : n ≤ 100) (hy : a + 5 * kk + 4 ≤ n) : f_X10_play_b73 F K F m (nI d) (nI a) w pp (nI kk) 0 = (f_X10_comes F m pp (R (a + 5 * kk)).toInt32 (R (a + 5 * kk + 1)).toInt32 (R (a + 5 * kk + 2)).toInt32 (R (a + 5 * kk + 3)).toInt32).bind fun q39 => if 0 ≤ q39.1 then K q39.2 (nI d) (nI a) w pp (nI (kk + 1)) else (wf q39.2 1000 0 17 ((q39.2.1 1000 0 17) + (1 : Int32))).bind fun m41 => some (nI kk, m41) := by
  obtain ⟨N, rfl⟩ : ∃ N', F = N' + 5 := ⟨F - 5, by omega⟩
  have st : ∀ N' j, j < 4 → f_X10_play_b73 (N + 5) K (N' + 1) m (nI d) (nI a) w pp (nI kk) (nI j) = f_X10_play_b73 (N + 5) K N' m (nI d) (nI a) w pp (nI kk) (nI (j + 1)) := fun N' j hj => by
    rw [f_X10_play_b73, if_neg (by rw [show (4 : Int32) = nI 4 from rfl]; exact ngt (by omega) (by omega) (by omega)), show (5 : Int32) = nI 5 from rfl, pk_mul, nI_add, nI_add, isIn_m h hd hn (by omega), obs, if_pos (show a + 5 * kk + j < n by omega), if_neg i10, s1]
  rw [show (0 : Int32) = nI 0 from rfl, st (N + 4) 0 (by omega), st (N + 3) 1 (by omega), st (N + 2) 2 (by omega), st (N + 1) 3 (by omega), f_X10_play_b73, if_pos (by decide)]
  rw [show (100 : Int32) = nI 100 from rfl, show (5 : Int32) = nI 5 from rfl, show (1 : Int32) = nI 1 from rfl, show (2 : Int32) = nI 2 from rfl, show (3 : Int32) = nI 3 from rfl, pk_mul, pk_mul, nI_add, nI_add, nI_add, nI_add, nI_add, rl_in (by omega) (by omega), obs, rl_in (by omega) (by omega), obs, rl_in (by omega) (by omega), obs, rl_in (by omega) (by omega), obs, nI_add]
  rw [show 100 * d + a + 5 * kk = 100 * d + (a + 5 * kk) by omega, show 100 * d + (a + 5 * kk) + 1 = 100 * d + (a + 5 * kk + 1) by omega, show 100 * d + (a + 5 * kk) + 2 = 100 * d + (a + 5 * kk + 2) by omega, show 100 * d + (a + 5 * kk) + 3 = 100 * d + (a + 5 * kk + 3) by omega, h.2 _ (by omega), h.2 _ (by omega), h.2 _ (by omega), h.2 _ (by omega)]
  rfl
theorem l2i {P : Int64} {y : Nat} (h : P.toInt = y) (hy : y < 1000) : P.toInt32 = nI y := by
  have e : P = lN y := Int64.toInt_inj.mp (by rw [h, lN_toInt (by omega)])
  rw [e, lN_i]
theorem play_loop {F d n a w : Nat} {R : Nat → Int64} (pp : Int32) (hF : 1000 ≤ F) (hd : d < 6) (hn : n ≤ 100) (ha : a ≤ 100) (hw : w ≤ 20) : ∀ (cnt kk : Nat) (D : Tr), kk + cnt = w → TV D → ∃ r D' dr dh, TV D' ∧ (tP D' = tP D ∧ tT D' = tT D ∧ tW D' = tW D ∧ tH D' = tH D ∧ tR D' = tR D)
    ∧ (∀ (μ : Mm) (N : Nat) (P : Int64), cnt < N → P.toInt = ((a + 5 * kk : Nat) : Int) → CT μ 0 D → RwC μ d n R → ∃ μ1, f_X9_play_b77 F N μ (nI w) pp d P (nI kk) = some (r, μ1) ∧ CT μ1 0 D' ∧ G1 μ μ1 ∧ μ1.1 900 0 9 = μ.1 900 0 9 + dr ∧ μ1.1 900 0 10 = μ.1 900 0 10 + dh)
    ∧ (∀ m N, cnt < N → MT m D → RwM m d n R → ∃ m1, f_X10_play_b64 F N m (nI d) (nI a) (nI w) pp (nI kk) = some (r, m1) ∧ MT m1 D' ∧ G2 m m1 ∧ m1.1 1000 0 17 = m.1 1000 0 17 + dr ∧ m1.1 1000 0 18 = m.1 1000 0 18 + dh) := by
  intro cnt
  induction cnt with
  | zero =>
    intro kk D h1 hv
    obtain rfl : kk = w := by omega
    refine ⟨nI kk, D, 0, 0, hv, ⟨rfl, rfl, rfl, rfl, rfl⟩, fun μ N P hN _ hc _ => ⟨μ, ?_, hc, ⟨fun _ _ _ _ _ _ _ => rfl, fun _ _ _ _ => rfl⟩, (add0 _).symm, (add0 _).symm⟩, fun m N hN hm _ => ⟨m, ?_, hm, ⟨fun _ _ _ _ _ _ _ => rfl, fun _ _ _ _ => rfl⟩, (add0 _).symm, (add0 _).symm⟩⟩
    · obtain ⟨N, rfl⟩ : ∃ N', N = N' + 1 := ⟨N - 1, by omega⟩
      rw [f_X9_play_b77, if_pos (nle (by omega) (by omega) (by omega))]
    · obtain ⟨N, rfl⟩ : ∃ N', N = N' + 1 := ⟨N - 1, by omega⟩
      rw [f_X10_play_b64, if_pos (nle (by omega) (by omega) (by omega))]
  | succ cnt ih =>
    intro kk D h1 hv
    by_cases hy : a + 5 * kk + 4 ≤ n
    · obtain ⟨r0, D1, hv1, hs1, st, sm'⟩ := mark_step hv pp (R (a + 5 * kk)).toInt32 (R (a + 5 * kk + 1)).toInt32 (R (a + 5 * kk + 2)).toInt32 (R (a + 5 * kk + 3)).toInt32
      have clsStep : ∀ (μ : Mm) (N : Nat) (P : Int64), P.toInt = ((a + 5 * kk : Nat) : Int) → CT μ 0 D → RwC μ d n R → f_X9_play_b77 F (N + 1) μ (nI w) pp d P (nI kk) = (f_X9_tellMark μ pp (R (a + 5 * kk)).toInt32 (R (a + 5 * kk + 1)).toInt32 (R (a + 5 * kk + 2)).toInt32 (R (a + 5 * kk + 3)).toInt32).bind fun q35 => if 0 ≤ q35.1 then f_X9_play_b77 F N q35.2 (nI w) pp d (P + (5 : Int64)) (nI (kk + 1)) else some (nI kk, q35.2) := fun μ N P hP hc hr => by
        rw [f_X9_play_b77, if_neg (ngt (by omega) (by omega) (by omega)), hasPl (by omega), hr.1, hP, nIT (by omega), show (4 : Int32).toInt = 4 from by decide, if_pos (by omega), obs, if_neg i10, l2i hP (by omega)]
        rw [show (1 : Int32) = nI 1 from rfl, show (2 : Int32) = nI 2 from rfl, show (3 : Int32) = nI 3 from rfl, nI_add, nI_add, nI_add, intAt_in hr (by omega), obs, intAt_in hr (by omega), obs, intAt_in hr (by omega), obs, intAt_in hr (by omega), obs, nI_add]
      by_cases hr0 : 0 ≤ r0
      · have hr0' : ¬ r0 < 0 := by rw [ltT]; rw [leT] at hr0; omega
        obtain ⟨r, D', dr, dh, hv', hs', ic, im⟩ := ih (kk + 1) D1 (by omega) hv1
        refine ⟨r, D', dr, dh, hv', ⟨hs'.1.trans hs1.1, hs'.2.1.trans hs1.2.1, hs'.2.2.1.trans hs1.2.2.1, hs'.2.2.2.1.trans hs1.2.2.2.1, hs'.2.2.2.2.trans hs1.2.2.2.2⟩, fun μ N P hN hP hc hr => ?_, fun m N hN hm hr => ?_⟩
        · obtain ⟨N, rfl⟩ : ∃ N', N = N' + 1 := ⟨N - 1, by omega⟩
          obtain ⟨μ1, e1, c1, f1, n1⟩ := st μ hc
          rw [clsStep μ N P hP hc hr, e1, obs, if_pos hr0]
          have hP5 : (P + (5 : Int64)).toInt = ((a + 5 * (kk + 1) : Nat) : Int) := by
            rw [add64 (by omega) (by decide), hP, show (5 : Int64).toInt = 5 from by decide]; omega
          obtain ⟨μ2, e2, c2, g2, x1, x2⟩ := ic μ1 N (P + 5) (by omega) hP5 c1 (hr.g1 f1.g1)
          refine ⟨μ2, e2, c2, f1.g1.trans g2, ?_, ?_⟩
          · rw [x1, n1, if_neg hr0']
          · rw [x2, f1.1 _ _ _ (by omega) (by omega) (by omega)]
        · obtain ⟨N, rfl⟩ : ∃ N', N = N' + 1 := ⟨N - 1, by omega⟩
          obtain ⟨m1, e1, c1, f1⟩ := sm' F m hF hm
          rw [f_X10_play_b64, if_neg (ngt (by omega) (by omega) (by omega)), places_yes _ hF hr hd hn hy, e1, obs, if_pos hr0]
          obtain ⟨m2, e2, c2, g2, x1, x2⟩ := im m1 N (by omega) c1 (hr.g2 f1.g2)
          refine ⟨m2, e2, c2, f1.g2.trans g2, ?_, ?_⟩
          · rw [x1, f1.1 _ _ _ (by unfold sc; omega) (by omega) (by omega)]
          · rw [x2, f1.1 _ _ _ (by unfold sc; omega) (by omega) (by omega)]
      · have hr0' : r0 < 0 := by rw [ltT]; rw [leT] at hr0; omega
        refine ⟨nI kk, D1, 1, 0, hv1, hs1, fun μ N P hN hP hc hr => ?_, fun m N hN hm hr => ?_⟩
        · obtain ⟨N, rfl⟩ : ∃ N', N = N' + 1 := ⟨N - 1, by omega⟩
          obtain ⟨μ1, e1, c1, f1, n1⟩ := st μ hc
          rw [clsStep μ N P hP hc hr, e1, obs, if_neg hr0]
          exact ⟨μ1, rfl, c1, f1.g1, by rw [n1, if_pos hr0'], by rw [f1.1 _ _ _ (by omega) (by omega) (by omega), add0]⟩
        · obtain ⟨N, rfl⟩ : ∃ N', N = N' + 1 := ⟨N - 1, by omega⟩
          obtain ⟨m1, e1, c1, f1⟩ := sm' F m hF hm
          rw [f_X10_play_b64, if_neg (ngt (by omega) (by omega) (by omega)), places_yes _ hF hr hd hn hy, e1, obs, if_neg hr0, wf_eq, obs]
          refine ⟨_, rfl, c1.kept (fun k j z => by rw [wi_at, if_neg (by omega)]), f1.g2.trans ⟨fun k i j _ _ _ z => by rw [wi_at, if_neg (by omega)], fun _ _ _ _ => rfl⟩, ?_, ?_⟩
          · rw [wi_at, if_pos ⟨rfl, rfl, rfl⟩, f1.1 _ _ _ (by unfold sc; omega) (by omega) (by omega)]
          · rw [wi_at, if_neg (by omega), f1.1 _ _ _ (by unfold sc; omega) (by omega) (by omega), add0]
    · refine ⟨-13, D, 0, 1, hv, ⟨rfl, rfl, rfl, rfl, rfl⟩, fun μ N P hN hP hc hr => ?_, fun m N hN hm hr => ?_⟩
      · obtain ⟨N, rfl⟩ : ∃ N', N = N' + 1 := ⟨N - 1, by omega⟩
        refine ⟨wi μ 900 0 10 (μ.1 900 0 10 + 1), ?_, hc.kept (by omega) (fun k i j z => by rw [wi_at, if_neg (by omega)]), ⟨fun k i j _ _ _ z => by rw [wi_at, if_neg (by omega)], fun _ _ _ _ => rfl⟩, by rw [wi_at, if_neg (by omega), add0], by rw [wi_at, if_pos ⟨rfl, rfl, rfl⟩]⟩
        rw [f_X9_play_b77, if_neg (ngt (by omega) (by omega) (by omega)), hasPl (by omega), hr.1, hP, nIT (by omega), show (4 : Int32).toInt = 4 from by decide, if_neg (by omega), obs, if_pos rfl, refuse_c, obs]
      · obtain ⟨N, rfl⟩ : ∃ N', N = N' + 1 := ⟨N - 1, by omega⟩
        refine ⟨wi m 1000 0 18 (m.1 1000 0 18 + 1), ?_, hm.kept (fun k j z => by rw [wi_at, if_neg (by omega)]), ⟨fun k i j _ _ _ z => by rw [wi_at, if_neg (by omega)], fun _ _ _ _ => rfl⟩, by rw [wi_at, if_neg (by omega), add0], by rw [wi_at, if_pos ⟨rfl, rfl, rfl⟩]⟩
        rw [f_X10_play_b64, if_neg (ngt (by omega) (by omega) (by omega)), places_no _ hF hr hd hn ha (by omega) hy]
