/-! the reference joins -/
theorem both_l {v b d : Int64} {β : Int} (hv : v = Uu ∨ (-13107200 ≤ v.toInt ∧ v.toInt ≤ 13107200)) (hb : b.toInt = β) (hd : d.toInt = -β) (hβ : -13107200 ≤ β ∧ β ≤ 13107200) : (if 0 ≤ lg_cmp d (Wn v) then Wn v else d) = Wn (if b < v then v else b) := by
  apply Int64.toInt_inj.mp
  have wb : (Wn b).toInt = -β := by rw [Wn_n (by omega), hb]
  rcases hv with hv | hv
  · rw [if_neg (show ¬ b < v by rw [ltT64, hv, Uu_T, hb]; omega), wb, if_neg (by rw [lgP, Wn_U hv]; omega), hd]
  · have wv : (Wn v).toInt = -v.toInt := Wn_n (by omega)
    by_cases y : b < v
    · rw [if_pos y]
      rw [ltT64] at y
      rw [if_pos (by rw [lgP, wv]; omega)]
    · rw [if_neg y]
      rw [ltT64] at y
      by_cases z : 0 ≤ lg_cmp d (Wn v)
      · rw [if_pos z]; rw [lgP, wv] at z; rw [wv, wb]; omega
      · rw [if_neg z, wb, hd]
theorem joins_sr {F : Nat} {m : Mm} {r : Int32 × Mm} (e : f_X10_joins F m = some r) : SR m r.2 := fun k i j h => by unfold scr at h; exact (fr_X10_joins (by omega) (by omega) (by omega) e)
theorem join_sr {F : Nat} {m m' : Mm} (e : f_X5_join F m 0 = some m') : SR m m' := fun k i j h => by unfold scr at h; exact (fr_X5_join (by omega) e)
def K46 (m m' : Mm) : Prop := ∀ k i j, ¬ (k = 1000 ∧ (j = 46 ∨ j = 47)) → m'.1 k i j = m.1 k i j
theorem K46.mt {m m' : Mm} {D : Tr} (h : K46 m m') (hm : MT m D) : MT m' D := hm.kept (fun k j a => h _ _ _ (by omega))
theorem Wn_0 : Wn 0 = 0 := by decide
theorem Wn_Uu : Wn Uu = Ff := by decide
theorem b138_end {F N : Nat} {m : Mm} (h : ∀ a, a < 3 → 0 ≤ (m.2 1046 0 (3 * a + a)).toInt) : f_X10_joins_b138 F (N + 1) m (nI 3) = some (1, m) := by
  have h0 : 0 ≤ (m.2 1046 0 0).toInt := h 0 (by omega)
  have h1 : 0 ≤ (m.2 1046 0 4).toInt := h 1 (by omega)
  have h2 : 0 ≤ (m.2 1046 0 8).toInt := h 2 (by omega)
  have z : (0 : Int64).toInt = 0 := by decide
  rw [f_X10_joins_b138, if_pos (by decide), show (0 : Int32) = nI 0 from rfl, show (4 : Int32) = nI 4 from rfl, show (8 : Int32) = nI 8 from rfl, rl_in (show 0 < 9 by omega) (by omega), obs, rl_in (show 4 < 9 by omega) (by omega), obs, rl_in (show 8 < 9 by omega) (by omega), obs, show nI 0 = (0 : Int32) from rfl]
  rw [if_neg (by rw [lgT, z]; omega), if_neg (by rw [lgT, z]; omega), if_neg (by rw [lgT, z]; omega)]
theorem b138_bad {F N : Nat} {m : Mm} (h : ∃ a, a < 3 ∧ (m.2 1046 0 (3 * a + a)).toInt < 0) : f_X10_joins_b138 F (N + 1) m (nI 3) = some (0, m) := by
  have z : (0 : Int64).toInt = 0 := by decide
  rw [f_X10_joins_b138, if_pos (by decide), show (0 : Int32) = nI 0 from rfl, show (4 : Int32) = nI 4 from rfl, show (8 : Int32) = nI 8 from rfl, rl_in (show 0 < 9 by omega) (by omega), obs, rl_in (show 4 < 9 by omega) (by omega), obs, rl_in (show 8 < 9 by omega) (by omega), obs, show nI 0 = (0 : Int32) from rfl]
  simp only [lgT, z]
  by_cases c0 : (m.2 1046 0 0).toInt < 0
  · rw [if_pos c0]
  rw [if_neg c0]
  by_cases c1 : (m.2 1046 0 4).toInt < 0
  · rw [if_pos c1]
  rw [if_neg c1]
  by_cases c2 : (m.2 1046 0 8).toInt < 0
  · rw [if_pos c2]
  obtain ⟨a, ha, hb⟩ := h
  rcases (show a = 0 ∨ a = 1 ∨ a = 2 by omega) with rfl | rfl | rfl
  · exact absurd hb c0
  · exact absurd hb c1
  · exact absurd hb c2
theorem letters_m {F : Nat} {μ : Mm} {D : Tr} (hF : 1000 ≤ F) (hv : TV D) (h : MT μ D) (h0 : MO6 μ (Ml D 0)) : ∃ m', f_X10_joins_b35 F F μ 0 = f_X10_joins_b138 F F m' 0 ∧ MO6 m' (Ml D 64) := by
  obtain ⟨m2, e2, j1, j2⟩ := loop_inv (fun N m x => f_X10_joins_b35 F N m x) (fun m => f_X10_joins_b138 F F m 0) 64 (fun x m => K46 μ m ∧ MO6 m (Ml D x)) (by
    intro N m x hx ⟨i1, i2⟩
    have hm : MT m D := i1.mt h
    show ∃ s', f_X10_joins_b35 F (N + 1) m (nI x) = f_X10_joins_b35 F N s' (nI (x + 1)) ∧ K46 μ s' ∧ MO6 s' (lM D x (Ml D x))
    rw [f_X10_joins_b35, if_neg (by rw [show (64 : Int32) = nI 64 from rfl]; exact ngt (by omega) (by omega) hx), show (9 : Int32) = nI (9 + 0) from rfl, show (10 : Int32) = nI (9 + 1) from rfl, seekM_ok hF hv hm, obs, s1]
    cases l0 : ltr D 0 x with
    | none =>
      have e0 : skR D m 0 x = (0, m) := by unfold skR; rw [l0]
      rw [e0, if_pos rfl]
      exact ⟨m, rfl, i1, by unfold lM; rw [l0]; exact i2⟩
    | some u =>
      obtain ⟨p, i⟩ := u
      obtain ⟨hp, hi, -⟩ := ltr_some l0
      obtain ⟨m1, e1⟩ : ∃ m1, m1 = wi (wi m 1000 0 46 (nI p)) 1000 0 47 (zM (tL D p) i) := ⟨_, rfl⟩
      have e0 : skR D m 0 x = (1, m1) := by unfold skR; rw [l0, e1]
      have k1 : K46 m m1 := fun k i j a => by rw [e1, wi_at, if_neg (by omega), wi_at, if_neg (by omega)]
      have v46 : m1.1 1000 0 46 = nI p := by rw [e1, wi_at, if_neg (by omega), wi_at, if_pos ⟨rfl, rfl, rfl⟩]
      have v47 : m1.1 1000 0 47 = zM (tL D p) i := by rw [e1, wi_at, if_pos ⟨rfl, rfl, rfl⟩]
      have l1' : m1.2 = m.2 := by rw [e1, wi_2, wi_2]
      have j1 : K46 μ m1 := fun k i j a => (k1 k i j a).trans (i1 k i j a)
      rw [e0, if_neg i10, seekM_ok hF hv (k1.mt hm), obs]
      cases l1 : ltr D 1 x with
      | none =>
        have e9 : skR D m1 1 x = (0, m1) := by unfold skR; rw [l1]
        rw [e9, if_pos rfl]
        exact ⟨m1, rfl, j1, by unfold lM; rw [l0, l1]; intro a b ha hb; rw [l1']; exact i2 a b ha hb⟩
      | some w =>
        obtain ⟨q, j⟩ := w
        obtain ⟨hq, hj, -⟩ := ltr_some l1
        obtain ⟨m2, e2⟩ : ∃ m2, m2 = wi (wi m1 1000 0 46 (nI q)) 1000 0 47 (zM (tL D q) j) := ⟨_, rfl⟩
        have e9 : skR D m1 1 x = (1, m2) := by unfold skR; rw [l1, e2]
        have k2 : K46 m1 m2 := fun k i j a => by rw [e2, wi_at, if_neg (by omega), wi_at, if_neg (by omega)]
        have w46 : m2.1 1000 0 46 = nI q := by rw [e2, wi_at, if_neg (by omega), wi_at, if_pos ⟨rfl, rfl, rfl⟩]
        have w47 : m2.1 1000 0 47 = zM (tL D q) j := by rw [e2, wi_at, if_pos ⟨rfl, rfl, rfl⟩]
        have l2' : m2.2 = m.2 := by rw [e2, wi_2, wi_2, l1']
        have j2 : K46 μ m2 := fun k i j a => (k2 k i j a).trans (j1 k i j a)
        rw [e9]
        dsimp only
        rw [if_neg i10, v46, v47, w46, w47, i3m, rl_in (show 3 * q + p < 9 by omega) (by omega), obs, obs, wg_in (show 3 * q + p < 9 by omega) (by omega), obs, wg_in (show 3 * q + p < 9 by omega) (by omega), obs]
        have ev : m2.2 1046 0 (3 * q + p) = Wn (Ml D x p q) := by rw [l2']; exact i2 q p hq hp
        obtain ⟨za, za'⟩ := zmb hv hp hi
        obtain ⟨zb, zb'⟩ := zmb hv hq hj
        have bl := both_l (v := Ml D x p q) (b := (zM (tL D p) i).toInt64 - (zM (tL D q) j).toInt64) (d := (zM (tL D q) j - zM (tL D p) i).toInt64) (OKM_l hv x p q hp hq) (tdiff hv hp hi hq hj) (by rw [t64, za, zb, sub32 zb' za', Int.neg_sub]) (by omega)
        have fin : ∀ v : Int64, v = Wn (if (zM (tL D p) i).toInt64 - (zM (tL D q) j).toInt64 < Ml D x p q then Ml D x p q else (zM (tL D p) i).toInt64 - (zM (tL D q) j).toInt64) → K46 μ (wj m2 1046 0 (3 * q + p) v) ∧ MO6 (wj m2 1046 0 (3 * q + p) v) (lM D x (Ml D x)) := fun v hv' => by
          refine ⟨j2, fun a b ha hb => ?_⟩
          unfold lM
          rw [l0, l1]
          show _ = Wn (rs (Ml D x) p q _ b a)
          unfold rs
          rw [wj_at]
          by_cases z : b = p ∧ a = q
          · rw [if_pos (show 1046 = 1046 ∧ 0 = 0 ∧ 3 * a + b = 3 * q + p by omega), if_pos z, hv']
          · rw [if_neg (by omega), if_neg z, l2']; exact i2 a b ha hb
        rw [ev]
        by_cases y : 0 ≤ lg_cmp (zM (tL D q) j - zM (tL D p) i).toInt64 (Wn (Ml D x p q))
        · rw [if_pos y]
          rw [if_pos y] at bl
          obtain ⟨f1, f2⟩ := fin _ bl
          exact ⟨_, rfl, f1, f2⟩
        · rw [if_neg y]
          rw [if_neg y] at bl
          obtain ⟨f1, f2⟩ := fin _ bl
          exact ⟨_, rfl, f1, f2⟩) (by
    intro N m _
    show f_X10_joins_b35 F (N + 1) m (nI 64) = _
    rw [f_X10_joins_b35, if_pos (by decide)]) F 0 μ (by omega) (by omega) ⟨fun _ _ _ _ => rfl, h0⟩
  exact ⟨m2, e2, j2⟩
theorem gd_not {D : Tr} {k : Nat} (g : ¬ gd D (k + 1)) (gk : gd D k) : ∃ a, a < 3 ∧ 0 < (Mk D (k + 1) a a).toInt := by
  have : ∃ a, a < 3 ∧ ¬ Mk D (k + 1) a a = 0 := by
    by_cases n0 : Mk D (k + 1) 0 0 = 0
    · by_cases n1 : Mk D (k + 1) 1 1 = 0
      · by_cases n2 : Mk D (k + 1) 2 2 = 0
        · exfalso
          refine g (fun i a hi ha => ?_)
          by_cases z : i = k + 1
          · rw [z]
            rcases (show a = 0 ∨ a = 1 ∨ a = 2 by omega) with rfl | rfl | rfl
            · exact n0
            · exact n1
            · exact n2
          · exact gk i a (by omega) ha
        · exact ⟨2, by omega, n2⟩
      · exact ⟨1, by omega, n1⟩
    · exact ⟨0, by omega, n0⟩
  obtain ⟨a, ha, hne⟩ := this
  have p0 := Mk_pos D a (k + 1)
  have : ¬ (Mk D (k + 1) a a).toInt = 0 := fun w => hne (Int64.toInt_inj.mp (by rw [w]; rfl))
  exact ⟨a, ha, by omega⟩
theorem gd_not0 {D : Tr} (g : ¬ gd D 0) : ∃ a, a < 3 ∧ 0 < (Mk D 0 a a).toInt := by
  have : ∃ a, a < 3 ∧ ¬ Mk D 0 a a = 0 := by
    by_cases n0 : Mk D 0 0 0 = 0
    · by_cases n1 : Mk D 0 1 1 = 0
      · by_cases n2 : Mk D 0 2 2 = 0
        · exfalso
          refine g (fun i a hi ha => ?_)
          obtain rfl : i = 0 := by omega
          rcases (show a = 0 ∨ a = 1 ∨ a = 2 by omega) with rfl | rfl | rfl
          · exact n0
          · exact n1
          · exact n2
        · exact ⟨2, by omega, n2⟩
      · exact ⟨1, by omega, n1⟩
    · exact ⟨0, by omega, n0⟩
  obtain ⟨a, ha, hne⟩ := this
  have p0 := Mk_pos D a 0
  have : ¬ (Mk D 0 a a).toInt = 0 := fun w => hne (Int64.toInt_inj.mp (by rw [w]; rfl))
  exact ⟨a, ha, by omega⟩
theorem pow_b {k : Nat} (hk : k ≤ 3) : (13107200 : Int) * 2 ^ k ≤ 549755813888 := by
  rcases (show k = 0 ∨ k = 1 ∨ k = 2 ∨ k = 3 by omega) with rfl | rfl | rfl | rfl <;> decide
theorem Wn_neg {D : Tr} (hv : TV D) {k a : Nat} (hk : k ≤ 3) (ha : a < 3) (h : 0 < (Mk D k a a).toInt) : (Wn (Mk D k a a)).toInt < 0 := by
  have ok := OKM_k hv k hk a a ha ha
  have hb := pow_b hk
  rcases ok with ok | ok
  · rw [ok, Uu_T] at h; omega
  · rw [Wn_n (by omega)]; omega
theorem joins_ok {F : Nat} {μ : Mm} {D : Tr} (hF : 1000 ≤ F) (hv : TV D) (h : MT μ D) : ∃ μ', (gd D 3 ∧ f_X10_joins F μ = some (1, μ') ∧ MO6 μ' (Mk D 3)) ∨ (¬ gd D 3 ∧ f_X10_joins F μ = some (0, μ')) := by
  obtain ⟨m0, e0, i1, i2⟩ := loop_inv (fun N m x => f_X10_joins_b2 F N m x) (fun m => f_X10_joins_b35 F F m 0) 9 (fun k m => m.1 = μ.1 ∧ ∀ j, j < k → m.2 1046 0 j = if j % 4 = 0 then 0 else Ff) (by
    intro N m k hk ⟨i1, i2⟩
    show ∃ s', f_X10_joins_b2 F (N + 1) m (nI k) = f_X10_joins_b2 F N s' (nI (k + 1)) ∧ _
    rw [f_X10_joins_b2, if_neg (by rw [show (9 : Int32) = nI 9 from rfl]; exact ngt (by omega) (by omega) hk), show (4 : Int32) = nI 4 from rfl, nI_div (by omega) (by omega), pk_mul, nI_sub (by omega), wg_in hk (by omega), obs, wg_in hk (by omega), obs, s1, show (1125899906842624 : Int64) = Ff from rfl]
    have fin : ∀ v : Int64, v = (if k % 4 = 0 then 0 else Ff) → (wj m 1046 0 k v).1 = μ.1 ∧ ∀ j, j < k + 1 → (wj m 1046 0 k v).2 1046 0 j = if j % 4 = 0 then 0 else Ff := fun v hv' => by
      refine ⟨i1, fun j hj => ?_⟩
      rw [wj_at]
      by_cases z : j = k
      · rw [if_pos ⟨rfl, rfl, z⟩, hv', z]
      · rw [if_neg (fun w => z w.2.2)]; exact i2 j (by omega)
    by_cases z : k % 4 = 0
    · rw [if_pos (by rw [show k - k / 4 * 4 = 0 by omega]; rfl)]
      exact ⟨_, rfl, fin _ (by rw [if_pos z])⟩
    · rw [if_neg (by rw [show (0 : Int32) = nI 0 from rfl, eqN (by omega) (by omega)]; omega)]
      exact ⟨_, rfl, fin _ (by rw [if_neg z])⟩) (by
    intro N m _
    show f_X10_joins_b2 F (N + 1) m (nI 9) = _
    rw [f_X10_joins_b2, if_pos (by decide)]) F 0 μ (by omega) (by omega) ⟨rfl, fun j hj => by omega⟩
  have h0 : MO6 m0 (Ml D 0) := fun a b ha hb => by
    rw [i2 _ (by omega)]
    show _ = Wn (if b = a then 0 else Uu)
    by_cases z : b = a
    · rw [if_pos z, if_pos (by omega), Wn_0]
    · rw [if_neg z, if_neg (by omega), Wn_Uu]
  have hm0 : MT m0 D := h.kept (fun k j _ => by rw [i1])
  obtain ⟨m1, e1, h1⟩ := letters_m hF hv hm0 h0
  obtain ⟨N0, eF⟩ : ∃ N0, F = N0 + 1 := ⟨F - 1, by omega⟩
  have fin : ∃ m3 N, f_X10_joins_b138 F F m1 (nI 0) = f_X10_joins_b138 F (N + 1) m3 (nI 3) ∧ (gd D 3 → MO6 m3 (Mk D 3)) ∧ (¬ gd D 3 → ∃ a, a < 3 ∧ (m3.2 1046 0 (3 * a + a)).toInt < 0) := by
    have step : ∀ (N k : Nat) (m : Mm), k < 3 → (gd D k → MO6 m (Mk D k)) → (¬ gd D k → ∃ a, a < 3 ∧ (m.2 1046 0 (3 * a + a)).toInt < 0) → ∃ m', f_X10_joins_b138 F (N + 1) m (nI k) = f_X10_joins_b138 F N m' (nI (k + 1)) ∧ (gd D (k + 1) → MO6 m' (Mk D (k + 1))) ∧ (¬ gd D (k + 1) → ∃ a, a < 3 ∧ (m'.2 1046 0 (3 * a + a)).toInt < 0) := fun N k m hk g1 g2 => by
      rw [f_X10_joins_b138, if_neg (by rw [show (3 : Int32) = nI 3 from rfl]; exact ngt (by omega) (by omega) hk)]
      obtain ⟨m', e', c1, c2, c3⟩ := phase_m (F := F) (μ := m) (fun μ a1 => f_X10_joins_b138 F N μ a1) hF hk
      have ex : gd D k → MO6 m' (Mk D (k + 1)) := fun g => c3 _ _ (g1 g) (g k k (Nat.le_refl _) hk) (OKM_k hv k (by omega)) (pow_b (by omega))
      refine ⟨m', e', fun g => ex (fun i a hi ha => g i a (by omega) ha), fun g => ?_⟩
      by_cases gk : gd D k
      · obtain ⟨a, ha, hp⟩ := gd_not g gk
        exact ⟨a, ha, by rw [ex gk a a ha ha]; exact Wn_neg hv (by omega) ha hp⟩
      · obtain ⟨a, ha, hb⟩ := g2 gk
        have := c2 a ha
        exact ⟨a, ha, by omega⟩
    obtain ⟨N, rfl⟩ : ∃ N, F = N + 1 + 1 + 1 + 1 := ⟨F - 4, by omega⟩
    obtain ⟨a1, b1, c1, d1⟩ := step (N + 1 + 1 + 1) 0 m1 (by omega) (fun _ => h1) (fun g => by
      obtain ⟨a, ha, hp⟩ := gd_not0 g
      have e9 : m1.2 1046 0 (3 * a + a) = Wn (Mk D 0 a a) := h1 a a ha ha
      exact ⟨a, ha, by rw [e9]; exact Wn_neg hv (by omega) ha hp⟩)
    obtain ⟨a2, b2, c2, d2⟩ := step (N + 1 + 1) 1 a1 (by omega) c1 d1
    obtain ⟨a3, b3, c3, d3⟩ := step (N + 1) 2 a2 (by omega) c2 d2
    exact ⟨a3, N, by rw [b1, b2, b3], c3, d3⟩
  obtain ⟨m3, N, e3, f1, f2⟩ := fin
  have ej : f_X10_joins F μ = f_X10_joins_b138 F (N + 1) m3 (nI 3) := by
    have e0' : f_X10_joins_b2 F F μ 0 = f_X10_joins_b35 F F m0 0 := e0
    unfold f_X10_joins
    rw [e0', e1]; exact e3
  refine ⟨m3, ?_⟩
  by_cases g : gd D 3
  · left
    refine ⟨g, ?_, f1 g⟩
    rw [ej]
    refine b138_end (fun a ha => ?_)
    rw [f1 g a a ha ha, g 3 a (Nat.le_refl _) ha, Wn_0]; decide
  · right
    exact ⟨g, by rw [ej]; exact b138_bad (f2 g)⟩
theorem agrees_1 {F : Nat} {m : Mm} (hF : 1000 ≤ F) (h : ∀ a, a < 3 → (m.2 501 0 (3 * a + a)).toInt ≤ 0) : f_X5_agrees F m = some 1 := by
  have z : (0 : Int64).toInt = 0 := by decide
  unfold f_X5_agrees
  obtain ⟨r, e, -⟩ := loop_inv (fun N (_ : Unit) x => f_X5_agrees_b2 F m N x) (fun _ => some 1) 3 (fun _ _ => True) (by
    intro N _ k hk _
    show ∃ s', f_X5_agrees_b2 F m (N + 1) (nI k) = f_X5_agrees_b2 F m N (nI (k + 1)) ∧ _
    have := h k hk
    rw [f_X5_agrees_b2, if_neg (by rw [show (3 : Int32) = nI 3 from rfl]; exact ngt (by omega) (by omega) hk), bound_in hk hk, obs, if_pos (by have w := lgG (m.2 501 0 (3 * k + k)) 0; rw [z] at w; rw [leT]; rw [ltT] at w; omega), s1]
    exact ⟨(), rfl, trivial⟩) (by
    intro N _ _
    show f_X5_agrees_b2 F m (N + 1) (nI 3) = _
    rw [f_X5_agrees_b2, if_pos (by decide)]) F 0 () (by omega) (by omega) trivial
  exact e
theorem agrees_0 {F : Nat} {m : Mm} (hF : 1000 ≤ F) (h : ∃ a, a < 3 ∧ 0 < (m.2 501 0 (3 * a + a)).toInt) : f_X5_agrees F m = some 0 := by
  have z : (0 : Int64).toInt = 0 := by decide
  unfold f_X5_agrees
  have := loop_ret (fun N (_ : Unit) x => f_X5_agrees_b2 F m N x) 3 (fun k _ => ∀ a, a < k → (m.2 501 0 (3 * a + a)).toInt ≤ 0) (fun r => r = 0) (by
    intro N _ k hk iv
    show (∃ r, f_X5_agrees_b2 F m (N + 1) (nI k) = some r ∧ _) ∨ ∃ s', f_X5_agrees_b2 F m (N + 1) (nI k) = f_X5_agrees_b2 F m N (nI (k + 1)) ∧ _
    have w := lgG (m.2 501 0 (3 * k + k)) 0
    rw [z, ltT] at w
    rw [f_X5_agrees_b2, if_neg (by rw [show (3 : Int32) = nI 3 from rfl]; exact ngt (by omega) (by omega) hk), bound_in hk hk, obs, s1]
    by_cases y : 0 < (m.2 501 0 (3 * k + k)).toInt
    · left; rw [if_neg (by rw [leT]; omega)]; exact ⟨0, rfl, rfl⟩
    · right; rw [if_pos (by rw [leT]; omega)]
      refine ⟨(), rfl, fun a ha => ?_⟩
      by_cases v : a = k
      · rw [v]; omega
      · exact iv a (by omega)) (by
    intro N _ iv
    obtain ⟨a, ha, hb⟩ := h
    have := iv a ha
    omega) F 0 () (by omega) (by omega) (fun a ha => by omega)
  obtain ⟨r, e, rfl⟩ := this
  exact e
theorem op_agree {F : Nat} {μ : Mm} (hF : 1000 ≤ F) (h : Rel μ) : OK2 (fun μ => f_X9_agree F μ) (fun μ => f_X10_agree F μ) μ := by
  obtain ⟨D, C, h⟩ := id h
  have hR : Rel μ := ⟨D, C, h⟩
  obtain ⟨μ1, e1, c1, c2⟩ := join_ok hF h.1 h.2.1
  have s1' := join_sr e1
  have h1 : Rl μ1 D C := h.kept s1'
  obtain ⟨μ2, h2⟩ := joins_ok hF h1.1 h1.2.2.1
  rcases h2 with ⟨g, e2, -⟩ | ⟨g, e2⟩
  · have a1 := agrees_1 hF (m := μ1) (fun a ha => by rw [c1 g a a ha ha, g 3 a (Nat.le_refl _) ha]; decide)
    refine ⟨1, μ1, μ2, ?_, ?_, hR.kept (s1'.trans (joins_sr e2))⟩
    · show f_X9_agree F μ = _
      unfold f_X9_agree; rw [e1, obs, a1, obs, if_neg i10]
    · show f_X10_agree F μ1 = _
      unfold f_X10_agree; rw [e2, obs, if_neg i10]
  · have a1 := agrees_0 hF (c2 g)
    refine ⟨0, μ1, μ2, ?_, ?_, hR.kept (s1'.trans (joins_sr e2))⟩
    · show f_X9_agree F μ = _
      unfold f_X9_agree; rw [e1, obs, a1, obs, if_pos rfl]
    · show f_X10_agree F μ1 = _
      unfold f_X10_agree; rw [e2, obs, if_pos rfl]
