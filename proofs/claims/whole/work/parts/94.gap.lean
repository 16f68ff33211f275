/-! CALLS: gap, answer -/
def OKX (fc : Mm → Option (Int32 × Int32 × Mm)) (fm : Mm → Option (Int32 × Mm)) (μ : Mm) : Prop := ∃ k v b μ1 μ2, fc μ = some (k, v, μ1) ∧ fm μ1 = some (b, μ2) ∧ μ2.1 1000 0 0 = k ∧ (k = 0 → v = b) ∧ (k = 0 ∨ k = 1 ∨ k = 2) ∧ Rel μ2
theorem SR_th (m : Mm) (v : Int32) : SR m (wi m 1000 0 0 v) := fun k i j a => ⟨by unfold scr at a; rw [wi_at, if_neg (by omega)], rfl⟩
theorem th_at (m : Mm) (v : Int32) : (wi m 1000 0 0 v).1 1000 0 0 = v := by rw [wi_at, if_pos ⟨rfl, rfl, rfl⟩]
theorem gapOf_sr {F : Nat} {m : Mm} {x y w : Int32} {r : Int32 × Mm} (e : f_X10_gapOf F m x y w = some r) : SR m r.2 := fun k i j h => by unfold scr at h; exact (fr_X10_gapOf (by omega) (by omega) (by omega) (by omega) e)
theorem k01 {k : Nat} (h : k < 2) : (k = 0 ∧ nI k = 0 ∧ ¬ nI k = 1) ∨ (k = 1 ∧ nI k = 1 ∧ ¬ nI k = 0) := by
  rcases (show k = 0 ∨ k = 1 by omega) with rfl | rfl
  · exact .inl ⟨rfl, rfl, by decide⟩
  · exact .inr ⟨rfl, rfl, by decide⟩
theorem gap_core {F p q k : Nat} {μ : Mm} {D : Tr} {C : Nat → Tr} (hF : 1000 ≤ F) (h : Rl μ D C) (hp : p < 3) (hq : q < 3) (hk : k < 2) : ∃ μ1, f_X5_join F μ 0 = some μ1 ∧ SR μ μ1 ∧ ((∃ v, f_X5_hasValue F μ1 (nI p) (nI q) (nI k) = some 1 ∧ f_X5_valueOf μ1 (nI p) (nI q) (nI k) = some v ∧ ∀ m, SR μ m → ∃ μ2, f_X10_gapOf F m (nI p) (nI q) (nI k) = some (v, μ2) ∧ μ2.1 1000 0 0 = 0 ∧ SR m μ2) ∨ (f_X5_hasValue F μ1 (nI p) (nI q) (nI k) = some 0 ∧ ∀ m, SR μ m → ∃ μ2, f_X10_gapOf F m (nI p) (nI q) (nI k) = some (0, μ2) ∧ μ2.1 1000 0 0 = 2 ∧ SR m μ2)) := by
  obtain ⟨μ1, e1, c1, c2⟩ := join_ok hF h.1 h.2.1
  refine ⟨μ1, e1, join_sr e1, ?_⟩
  by_cases g : gd D 3
  · have co := c1 g
    have a1 := agrees_1 hF (m := μ1) (fun a ha => by rw [co a a ha ha, g 3 a (Nat.le_refl _) ha]; decide)
    -- the bound that is asked
    have ask : ∀ a b, a < 3 → b < 3 → Mk D 3 a b = Uu ∨ (-1099511627776 ≤ (Mk D 3 a b).toInt ∧ (Mk D 3 a b).toInt ≤ 1099511627776) := fun a b ha hb => by
      have ok := OKM_k h.1 3 (by omega) a b ha hb
      have hb' := pow_b (k := 3) (by omega)
      rcases ok with ok | ok
      · exact .inl ok
      · right; omega
    have cmp : ∀ a b, a < 3 → b < 3 → (lg_cmp (Wn (Mk D 3 a b)) Ff < 0 ↔ ¬ Mk D 3 a b = Uu) := fun a b ha hb => by
      rw [lgT, Ff_T]
      rcases ask a b ha hb with z | z
      · rw [Wn_U z]; exact ⟨fun w => by omega, fun w => absurd z w⟩
      · rw [Wn_n z]; exact ⟨fun _ => nU z, fun _ => by omega⟩
    have wn : ∀ a b, ¬ Mk D 3 a b = Uu → Wn (Mk D 3 a b) = -(Mk D 3 a b) := fun a b z => by unfold Wn; rw [if_neg z]
    rcases k01 hk with ⟨-, k0, k1⟩ | ⟨-, k1, k0⟩
    · -- the least
      have ref : ∀ m, SR μ m → ∃ m2, MO6 m2 (Mk D 3) ∧ f_X10_gapOf F m (nI p) (nI q) (nI k) = f_X10_gapOf_b34 F m2 (nI k) 1 (Wn (Mk D 3 p q)) := fun m s => by
        have hr : Rl m D C := h.kept s
        obtain ⟨m2, h2⟩ := joins_ok hF hr.1 hr.2.2.1
        rcases h2 with ⟨-, e2, co2⟩ | ⟨ng, -⟩
        · refine ⟨m2, co2, ?_⟩
          unfold f_X10_gapOf
          rw [e2, obs, if_neg k1]
          dsimp only
          rw [i3m, rl_in (show 3 * q + p < 9 by omega) (by omega), obs, co2 q p hq hp]
        · exact absurd g ng
      by_cases u : Mk D 3 p q = Uu
      · right
        refine ⟨?_, fun m s => ?_⟩
        · unfold f_X5_hasValue f_X5_hasValue_b26
          rw [a1, obs, if_neg i10, if_pos k0, bound_in hp hq, obs, co p q hp hq, show (-1152921504606846976 : Int64) = Uu from rfl, if_pos ((lgE _ _).mpr u)]
        · obtain ⟨m2, co2, e2⟩ := ref m s
          refine ⟨wi m2 1000 0 0 2, ?_, th_at _ _, ?_⟩
          · rw [e2]; unfold f_X10_gapOf_b34 f_X10_gapOf_b56
            rw [if_neg i10, show (1125899906842624 : Int64) = Ff from rfl, if_neg (fun w => (cmp p q hp hq).mp w u), wf_eq, obs, th_at, if_neg (by decide)]
          · have e3 : f_X10_gapOf F m (nI p) (nI q) (nI k) = some (0, wi m2 1000 0 0 2) := by
              rw [e2]; unfold f_X10_gapOf_b34 f_X10_gapOf_b56
              rw [if_neg i10, show (1125899906842624 : Int64) = Ff from rfl, if_neg (fun w => (cmp p q hp hq).mp w u), wf_eq, obs, th_at, if_neg (by decide)]
            exact gapOf_sr e3
      · left
        refine ⟨(Mk D 3 p q).toInt32, ?_, ?_, fun m s => ?_⟩
        · unfold f_X5_hasValue f_X5_hasValue_b26
          rw [a1, obs, if_neg i10, if_pos k0, bound_in hp hq, obs, co p q hp hq, show (-1152921504606846976 : Int64) = Uu from rfl, if_neg (fun w => u ((lgE _ _).mp w))]
        · unfold f_X5_valueOf
          rw [if_pos k0, bound_in hp hq, obs, co p q hp hq]
        · obtain ⟨m2, co2, e2⟩ := ref m s
          have e3 : f_X10_gapOf F m (nI p) (nI q) (nI k) = some ((Mk D 3 p q).toInt32, wi m2 1000 0 0 0) := by
            rw [e2]; unfold f_X10_gapOf_b34 f_X10_gapOf_b56
            rw [if_neg i10, show (1125899906842624 : Int64) = Ff from rfl, if_pos ((cmp p q hp hq).mpr u), wf_eq, obs, th_at, if_pos rfl, if_neg k1, wn p q u, Int64.neg_neg]
          exact ⟨_, e3, th_at _ _, gapOf_sr e3⟩
    · -- the greatest
      have ref : ∀ m, SR μ m → ∃ m2, MO6 m2 (Mk D 3) ∧ f_X10_gapOf F m (nI p) (nI q) (nI k) = f_X10_gapOf_b34 F m2 (nI k) 1 (Wn (Mk D 3 q p)) := fun m s => by
        have hr : Rl m D C := h.kept s
        obtain ⟨m2, h2⟩ := joins_ok hF hr.1 hr.2.2.1
        rcases h2 with ⟨-, e2, co2⟩ | ⟨ng, -⟩
        · refine ⟨m2, co2, ?_⟩
          unfold f_X10_gapOf
          rw [e2, obs, if_pos k1]
          dsimp only
          rw [i3m, rl_in (show 3 * p + q < 9 by omega) (by omega), obs, co2 p q hp hq]
        · exact absurd g ng
      by_cases u : Mk D 3 q p = Uu
      · right
        refine ⟨?_, fun m s => ?_⟩
        · unfold f_X5_hasValue f_X5_hasValue_b26
          rw [a1, obs, if_neg i10, if_neg k0, bound_in hq hp, obs, co q p hq hp, show (-1152921504606846976 : Int64) = Uu from rfl, if_pos ((lgE _ _).mpr u)]
        · obtain ⟨m2, co2, e2⟩ := ref m s
          have e3 : f_X10_gapOf F m (nI p) (nI q) (nI k) = some (0, wi m2 1000 0 0 2) := by
            rw [e2]; unfold f_X10_gapOf_b34 f_X10_gapOf_b56
            rw [if_neg i10, show (1125899906842624 : Int64) = Ff from rfl, if_neg (fun w => (cmp q p hq hp).mp w u), wf_eq, obs, th_at, if_neg (by decide)]
          exact ⟨_, e3, th_at _ _, gapOf_sr e3⟩
      · left
        refine ⟨(-(Mk D 3 q p)).toInt32, ?_, ?_, fun m s => ?_⟩
        · unfold f_X5_hasValue f_X5_hasValue_b26
          rw [a1, obs, if_neg i10, if_neg k0, bound_in hq hp, obs, co q p hq hp, show (-1152921504606846976 : Int64) = Uu from rfl, if_neg (fun w => u ((lgE _ _).mp w))]
        · unfold f_X5_valueOf
          rw [if_neg k0, bound_in hq hp, obs, co q p hq hp]
        · obtain ⟨m2, co2, e2⟩ := ref m s
          have e3 : f_X10_gapOf F m (nI p) (nI q) (nI k) = some ((-(Mk D 3 q p)).toInt32, wi m2 1000 0 0 0) := by
            rw [e2]; unfold f_X10_gapOf_b34 f_X10_gapOf_b56
            rw [if_neg i10, show (1125899906842624 : Int64) = Ff from rfl, if_pos ((cmp q p hq hp).mpr u), wf_eq, obs, th_at, if_pos rfl, if_pos k1, wn q p u]
          exact ⟨_, e3, th_at _ _, gapOf_sr e3⟩
  · right
    have a1 := agrees_0 hF (c2 g)
    refine ⟨?_, fun m s => ?_⟩
    · unfold f_X5_hasValue
      rw [a1, obs, if_pos rfl]
    · have hr : Rl m D C := h.kept s
      obtain ⟨m2, h2⟩ := joins_ok hF hr.1 hr.2.2.1
      rcases h2 with ⟨gg, -⟩ | ⟨-, e2⟩
      · exact absurd gg g
      · have e3 : f_X10_gapOf F m (nI p) (nI q) (nI k) = some (0, wi m2 1000 0 0 2) := by
          unfold f_X10_gapOf f_X10_gapOf_b34 f_X10_gapOf_b56
          rw [e2, obs]
          dsimp only
          rw [i3m, rl_in (show 3 * p + q < 9 by omega) (by omega), obs, i3m, rl_in (show 3 * q + p < 9 by omega) (by omega), obs, if_pos rfl, if_pos rfl, wf_eq, obs, th_at, if_neg (show ¬ (2 : Int32) = 0 by decide)]
          split <;> rfl
        exact ⟨_, e3, th_at _ _, gapOf_sr e3⟩
theorem op_gap {F : Nat} {μ : Mm} (hF : 1000 ≤ F) (h : Rel μ) (x y w : Int32) : OKX (fun μ => f_X9_gap F μ x y w) (fun μ => f_X10_gap F μ x y w) μ := by
  obtain ⟨D, C, h⟩ := id h
  have hR : Rel μ := ⟨D, C, h⟩
  obtain ⟨hv, hc, hm, -⟩ := id h
  have hP := hv.1
  have bad : f_X9_gap F μ x y w = some (1, 0, μ) → f_X10_gap F μ x y w = f_X10_gap_b25 F μ → OKX (fun μ => f_X9_gap F μ x y w) (fun μ => f_X10_gap F μ x y w) μ := fun e1 e2 => by
    refine ⟨1, 0, 0, μ, wi μ 1000 0 0 1, e1, ?_, th_at _ _, fun z => absurd z i10, .inr (.inl rfl), hR.kept (SR_th μ 1)⟩
    show f_X10_gap F μ x y w = _
    rw [e2]; unfold f_X10_gap_b25; rw [wf_eq, obs]
  rcases ix2 x (n := tP D) (by omega) with q | ⟨p, hp, rfl⟩
  · refine bad ?_ ?_
    · unfold f_X9_gap; rw [hasP_out hc.1.1 q, obs, if_pos rfl]
    · unfold f_X10_gap; rw [isP_out hm.1.1 hP.2 q, obs, if_pos rfl]
  · rcases ix2 y (n := tP D) (by omega) with z | ⟨q, hq, rfl⟩
    · refine bad ?_ ?_
      · unfold f_X9_gap; rw [hasP_in hc.1.1 hP.2 hp, obs, if_neg i10, hasP_out hc.1.1 z, obs, if_pos rfl]
      · unfold f_X10_gap; rw [isP_in hm.1.1 hP.2 hp, obs, if_neg i10, isP_out hm.1.1 hP.2 z, obs, if_pos rfl]
    · rcases ix2 w (n := 2) (by omega) with z | ⟨k, hk, rfl⟩
      · refine bad ?_ ?_
        · unfold f_X9_gap; rw [hasP_in hc.1.1 hP.2 hp, obs, if_neg i10, hasP_in hc.1.1 hP.2 hq, obs, if_neg i10]
          rcases z with z | z
          · rw [if_pos z]
          · by_cases z0 : w < 0
            · rw [if_pos z0]
            · rw [if_neg z0, if_neg]
              rw [leT, nIT (by omega)] at z
              rw [leT, show (1 : Int32).toInt = 1 from by decide]; omega
        · unfold f_X10_gap; rw [isP_in hm.1.1 hP.2 hp, obs, if_neg i10, isP_in hm.1.1 hP.2 hq, obs, if_neg i10, show f_X10_in μ w 0 1 = some 0 from in_out (n := 2) (by omega) z, obs, if_pos rfl]
      · obtain ⟨μ1, e1, s1', hg⟩ := gap_core hF h (show p < 3 by omega) (show q < 3 by omega) hk
        have k1 : nI k ≤ 1 := by rw [show (1 : Int32) = nI 1 from rfl, leN (by omega) (by omega)]; omega
        have h1 : Rl μ1 D C := h.kept s1'
        have em : ∀ r, f_X10_gapOf F μ1 (nI p) (nI q) (nI k) = some r → f_X10_gap F μ1 (nI p) (nI q) (nI k) = some r := fun r hr => by
          unfold f_X10_gap
          rw [isP_in h1.2.2.1.1.1 hP.2 hp, obs, if_neg i10, isP_in h1.2.2.1.1.1 hP.2 hq, obs, if_neg i10, show f_X10_in μ1 (nI k) 0 1 = some 1 from in_in (n := 2) (by omega) hk, obs, if_neg i10, hr, obs]
        rcases hg with ⟨v, g1, g2, g3⟩ | ⟨g1, g3⟩
        · obtain ⟨μ2, e2, t2, s2⟩ := g3 μ1 s1'
          refine ⟨0, v, v, μ1, μ2, ?_, em _ e2, t2, fun _ => rfl, .inl rfl, hR.kept (s1'.trans s2)⟩
          show f_X9_gap F μ (nI p) (nI q) (nI k) = _
          unfold f_X9_gap
          rw [hasP_in hc.1.1 hP.2 hp, obs, if_neg i10, hasP_in hc.1.1 hP.2 hq, obs, if_neg i10, if_neg (nN0 (by omega)), if_pos k1, e1, obs, g1, obs, if_neg i10, g2, obs]
        · obtain ⟨μ2, e2, t2, s2⟩ := g3 μ1 s1'
          refine ⟨2, 0, 0, μ1, μ2, ?_, em _ e2, t2, fun z => absurd z (by decide), .inr (.inr rfl), hR.kept (s1'.trans s2)⟩
          show f_X9_gap F μ (nI p) (nI q) (nI k) = _
          unfold f_X9_gap
          rw [hasP_in hc.1.1 hP.2 hp, obs, if_neg i10, hasP_in hc.1.1 hP.2 hq, obs, if_neg i10, if_neg (nN0 (by omega)), if_pos k1, e1, obs, g1, obs, if_pos rfl]
theorem op_answer {F : Nat} {μ : Mm} (hF : 1000 ≤ F) (h : Rel μ) (x w : Int32) : OKX (fun μ => f_X9_answer F μ x w) (fun μ => f_X10_answer F μ x w) μ := by
  obtain ⟨D, C, h⟩ := id h
  have hR : Rel μ := ⟨D, C, h⟩
  obtain ⟨hv, hc, hm, -⟩ := id h
  have bad : f_X9_answer F μ x w = some (1, 0, μ) → f_X10_answer F μ x w = some (0, wi μ 1000 0 0 1) → OKX (fun μ => f_X9_answer F μ x w) (fun μ => f_X10_answer F μ x w) μ := fun e1 e2 =>
    ⟨1, 0, 0, μ, wi μ 1000 0 0 1, e1, e2, th_at _ _, fun z => absurd z i10, .inr (.inl rfl), hR.kept (SR_th μ 1)⟩
  rcases ix2 x (n := 64) (by omega) with q | ⟨a, ha, rfl⟩
  · refine bad ?_ ?_
    · unfold f_X9_answer
      rcases q with q | q
      · rw [if_pos q]
      · by_cases q0 : x < 0
        · rw [if_pos q0]
        · rw [if_neg q0, if_pos (show (64 : Int32) ≤ x from q)]
    · unfold f_X10_answer; rw [show f_X10_in μ x 0 63 = some 0 from in_out (n := 64) (by omega) q, obs, if_pos rfl, wf_eq, obs]
  · rcases ix2 w (n := 2) (by omega) with z | ⟨k, hk, rfl⟩
    · refine bad ?_ ?_
      · unfold f_X9_answer
        rw [if_neg (nN0 (by omega)), if_neg (by rw [show (64 : Int32) = nI 64 from rfl]; exact ngt (by omega) (by omega) ha)]
        rcases z with z | z
        · rw [if_pos z]
        · by_cases z0 : w < 0
          · rw [if_pos z0]
          · rw [if_neg z0, if_neg]
            rw [leT, nIT (by omega)] at z
            rw [leT, show (1 : Int32).toInt = 1 from by decide]; omega
      · unfold f_X10_answer; rw [show f_X10_in μ (nI a) 0 63 = some 1 from in_in (n := 64) (by omega) ha, obs, if_neg i10, show f_X10_in μ w 0 1 = some 0 from in_out (n := 2) (by omega) z, obs, if_pos rfl, wf_eq, obs]
    · have k1 : nI k ≤ 1 := by rw [show (1 : Int32) = nI 1 from rfl, leN (by omega) (by omega)]; omega
      -- both, up to the letters
      have ec : f_X9_answer F μ (nI a) (nI k) = (if μ.1 704 0 (64 * 2 + a) = -1 then some (2, 0, μ) else if μ.1 704 0 (64 * 3 + a) = -1 then some (2, 0, μ) else
          (f_X7_letterTime μ 0 (μ.1 704 0 (64 * 3 + a))).bind fun q23 => (f_X7_letterTime μ 0 (μ.1 704 0 (64 * 2 + a))).bind fun q25 => (f_X7_letterProcessor μ 0 (μ.1 704 0 (64 * 2 + a))).bind fun q27 => (f_X7_letterProcessor μ 0 (μ.1 704 0 (64 * 3 + a))).bind fun q29 => if q27 = q29 then some (0, q23 - q25, μ) else
          (f_X5_join F μ 0).bind fun q31 => (f_X5_hasValue F q31 q27 q29 (nI k)).bind fun q33 => if q33 = 0 then some (2, (0 : Int32), q31) else (f_X5_valueOf q31 q27 q29 (nI k)).bind fun q35 => some (0, (q23 - q25) + q35, q31)) := by
        unfold f_X9_answer
        rw [if_neg (nN0 (by omega)), if_neg (by rw [show (64 : Int32) = nI 64 from rfl]; exact ngt (by omega) (by omega) ha), if_neg (nN0 (by omega)), if_pos k1, show (11 : Int32) = nI (9 + 2) from rfl, show (12 : Int32) = nI (9 + 3) from rfl, letterAt_in (by omega) ha, obs, letterAt_in (by omega) ha, obs]
      have em : ∀ m : Mm, f_X10_answer F m (nI a) (nI k) = (f_X10_seeksMark F (wi m 1000 0 0 2) (nI (9 + 2)) (nI a)).bind fun q25 => if q25.1 = 0 then some (0, q25.2) else (f_X10_seeksMark F q25.2 (nI (9 + 3)) (nI a)).bind fun q27 => if q27.1 = 0 then some (0, q27.2) else
          (wf q27.2 1000 0 0 0).bind fun m29 => if (q25.2.1 1000 0 46) = (q27.2.1 1000 0 46) then some ((q27.2.1 1000 0 47) - (q25.2.1 1000 0 47), m29) else (f_X10_gapOf F m29 (q25.2.1 1000 0 46) (q27.2.1 1000 0 46) (nI k)).bind fun q31 => if (q31.2.1 1000 0 0) = 0 then some (((q27.2.1 1000 0 47) - (q25.2.1 1000 0 47)) + q31.1, q31.2) else some (0, q31.2) := fun m => by
        unfold f_X10_answer
        rw [show f_X10_in m (nI a) 0 63 = some 1 from in_in (n := 64) (by omega) ha, obs, if_neg i10, show f_X10_in m (nI k) 0 1 = some 1 from in_in (n := 2) (by omega) hk, obs, if_neg i10, wf_eq, obs]; rfl
      have w3 : ∀ (m : Mm) (u v : Int32), SR m (wi (wi m 1000 0 46 u) 1000 0 47 v) ∧ (wi (wi m 1000 0 46 u) 1000 0 47 v).1 1000 0 46 = u ∧ (wi (wi m 1000 0 46 u) 1000 0 47 v).1 1000 0 47 = v ∧ (wi (wi m 1000 0 46 u) 1000 0 47 v).1 1000 0 0 = m.1 1000 0 0 := fun m u v =>
        ⟨fun k i j a => ⟨by unfold scr at a; rw [wi_at, if_neg (by omega), wi_at, if_neg (by omega)], rfl⟩, by rw [wi_at, if_neg (by omega), wi_at, if_pos ⟨rfl, rfl, rfl⟩], by rw [wi_at, if_pos ⟨rfl, rfl, rfl⟩], by rw [wi_at, if_neg (by omega), wi_at, if_neg (by omega)]⟩
      have sk : ∀ (m : Mm) (c : Nat), SR μ m → f_X10_seeksMark F m (nI (9 + c)) (nI a) = some (skR D m c a) := fun m c s => seekM_ok hF hv (h.kept s).2.2.1
      rcases letter_c hv hc (c := 2) (by omega) ha with ⟨l2, v2⟩ | ⟨p, i, l2, v2⟩
      · refine ⟨2, 0, 0, μ, wi μ 1000 0 0 2, ?_, ?_, th_at _ _, fun z => absurd z (by decide), .inr (.inr rfl), hR.kept (SR_th μ 2)⟩
        · show f_X9_answer F μ (nI a) (nI k) = _
          rw [ec, if_pos v2]
        · show f_X10_answer F μ (nI a) (nI k) = _
          have e2 : skR D (wi μ 1000 0 0 2) 2 a = (0, wi μ 1000 0 0 2) := by unfold skR; rw [l2]
          rw [em, sk _ 2 (SR_th μ 2), obs, e2, if_pos rfl]
      · obtain ⟨hp, hi, -⟩ := ltr_some l2
        have hnp := (hc.2.2.1 p hp).1.1
        -- the reference behind the first letter
        have r1 : ∀ m, SR μ m → ∃ m1, skR D (wi m 1000 0 0 2) 2 a = (1, m1) ∧ SR m m1 ∧ m1.1 1000 0 46 = nI p ∧ m1.1 1000 0 47 = zM (tL D p) i ∧ m1.1 1000 0 0 = 2 := fun m s => by
          refine ⟨wi (wi (wi m 1000 0 0 2) 1000 0 46 (nI p)) 1000 0 47 (zM (tL D p) i), by unfold skR; rw [l2], (SR_th m 2).trans (w3 _ _ _).1, (w3 _ _ _).2.1, (w3 _ _ _).2.2.1, ?_⟩
          rw [(w3 _ _ _).2.2.2, th_at]
        rcases letter_c hv hc (c := 3) (by omega) ha with ⟨l3, v3⟩ | ⟨q, j, l3, v3⟩
        · obtain ⟨m1, e1, s1', -, -, t1⟩ := r1 μ (SR.rf μ)
          refine ⟨2, 0, 0, μ, m1, ?_, ?_, t1, fun z => absurd z (by decide), .inr (.inr rfl), hR.kept s1'⟩
          · show f_X9_answer F μ (nI a) (nI k) = _
            rw [ec, v2, if_neg (nn1 (by omega)), if_pos v3]
          · show f_X10_answer F μ (nI a) (nI k) = _
            have e3 : skR D m1 3 a = (0, m1) := by unfold skR; rw [l3]
            rw [em, sk _ 2 (SR_th μ 2), obs, e1, if_neg i10, sk _ 3 s1', obs, e3, if_pos rfl]
        · obtain ⟨hq, hj, -⟩ := ltr_some l3
          have hnq := (hc.2.2.1 q hq).1.1
          have cls : f_X9_answer F μ (nI a) (nI k) = if nI p = nI q then some (0, zM (tL D q) j - zM (tL D p) i, μ) else
              (f_X5_join F μ 0).bind fun q31 => (f_X5_hasValue F q31 (nI p) (nI q) (nI k)).bind fun q33 => if q33 = 0 then some (2, (0 : Int32), q31) else (f_X5_valueOf q31 (nI p) (nI q) (nI k)).bind fun q35 => some (0, (zM (tL D q) j - zM (tL D p) i) + q35, q31) := by
            rw [ec, v2, v3, if_neg (nn1 (by omega)), if_neg (nn1 (by omega)), ltime hc hq hj, obs, ltime hc hp hi, obs, lproc hp (by omega), obs, lproc hq (by omega), obs]
          have r2 : ∀ m, SR μ m → ∃ m2, SR m m2 ∧ m2.1 1000 0 0 = 0 ∧ f_X10_answer F m (nI a) (nI k) = if nI p = nI q then some (zM (tL D q) j - zM (tL D p) i, m2) else (f_X10_gapOf F m2 (nI p) (nI q) (nI k)).bind fun q31 => if (q31.2.1 1000 0 0) = 0 then some ((zM (tL D q) j - zM (tL D p) i) + q31.1, q31.2) else some (0, q31.2) := fun m s => by
            obtain ⟨m1, e1, s1', x1, x2, -⟩ := r1 m s
            have e3 : skR D m1 3 a = (1, wi (wi m1 1000 0 46 (nI q)) 1000 0 47 (zM (tL D q) j)) := by unfold skR; rw [l3]
            have y := w3 m1 (nI q) (zM (tL D q) j)
            refine ⟨wi (wi (wi m1 1000 0 46 (nI q)) 1000 0 47 (zM (tL D q) j)) 1000 0 0 0, (s1'.trans y.1).trans (SR_th _ 0), th_at _ _, ?_⟩
            rw [em, sk _ 2 (s.trans (SR_th m 2)), obs, e1, if_neg i10, sk _ 3 (s.trans s1'), obs, e3, if_neg i10, wf_eq, obs, x1, x2, y.2.1, y.2.2.1]
          by_cases pq : nI p = nI q
          · obtain ⟨m2, s2, t2, e2⟩ := r2 μ (SR.rf μ)
            refine ⟨0, zM (tL D q) j - zM (tL D p) i, zM (tL D q) j - zM (tL D p) i, μ, m2, ?_, ?_, t2, fun _ => rfl, .inl rfl, hR.kept s2⟩
            · show f_X9_answer F μ (nI a) (nI k) = _
              rw [cls, if_pos pq]
            · show f_X10_answer F μ (nI a) (nI k) = _
              rw [e2, if_pos pq]
          · obtain ⟨μ1, e1, s1', hg⟩ := gap_core hF h hp hq hk
            obtain ⟨m2, s2, t2, e2⟩ := r2 μ1 s1'
            rcases hg with ⟨v, g1, g2, g3⟩ | ⟨g1, g3⟩
            · obtain ⟨μ2, e3, t3, s3⟩ := g3 m2 (s1'.trans s2)
              refine ⟨0, (zM (tL D q) j - zM (tL D p) i) + v, (zM (tL D q) j - zM (tL D p) i) + v, μ1, μ2, ?_, ?_, t3, fun _ => rfl, .inl rfl, hR.kept ((s1'.trans s2).trans s3)⟩
              · show f_X9_answer F μ (nI a) (nI k) = _
                rw [cls, if_neg pq, e1, obs, g1, obs, if_neg i10, g2, obs]
              · show f_X10_answer F μ1 (nI a) (nI k) = _
                rw [e2, if_neg pq, e3, obs, if_pos t3]
            · obtain ⟨μ2, e3, t3, s3⟩ := g3 m2 (s1'.trans s2)
              refine ⟨2, 0, 0, μ1, μ2, ?_, ?_, t3, fun z => absurd z (by decide), .inr (.inr rfl), hR.kept ((s1'.trans s2).trans s3)⟩
              · show f_X9_answer F μ (nI a) (nI k) = _
                rw [cls, if_neg pq, e1, obs, g1, obs, if_pos rfl]
              · show f_X10_answer F μ1 (nI a) (nI k) = _
                rw [e2, if_neg pq, e3, obs, if_neg (by rw [t3]; decide)]
