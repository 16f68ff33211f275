/-! CALLS: at, toss, differ -/
def OKL (fc : Mm → Option (Int32 × Int64 × Mm)) (fm : Mm → Option (Int64 × Mm)) (μ : Mm) : Prop := ∃ k v b μ1 μ2, fc μ = some (k, v, μ1) ∧ fm μ1 = some (b, μ2) ∧ μ2.1 1000 0 0 = k ∧ (k = 0 → v = b) ∧ (k = 0 ∨ k = 1 ∨ k = 2) ∧ Rel μ2
theorem nI5 {s : Nat} (h : s ≤ 5) : nI s = 5 ↔ s = 5 := by
  refine ⟨fun e => ?_, fun e => by rw [e]; rfl⟩
  have := congrArg Int32.toInt e
  rw [nIT (by omega), show (5 : Int32).toInt = 5 from by decide] at this; omega
theorem nI0 {s : Nat} (h : s ≤ 5) : nI s = 0 ↔ s = 0 := by
  refine ⟨fun e => ?_, fun e => by rw [e]; rfl⟩
  have := congrArg Int32.toInt e
  rw [nIT (by omega), show (0 : Int32).toInt = 0 from by decide] at this; omega
theorem hasRow_c {μ : Mm} {d s : Nat} (t1 : μ.1 600 d 1 = nI s) (h : s ≤ 5) : f_X6_hasRow μ d = some (if s = 0 ∨ s = 5 then 0 else 1) := by
  unfold f_X6_hasRow
  rw [t1]
  have l1 : nI s < 1 ↔ s < 1 := by rw [show (1 : Int32) = nI 1 from rfl, ltN (by omega) (by omega)]
  have l4 : 4 < nI s ↔ 4 < s := by rw [show (4 : Int32) = nI 4 from rfl, ltN (by omega) (by omega)]
  simp only [l1, l4]
  by_cases z0 : s = 0
  · rw [if_pos (show s < 1 by omega), if_pos (show s = 0 ∨ s = 5 by omega)]
  · rw [if_neg (show ¬ s < 1 by omega)]
    by_cases z : s = 5
    · rw [if_pos (show 4 < s by omega), if_pos (show s = 0 ∨ s = 5 by omega)]
    · rw [if_neg (show ¬ 4 < s by omega), if_neg (show ¬ (s = 0 ∨ s = 5) by omega)]
theorem op_at {μ : Mm} (h : Rel μ) (x y : Int32) : OKL (fun μ => f_X9_at μ x y) (fun μ => f_X10_at μ x y) μ := by
  obtain ⟨D, C, h⟩ := id h
  have hR : Rel μ := ⟨D, C, h⟩
  have bad : ∀ k : Int32, (k = 1 ∨ k = 2) → f_X9_at μ x y = some (k, 0, μ) → f_X10_at μ x y = f_X10_at_b45 μ x y k → OKL (fun μ => f_X9_at μ x y) (fun μ => f_X10_at μ x y) μ := fun k hk e1 e2 => by
    have k0 : ¬ k = 0 := by rcases hk with z | z <;> (rw [z]; decide)
    refine ⟨k, 0, 0, μ, wi μ 1000 0 0 k, e1, ?_, th_at _ _, fun z => absurd z k0, .inr hk, hR.kept (SR_th μ k)⟩
    show f_X10_at μ x y = _
    rw [e2]; unfold f_X10_at_b45; rw [wf_eq, obs, th_at, if_neg k0]
  rcases isTape_c μ x with ⟨q1, q2⟩ | ⟨d, hd, rfl⟩
  · refine bad 1 (.inl rfl) ?_ ?_
    · unfold f_X9_at; rw [q1, obs, if_pos rfl]
    · unfold f_X10_at; rw [q2, obs, if_pos rfl]
  obtain ⟨-, -, -, -, -, h6, h7⟩ := id h
  obtain ⟨s, s0, t1, t2, t3, -⟩ := h7 d hd
  have ec : f_X9_at μ (nI d) y = (if (if s = 0 ∨ s = 5 then (0 : Int32) else 1) = 0 then some (2, 0, μ) else
      (f_X6_hasPlaces μ d y.toInt64 (1 : Int32)).bind fun q17 => if q17 = 0 then some (2, (0 : Int64), μ) else (rl μ 601 d 100 y).bind fun v19 => some (0, v19, μ)) := by
    unfold f_X9_at
    rw [isTape_in hd, obs, if_neg i10, rq_in hd (by omega), obs, hasRow_c t1 s0, obs]
  have em : f_X10_at μ (nI d) y = (if nI s = 0 then f_X10_at_b45 μ (nI d) y 2 else if nI s = 5 then f_X10_at_b45 μ (nI d) y 2 else (f_X10_isIn μ (nI d) y).bind fun q23 => if q23 = 0 then f_X10_at_b45 μ (nI d) y 2 else f_X10_at_b45 μ (nI d) y 0) := by
    unfold f_X10_at
    rw [isTapeM_in hd, obs, if_neg i10, ra_in hd (by omega), obs, t2, obs]
  by_cases z0 : s = 0
  · refine bad 2 (.inr rfl) ?_ ?_
    · rw [ec, if_pos (show s = 0 ∨ s = 5 by omega), if_pos rfl]
    · rw [em, if_pos ((nI0 s0).mpr z0)]
  by_cases z5 : s = 5
  · refine bad 2 (.inr rfl) ?_ ?_
    · rw [ec, if_pos (show s = 0 ∨ s = 5 by omega), if_pos rfl]
    · rw [em, if_neg (fun z => z0 ((nI0 s0).mp z)), if_pos ((nI5 s0).mpr z5)]
  obtain ⟨n, n1, n2, n3, n4⟩ := t3 (by omega) (by omega)
  rw [if_neg (show ¬ (s = 0 ∨ s = 5) by omega), if_neg i10, hasPl1 n2 n1, obs, show (1 : Int32).toInt = 1 from by decide] at ec
  have isin : f_X10_isIn μ (nI d) y = some (if 0 ≤ y.toInt ∧ y.toInt + 1 ≤ n then 1 else 0) := by
    unfold f_X10_isIn
    rw [ra_in hd (by omega), obs, n3]
    rcases ix2 y (n := n) (by omega) with q | ⟨j, hj, rfl⟩
    · rw [in_out (by omega) q, obs, if_neg]
      · rfl
      · rw [ltT, leT, nIT (by omega), show (0 : Int32).toInt = 0 from by decide] at q; omega
    · rw [in_in (by omega) hj, obs, if_pos (by rw [nIT (by omega)]; omega)]; rfl
  rw [if_neg (fun z => z0 ((nI0 s0).mp z)), if_neg (fun z => z5 ((nI5 s0).mp z)), isin, obs] at em
  by_cases q : 0 ≤ y.toInt ∧ y.toInt + 1 ≤ n
  · obtain ⟨j, hj, rfl⟩ : ∃ j, j < n ∧ y = nI j := ⟨y.toInt.toNat, by omega, toN y q.1⟩
    rw [if_pos (show 0 ≤ (nI j).toInt ∧ (0 : Int) ≤ 1 ∧ (nI j).toInt + 1 ≤ (n : Int) by omega), if_neg i10, rl_in (by omega) (by omega), obs] at ec
    rw [if_pos q, if_neg i10] at em
    refine ⟨0, μ.2 601 d j, μ.2 601 d j, μ, wi μ 1000 0 0 0, ec, ?_, th_at _ _, fun _ => rfl, .inl rfl, hR.kept (SR_th μ 0)⟩
    show f_X10_at μ (nI d) (nI j) = _
    rw [em]; unfold f_X10_at_b45
    rw [wf_eq, obs, th_at, if_pos rfl, show (100 : Int32) = nI 100 from rfl, pk_mul, nI_add, rl_in (by omega) (by omega), obs, n4 j (by omega)]; rfl
  · rw [if_neg (show ¬ (0 ≤ y.toInt ∧ (0 : Int) ≤ 1 ∧ y.toInt + 1 ≤ (n : Int)) by omega), if_pos rfl] at ec
    rw [if_neg q, if_pos rfl] at em
    exact bad 2 (.inr rfl) ec em
/-- a copy that is asked for -/
theorem lacks_ok {μ : Mm} {D : Tr} {C : Nat → Tr} (h : Rl μ D C) (x : Int32) : (∃ r μ1 μ2, ¬ r = 0 ∧ f_X9_copyFault μ x = some (r, μ1) ∧ f_X10_lacks μ1 x = some (r, μ2) ∧ Rl μ2 D C) ∨ ∃ d, d < 6 ∧ x = nI d ∧ f_X9_copyFault μ x = some (0, μ) ∧ (∀ m : Mm, (∀ j, m.1 1020 0 j = μ.1 1020 0 j) → f_X10_lacks m x = some (0, m)) ∧ ¬ μ.1 600 d 3 = 0 ∧ TV (C d) ∧ CT μ (d + 1) (C d) ∧ MC μ d (C d) := by
  rcases isTape_c μ x with ⟨q1, q2⟩ | ⟨d, hd, rfl⟩
  · refine .inl ⟨-1, μ, μ, by decide, ?_, ?_, h⟩
    · unfold f_X9_copyFault; rw [q1, obs, if_pos rfl]
    · unfold f_X10_lacks; rw [q2, obs, if_pos rfl]
  obtain ⟨-, -, -, -, -, h6, h7⟩ := id h
  obtain ⟨s, s0, t1, t2, -, t4⟩ := h7 d hd
  by_cases z0 : nI s = 0
  · refine .inl ⟨-11, wi μ 900 0 10 (μ.1 900 0 10 + 1), _, by decide, ?_, ?_, h.refuse⟩
    · unfold f_X9_copyFault; rw [isTape_in hd, obs, if_neg i10, rq_in hd (by omega), obs, t1, if_pos z0, refuse_c, obs]
    · unfold f_X10_lacks; rw [isTapeM_in hd, obs, if_neg i10, ra9 _ _ _ _ _ _ (by omega), ra_in hd (by omega), obs, t2, if_pos z0, refuse_m, obs, wi9 _ _ _ _ _ (by omega)]
  by_cases z5 : nI s = 5
  · obtain ⟨a1, a2, a3, a4⟩ := t4 ((nI5 s0).mp z5)
    refine .inr ⟨d, hd, rfl, ?_, fun m hm => ?_, a1, a2, a3, a4⟩
    · unfold f_X9_copyFault; rw [isTape_in hd, obs, if_neg i10, rq_in hd (by omega), obs, t1, if_neg z0, obs, t1, if_pos z5]
    · unfold f_X10_lacks; rw [isTapeM_in hd, obs, if_neg i10, ra_in hd (by omega), obs, hm, t2, if_neg z0, obs, if_pos z5]
  · refine .inl ⟨-12, wi μ 900 0 10 (μ.1 900 0 10 + 1), _, by decide, ?_, ?_, h.refuse⟩
    · unfold f_X9_copyFault; rw [isTape_in hd, obs, if_neg i10, rq_in hd (by omega), obs, t1, if_neg z0, obs, t1, if_neg z5, refuse_c, obs]
    · unfold f_X10_lacks; rw [isTapeM_in hd, obs, if_neg i10, ra9 _ _ _ _ _ _ (by omega), ra_in hd (by omega), obs, t2, if_neg z0, obs, if_neg z5, refuse_m, obs, wi9 _ _ _ _ _ (by omega)]
theorem CT.all {F t : Nat} {μ : Mm} {D : Tr} (hF : 1000 ≤ F) (h : CT μ t D) : f_X7_allMarks F μ t = some (nI (zn (tL D 0) + zn (tL D 1) + zn (tL D 2))) :=
  allMarks_c hF (h.2.2.1 0 (by omega)).1.2.1 (h.2.2.1 1 (by omega)).1.2.1 (h.2.2.1 2 (by omega)).1.2.1
theorem MC.kept_n {d : Nat} {μ : Mm} {D : Tr} (hd : d < 6) (h : MC μ d D) : f_X10_kept μ (nI d) = some (nI (zn (tL D 0) + zn (tL D 1) + zn (tL D 2))) := by
  obtain ⟨-, -, h⟩ := h
  unfold f_X10_kept
  rw [show (3 : Int32) = nI 3 from rfl, show (4 : Int32) = nI 4 from rfl, show (5 : Int32) = nI 5 from rfl, pk_mul, nI_add, nI_add, nI_add, ra_in (by omega) (by omega), obs, ra_in (by omega) (by omega), obs, ra_in (by omega) (by omega), obs, show 4 + 3 * d = 3 + 3 * d + 1 by omega, show 5 + 3 * d = 3 + 3 * d + 2 by omega, (h 1 (by omega)).2.2.1, (h 2 (by omega)).2.2.1, show μ.1 1008 0 (3 + 3 * d) = _ from (h 0 (by omega)).2.2.1, nI_add, nI_add]
theorem op_toss {F : Nat} {μ : Mm} (hF : 1000 ≤ F) (h : Rel μ) (x : Int32) : OK2 (fun μ => f_X9_toss F μ x) (fun μ => f_X10_toss μ x) μ := by
  obtain ⟨D, C, h⟩ := id h
  have hR : Rel μ := ⟨D, C, h⟩
  unfold OK2 f_X9_toss f_X10_toss
  dsimp only
  rcases lacks_ok h x with ⟨r, μ1, μ2, r0, e1, e2, h2⟩ | ⟨d, hd, rfl, e1, e2, a1, a2, a3, a4⟩
  · rw [e1, obs, if_neg r0]
    exact ⟨r, μ1, μ2, rfl, by rw [e2, obs, if_neg r0], D, C, h2⟩
  · rw [e1, obs, if_pos rfl, rq_in hd (by omega), obs, if_neg a1, a3.all hF, obs]
    by_cases z : nI (zn (tL (C d) 0) + zn (tL (C d) 1) + zn (tL (C d) 2)) = 0
    · rw [if_pos z, refuse_c, obs]
      refine ⟨-15, _, _, rfl, ?_, D, C, h.refuse⟩
      rw [e2 _ (fun j => wi9 _ _ _ _ _ (by omega)), obs, if_pos rfl, (a4.kept (fun k j a => wi9 _ _ _ _ _ (by omega))).kept_n hd, obs, if_pos z, refuse_m, obs, wi9 _ _ _ _ _ (by omega)]
    · rw [if_neg z]
      exact ⟨_, μ, μ, rfl, by rw [e2 _ (fun _ => rfl), obs, if_pos rfl, a4.kept_n hd, obs, if_neg z, obs], hR⟩
/-- the time that is counted, of any trace -/
def tcv (D : Tr) (p u : Nat) (w : Int32) : Int32 := if w = 5 then itf (gall (tL D p)) (zn (tL D p) - 1) 0 else itf (gsum (hmD D p) (tL D p) u w) (zn (tL D p) - 1) 0
theorem tc_c {F t p u : Nat} {μ : Mm} {D : Tr} {w : Int32} (hF : 1000 ≤ F) (hv : TV D) (hc : CT μ t D) (hu : u < tT D) (hp : p < 3) (e : tH D u = nI p) : ∃ μ1, f_X9_timeCountedAs F μ t (nI u) w = some (tcv D p u w, μ1) ∧ SR μ μ1 := by
  have h8 := hv.2.1.2
  have cL := (hc.2.2.1 p hp).1
  unfold f_X9_timeCountedAs tcv
  rw [homeLane_in (by omega) (by rw [(hc.2.1 u (by omega)).1]; exact e) hp, obs]
  by_cases w5 : w = 5
  · rw [if_pos w5, if_pos w5, whole_c cL, obs]
    exact ⟨μ, rfl, SR.rf μ⟩
  · rw [if_neg w5, if_neg w5]
    obtain ⟨m, e1, s1', r1⟩ := start_ok μ (hmD D p)
    obtain ⟨m', e2, s2⟩ := sum_c (u := u) (w := w) hF (cL.sw s1') (hv.2.2.2.2.2.1 p hp).2.1 r1 (by omega) (hmD_u hu e)
    rw [e1, obs]
    exact ⟨m', e2, (s1'.trans s2).sr⟩
theorem tc_m {F g p u : Nat} {μ : Mm} {D : Tr} {w : Int32} (hF : 1000 ≤ F) (hv : TV D) (hM : ML μ g (tL D p)) (r : RM μ ms0) (hc : HC μ (hmD D p)) (ht : μ.1 1000 0 33 = nI g) (hu : u < tT D) (hp : p < 3) : ∃ μ1, f_X10_summed F μ (nI u) w = some (tcv D p u w, μ1) ∧ SM μ μ1 := by
  have h8 := hv.2.1.2
  unfold tcv
  by_cases w5 : w = 5
  · subst w5
    rw [if_pos rfl]
    obtain ⟨m', e3, s3⟩ := sum5_m (u := u) hF hM (hv.2.2.2.2.2.1 p hp).2.1 r hc ht (by omega)
    exact ⟨m', e3, s3⟩
  · rw [if_neg w5]
    obtain ⟨m', e3, s3⟩ := sum_m (u := u) hF hM (hv.2.2.2.2.2.1 p hp).2.1 r hc ht (by omega) w5
    exact ⟨m', e3, s3⟩
theorem dif_ok {F d p u : Nat} {μ : Mm} {D : Tr} {w v : Int32} (hF : 1000 ≤ F) (hd : d < 6) (hv : TV D) (hM : MC μ d D) (hu : u < tT D) (hp : p < 3) (e : tH D u = nI p) : ∃ μ1, f_X10_differ_b98 F F μ (nI d) (nI u) w v 0 = some (v - tcv D p u w, μ1) ∧ SM μ μ1 := by
  have h8 := hv.2.1.2
  obtain ⟨m, e1, i1, i2⟩ := loop_inv (fun N m x => f_X10_differ_b98 F N m (nI d) (nI u) w v x) (fun μ => (ra μ 1031 0 8 (nI u)).bind fun v37 => (ra μ 1031 0 8 (nI u)).bind fun v39 => (ra μ 1024 0 6 (nI d)).bind fun v41 => (f_X10_starts F μ (((3) + ((3) * nI d)) + v37) v39 v41).bind fun q43 => (f_X10_summed F q43 (nI u) w).bind fun q45 => some (v - q45.1, q45.2)) 8 (fun j m => (∀ u, u < j → m.1 1031 0 u = tH D u) ∧ ∀ k i l, ¬ k = 1031 → sm μ m k i l) (by
      intro N m j hj ⟨i1, i2⟩
      show ∃ s', f_X10_differ_b98 F (N + 1) m (nI d) (nI u) w v (nI j) = f_X10_differ_b98 F N s' (nI d) (nI u) w v (nI (j + 1)) ∧ _
      rw [f_X10_differ_b98, if_neg (by rw [show (8 : Int32) = nI 8 from rfl, leN (by omega) (by omega)]; omega), show (8 : Int32) = nI 8 from rfl, pk_mul, nI_add, ra_in (by omega) (by omega), obs, wa_in hj (by omega), obs, s1]
      refine ⟨_, rfl, fun u hu => ?_, fun k i l hk => ?_⟩
      · rw [wi_at]
        by_cases e : u = j
        · rw [if_pos ⟨rfl, rfl, e⟩, (i2 _ _ _ (by omega)).1, e]; exact (hM.2.1 j hj).1
        · rw [if_neg (fun z => e z.2.2)]; exact i1 u (by omega)
      · exact (i2 k i l hk).trans ⟨by rw [wi_at, if_neg (fun z => hk z.1)], rfl⟩) (by
      intro N m _
      show f_X10_differ_b98 F (N + 1) m (nI d) (nI u) w v (nI 8) = _
      rw [f_X10_differ_b98, if_pos (by rw [show (8 : Int32) = nI 8 from rfl, leN (by omega) (by omega)]; omega)]) F 0 μ (by omega) (by omega) ⟨fun _ h => by omega, fun _ _ _ _ => ⟨rfl, rfl⟩⟩
  have sM : SM μ m := fun k i j q => i2 k i j (by unfold sc at q; omega)
  have hu8 : u < 8 := by omega
  have hM1 := hM.kept (μ' := m) (fun k j a => (i2 k 0 j (by omega)).1)
  obtain ⟨m', f1, f2, f3, f4, f5, f6⟩ := starts_ok (F := F) (μ := m) (p := nI (3 + 3 * d + p)) (q := nI p) (r := nI (tT D)) (by omega)
  have s2 := SM_starts f1
  have hM2 := hM1.kept (μ' := m') (fun k j a => (s2 k 0 j (by unfold sc; omega)).1)
  have hc2 : HC m' (hmD D p) := ⟨tT D, h8, f5, fun u hu => by
    rw [f6, f4, i1 u hu]; unfold hmD hmf; rw [decide_eq_true_iff]⟩
  obtain ⟨m'', g1, g2⟩ := tc_m (w := w) hF hv (hM2.2.2 p hp) f2 hc2 f3 hu hp
  refine ⟨m'', ?_, (sM.trans s2).trans g2⟩
  rw [show (0 : Int32) = nI 0 from rfl]
  refine e1.trans ?_
  rw [ra_in hu8 (by omega), obs, obs, i1 u hu8, e, ra_in hd (by omega), obs, hM1.1.2.1, show (3 : Int32) = nI 3 from rfl, pk_mul, nI_add, nI_add, f1, obs, g1, obs]
theorem op_differ {F : Nat} {μ : Mm} (hF : 1000 ≤ F) (h : Rel μ) (x y w : Int32) : OKX (fun μ => f_X9_differ F μ x y w) (fun μ => f_X10_differ F μ x y w) μ := by
  obtain ⟨D, C, h⟩ := id h
  have hR : Rel μ := ⟨D, C, h⟩
  have bad1 : f_X9_differ F μ x y w = some (1, 0, μ) → f_X10_differ F μ x y w = f_X10_differ_b68 F (wi μ 1000 0 0 0) → OKX (fun μ => f_X9_differ F μ x y w) (fun μ => f_X10_differ F μ x y w) μ := fun e1 e2 => by
    refine ⟨1, 0, 0, μ, wi (wi μ 1000 0 0 0) 1000 0 0 1, e1, ?_, th_at _ _, fun z => absurd z i10, .inr (.inl rfl), hR.kept ((SR_th μ 0).trans (SR_th _ 1))⟩
    show f_X10_differ F μ x y w = _
    rw [e2]; unfold f_X10_differ_b68; rw [wf_eq, obs]
  rcases isTape_c μ x with ⟨q1, q2⟩ | ⟨d, hd, rfl⟩
  · refine bad1 ?_ ?_
    · unfold f_X9_differ; rw [q1, obs, if_pos rfl]
    · unfold f_X10_differ f_X10_differ_b27; rw [wf_eq, obs, q2, obs, if_pos rfl, obs, if_pos rfl]
  obtain ⟨hv, hc, hm, -, -, h6, h7⟩ := id h
  obtain ⟨s, s0, t1, t2, -, t4⟩ := h7 d hd
  have w0k : ∀ k j, ¬ (k = 1000 ∧ j = 0) → (wi μ 1000 0 0 0).1 k 0 j = μ.1 k 0 j := fun k j a => by rw [wi_at, if_neg (by omega)]
  -- both, up to the state
  have ec : f_X9_differ F μ (nI d) y w = (if (if w < 0 then (0 : Int32) else if 5 < w then 0 else 1) = 0 then some (1, 0, μ) else (f_X7_hasTask μ 0 y).bind fun q21 => if q21 = 0 then some (1, (0 : Int32), μ) else if μ.1 600 d 3 = 0 then (if nI s = 5 then some (2, 0, μ) else some (2, 0, μ)) else if nI s = 5 then (f_X7_hasTask μ (d + 1) y).bind fun q30 => if q30 = 0 then some (1, (0 : Int32), μ) else (f_X9_timeCountedAs F μ 0 y w).bind fun q32 => (f_X9_timeCountedAs F q32.2 (d + 1) y w).bind fun q34 => some (0, q32.1 - q34.1, q34.2) else some (2, 0, μ)) := by
    unfold f_X9_differ
    rw [isTape_in hd, obs, if_neg i10, isSum_in, obs]
    simp only [rq_in (n := 6) hd (by omega), obs, t1]
  have em : ∀ m : Mm, m.1 1020 0 d = nI s → f_X10_differ F m (nI d) y w = (if (if w < 0 then (0 : Int32) else if 5 < w then 0 else 1) = 0 then f_X10_differ_b68 F (wi m 1000 0 0 0) else (f_X10_isTask (wi m 1000 0 0 0) y).bind fun q59 => if q59 = 0 then f_X10_differ_b68 F (wi m 1000 0 0 0) else if nI s = 5 then (if y < m.1 1024 0 d then f_X10_differ_b75 F (wi m 1000 0 0 0) (nI d) y w 1 else f_X10_differ_b68 F (wi m 1000 0 0 0)) else f_X10_differ_b75 F (wi m 1000 0 0 0) (nI d) y w 0) := fun m hm => by
    unfold f_X10_differ
    rw [wf_eq, obs, isTapeM_in hd, obs, if_neg i10, ra_in hd (by omega), obs, show (wi m 1000 0 0 0).1 1020 0 d = m.1 1020 0 d from by rw [wi_at, if_neg (by omega)], hm]
    unfold f_X10_differ_b27
    by_cases z5 : nI s = 5
    · rw [if_pos z5, isTapeM_in hd, obs, if_neg i10, in_eq, obs]
      simp only [if_pos z5, if_neg i10, ra_in (n := 6) hd (by omega), obs, show (wi m 1000 0 0 0).1 1024 0 d = m.1 1024 0 d from by rw [wi_at, if_neg (by omega)]]
    · rw [if_neg z5, isTapeM_in hd, obs, if_neg i10, in_eq, obs]
      simp only [if_neg z5, if_pos]
  have em0 := em μ t2
  by_cases z : (if w < 0 then (0 : Int32) else if 5 < w then 0 else 1) = 0
  · rw [if_pos z] at ec em0; exact bad1 ec em0
  rw [if_neg z] at ec em0
  have em' : ∀ m : Mm, m.1 1020 0 d = nI s → _ := fun m hm => (em m hm).trans (if_neg z)
  have hT := hv.2.1
  have h0 : (wi μ 1000 0 0 0).1 1000 0 2 = nI (tT D) := by rw [w0k _ _ (by omega)]; exact hm.1.2.1
  rcases ix2 y (n := tT D) (by omega) with q | ⟨u, hu, rfl⟩
  · rw [hasTask_out hc.1.2.1 q, obs, if_pos rfl] at ec
    rw [isTask_out h0 hT.2 q, obs, if_pos rfl] at em0
    exact bad1 ec em0
  rw [hasTask_in hc.1.2.1 hT.2 hu, obs, if_neg i10] at ec
  rw [isTask_in h0 hT.2 hu, obs, if_neg i10] at em0
  by_cases z5 : nI s = 5
  · obtain ⟨a1, a2, a3, a4⟩ := t4 ((nI5 s0).mp z5)
    have hT2 := a2.2.1
    rw [if_neg a1, if_pos z5] at ec
    rw [if_pos z5, a4.1.2.1] at em0
    rcases Nat.lt_or_ge u (tT (C d)) with hu2 | hu2
    · rw [hasTask_in a3.1.2.1 hT2.2 hu2, obs, if_neg i10] at ec
      obtain ⟨p, hp, e⟩ := hv.2.2.2.1 u (by omega)
      obtain ⟨p2, hp2, ee⟩ := a2.2.2.2.1 u (by omega)
      have hP := hv.1
      have hP2 := a2.1
      obtain ⟨m1, c1, k1⟩ := tc_c (w := w) hF hv hc hu (show p < 3 by omega) e
      have r1 := h.kept k1
      obtain ⟨-, -, -, -, -, -, r7⟩ := id r1
      obtain ⟨s', s0', t1', t2', -, t4'⟩ := r7 d hd
      have es : s' = 5 := by
        have : m1.1 600 d 1 = μ.1 600 d 1 := (k1 600 d 1 (by unfold scr; omega)).1
        rw [t1', t1, z5] at this
        exact (nI5 s0').mp this
      obtain ⟨-, -, b3, b4⟩ := t4' es
      obtain ⟨m2, c2, k2⟩ := tc_c (w := w) hF a2 b3 hu2 (show p2 < 3 by omega) ee
      rw [c1, obs, c2, obs] at ec
      have r2 := r1.kept k2
      have k12 := k1.trans k2
      -- the reference
      have f1 := em' m2 ((k12 1020 0 d (by unfold scr; omega)).1.trans t2)
      have r3 := r2.kept (SR_th m2 0)
      obtain ⟨-, -, hm3, -, -, -, q7⟩ := id r3
      rw [isTask_in hm3.1.2.1 hT.2 hu, obs, if_neg i10, if_pos z5, (k12 1024 0 d (by unfold scr; omega)).1, a4.1.2.1, if_pos ((ltN (by omega) (by omega)).mpr hu2)] at f1
      unfold f_X10_differ_b75 at f1
      rw [if_neg i10] at f1
      generalize em3 : wi m2 1000 0 0 0 = m3 at f1 r3 hm3 q7
      have m30 : m3.1 1000 0 0 = 0 := by rw [← em3]; exact th_at _ _
      obtain ⟨m4, g1, g2, g3, g4, g5, g6⟩ := r3.startsNow hF (show p < 3 by omega)
      obtain ⟨m5, g7, g8⟩ := tc_m (w := w) hF hv g6 g3 g5 g4 hu (show p < 3 by omega)
      have zz : (if w < 0 then (0 : Int32) else if 5 < w then 0 else 1) = 1 := by
        split
        · next a => exact absurd (if_pos a) z
        · next a =>
          split
          · next b => rw [if_neg a, if_pos b] at z; exact absurd rfl z
          · rfl
      have sm5 : f_X10_sum F m3 (nI u) w = some (tcv D p u w, m5) := by
        unfold f_X10_sum
        rw [isTask_in hm3.1.2.1 hT.2 hu, obs, if_neg i10, in_eq, zz, obs, if_neg i10, ra_in (by omega) (by omega), obs, (hm3.2.1 u (by omega)).1, e, g1, obs, g7, obs]
      have r5 := r3.kept (g2.trans g8).sr
      obtain ⟨-, -, -, -, -, -, w7⟩ := id r5
      obtain ⟨s9, s09, t19, -, -, t49⟩ := w7 d hd
      have es9 : s9 = 5 := by
        have a : m5.1 600 d 1 = m3.1 600 d 1 := ((g2.trans g8) 600 d 1 (by unfold sc; omega)).1
        have b : m3.1 600 d 1 = m2.1 600 d 1 := by rw [← em3, wi_at, if_neg (by omega)]
        have c : m2.1 600 d 1 = μ.1 600 d 1 := (k12 600 d 1 (by unfold scr; omega)).1
        rw [t19, b, c, t1, z5] at a
        exact (nI5 s09).mp a
      obtain ⟨-, -, -, b9⟩ := t49 es9
      obtain ⟨m6, d1, d2⟩ := dif_ok (w := w) (v := tcv D p u w) hF hd a2 b9 hu2 (show p2 < 3 by omega) ee
      rw [sm5, obs, d1] at f1
      refine ⟨0, _, _, m2, m6, ec, f1, ?_, fun _ => rfl, .inl rfl, D, C, r5.kept d2.sr⟩
      rw [(((g2.trans g8).trans d2) 1000 0 0 (by unfold sc; omega)).1]; exact m30
    · rw [hasTask_out a3.1.2.1 (.inr ((leN (by omega) (by omega)).mpr hu2)), obs, if_pos rfl] at ec
      rw [if_neg (by rw [ltN (by omega) (by omega)]; omega)] at em0
      exact bad1 ec em0
  · rw [if_neg z5, if_neg z5] at ec
    rw [if_neg z5] at em0
    refine ⟨2, 0, 0, μ, wi (wi μ 1000 0 0 0) 1000 0 0 2, by (show f_X9_differ F μ (nI d) (nI u) w = _; rw [ec]; split <;> rfl), ?_, th_at _ _, fun z => absurd z (by decide), .inr (.inr rfl), hR.kept ((SR_th μ 0).trans (SR_th _ 2))⟩
    show f_X10_differ F μ (nI d) (nI u) w = _
    rw [em0]; unfold f_X10_differ_b75; rw [if_pos rfl, wf_eq, obs]
