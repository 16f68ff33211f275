/-! CALLS: again, slowest -/
theorem runAgain_sr {F : Nat} {m m' : Mm} {x : Int32} (e : f_X9_runAgain F m x = some m') : SR m m' := fun k i j h => by unfold scr at h; exact (fr_X9_runAgain (by omega) (by omega) (by omega) (by omega) (by omega) (by omega) (by omega) (by omega) (by omega) (by omega) e)
def rkO (μ : Mm) (u : Nat) : Int32 := if μ.1 902 0 u = -1 then μ.1 702 0 u else μ.1 902 0 u
theorem rkO_c {μ : Mm} {D : Tr} {C : Nat → Tr} (h : Rl μ D C) : ∀ u, u < 8 → rkO μ u = (if μ.1 902 0 u = -1 then tR D u else μ.1 902 0 u) := fun u hu => by
  unfold rkO; rw [(h.2.1.2.1 u hu).2]
theorem rkO_m {μ : Mm} {D : Tr} {C : Nat → Tr} (h : Rl μ D C) : RK μ (rkO μ) := fun u hu => by
  rw [rkO_c h u hu, ← (h.2.2.2.1 u hu).1, (h.2.2.1.2.1 u hu).2]
theorem rkO_sr {μ m : Mm} (s : SR μ m) (u : Nat) : rkO m u = rkO μ u := by
  unfold rkO
  rw [(s 902 0 u (by unfold scr; omega)).1, (s 702 0 u (by unfold scr; omega)).1]
theorem runAgain_ok {F u p : Nat} {μ : Mm} {D : Tr} {C : Nat → Tr} {R : List Jb} (hF : 1000 ≤ F) (h : Rl μ D C) (hu8 : u < 8) (hp : p < 3) (eH : tH D u = nI p) (r : CR μ (tL D p) R) (g : JG (tL D p) R) : ∃ μ', f_X9_runAgain F μ (nI u) = some μ' ∧ SR μ μ' ∧ CR μ' (tL D p) R ∧ CS μ' R (gA (hmD D p) (tL D p) R (rkO μ) (zn (tL D p))) := by
  obtain ⟨hV, hL, -, -⟩ := h.lane hp
  have key : ∃ μ', f_X9_runAgain F μ (nI u) = some μ' ∧ CR μ' (tL D p) R ∧ CS μ' R (gA (hmD D p) (tL D p) R (rkO μ) (zn (tL D p))) := by
    unfold f_X9_runAgain
    obtain ⟨m0, e0, i1, i2⟩ := loop_inv (fun N m x => f_X9_runAgain_b2 F N m (nI u) x) (fun m => (f_X7_homeLane m 0 (nI u)).bind fun q9 => (f_X1_rerun F m q9).bind fun q11 => some q11) 8 (fun t m => (∀ v, v < t → m.1 903 0 v = rkO μ v) ∧ ∀ k i j, ¬ k = 903 → m.1 k i j = μ.1 k i j) (by
      intro N m t ht ⟨i1, i2⟩
      show ∃ s', f_X9_runAgain_b2 F (N + 1) m (nI u) (nI t) = f_X9_runAgain_b2 F N s' (nI u) (nI (t + 1)) ∧ _
      have er : (if m.1 902 0 t = -1 then m.1 702 0 t else m.1 902 0 t) = rkO μ t := by
        unfold rkO; rw [i2 _ _ _ (by omega), i2 _ _ _ (by omega)]
      rw [f_X9_runAgain_b2, if_neg (n8 ht), otherRankOf_in ht, obs, wa_in ht (by omega), obs, s1, er]
      refine ⟨_, rfl, fun v hv => ?_, fun k i j a => ?_⟩
      · rw [wi_at]
        by_cases z : v = t
        · rw [if_pos ⟨rfl, rfl, z⟩, z]
        · rw [if_neg (fun w => z w.2.2)]; exact i1 v (by omega)
      · rw [wi_at, if_neg (fun w => a w.1)]; exact i2 k i j a) (by
      intro N m _
      show f_X9_runAgain_b2 F (N + 1) m (nI u) (nI 8) = _
      rw [f_X9_runAgain_b2, if_pos (by decide)]) F 0 μ (by omega) (by omega) ⟨fun v hv => by omega, fun _ _ _ _ => rfl⟩
    have e0' : f_X9_runAgain_b2 F F μ (nI u) 0 = (f_X7_homeLane m0 0 (nI u)).bind fun q9 => (f_X1_rerun F m0 q9).bind fun q11 => some q11 := e0
    have hh : m0.1 701 0 u = nI p := by rw [i2 _ _ _ (by omega), (h.2.1.2.1 u hu8).1]; exact eH
    obtain ⟨m1, e1, r1, s1'⟩ := rerun_ok (F := F) hF (hL.kept (fun k j a b => i2 _ _ _ (by omega))) hV (r.kept (fun k j a b => i2 _ _ _ (by omega))) g i1
    rw [e0', homeLane_in hu8 hh hp, obs, show 3 * 0 + p = p by omega, e1, obs]
    exact ⟨m1, rfl, r1, s1'⟩
  obtain ⟨m, e, a, b⟩ := key
  exact ⟨m, e, runAgain_sr e, a, b⟩
theorem jobs_c {F u : Nat} {μ : Mm} {D : Tr} {C : Nat → Tr} (hF : 1000 ≤ F) (h : Rl μ D C) (hu : u < tT D) : ∃ p μ1, p < 3 ∧ u < 8 ∧ tH D u = nI p ∧ f_X9_gatherJobs F μ (nI u) = some μ1 ∧ SR μ μ1 ∧ LV (hmD D p) (tL D p) ∧ CR μ1 (tL D p) (js (hmD D p) (tL D p) (zn (tL D p))).2 ∧ JG (tL D p) (js (hmD D p) (tL D p) (zn (tL D p))).2 := by
  obtain ⟨p, hp, hp3, hu8, hh, c1, m1, hmt⟩ := h.task hu
  obtain ⟨hL, cL, -, -⟩ := h.lane hp3
  obtain ⟨μ1, e1, s1', r1⟩ := gather_ok (F := F) hF cL hL
  refine ⟨p, μ1, hp3, hu8, hh, ?_, s1', hL, r1, JG_js hL⟩
  unfold f_X9_gatherJobs
  rw [homeLane_in hu8 c1 hp3, obs, show 3 * 0 + p = p by omega, e1, obs]
theorem doneOf_ok {F u : Nat} {μ : Mm} {L : La} {R Q : List Jb} {S : Rs} (hF : 1000 ≤ F) (g : JG L R) (q : QG R Q) (h : MWk μ L Q S) (n : MN μ R Q) (dn : ∀ x, x ∈ R → S.1 x = 0) (hu : u < 8) (y : Int32) : ∃ r, f_X10_doneOf F μ (nI u) y = some r ∧ ((∃ n x, n < 1000 ∧ y = nI n ∧ (jof u R)[n]? = some x ∧ r = nI (S.2 x)) ∨ ((∀ (n : Nat) (x : Jb), y = nI n → ¬ (jof u R)[n]? = some x) ∧ r = -1)) := by
  have hl := q.1
  unfold f_X10_doneOf
  have := loop_ret (fun N (_ : Unit) x => f_X10_doneOf_b2 F μ N (nI u) y x) Q.length (fun k _ => ∀ (v : Nat) (x : Jb), v < k → Q[v]? = some x → ¬ (x.1 = u ∧ μ.1 1051 0 v = y)) (fun r => (∃ n x, n < 1000 ∧ y = nI n ∧ (jof u R)[n]? = some x ∧ r = nI (S.2 x)) ∨ ((∀ (n : Nat) (x : Jb), y = nI n → ¬ (jof u R)[n]? = some x) ∧ r = -1)) (by
    intro N _ k hk iv
    have e : Q[k]? = some Q[k] := List.getElem?_eq_getElem hk
    generalize Q[k] = x at e
    have hx : x ∈ R := (q.2.1 x).mp (List.mem_of_getElem? e)
    have gx := (g.2.1 x hx).1
    have m := h.2 k x e
    show (∃ r, f_X10_doneOf_b2 F μ (N + 1) (nI u) y (nI k) = some r ∧ _) ∨ ∃ s', f_X10_doneOf_b2 F μ (N + 1) (nI u) y (nI k) = f_X10_doneOf_b2 F μ N (nI u) y (nI (k + 1)) ∧ _
    rw [f_X10_doneOf_b2, h.1, if_neg (ngt (by omega) (by omega) hk), ra_in (show k < 400 by omega) (by omega), obs, ra_in (show k < 400 by omega) (by omega), obs, ra_in (show k < 400 by omega) (by omega), obs, m.1, m.2.2.2, if_pos (dn x hx), s1]
    have next : ¬ (x.1 = u ∧ μ.1 1051 0 k = y) → ∀ (v : Nat) (z : Jb), v < k + 1 → Q[v]? = some z → ¬ (z.1 = u ∧ μ.1 1051 0 v = y) := fun w v z hv ez => by
      by_cases p : v = k
      · subst p; rw [e] at ez; rw [← Option.some.inj ez]; exact w
      · exact iv v z (by omega) ez
    by_cases a : x.1 = u
    · rw [if_pos (by rw [a])]
      by_cases b : μ.1 1051 0 k = y
      · left
        rw [if_pos b]
        obtain ⟨i, i1, i2, i3⟩ := n k x e
        exact ⟨_, rfl, .inl ⟨i, x, i1, by rw [← b, i2], by rw [← a]; exact i3, rfl⟩⟩
      · right
        rw [if_neg b]
        exact ⟨(), rfl, next (fun w => b w.2)⟩
    · right
      rw [if_neg (fun w => a ((eqN (by omega) (by omega)).mp w))]
      exact ⟨(), rfl, next (fun w => a w.1)⟩) (by
    intro N _ iv
    show ∃ r, f_X10_doneOf_b2 F μ (N + 1) (nI u) y (nI Q.length) = some r ∧ _
    rw [f_X10_doneOf_b2, h.1, if_pos (nle (by omega) (by omega) (by omega))]
    refine ⟨-1, rfl, .inr ⟨fun k x ey ex => ?_, rfl⟩⟩
    have hx := jof_mem (List.mem_of_getElem? ex)
    obtain ⟨w, ew⟩ := at_of_mem ((q.2.1 x).mpr hx.1)
    obtain ⟨i, i1, i2, i3⟩ := n w x ew
    rw [hx.2] at i3
    have : i = k := by
      rcases Nat.lt_trichotomy i k with z | z | z
      · have := pw_at (jof_pw g u) i3 ex z; unfold Qlt at this; omega
      · exact z
      · have := pw_at (jof_pw g u) ex i3 z; unfold Qlt at this; omega
    exact iv w x (ix_lt ew) ew ⟨hx.2, by rw [i2, ey, this]⟩) F 0 () (by omega) (by omega) (fun v x hv => by omega)
  exact this
theorem op_again {F : Nat} {μ : Mm} (hF : 1000 ≤ F) (h : Rel μ) (x i : Int32) : OK2 (fun μ => f_X9_again F μ x i) (fun μ => f_X10_again F μ x i) μ := by
  obtain ⟨D, C, h⟩ := id h
  have hR : Rel μ := ⟨D, C, h⟩
  obtain ⟨hv, hc, hm, -⟩ := id h
  have hT := hv.2.1
  rcases ix2 x (n := tT D) (by omega) with q | ⟨u, hu, rfl⟩
  · refine OK2.both hR (r := -1) ?_ ?_
    · show f_X9_again F μ x i = _
      unfold f_X9_again f_X9_jobRow; rw [hasTask_out hc.1.2.1 q, obs, if_pos rfl, obs, if_pos rfl]
    · show f_X10_again F μ x i = _
      unfold f_X10_again; rw [isTask_out hm.1.2.1 hT.2 q, obs, if_pos rfl]
  · obtain ⟨p, μ1, hp, hu8, eH, e1, s1', hL, r1, g⟩ := jobs_c hF h hu
    generalize eR : (js (hmD D p) (tL D p) (zn (tL D p))).2 = R at r1 g
    -- the reference, from any such state
    have ref : ∀ m, SR μ m → ∃ μ2 r, f_X10_again F m (nI u) i = some (r, μ2) ∧ SR m μ2 ∧ ((∃ n x, n < 1000 ∧ i = nI n ∧ (jof u R)[n]? = some x ∧ r = nI ((gA (hmD D p) (tL D p) R (rkO μ) (zn (tL D p))).2 x)) ∨ ((∀ (n : Nat) (x : Jb), i = nI n → ¬ (jof u R)[n]? = some x) ∧ r = -1)) := fun m s => by
      have hr : Rl m D C := h.kept s
      have ho : RK m (rkO μ) := fun v hv => by rw [← rkO_sr s v]; exact rkO_m hr v hv
      obtain ⟨μ2, e2, s2, q2, n2, Q2, d2⟩ := repeats_ok hF hr hp eR.symm ho
      obtain ⟨r, e3, h3⟩ := doneOf_ok (F := F) (u := u) hF g Q2 q2 n2 d2 hu8 i
      refine ⟨μ2, r, ?_, s2, h3⟩
      unfold f_X10_again
      rw [isTask_in hr.2.2.1.1.2.1 hT.2 hu, obs, if_neg i10, ra_in hu8 (by omega), obs, (hr.2.2.1.2.1 u hu8).1, eH, e2, obs, e3, obs]
    by_cases d0 : 0 ≤ i
    · have hi : ∃ n, n < 2147483648 ∧ i = nI n := by
        rw [leT, show (0 : Int32).toInt = 0 from rfl] at d0
        have := Int32.toInt_lt i
        exact ⟨i.toInt.toNat, by omega, toN i d0⟩
      obtain ⟨n, hn, rfl⟩ := hi
      obtain ⟨r, er, hr⟩ := rowOf_ok (F := F) (u := u) hF r1 g.1 (fun x hx' => (g.2.1 x hx').1) hu8 hn
      rcases hr with ⟨rfl, hq⟩ | ⟨k, y, rfl, hk, hy⟩
      · obtain ⟨μ2, r2, e2, s2, h2⟩ := ref μ1 s1'
        refine ⟨-1, μ1, μ2, ?_, ?_, hR.kept (s1'.trans s2)⟩
        · show f_X9_again F μ (nI u) (nI n) = _
          unfold f_X9_again f_X9_jobRow
          rw [hasTask_in hc.1.2.1 hT.2 hu, obs, if_neg i10, if_pos d0, e1, obs, er, obs, obs]
          rw [if_pos rfl]
        · show f_X10_again F μ1 (nI u) (nI n) = _
          rw [e2]
          rcases h2 with ⟨n', x, n1, n2, n3, -⟩ | ⟨-, n4⟩
          · have : n = n' := (eqN hn (by omega)).mp n2
            subst this
            have := ix_lt n3; omega
          · rw [n4]
      · have h1 : Rl μ1 D C := h.kept s1'
        obtain ⟨μ2, e2, s2, r2, c2⟩ := runAgain_ok hF h1 hu8 hp eH r1 g
        have ek : gA (hmD D p) (tL D p) R (rkO μ1) (zn (tL D p)) = gA (hmD D p) (tL D p) R (rkO μ) (zn (tL D p)) := by
          rw [show rkO μ1 = rkO μ from funext (rkO_sr s1')]
        obtain ⟨μ3, r3, e3, s3, h3⟩ := ref μ2 (s1'.trans s2)
        have hk' := ix_lt hk
        have h66 := g.1
        refine ⟨nI ((gA (hmD D p) (tL D p) R (rkO μ) (zn (tL D p))).2 y), μ2, μ3, ?_, ?_, hR.kept ((s1'.trans s2).trans s3)⟩
        · show f_X9_again F μ (nI u) (nI n) = _
          unfold f_X9_again f_X9_jobRow
          rw [hasTask_in hc.1.2.1 hT.2 hu, obs, if_neg i10, if_pos d0, e1, obs, er, obs, obs]
          rw [if_neg (nn1 (by omega)), e2, obs, ra_in (by omega) (by omega), obs, (c2 k y hk).2, ek]
        · show f_X10_again F μ2 (nI u) (nI n) = _
          rw [e3]
          rcases h3 with ⟨n', x, n1, n2, n3, n4⟩ | ⟨n4, -⟩
          · have : n = n' := (eqN hn (by omega)).mp n2
            subst this
            rw [hy] at n3
            rw [n4, Option.some.inj n3]
          · exact absurd hy (n4 n y rfl)
    · obtain ⟨μ2, r2, e2, s2, h2⟩ := ref μ (SR.rf μ)
      refine ⟨-1, μ, μ2, ?_, ?_, hR.kept s2⟩
      · show f_X9_again F μ (nI u) i = _
        unfold f_X9_again f_X9_jobRow; rw [hasTask_in hc.1.2.1 hT.2 hu, obs, if_neg i10, if_neg d0, obs, if_pos rfl]
      · show f_X10_again F μ (nI u) i = _
        rw [e2]
        rcases h2 with ⟨n', x, n1, n2, n3, -⟩ | ⟨-, n4⟩
        · rw [n2] at d0; exact absurd (n0N (by omega)) d0
        · rw [n4]
theorem op_slowest {F : Nat} {μ : Mm} (hF : 1000 ≤ F) (h : Rel μ) (x : Int32) : OK2 (fun μ => f_X9_slowest F μ x) (fun μ => f_X10_slowest F μ x) μ := by
  obtain ⟨D, C, h⟩ := id h
  have hR : Rel μ := ⟨D, C, h⟩
  obtain ⟨hv, hc, hm, -⟩ := id h
  have hT := hv.2.1
  rcases ix2 x (n := tT D) (by omega) with q | ⟨u, hu, rfl⟩
  · refine OK2.both hR (r := -1) ?_ ?_
    · show f_X9_slowest F μ x = _
      unfold f_X9_slowest; rw [hasTask_out hc.1.2.1 q, obs, if_pos rfl]
    · show f_X10_slowest F μ x = _
      unfold f_X10_slowest; rw [isTask_out hm.1.2.1 hT.2 q, obs, if_pos rfl]
  · obtain ⟨p, μ1, hp, hu8, eH, e1, s1', hL, r1, g⟩ := jobs_c hF h hu
    generalize eR : (js (hmD D p) (tL D p) (zn (tL D p))).2 = R at r1 g
    have h1 : Rl μ1 D C := h.kept s1'
    obtain ⟨μ2, e2, s2, r2, c2⟩ := runAgain_ok hF h1 hu8 hp eH r1 g
    have ek : gA (hmD D p) (tL D p) R (rkO μ1) (zn (tL D p)) = gA (hmD D p) (tL D p) R (rkO μ) (zn (tL D p)) := by
      rw [show rkO μ1 = rkO μ from funext (rkO_sr s1')]
    rw [ek] at c2
    have s12 := s1'.trans s2
    have hr : Rl μ2 D C := h.kept s12
    have ho : RK μ2 (rkO μ) := fun v hv => by rw [← rkO_sr s12 v]; exact rkO_m hr v hv
    obtain ⟨μ3, e3, s3, q3, n3, Q3, d3⟩ := repeats_ok hF hr hp eR.symm ho
    generalize gA (hmD D p) (tL D p) R (rkO μ) (zn (tL D p)) = S at c2 q3 d3
    have h66 := g.1
    have hq66 := Q3.1
    have l1 := loop_fold (fun N a x => f_X9_slowest_b27 F N μ2 (nI u) a x) (fun a => some (a, μ2)) R (fun (a : Int32) (x : Jb) => if decide (x.1 = u) = true then (if nI (S.2 x) - zM (tL D p) x.2.1 ≤ a then a else nI (S.2 x) - zM (tL D p) x.2.1) else a) (by
      intro N a i x e
      have hi := ix_lt e
      have hx := g.2.1 x (List.mem_of_getElem? e)
      show f_X9_slowest_b27 F (N + 1) μ2 (nI u) a (nI i) = _
      rw [f_X9_slowest_b27, r2.1, if_neg (ngt (by omega) (by omega) hi), isOf_in r2 g.1 e hx.1 hu8, obs, s1, ra_in (show i < 67 by omega) (by omega), obs, ra_in (show i < 67 by omega) (by omega), obs, (c2 i x e).2, (r2.2 i x e).2.2.1]
      by_cases q : decide (x.1 = u) = true
      · rw [if_pos q, if_neg i10, if_pos q]
        by_cases z : nI (S.2 x) - zM (tL D p) x.2.1 ≤ a
        · rw [if_pos z, if_neg (fun w => by rw [ltT] at w; rw [leT] at z; omega)]
        · rw [if_neg z, if_pos (by rw [leT] at z; rw [ltT]; omega)]
      · rw [if_neg q, if_pos rfl, if_neg q]) (by
      intro N a
      show f_X9_slowest_b27 F (N + 1) μ2 (nI u) a (nI R.length) = _
      rw [f_X9_slowest_b27, r2.1, if_pos (nle (by omega) (by omega) (by omega))]) F (by omega) (-1)
    have l2 := loop_fold (fun N a x => f_X10_slowest_b24 F N μ3 (nI u) a x) (fun a => some (a, μ3)) (qs R (tT D)) (fun (a : Int32) (x : Jb) => if decide (x.1 = u) = true then (if nI (S.2 x) - zM (tL D p) x.2.1 ≤ a then a else nI (S.2 x) - zM (tL D p) x.2.1) else a) (by
      intro N a i x e
      have hi := ix_lt e
      have hxR : x ∈ R := (Q3.2.1 x).mp (List.mem_of_getElem? e)
      have gx := g.2.1 x hxR
      have gx1 := gx.1
      have gx2 := gx.2.1
      have gx3 := gx.2.2.1
      have m := q3.2 i x e
      have tz := (hL.2.2.2.2.2.1 x.2.1 (by omega)).1
      show f_X10_slowest_b24 F (N + 1) μ3 (nI u) a (nI i) = _
      rw [f_X10_slowest_b24, q3.1, if_neg (ngt (by omega) (by omega) hi), ra_in (show i < 400 by omega) (by omega), obs, ra_in (show i < 400 by omega) (by omega), obs, ra_in (show i < 400 by omega) (by omega), obs, m.2.2.2, if_pos (d3 x hxR), m.2.1, ← tz, m.1, s1]
      by_cases q : x.1 = u
      · rw [if_pos (by rw [q]), if_pos (decide_eq_true q)]
        split <;> rfl
      · rw [if_neg (fun w => q ((eqN (by omega) (by omega)).mp w)), if_neg (by rw [decide_eq_true_iff]; exact q)]) (by
      intro N a
      show f_X10_slowest_b24 F (N + 1) μ3 (nI u) a (nI (qs R (tT D)).length) = _
      rw [f_X10_slowest_b24, q3.1, if_pos (nle (by omega) (by omega) (by omega))]) F (by omega) (-1)
    have e4 : ∀ Q : List Jb, (jof u Q).foldl (fun (a : Int32) (x : Jb) => if nI (S.2 x) - zM (tL D p) x.2.1 ≤ a then a else nI (S.2 x) - zM (tL D p) x.2.1) (-1) = Q.foldl (fun (a : Int32) (x : Jb) => if decide (x.1 = u) = true then (if nI (S.2 x) - zM (tL D p) x.2.1 ≤ a then a else nI (S.2 x) - zM (tL D p) x.2.1) else a) (-1) := fun Q => by
      unfold jof; exact List.foldl_filter
    rw [← e4] at l1 l2
    rw [qs_jof, if_pos hu] at l2
    refine ⟨(jof u R).foldl (fun (a : Int32) (x : Jb) => if nI (S.2 x) - zM (tL D p) x.2.1 ≤ a then a else nI (S.2 x) - zM (tL D p) x.2.1) (-1), μ2, μ3, ?_, ?_, hR.kept (s12.trans s3)⟩
    · show f_X9_slowest F μ (nI u) = _
      unfold f_X9_slowest
      rw [hasTask_in hc.1.2.1 hT.2 hu, obs, if_neg i10, e1, obs, e2, obs]
      exact l1
    · show f_X10_slowest F μ2 (nI u) = _
      unfold f_X10_slowest
      rw [isTask_in hr.2.2.1.1.2.1 hT.2 hu, obs, if_neg i10, ra_in hu8 (by omega), obs, (hr.2.2.1.2.1 u hu8).1, eH, e3, obs]
      exact l2
