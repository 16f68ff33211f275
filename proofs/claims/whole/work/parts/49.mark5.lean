/-! MARKS: the reference adds it; one step of both; the call -/
theorem add_m {F : Nat} {m : Mm} {D : Tr} {p k : Nat} {t x c : Int32} (hv : TV D) (hm : MT m D) (hp : p < 3) (hn : zn (tL D p) < 200) (hk : k ≤ 12) (ht : t = -1 ∨ ∃ u, u < 8 ∧ t = nI u) (hx : x = -1 ∨ ∃ y, y < 64 ∧ x = nI y) : ∃ m1, f_X10_comes_b70 F m (nI p) (nI k) t x c = some (nI (zn (tL D p)), m1) ∧ MT m1 (dapp D p (lapp (tL D p) (nI k) t x (tmv D p c))) ∧ F2 m m1 := by
  have mL := hm.2.2 p hp
  obtain ⟨h1, h2, h3, h4⟩ := mL
  have e70 : f_X10_comes_b70 F m (nI p) (nI k) t x c = f_X10_comes_b122 F m (nI p) (nI k) t x c (nI (200 * p + zn (tL D p))) (if zn (tL D p) = 0 then c else zM (tL D p) (zn (tL D p) - 1)) := by
    unfold f_X10_comes_b70
    rw [ra_in h1 (by omega), obs, h3, if_neg (by rw [show (200 : Int32) = nI 200 from rfl, eqN (by omega) (by omega)]; omega), obs, obs, show (200 : Int32) = nI 200 from rfl, pk_mul, nI_add]
    by_cases z : zn (tL D p) = 0
    · rw [if_pos (by rw [z]; decide), if_pos z]
    · rw [if_neg (by rw [show (0 : Int32) = nI 0 from rfl, eqN (by omega) (by omega)]; exact z), if_neg z, nsub1 (by omega), ra_in (by omega) (by omega), obs, show 200 * p + zn (tL D p) - 1 = 200 * p + (zn (tL D p) - 1) by omega, (h4 (zn (tL D p) - 1) (by omega)).2.2.2]
  have etm : ∀ s0, s0 = (if zn (tL D p) = 0 then c else zM (tL D p) (zn (tL D p) - 1)) → s0 + ((c - s0) &&& (((1 : Int32) <<< ((m.1 1000 0 3) &&& 31)) - (1 : Int32))) = tmv D p c := fun s0 e => by
    rw [hm.1.2.2]
    unfold tmv
    by_cases z : zn (tL D p) = 0
    · rw [if_pos z] at e ⊢
      rw [e, Int32.sub_self, Int32.zero_and, Int32.add_zero]
    · rw [if_neg z] at e ⊢
      rw [e]; rfl
  rw [e70]
  generalize hs0 : (if zn (tL D p) = 0 then c else zM (tL D p) (zn (tL D p) - 1)) = s0
  have etm' := etm s0 hs0.symm
  clear hs0 etm e70
  unfold f_X10_comes_b122
  rw [etm']
  generalize tmv D p c = tm
  have nb : ∀ y : Int32, (y = -1 ∨ ∃ u, u < 64 ∧ y = nI u) → y.toInt8.toInt32.toInt8.toInt32 = y := fun y hy => by
    rcases hy with rfl | ⟨u, hu, rfl⟩
    · decide
    · rw [nb_in u (by omega), nb_in u (by omega)]
  rw [wb_in (by omega) (by omega), obs, wb_in (by omega) (by omega), obs, wb_in (by omega) (by omega), obs, wa_in (by omega) (by omega), obs, nb (nI k) (.inr ⟨k, by omega, rfl⟩), nb t (ht.elim .inl (fun ⟨u, a, b⟩ => .inr ⟨u, by omega, b⟩)), nb x hx]
  generalize hn' : zn (tL D p) = n at *
  generalize ha4 : wi (wi (wi (wi m 1009 0 (200 * p + n) (nI k)) 1010 0 (200 * p + n) t) 1011 0 (200 * p + n) x) 1012 0 (200 * p + n) tm = a4
  have g1 : ∀ kk ii jj, ¬ (1009 ≤ kk ∧ kk ≤ 1012 ∧ ii = 0 ∧ jj = 200 * p + n) → a4.1 kk ii jj = m.1 kk ii jj := fun kk ii jj z => by
    rw [← ha4, wi_at, if_neg (by omega), wi_at, if_neg (by omega), wi_at, if_neg (by omega), wi_at, if_neg (by omega)]
  have g2 : a4.1 1009 0 (200 * p + n) = nI k := by rw [← ha4, wi_at, if_neg (by omega), wi_at, if_neg (by omega), wi_at, if_neg (by omega), wi_at, if_pos ⟨rfl, rfl, rfl⟩]
  have g3 : a4.1 1010 0 (200 * p + n) = t := by rw [← ha4, wi_at, if_neg (by omega), wi_at, if_neg (by omega), wi_at, if_pos ⟨rfl, rfl, rfl⟩]
  have g4 : a4.1 1011 0 (200 * p + n) = x := by rw [← ha4, wi_at, if_neg (by omega), wi_at, if_pos ⟨rfl, rfl, rfl⟩]
  have g5 : a4.1 1012 0 (200 * p + n) = tm := by rw [← ha4, wi_at, if_pos ⟨rfl, rfl, rfl⟩]
  have g6 : a4.2 = m.2 := by rw [← ha4]; rfl
  clear ha4
  have sz : a4.1 1008 0 p = nI n := by rw [g1 _ _ _ (by omega)]; exact h3
  rw [ra_in h1 (by omega), obs, sz, wa_in h1 (by omega), obs, s1, ra_in h1 (by omega), obs, wi_at, if_pos ⟨rfl, rfl, rfl⟩, nI_pred]
  have q : ∀ kk ii jj, ¬ (1009 ≤ kk ∧ kk ≤ 1012 ∧ ii = 0 ∧ jj = 200 * p + n) → ¬ (kk = 1008 ∧ jj = p) → (wi a4 1008 0 p (nI (n + 1))).1 kk ii jj = m.1 kk ii jj := fun kk ii jj x1 x2 => by rw [wi_at, if_neg (by omega)]; exact g1 _ _ _ x1
  have q9 : ∀ kk, 1009 ≤ kk → (wi a4 1008 0 p (nI (n + 1))).1 kk 0 (200 * p + n) = a4.1 kk 0 (200 * p + n) := fun kk x1 => by rw [wi_at, if_neg (by omega)]
  refine ⟨_, rfl, ⟨⟨by rw [q _ _ _ (by omega) (by omega)]; exact hm.1.1, by rw [q _ _ _ (by omega) (by omega)]; exact hm.1.2.1, by rw [q _ _ _ (by omega) (by omega)]; exact hm.1.2.2⟩, fun u hu => by rw [q _ _ _ (by omega) (by omega), q _ _ _ (by omega) (by omega)]; exact hm.2.1 u hu, fun r hr => ?_⟩, fun kk ii jj x1 x2 x3 => q _ _ _ (by omega) (by omega), fun kk ii jj _ => by rw [wi_2, g6]⟩
  by_cases e : r = p
  · subst e
    rw [dapp_s]
    obtain ⟨n0, n1, n2, n3, n4'⟩ := lapp_n (tL D r) (nI k) t x tm
    refine ⟨h1, by rw [n0]; omega, by rw [wi_at, if_pos ⟨rfl, rfl, rfl⟩, n0, hn'], fun j hj => ?_⟩
    rw [n0, hn'] at hj
    by_cases ej : j = n
    · rw [ej, q9 _ (by omega), q9 _ (by omega), q9 _ (by omega), q9 _ (by omega), g2, g3, g4, g5, ← hn', n1, n2, n3, n4']; exact ⟨rfl, rfl, rfl, rfl⟩
    · have hj' : j < zn (tL D r) := by omega
      obtain ⟨b1, b2', b3, b4⟩ := lapp_lt (k := nI k) (t := t) (x := x) (m := tm) hj'
      rw [b1, b2', b3, b4, q _ _ _ (by omega) (by omega), q _ _ _ (by omega) (by omega), q _ _ _ (by omega) (by omega), q _ _ _ (by omega) (by omega)]
      exact h4 j (by omega)
  · rw [dapp_n D _ e]
    have := (hm.2.2 r hr).2.1
    exact (hm.2.2 r hr).kept3 (q _ _ _ (by omega) (by omega)) (fun kk j x1 x2 x3 x4 => q _ _ _ (by omega) (by omega))
/-- one mark, told to both -/
theorem mark_step {D : Tr} (hv : TV D) (p k t x c : Int32) : ∃ r D', TV D' ∧ (tP D' = tP D ∧ tT D' = tT D ∧ tW D' = tW D ∧ tH D' = tH D ∧ tR D' = tR D) ∧ (∀ μ, CT μ 0 D → ∃ μ1, f_X9_tellMark μ p k t x c = some (r, μ1) ∧ CT μ1 0 D' ∧ F1 μ μ1 ∧ μ1.1 900 0 9 = if r < 0 then μ.1 900 0 9 + 1 else μ.1 900 0 9) ∧ (∀ F m, 1000 ≤ F → MT m D → ∃ m1, f_X10_comes F m p k t x c = some (r, m1) ∧ MT m1 D' ∧ F2 m m1) := by
  have same : tP D = tP D ∧ tT D = tT D ∧ tW D = tW D ∧ tH D = tH D ∧ tR D = tR D := ⟨rfl, rfl, rfl, rfl, rfl⟩
  by_cases hf : Fo D p k t x c
  · obtain ⟨p, k, hp, hk, rfl, rfl, c0, c1, hf⟩ := hf
    have hp3 : p < 3 := by have := hv.1; omega
    have hfy := fun (μ : Mm) (hc : CT μ 0 D) => fault_yes (t := t) (x := x) (c := c) hv hc hp hk c0 c1 hf
    have him : ∀ m, MT m D → f_X10_isMark m (nI p) (nI k) t x c = some 1 := fun m hm => by
      rcases isMark_tail (t := t) (x := x) hv hm hp hk c0 c1 with ⟨e, -⟩ | ⟨-, e⟩
      · exact e
      · exact absurd hf e
    have a5 : (5 : Int32) < nI k ↔ 5 < k := lit_lt (k := 5) (by omega) (by omega)
    have a6 : (6 : Int32) ≤ nI k ↔ 6 ≤ k := leN (a := 6) (by omega) (by omega)
    have a9 : nI k < (9 : Int32) ↔ k < 9 := lit_lt (n := 9) (by omega) (by omega)
    have T8 := hv.2.1
    -- the task's home is another
    by_cases haw : k ≤ 5 ∧ ∀ u, u < tT D → t = nI u → ¬ tH D u = nI p
    · obtain ⟨k5, haw⟩ := haw
      have hu := hf.1
      rw [if_pos k5] at hu
      obtain ⟨u, hu, rfl⟩ := hu
      have hne := haw u hu rfl
      refine ⟨-3, D, hv, same, fun μ hc => tell_no hc ?_ (by decide), fun F m hF hm => ?_⟩
      · rw [hfy μ hc, if_neg (by rw [a5]; omega), homeOf_in (by omega), obs, (hc.2.1 u (by omega)).1, if_neg hne]
        unfold f_X7_faultOf_b61; rw [if_neg i10]
      · obtain ⟨m1, e1, s1', r1⟩ := hm.ends hF hv hp3
        refine ⟨m1, ?_, hm.sm s1', s1'.f2⟩
        unfold f_X10_comes
        rw [him m hm, obs, if_neg i10, e1, obs, if_neg (by rw [a6]; omega), ra_in (by omega) (by omega), obs, ((hm.sm s1').2.1 u (by omega)).1, if_neg hne]
    · -- task and lock by number
      obtain ⟨u, l, hu, hl, hw', htr, hxr, hx9⟩ : ∃ u l, (k ≤ 5 → u < 8 ∧ hmD D p u = true ∧ t = nI u ∧ tH D u = nI p) ∧ (3 ≤ k → k ≤ 5 → l < 4 ∧ x = nI l) ∧ Wh (hmD D p) (nI k) t x ∧ (t = -1 ∨ ∃ u, u < 8 ∧ t = nI u) ∧ (x = -1 ∨ ∃ y, y < 64 ∧ x = nI y) ∧ (9 ≤ k → ∃ y, y < 64 ∧ x = nI y) := by
        obtain ⟨hf1, hf2⟩ := hf
        have tk : ∃ u, (k ≤ 5 → u < 8 ∧ hmD D p u = true ∧ t = nI u ∧ tH D u = nI p) ∧ (t = -1 ∨ ∃ u, u < 8 ∧ t = nI u) := by
          by_cases k5 : k ≤ 5
          · rw [if_pos k5] at hf1
            obtain ⟨u, hu, rfl⟩ := hf1
            have hh : tH D u = nI p := Classical.byContradiction (fun z => haw ⟨k5, fun u' hu' e => by
              have : u = u' := (eqN (by omega) (by omega)).mp e
              subst this; exact z⟩)
            exact ⟨u, fun _ => ⟨by omega, hmD_u hu hh, rfl, hh⟩, .inr ⟨u, by omega, rfl⟩⟩
          · rw [if_neg k5] at hf1
            exact ⟨0, fun z => absurd z k5, .inl hf1⟩
        have xk : ∃ l, (3 ≤ k → k ≤ 5 → l < 4 ∧ x = nI l) ∧ (x = -1 ∨ ∃ y, y < 64 ∧ x = nI y) ∧ (9 ≤ k → ∃ y, y < 64 ∧ x = nI y) := by
          by_cases k3 : 3 ≤ k ∧ k ≤ 5
          · rw [if_pos k3] at hf2
            obtain ⟨l, hl, rfl⟩ := hf2
            exact ⟨l, fun _ _ => ⟨hl, rfl⟩, .inr ⟨l, by omega, rfl⟩, fun z => by omega⟩
          · rw [if_neg k3] at hf2
            by_cases k9 : 9 ≤ k
            · rw [if_pos k9] at hf2
              exact ⟨0, fun z1 z2 => absurd ⟨z1, z2⟩ k3, .inr hf2, fun _ => hf2⟩
            · rw [if_neg k9] at hf2
              exact ⟨0, fun z1 z2 => absurd ⟨z1, z2⟩ k3, .inl hf2, fun z => absurd z k9⟩
        obtain ⟨u, b1, b2'⟩ := tk
        obtain ⟨l, d1, d2, d3⟩ := xk
        refine ⟨u, l, b1, d1, ⟨fun z => ?_, fun z => ?_⟩, b2', d2, d3⟩
        · have z2 : k ≤ 5 := (leN (b := 5) (by omega) (by omega)).mp z.2
          obtain ⟨e1, e2, e3, -⟩ := b1 z2
          exact ⟨u, e1, e2, e3⟩
        · have z1 : 3 ≤ k := (leN (a := 3) (by omega) (by omega)).mp z.1
          have z2 : k ≤ 5 := (leN (b := 5) (by omega) (by omega)).mp z.2
          exact ⟨l, d1 z1 z2⟩
      have lv := hv.2.2.2.2.2.1 p hp3
      have si : Si (hmD D p) (sq (hmD D p) (tL D p) (zn (tL D p))) := Si_sq lv.2.1 _ (Nat.le_refl _)
      have ht1 : 6 ≤ k → t = -1 := fun z => by have := hf.1; rwa [if_neg (by omega)] at this
      -- the class up to 'allows'
      have cls : ∀ μ, CT μ 0 D → f_X7_faultOf μ 0 (nI p) (nI k) t x c = f_X7_faultOf_b61 μ 0 (nI k) t x p 0 := fun μ hc => by
        rw [hfy μ hc]
        by_cases k5 : k ≤ 5
        · obtain ⟨e1, e2, e3, e4⟩ := hu k5
          rw [if_neg (by rw [a5]; omega), e3, homeOf_in e1, obs, (hc.2.1 u e1).1, e4, if_pos rfl]
        · rw [if_pos (by rw [a5]; omega)]
      have alw : ∀ μ, CT μ 0 D → f_X4_allows μ p (nI k) t x = some (b2 (af (sq (hmD D p) (tL D p) (zn (tL D p))) k u l)) := fun μ hc => by
        have := (hc.2.2.1 p hp3).2
        rw [show 3 * 0 + p = p by omega] at this
        exact allows_c this si hk (fun z => ⟨(hu z).1, (hu z).2.1, (hu z).2.2.1⟩) ht1 hl
      -- the reference up to 'fits'
      have mdl : ∀ F m, 1000 ≤ F → MT m D → ∃ m1, SM m m1 ∧ MT m1 D ∧ f_X10_comes F m (nI p) (nI k) t x c = f_X10_comes_b37 F m1 (nI p) (nI k) t x c ∧ f_X10_fits m1 (nI k) t x = some (b2 (af (sq (hmD D p) (tL D p) (zn (tL D p))) k u l)) := fun F m hF hm => by
        obtain ⟨m1, e1, s1', r1⟩ := hm.ends hF hv hp3
        refine ⟨m1, s1', hm.sm s1', ?_, fits_m r1 si.2.2.2.2 hk (fun z => ⟨(hu z).1, (hu z).2.2.1⟩) hl⟩
        unfold f_X10_comes
        rw [him m hm, obs, if_neg i10, e1, obs]
        by_cases k5 : k ≤ 5
        · obtain ⟨e1, e2, e3, e4⟩ := hu k5
          rw [if_neg (by rw [a6]; omega), e3, ra_in e1 (by omega), obs, ((hm.sm s1').2.1 u e1).1, e4, if_pos rfl]
        · rw [if_pos (by rw [a6]; omega)]
      by_cases haf : af (sq (hmD D p) (tL D p) (zn (tL D p))) k u l = true
      · -- told before?
        by_cases htw : 9 ≤ k ∧ ∃ q i, q < 3 ∧ i < zn (tL D q) ∧ zK (tL D q) i = nI k ∧ zX (tL D q) i = x
        · obtain ⟨k9, htw⟩ := htw
          obtain ⟨y, hy, rfl⟩ := hx9 k9
          obtain ⟨cc, rfl⟩ : ∃ cc, k = 9 + cc := ⟨k - 9, by omega⟩
          refine ⟨-5, D, hv, same, fun μ hc => tell_no hc ?_ (by decide), fun F m hF hm => ?_⟩
          · rw [cls μ hc]
            unfold f_X7_faultOf_b61
            rw [if_pos rfl, alw μ hc, obs, if_neg (by rw [b2_0]; exact fun z => z haf), if_neg (by rw [a9]; omega), letterAt_in (by omega) hy, obs]
            rcases hc.2.2.2.1 cc y (by omega) hy with ⟨y1, y2⟩ | ⟨q, j, y1, y2, y3, y4, y5⟩
            · obtain ⟨q, i, q1, q2, q3, q4⟩ := htw
              exact absurd q4 (y2 q i q1 q2 q3)
            · rw [if_neg (by rw [y3]; exact nIm1 (by have := (hv.2.2.2.2.2.1 q y1).1; omega))]
          · obtain ⟨m1, s1', hm1, e1, e2⟩ := mdl F m hF hm
            refine ⟨m1, ?_, hm1, s1'.f2⟩
            rw [e1]
            unfold f_X10_comes_b37
            have tw := (told_m (F := F) (k := nI (9 + cc)) (x := nI y) hF hv.1.2 hm1.1.1 hm1.2.2).1 (by
              obtain ⟨q, i, q1, q2, q3, q4⟩ := htw
              refine ⟨q, i, Classical.byContradiction (fun z => ?_), q2, q3, q4⟩
              have := hv.2.2.2.2.2.2.1 q q1 (by omega)
              omega)
            rw [e2, obs, if_neg (by rw [b2_0]; exact fun z => z haf), if_neg (by rw [a9]; omega), tw, obs, if_neg i10]
        · have c106 : ∀ μ, CT μ 0 D → f_X7_faultOf μ 0 (nI p) (nI k) t x c = f_X7_faultOf_b106 μ p := fun μ hc => by
            rw [cls μ hc]
            unfold f_X7_faultOf_b61
            rw [if_pos rfl, alw μ hc, obs, if_neg (by rw [b2_0]; exact fun z => z haf)]
            by_cases k9 : 9 ≤ k
            · obtain ⟨y, hy, rfl⟩ := hx9 k9
              obtain ⟨cc, rfl⟩ : ∃ cc, k = 9 + cc := ⟨k - 9, by omega⟩
              rw [if_neg (by rw [a9]; omega), letterAt_in (by omega) hy, obs]
              rcases hc.2.2.2.1 cc y (by omega) hy with ⟨y1, y2⟩ | ⟨q, j, y1, y2, y3, y4, y5⟩
              · rw [if_pos y1]
              · exact absurd ⟨k9, q, j, y1, y2, y4, y5⟩ htw
            · rw [if_pos (by rw [a9]; omega)]
          have m70 : ∀ F m, 1000 ≤ F → MT m D → ∃ m1, SM m m1 ∧ MT m1 D ∧ f_X10_comes F m (nI p) (nI k) t x c = f_X10_comes_b70 F m1 (nI p) (nI k) t x c := fun F m hF hm => by
            obtain ⟨m1, s1', hm1, e1, e2⟩ := mdl F m hF hm
            refine ⟨m1, s1', hm1, ?_⟩
            rw [e1]
            unfold f_X10_comes_b37
            rw [e2, obs, if_neg (by rw [b2_0]; exact fun z => z haf)]
            by_cases k9 : 9 ≤ k
            · have tw := (told_m (F := F) (k := nI k) (x := x) hF hv.1.2 hm1.1.1 hm1.2.2).2 (fun ⟨q, i, q1, q2, q3, q4⟩ => htw ⟨k9, q, i, by have := hv.1; omega, q2, q3, q4⟩)
              rw [if_neg (by rw [a9]; omega), tw, obs, if_pos rfl]
            · rw [if_pos (by rw [a9]; omega)]
          by_cases hfl : zn (tL D p) = 200
          · refine ⟨-4, D, hv, same, fun μ hc => tell_no hc ?_ (by decide), fun F m hF hm => ?_⟩
            · have := (hc.2.2.1 p hp3).1
              rw [show 3 * 0 + p = p by omega] at this
              rw [c106 μ hc]
              unfold f_X7_faultOf_b106 f_X2_isFull
              rw [this.2.1, hfl, if_neg (by decide), obs, if_neg i10]
            · obtain ⟨m1, s1', hm1, e1⟩ := m70 F m hF hm
              refine ⟨m1, ?_, hm1, s1'.f2⟩
              have mL := hm1.2.2 p hp3
              rw [e1]
              unfold f_X10_comes_b70
              rw [mk_m mL, obs, hfl, if_pos (by decide)]
          · have hn : zn (tL D p) < 200 := by have := lv.1; omega
            obtain ⟨v, e1, e2, e3⟩ := tmv_ok (c := c) hv hp3 c0 c1
            have lva := LV_app (u := 0) lv hn hw' hk htr hxr (fun z => by
              subst z
              have := haf
              unfold af at this
              simp only [show ¬ (2 = 0) by omega, show ¬ (2 = 1) by omega, if_true, if_false, decide_eq_true_eq] at this
              obtain ⟨e1, -, e3, -⟩ := hu (by omega)
              rw [e3, clN (by omega)]
              unfold rn at this
              exact (of_decide_eq_true this).2.1) e1 e2 e3
            refine ⟨nI (zn (tL D p)), dapp D p (lapp (tL D p) (nI k) t x (tmv D p c)), TV_app hv hp lva hk (fun k9 q i q1 q2 q3 q4 => htw ⟨k9, q, i, q1, q2, q3, q4⟩), same, fun μ hc => ?_, fun F m hF hm => ?_⟩
            · obtain ⟨μ1, f1, f2, f3, f4⟩ := add_c (c := c) hv hc hp3 hn hw' hk hx9
              refine ⟨μ1, ?_, f2, f3, by rw [if_neg (nN0 (by omega))]; exact f4⟩
              have := (hc.2.2.1 p hp3).1
              rw [show 3 * 0 + p = p by omega] at this
              unfold f_X9_tellMark
              rw [c106 μ hc]
              unfold f_X7_faultOf_b106 f_X2_isFull
              rw [this.2.1, if_pos (by rw [show (200 : Int32) = nI 200 from rfl, ltN (by omega) (by omega)]; exact hn), obs, if_pos rfl, obs, if_pos rfl, f1, obs]
            · obtain ⟨m1, s1', hm1, g1⟩ := m70 F m hF hm
              obtain ⟨m2, g2, g3, g4⟩ := add_m (F := F) (c := c) hv hm1 hp3 hn hk htr hxr
              exact ⟨m2, by rw [g1, g2], g3, s1'.f2.trans g4⟩
      · refine ⟨-3, D, hv, same, fun μ hc => tell_no hc ?_ (by decide), fun F m hF hm => ?_⟩
        · rw [cls μ hc]
          unfold f_X7_faultOf_b61
          rw [if_pos rfl, alw μ hc, obs, if_pos (by rw [b2_0]; exact haf)]
        · obtain ⟨m1, s1', hm1, e1, e2⟩ := mdl F m hF hm
          refine ⟨m1, ?_, hm1, s1'.f2⟩
          rw [e1]
          unfold f_X10_comes_b37
          rw [e2, obs, if_pos (by rw [b2_0]; exact haf)]
  · refine ⟨-1, D, hv, same, fun μ hc => tell_no hc (fault_no hv hc hf) (by decide), fun F m hF hm => ⟨m, ?_, hm, F2.rf m⟩⟩
    unfold f_X10_comes
    rw [isMark_no hv hm hf, obs, if_pos rfl]
