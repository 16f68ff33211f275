/-! MARKS: the mark is added -/
def tmv (D : Tr) (p : Nat) (c : Int32) : Int32 := if zn (tL D p) = 0 then c else zM (tL D p) (zn (tL D p) - 1) + ((c - zM (tL D p) (zn (tL D p) - 1)) &&& mkv (tW D))
theorem timeOf_m1 {μ : Mm} {i : Nat} : f_X2_timeOf μ i (nI 0 - 1) = some 0 := by
  unfold f_X2_timeOf f_X2_has
  rw [if_pos (by decide), obs, if_pos rfl]
theorem tmv_ok {D : Tr} {p : Nat} {c : Int32} (hv : TV D) (hp : p < 3) (c0 : ¬ c < 0) (c1 : ¬ mkv (tW D) < c) : ∃ v, tmv D p c = nI v ∧ v ≤ 65536 * (zn (tL D p) + 1) ∧ (1 ≤ zn (tL D p) → zm (tL D p) (zn (tL D p) - 1) ≤ v) := by
  obtain ⟨l1, -, -, -, -, l6, -⟩ := hv.2.2.2.2.2.1 p hp
  unfold tmv
  by_cases z : zn (tL D p) = 0
  · rw [if_pos z]
    obtain ⟨w, hw, e⟩ := maskV hv.2.2.1.1 hv.2.2.1.2
    rw [e, ltT, nIT (by omega)] at c1
    rw [ltT, show (0 : Int32).toInt = 0 from by decide] at c0
    exact ⟨c.toInt.toNat, toN c (by omega), by omega, fun h => by omega⟩
  · rw [if_neg z]
    obtain ⟨e, b⟩ := l6 (zn (tL D p) - 1) (by omega)
    obtain ⟨j, hj, ej⟩ := maskE hv.2.2.1.1 hv.2.2.1.2 (c - zM (tL D p) (zn (tL D p) - 1))
    refine ⟨zm (tL D p) (zn (tL D p) - 1) + j, ?_, by omega, fun _ => by omega⟩
    rw [ej]
    rw [show zM (tL D p) (zn (tL D p) - 1) + nI j = nI (zm (tL D p) (zn (tL D p) - 1)) + nI j from by rw [← e], nI_add]
theorem dcas {D : Tr} {p : Nat} {k t x m : Int32} (q i : Nat) (hi : i < zn (tL (dapp D p (lapp (tL D p) k t x m)) q)) : (i < zn (tL D q) ∧ zK (tL (dapp D p (lapp (tL D p) k t x m)) q) i = zK (tL D q) i ∧ zX (tL (dapp D p (lapp (tL D p) k t x m)) q) i = zX (tL D q) i) ∨ (q = p ∧ i = zn (tL D p) ∧ zK (tL (dapp D p (lapp (tL D p) k t x m)) q) i = k ∧ zX (tL (dapp D p (lapp (tL D p) k t x m)) q) i = x) := by
  obtain ⟨n0, n1, n2, n3, -⟩ := lapp_n (tL D p) k t x m
  by_cases e : q = p
  · subst e
    rw [dapp_s] at hi ⊢
    rw [n0] at hi
    rcases Nat.lt_or_ge i (zn (tL D q)) with w | w
    · exact .inl ⟨w, (lapp_lt w).1, (lapp_lt w).2.2.1⟩
    · obtain rfl : i = zn (tL D q) := by omega
      exact .inr ⟨rfl, rfl, n1, n3⟩
  · rw [dapp_n D _ e] at hi ⊢
    exact .inl ⟨hi, rfl, rfl⟩
/-- the old marks are still there -/
theorem dold {D : Tr} {p : Nat} {k t x m : Int32} (q i : Nat) (hi : i < zn (tL D q)) : i < zn (tL (dapp D p (lapp (tL D p) k t x m)) q) ∧ zK (tL (dapp D p (lapp (tL D p) k t x m)) q) i = zK (tL D q) i ∧ zX (tL (dapp D p (lapp (tL D p) k t x m)) q) i = zX (tL D q) i := by
  by_cases e : q = p
  · subst e
    rw [dapp_s]
    exact ⟨by rw [(lapp_n _ _ _ _ _).1]; omega, (lapp_lt hi).1, (lapp_lt hi).2.2.1⟩
  · rw [dapp_n D _ e]; exact ⟨hi, rfl, rfl⟩
theorem add_c {μ : Mm} {D : Tr} {p k : Nat} {t x c : Int32} (hv : TV D) (hc : CT μ 0 D) (hp : p < 3) (hn : zn (tL D p) < 200) (hw' : Wh (hmD D p) (nI k) t x) (hk : k ≤ 12) (hx : 9 ≤ k → ∃ y, y < 64 ∧ x = nI y) : ∃ μ1, f_X7_addMark μ 0 (nI p) (nI k) t x c = some (nI (zn (tL D p)), μ1) ∧ CT μ1 0 (dapp D p (lapp (tL D p) (nI k) t x (tmv D p c))) ∧ F1 μ μ1 ∧ μ1.1 900 0 9 = μ.1 900 0 9 := by
  have hLn := hc.2.2.1 p hp
  rw [show 3 * 0 + p = p by omega] at hLn
  obtain ⟨cL, rc⟩ := hLn
  have lv := hv.2.2.2.2.2.1 p hp
  -- to b48
  have e48 : f_X7_addMark μ 0 (nI p) (nI k) t x c = f_X7_addMark_b48 μ 0 (nI p) (nI k) t x p (nI (zn (tL D p))) (tmv D p c) := by
    unfold f_X7_addMark tmv
    rw [laneOf_in hp, obs, show 3 * 0 + p = p by omega, cL.2.1]
    by_cases z : zn (tL D p) = 0
    · rw [z, timeOf_m1, obs, if_pos (by decide), if_pos rfl]
    · rw [nsub1 (by omega), timeOf_in cL (by omega), obs, if_neg (by rw [show (0 : Int32) = nI 0 from rfl, eqN (by omega) (by omega)]; exact z), mask_c hc.1.2.2, obs, if_neg z]
  rw [e48]
  generalize tmv D p c = tm
  generalize hn' : zn (tL D p) = n at *
  unfold f_X7_addMark_b48 f_X2_add
  have sz : μ.1 200 p 5 = nI n := by rw [cL.2.1, hn']
  have lt200 : nI n < (200 : Int32) := by rw [show (200 : Int32) = nI 200 from rfl, ltN (by omega) (by omega)]; exact hn
  rw [sz, if_neg (nN0 (by omega)), if_pos lt200, wa_in hn (by omega), obs]
  rw [show (wi μ 201 p n (nI k)).1 200 p 5 = nI n by rw [wi_at, if_neg (by omega)]; exact sz, wa_in hn (by omega), obs]
  rw [show (wi (wi μ 201 p n (nI k)) 202 p n t).1 200 p 5 = nI n by rw [wi_at, if_neg (by omega), wi_at, if_neg (by omega)]; exact sz, wa_in hn (by omega), obs]
  rw [show (wi (wi (wi μ 201 p n (nI k)) 202 p n t) 203 p n x).1 200 p 5 = nI n by rw [wi_at, if_neg (by omega), wi_at, if_neg (by omega), wi_at, if_neg (by omega)]; exact sz, wa_in hn (by omega), obs]
  rw [show (wi (wi (wi (wi μ 201 p n (nI k)) 202 p n t) 203 p n x) 204 p n tm).1 200 p 5 = nI n by rw [wi_at, if_neg (by omega), wi_at, if_neg (by omega), wi_at, if_neg (by omega), wi_at, if_neg (by omega)]; exact sz, wf_eq, obs, s1]
  generalize ha5 : wi (wi (wi (wi (wi μ 201 p n (nI k)) 202 p n t) 203 p n x) 204 p n tm) 200 p 5 (nI (n + 1)) = a5
  have g1 : ∀ kk ii jj, ¬ (200 ≤ kk ∧ kk ≤ 204 ∧ ii = p) → a5.1 kk ii jj = μ.1 kk ii jj := fun kk ii jj z => by
    rw [← ha5, wi_at, if_neg (by omega), wi_at, if_neg (by omega), wi_at, if_neg (by omega), wi_at, if_neg (by omega), wi_at, if_neg (by omega)]
  have g2 : a5.1 200 p 5 = nI (n + 1) := by rw [← ha5, wi_at, if_pos ⟨rfl, rfl, rfl⟩]
  have g3 : ∀ j, a5.1 201 p j = upd (μ.1 201 p) n (nI k) j := fun j => by
    rw [← ha5, wi_at, if_neg (by omega), wi_at, if_neg (by omega), wi_at, if_neg (by omega), wi_at, if_neg (by omega), wi_at]
    show _ = if j = n then _ else _
    simp
  have g4 : ∀ j, a5.1 202 p j = upd (μ.1 202 p) n t j := fun j => by
    rw [← ha5, wi_at, if_neg (by omega), wi_at, if_neg (by omega), wi_at, if_neg (by omega), wi_at, wi_at, if_neg (show ¬ (202 = 201 ∧ p = p ∧ j = n) by omega)]
    show _ = if j = n then _ else _
    simp
  have g5 : ∀ j, a5.1 203 p j = upd (μ.1 203 p) n x j := fun j => by
    rw [← ha5, wi_at, if_neg (by omega), wi_at, if_neg (by omega), wi_at, wi_at, if_neg (show ¬ (203 = 202 ∧ p = p ∧ j = n) by omega), wi_at, if_neg (show ¬ (203 = 201 ∧ p = p ∧ j = n) by omega)]
    show _ = if j = n then _ else _
    simp
  have g6 : ∀ j, a5.1 204 p j = upd (μ.1 204 p) n tm j := fun j => by
    rw [← ha5, wi_at, if_neg (by omega), wi_at, wi_at, if_neg (show ¬ (204 = 203 ∧ p = p ∧ j = n) by omega), wi_at, if_neg (show ¬ (204 = 202 ∧ p = p ∧ j = n) by omega), wi_at, if_neg (show ¬ (204 = 201 ∧ p = p ∧ j = n) by omega)]
    show _ = if j = n then _ else _
    simp
  have g7 : a5.2 = μ.2 := by rw [← ha5]; rfl
  clear ha5
  have si : Si (hmD D p) (sq (hmD D p) (tL D p) n) := Si_sq lv.2.1 n (by omega)
  obtain ⟨a6, e6, r6⟩ := apply_ok (rc.kept (fun kk j a b => g1 kk p j (by omega))) si hw'
  have h1 : ∀ kk ii jj, ¬ (400 ≤ kk ∧ kk ≤ 403 ∧ ii = p) → sm a5 a6 kk ii jj := fun k i j h => (fr_X4_apply (by omega) (by omega) (by omega) (by omega) (by omega) e6)
  rw [e6, obs, obs]
  -- the lane
  have cl6 : CL a6 p (lapp (tL D p) (nI k) t x tm) := by
    obtain ⟨n0, n1, n2, n3, n4'⟩ := lapp_n (tL D p) (nI k) t x tm
    refine ⟨by rw [n0]; omega, by rw [(h1 _ _ _ (by omega)).1, g2, n0, hn'], fun j hj => ?_⟩
    rw [n0, hn'] at hj
    rw [(h1 201 p j (by omega)).1, (h1 202 p j (by omega)).1, (h1 203 p j (by omega)).1, (h1 204 p j (by omega)).1, g3, g4, g5, g6]
    by_cases e : j = n
    · rw [e, up_s, up_s, up_s, up_s, ← hn', n1, n2, n3, n4']; exact ⟨rfl, rfl, rfl, rfl⟩
    · rw [up_n _ _ e, up_n _ _ e, up_n _ _ e, up_n _ _ e]
      have hj' : j < zn (tL D p) := by omega
      obtain ⟨b1, b2', b3, b4⟩ := lapp_lt (k := nI k) (t := t) (x := x) (m := tm) hj'
      rw [b1, b2', b3, b4]; exact cL.2.2 j hj'
  have rc6 : RC a6 p (sq (hmD D p) (lapp (tL D p) (nI k) t x tm) (zn (lapp (tL D p) (nI k) t x tm))) (hmD D p) := by
    rw [(lapp_n (tL D p) (nI k) t x tm).1, sq_appn, hn']; exact r6
  -- the rest, for any memory that differs from a6 in the table of letters alone
  have fin : ∀ a7 : Mm, (∀ kk ii jj, ¬ (kk = 704 ∧ ii = 0) → a7.1 kk ii jj = a6.1 kk ii jj) → a7.2 = a6.2 → CT4 a7 0 (dapp D p (lapp (tL D p) (nI k) t x tm)) → CT a7 0 (dapp D p (lapp (tL D p) (nI k) t x tm)) ∧ F1 μ a7 ∧ a7.1 900 0 9 = μ.1 900 0 9 := fun a7 q1 q2 q4 => by
    have qq : ∀ kk ii jj, ¬ (200 ≤ kk ∧ kk ≤ 204 ∧ ii = p) → ¬ (400 ≤ kk ∧ kk ≤ 403 ∧ ii = p) → ¬ (kk = 704 ∧ ii = 0) → a7.1 kk ii jj = μ.1 kk ii jj := fun kk ii jj x1 x2 x3 => by rw [q1 _ _ _ x3, (h1 _ _ _ x2).1, g1 _ _ _ x1]
    have q22 : ∀ kk ii jj, kk = 601 ∨ kk = 1022 → a7.2 kk ii jj = μ.2 kk ii jj := fun kk ii jj z => by rw [q2, (h1 _ _ _ (by omega)).2, g7]
    refine ⟨⟨⟨by rw [qq _ _ _ (by omega) (by omega) (by omega)]; exact hc.1.1, by rw [qq _ _ _ (by omega) (by omega) (by omega)]; exact hc.1.2.1, by rw [qq _ _ _ (by omega) (by omega) (by omega)]; exact hc.1.2.2⟩, fun u hu => by rw [qq _ _ _ (by omega) (by omega) (by omega), qq _ _ _ (by omega) (by omega) (by omega)]; exact hc.2.1 u hu, fun q hq => ?_, q4, fun q u hq hz hu => ?_⟩, ⟨fun kk ii jj x1 x2 x3 => qq _ _ _ (by omega) (by omega) x2, fun kk ii jj x1 x2 => qq _ _ _ (by omega) (by omega) (by omega), q22⟩, qq _ _ _ (by omega) (by omega) (by omega)⟩
    · rw [show 3 * 0 + q = q by omega]
      by_cases e : q = p
      · subst e
        rw [dapp_s]
        exact ⟨cl6.kept (fun kk j x1 x2 => q1 _ _ _ (by omega)), rc6.kept (fun kk j x1 x2 => q1 _ _ _ (by omega))⟩
      · rw [dapp_n D _ e]
        have := hc.2.2.1 q hq
        rw [show 3 * 0 + q = q by omega] at this
        exact ⟨this.1.kept (fun kk j x1 x2 => qq _ _ _ (by omega) (by omega) (by omega)), this.2.kept (fun kk j x1 x2 => qq _ _ _ (by omega) (by omega) (by omega))⟩
    · by_cases e : q = p
      · subst e; rw [dapp_s] at hz; exact absurd hz (by rw [(lapp_n _ _ _ _ _).1]; omega)
      · rw [dapp_n D _ e] at hz
        rw [show 3 * 0 + q = q by omega, qq _ _ _ (by omega) (by omega) (by omega)]
        have := hc.2.2.2.2 q u hq hz hu
        rwa [show 3 * 0 + q = q by omega] at this
  have old : ∀ j, a6.1 704 0 j = μ.1 704 0 j := fun j => by rw [(h1 _ _ _ (by omega)).1, g1 _ _ _ (by omega)]
  rcases Nat.lt_or_ge k 9 with k9 | k9
  · rw [letterPlace_lo k9, obs, if_pos rfl]
    refine ⟨a6, rfl, fin a6 (fun _ _ _ _ => rfl) rfl (fun c' x' hc' hx' => ?_)⟩
    rw [old]
    rcases hc.2.2.2.1 c' x' hc' hx' with ⟨y1, y2⟩ | ⟨q, j, y1, y2, y3, y4, y5⟩
    · refine .inl ⟨y1, fun q j hq hj hK hX => ?_⟩
      rcases dcas q j hj with ⟨z1, z2, z3⟩ | ⟨z1, z2, z3, z4⟩
      · exact y2 q j hq z1 (z2 ▸ hK) (z3 ▸ hX)
      · have := (eqN (a := k) (b := 9 + c') (by omega) (by omega)).mp (z3.symm.trans hK)
        omega
    · obtain ⟨z1, z2, z3⟩ := dold (D := D) (p := p) (k := nI k) (t := t) (x := x) (m := tm) q j y2
      exact .inr ⟨q, j, y1, z1, y3, by rw [z2]; exact y4, by rw [z3]; exact y5⟩
  · obtain ⟨y, hy, rfl⟩ := hx k9
    obtain ⟨c', rfl⟩ : ∃ c', k = 9 + c' := ⟨k - 9, by omega⟩
    rw [letterPlace_in (by omega) hy, obs, if_neg (nIm1 (by omega)), wa_in (by omega) (by omega), obs, show (200 : Int32) = nI 200 from rfl, pk_mul, nI_add]
    refine ⟨_, rfl, fin _ (fun kk ii jj z => by rw [wi_at, if_neg (by omega)]) rfl (fun c'' x' hc' hx' => ?_)⟩
    rw [wi_at]
    by_cases e : 64 * c'' + x' = 64 * c' + y
    · have e1 : c'' = c' := by omega
      have e2 : x' = y := by omega
      subst e1; subst e2
      right
      obtain ⟨n0, n1, n2, n3, -⟩ := lapp_n (tL D p) (nI (9 + c'')) t (nI x') tm
      refine ⟨p, n, hp, ?_, ?_, ?_, ?_⟩
      · rw [dapp_s, n0]; omega
      · rw [if_pos ⟨rfl, rfl, rfl⟩, show p * 200 + n = 200 * p + n by omega]
      · rw [dapp_s, ← hn']; exact n1
      · rw [dapp_s, ← hn']; exact n3
    · rw [if_neg (fun z => e z.2.2), old]
      rcases hc.2.2.2.1 c'' x' hc' hx' with ⟨y1, y2⟩ | ⟨q, j, y1, y2, y3, y4, y5⟩
      · refine .inl ⟨y1, fun q j hq hj hK hX => ?_⟩
        rcases dcas q j hj with ⟨z1, z2, z3⟩ | ⟨z1, z2, z3, z4⟩
        · exact y2 q j hq z1 (z2 ▸ hK) (z3 ▸ hX)
        · have w1 := (eqN (a := 9 + c') (b := 9 + c'') (by omega) (by omega)).mp (z3.symm.trans hK)
          have w2 := (eqN (a := y) (b := x') (by omega) (by omega)).mp (z4.symm.trans hX)
          omega
      · obtain ⟨z1, z2, z3⟩ := dold (D := D) (p := p) (k := nI (9 + c')) (t := t) (x := nI y) (m := tm) q j y2
        exact .inr ⟨q, j, y1, z1, y3, by rw [z2]; exact y4, by rw [z3]; exact y5⟩
