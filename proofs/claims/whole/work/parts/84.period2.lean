theorem jitter_m {F g q : Nat} {μ : Mm} {L : La} {J : List Jb} {x0 : Jb} (hF : 1000 ≤ F) (hM : ML μ g L) (ht : μ.1 1000 0 33 = nI g) (h : MR μ J) (hl : J.length ≤ 66) (hx : ∀ x, x ∈ J → x.2.1 < zn L ∧ zm L x.2.1 ≤ 13107200 ∧ zM L x.2.1 = nI (zm L x.2.1)) (hq : q ≤ 13107201) (e0 : J[0]? = some x0) : f_X10_jitter F μ (nI q) = some (nI (jn L (zm L x0.2.1) J q)) := by
  have hg := hM.1
  have hzn := hM.2.1
  have hx0 := hx x0 (List.mem_of_getElem? e0)
  have bd : ∀ k, (J.take k).length ≤ 66 ∧ ∀ x, x ∈ J.take k → zm L x.2.1 ≤ 13107200 := fun k =>
    ⟨by rw [List.length_take]; omega, fun x h' => (hx x (List.mem_of_mem_take h')).2.1⟩
  unfold f_X10_jitter
  obtain ⟨a, e, iv⟩ := loop_inv (fun N (a : Int64 × Int64) x => f_X10_jitter_b8 F μ N (nI q) a.1 a.2 x) (fun a => some ((a.2 - a.1).toInt32)) J.length (fun k a => k = 0 ∨ (a.1.toInt = (jR L q (zm L x0.2.1) (J.take k)).1 ∧ a.2.toInt = (jR L q (zm L x0.2.1) (J.take k)).2.1)) (by
    intro N a k hk iv
    have e : J[k]? = some J[k] := List.getElem?_eq_getElem hk
    generalize J[k] = x at e
    have zx := hx x (List.mem_of_getElem? e)
    have b := jR_b (L := L) (f := (zm L x0.2.1 : Int)) hq (by omega) (bd k).1 (bd k).2
    have et : J.take (k + 1) = J.take k ++ [x] := by rw [List.take_succ, e]; rfl
    have ev := jv64 (L := L) (x := x) (k := k) (a := (nI k).toInt64) (by omega) hq zx.2.1 zx.2.2 (by rw [t64, nIT (by omega)])
    show ∃ s' : Int64 × Int64, f_X10_jitter_b8 F μ (N + 1) (nI q) a.1 a.2 (nI k) = f_X10_jitter_b8 F μ N (nI q) s'.1 s'.2 (nI (k + 1)) ∧ _
    rw [f_X10_jitter_b8, h.1, if_neg (ngt (by omega) (by omega) hk), ra_in (show k < 100 by omega) (by omega), obs, (h.2 k x e).1, spot_in ht, obs, ra_in (show 200 * g + x.2.1 < 4200 by omega) (by omega), obs, (hM.2.2.2 x.2.1 zx.1).2.2.2, et, jR_app]
    generalize (zM L x.2.1).toInt64 - (nI k).toInt64 * (nI q).toInt64 = v at ev ⊢
    unfold f_X10_jitter_b61
    rw [s1]
    by_cases z : k = 0
    · subst z
      rw [e0] at e
      have ex : x0 = x := Option.some.inj e
      have e1 : jv L q 0 x = (zm L x0.2.1 : Int) := by unfold jv; rw [ex]; omega
      have eR : jR L q (zm L x0.2.1) (J.take 0) = ((zm L x0.2.1 : Int), (zm L x0.2.1 : Int), 0) := rfl
      rw [if_pos (show nI 0 = 0 from rfl), if_pos (show nI 0 = 0 from rfl), eR]
      refine ⟨(v, v), rfl, .inr ⟨?_, ?_⟩⟩
      · show v.toInt = if jv L q 0 x < (zm L x0.2.1 : Int) then jv L q 0 x else (zm L x0.2.1 : Int)
        rw [ev, e1, if_neg (by omega)]
      · show v.toInt = if jv L q 0 x < (zm L x0.2.1 : Int) then (zm L x0.2.1 : Int) else jv L q 0 x
        rw [ev, e1, if_neg (by omega)]
    · have nz : ¬ nI k = 0 := fun w => z ((eqN (b := 0) (by omega) (by omega)).mp w)
      rcases iv with iv | ⟨i1, i2⟩
      · exact absurd iv z
      have b2' : (jR L q (zm L x0.2.1) (J.take k)).2.2 = k := by rw [b.2, List.length_take]; omega
      generalize jR L q (zm L x0.2.1) (J.take k) = s at i1 i2 b b2' ⊢
      rw [if_neg nz, if_neg nz, if_neg nz]
      have c1 : (0 ≤ lg_cmp v a.1) ↔ ¬ v.toInt < a.1.toInt := by
        rw [← lgT, leT, ltT]; omega
      have c2 : (lg_cmp v a.2 ≤ 0) ↔ ¬ a.2.toInt < v.toInt := by
        rw [← lgG, leT, ltT]; omega
      have g1 : ∀ lo : Int64, lo.toInt = (if jv L q k x < s.1 then jv L q k x else s.1) → ∃ s' : Int64 × Int64, (if lg_cmp v a.2 ≤ 0 then f_X10_jitter_b8 F μ N (nI q) lo a.2 (nI (k + 1)) else f_X10_jitter_b8 F μ N (nI q) lo v (nI (k + 1))) = f_X10_jitter_b8 F μ N (nI q) s'.1 s'.2 (nI (k + 1)) ∧ (k + 1 = 0 ∨ (s'.1.toInt = (jG L q s x).1 ∧ s'.2.toInt = (jG L q s x).2.1)) := fun lo hlo => by
        by_cases w : lg_cmp v a.2 ≤ 0
        · rw [if_pos w]
          rw [c2] at w
          refine ⟨(lo, a.2), rfl, .inr ⟨?_, ?_⟩⟩
          · show lo.toInt = if jv L q s.2.2 x < s.1 then jv L q s.2.2 x else s.1
            rw [b2']; exact hlo
          · show a.2.toInt = if jv L q s.2.2 x < s.2.1 then s.2.1 else jv L q s.2.2 x
            rw [b2']; split <;> omega
        · rw [if_neg w]
          rw [c2] at w
          refine ⟨(lo, v), rfl, .inr ⟨?_, ?_⟩⟩
          · show lo.toInt = if jv L q s.2.2 x < s.1 then jv L q s.2.2 x else s.1
            rw [b2']; exact hlo
          · show v.toInt = if jv L q s.2.2 x < s.2.1 then s.2.1 else jv L q s.2.2 x
            rw [b2']; split <;> omega
      by_cases w : 0 ≤ lg_cmp v a.1
      · rw [if_pos w]
        rw [c1] at w
        exact g1 a.1 (by rw [if_neg (by omega)]; exact i1)
      · rw [if_neg w]
        rw [c1] at w
        exact g1 v (by rw [if_pos (by omega)]; exact ev)) (by
    intro N a _
    show f_X10_jitter_b8 F μ (N + 1) (nI q) a.1 a.2 (nI J.length) = _
    rw [f_X10_jitter_b8, h.1, if_pos (nle (by omega) (by omega) (by omega))]) F 0 (0, 0) (by omega) (by omega) (.inl rfl)
  have hp := ix_lt e0
  rcases iv with iv | ⟨i1, i2⟩
  · omega
  have hb := bd J.length
  rw [List.take_length] at i1 i2 hb
  have b := jR_b (L := L) (f := (zm L x0.2.1 : Int)) hq (by omega) hb.1 hb.2
  have nb := jn_b (L := L) (f := (zm L x0.2.1 : Int)) hq (by omega) hb.1 hb.2
  have ed : (a.2 - a.1).toInt = (jn L (zm L x0.2.1) J q : Int) := by rw [sub64 (by omega) (by omega), nb.2, i1, i2]
  have e' : f_X10_jitter_b8 F μ F (nI q) 0 0 0 = some ((a.2 - a.1).toInt32) := e
  rw [e', l2j ed (by omega)]
/-- the search by halves -/
def bis (n : Nat → Nat) : Nat → Nat → Nat → Nat
  | 0, lo, _ => lo
  | k + 1, lo, hi => if hi ≤ lo then lo else if n (lo + (hi - lo) / 2 + 1) < n (lo + (hi - lo) / 2) then bis n k (lo + (hi - lo) / 2 + 1) hi else bis n k lo (lo + (hi - lo) / 2)
theorem bis_b (n : Nat → Nat) : ∀ k lo hi, lo ≤ 13107200 → hi ≤ 13107200 → bis n k lo hi ≤ 13107200
  | 0, lo, hi, h1, h2 => h1
  | k + 1, lo, hi, h1, h2 => by
    unfold bis; split
    · exact h1
    · split
      · exact bis_b n k _ _ (by omega) h2
      · exact bis_b n k _ _ h1 (by omega)
theorem mid {lo hi : Nat} (h : lo < hi) (hb : hi ≤ 13107200) : nI lo + (nI hi - nI lo) / (2 : Int32) = nI (lo + (hi - lo) / 2) := by
  rw [nI_sub (by omega), half (by omega), nI_add]
theorem period_c {F u : Nat} {μ : Mm} {n : Nat → Nat} (hj : ∀ q, q ≤ 13107201 → ∃ d, f_X1_jitterOf F μ (nI u) (nI q) = some d ∧ d.toInt = (n q : Int)) : ∀ (k t N lo hi : Nat), k + t = 32 → k < N → lo ≤ 13107200 → hi ≤ 13107200 → f_X1_periodOf_b21 F μ N (nI u) (nI lo) (nI hi) (nI t) = some (nI (bis n k lo hi))
  | 0, t, N, lo, hi, h1, h2, h3, h4 => by
    obtain ⟨M, rfl⟩ : ∃ M, N = M + 1 := ⟨N - 1, by omega⟩
    have : t = 32 := by omega
    subst this
    rw [f_X1_periodOf_b21, if_pos (by decide)]; rfl
  | k + 1, t, N, lo, hi, h1, h2, h3, h4 => by
    obtain ⟨M, rfl⟩ : ∃ M, N = M + 1 := ⟨N - 1, by omega⟩
    rw [f_X1_periodOf_b21, if_neg (by rw [show (32 : Int32) = nI 32 from rfl]; exact ngt (by omega) (by omega) (by omega))]
    unfold bis
    by_cases z : hi ≤ lo
    · rw [if_pos ((leN (by omega) (by omega)).mpr z), if_pos z]
    · obtain ⟨d1, e1, f1⟩ := hj (lo + (hi - lo) / 2 + 1) (by omega)
      obtain ⟨d2, e2, f2⟩ := hj (lo + (hi - lo) / 2) (by omega)
      rw [if_neg (fun w => z ((leN (by omega) (by omega)).mp w)), if_neg z, mid (by omega) h4, s1, e1, obs, e2, obs, s1]
      by_cases y : n (lo + (hi - lo) / 2 + 1) < n (lo + (hi - lo) / 2)
      · rw [if_pos ((lgT _ _).mpr (by omega)), if_pos y]
        exact period_c hj k (t + 1) M _ _ (by omega) (by omega) (by omega) h4
      · rw [if_neg (fun w => y (by have := (lgT _ _).mp w; omega)), if_neg y]
        exact period_c hj k (t + 1) M _ _ (by omega) (by omega) h3 (by omega)
theorem period_m {F : Nat} {μ : Mm} {n : Nat → Nat} {w : Int32} (hj : ∀ q, q ≤ 13107201 → f_X10_jitter F μ (nI q) = some (nI (n q)) ∧ n q < 2147483648) : ∀ (k N lo hi : Nat), hi - lo < 2 ^ k → k < N → lo ≤ 13107200 → hi ≤ 13107200 → f_X10_period_b86 F N μ w (nI lo) (nI hi) = some (if w = 0 then nI (bis n k lo hi) else nI (n (bis n k lo hi)), μ)
  | k, N, lo, hi, h1, h2, h3, h4 => by
    obtain ⟨M, rfl⟩ : ∃ M, N = M + 1 := ⟨N - 1, by omega⟩
    rw [f_X10_period_b86]
    by_cases z : hi ≤ lo
    · have eb : bis n k lo hi = lo := by
        cases k with
        | zero => rfl
        | succ k => unfold bis; rw [if_pos z]
      rw [if_pos ((leN (by omega) (by omega)).mpr z), eb, (hj lo (by omega)).1, obs]
      split <;> rfl
    · cases k with
      | zero => exfalso; have : (2 : Nat) ^ 0 = 1 := rfl; omega
      | succ k =>
        have e2k : 2 ^ (k + 1) = 2 * 2 ^ k := by rw [Nat.pow_succ, Nat.mul_comm]
        unfold bis
        have j1 := hj (lo + (hi - lo) / 2 + 1) (by omega)
        have j2 := hj (lo + (hi - lo) / 2) (by omega)
        rw [if_neg (fun w => z ((leN (by omega) (by omega)).mp w)), if_neg z, mid (by omega) h4, s1, j1.1, obs, j2.1, obs]
        by_cases y : n (lo + (hi - lo) / 2 + 1) < n (lo + (hi - lo) / 2)
        · rw [if_pos ((ltN j1.2 j2.2).mpr y), if_pos y]
          exact period_m hj k M _ _ (by omega) (by omega) (by omega) h4
        · rw [if_neg (fun w => y ((ltN j1.2 j2.2).mp w)), if_neg y]
          exact period_m hj k M _ _ (by omega) (by omega) h3 (by omega)
theorem op_period {F : Nat} {μ : Mm} (hF : 1000 ≤ F) (h : Rel μ) (x w : Int32) : OK2 (fun μ => f_X9_period F μ x w) (fun μ => f_X10_period F μ x w) μ := by
  obtain ⟨D, C, h⟩ := id h
  have hR : Rel μ := ⟨D, C, h⟩
  obtain ⟨hv, hc, hm, -⟩ := id h
  have hT := hv.2.1
  rcases ix2 x (n := tT D) (by omega) with q | ⟨u, hu, rfl⟩
  · refine OK2.both hR (r := -1) ?_ ?_
    · show f_X9_period F μ x w = _
      unfold f_X9_period; rw [hasTask_out hc.1.2.1 q, obs, if_pos rfl]
    · show f_X10_period F μ x w = _
      unfold f_X10_period; rw [isTask_out hm.1.2.1 hT.2 q, obs, if_pos rfl]
  · rcases ix2 w (n := 2) (by omega) with q | ⟨k, hk, rfl⟩
    · refine OK2.both hR (r := -1) ?_ ?_
      · show f_X9_period F μ (nI u) w = _
        unfold f_X9_period; rw [hasTask_in hc.1.2.1 hT.2 hu, obs, if_neg i10]
        rcases q with q | q
        · rw [if_pos q]
        · by_cases z : w < 0
          · rw [if_pos z]
          · rw [if_neg z, if_neg]
            rw [leT, nIT (by omega)] at q
            rw [leT, show (1 : Int32).toInt = 1 from by decide]; omega
      · show f_X10_period F μ (nI u) w = _
        unfold f_X10_period; rw [isTask_in hm.1.2.1 hT.2 hu, obs, if_neg i10, show f_X10_in μ w 0 1 = some 0 from in_out (n := 2) (by omega) q, obs, if_pos rfl]
    · obtain ⟨p, μ1, hp, hu8, eH, e1, s1', hL, r1, g⟩ := jobs_c hF h hu
      have h1 : Rl μ1 D C := h.kept s1'
      have hh : μ1.1 1005 0 u = nI p := by rw [(h1.2.2.1.2.1 u hu8).1]; exact eH
      obtain ⟨μ2, e2, s2, r2, M2, t2⟩ := seeks_ok hF h1 hu hp hh
      generalize eR : (js (hmD D p) (tL D p) (zn (tL D p))).2 = R at r1 g r2
      generalize eL : tL D p = L at *
      generalize eHM : hmD D p = hmm at *
      have hl2 := jof_le u R
      have h66 := g.1
      have hg := M2.1
      have hzn := M2.2.1
      have k1 : nI k ≤ 1 := by rw [show (1 : Int32) = nI 1 from rfl, leN (by omega) (by omega)]; omega
      have c1 : ∀ r, ((f_X1_manyOf F μ1 (nI u)).bind fun q15 => if (3 : Int32) ≤ q15 then (f_X1_periodOf F μ1 (nI u)).bind fun q17 => if nI k = 0 then some (q17, μ1) else (f_X1_jitterOf F μ1 (nI u) q17).bind fun q19 => some (q19.toInt32, μ1) else some ((-1), μ1)) = some (r, μ1) → f_X9_period F μ (nI u) (nI k) = some (r, μ1) := fun r hr => by
        unfold f_X9_period
        rw [hasTask_in hc.1.2.1 hT.2 hu, obs, if_neg i10, if_neg (nN0 (by omega)), if_pos k1, e1, obs]; exact hr
      have hsz : μ2.1 1000 0 36 = nI (jof u R).length := r2.1
      have hin : f_X10_in μ1 (nI k) 0 1 = some 1 := in_in (n := 2) (by omega) hk
      rw [show f_X1_manyOf F μ1 (nI u) = some (nI (jof u R).length) from many_ok hF r1 g.1 (fun x hx' => (g.2.1 x hx').1) hu8, obs] at c1
      by_cases z3 : 3 ≤ (jof u R).length
      · have z3' : (3 : Int32) ≤ nI (jof u R).length := by rw [show (3 : Int32) = nI 3 from rfl, leN (by omega) (by omega)]; exact z3
        obtain ⟨x0, e0⟩ : ∃ x0, (jof u R)[0]? = some x0 := ⟨_, List.getElem?_eq_getElem (by omega)⟩
        obtain ⟨x1, ex1⟩ : ∃ x1, (jof u R)[(jof u R).length - 1]? = some x1 := ⟨_, List.getElem?_eq_getElem (by omega)⟩
        have hx0R := (jof_mem (List.mem_of_getElem? e0)).1
        have hx1R := (jof_mem (List.mem_of_getElem? ex1)).1
        have b0 := zm_b hL g hx0R
        have b1 := zm_b hL g hx1R
        have hlt : x0.2.1 < x1.2.1 := by
          have a := pw_at (jof_pw g u) e0 ex1 (by omega)
          have b := (jof_mem (List.mem_of_getElem? e0)).2
          have c := (jof_mem (List.mem_of_getElem? ex1)).2
          unfold Qlt at a; omega
        have gx1 := (g.2.1 x1 hx1R).2
        have gx1a := gx1.1
        have gx1b := gx1.2.1
        have hmono : zm L x0.2.1 ≤ zm L x1.2.1 := zm_le hL (by omega) (by omega)
        have hJ : ∀ x, x ∈ jof u R → x.2.1 < zn L ∧ zm L x.2.1 ≤ 13107200 ∧ zM L x.2.1 = nI (zm L x.2.1) := fun x hx => by
          have hxR := (jof_mem hx).1
          have gx := (g.2.1 x hxR).2
          have a := gx.1
          have b := gx.2.1
          exact ⟨by omega, zm_b hL g hxR⟩
        have nb : ∀ q, q ≤ 13107201 → jn L (zm L x0.2.1) (jof u R) q < 1000000000 := fun q hq => (jn_b hq (by omega) (by omega) (fun x hx => (hJ x hx).2.1)).1
        have jc : ∀ q, q ≤ 13107201 → ∃ d, f_X1_jitterOf F μ1 (nI u) (nI q) = some d ∧ d.toInt = (jn L (zm L x0.2.1) (jof u R) q : Int) := fun q hq => jitter_c hF hL r1 g hu8 hq e0
        have jm' : ∀ q, q ≤ 13107201 → f_X10_jitter F μ2 (nI q) = some (nI (jn L (zm L x0.2.1) (jof u R) q)) ∧ jn L (zm L x0.2.1) (jof u R) q < 2147483648 := fun q hq => ⟨jitter_m hF M2 t2 r2 (by omega) hJ hq e0, by have := nb q hq; omega⟩
        -- the search's end
        have hi_ : ∃ hi, hi ≤ 13107200 ∧ 1 ≤ hi ∧ (if (1 : Int32) < (zM L x1.2.1 - zM L x0.2.1) then (zM L x1.2.1 - zM L x0.2.1) else (1 : Int32)) = nI hi ∧ (if (zM L x1.2.1 - zM L x0.2.1) ≤ (1 : Int32) then f_X10_period_b86 F F μ2 (nI k) 1 1 else f_X10_period_b86 F F μ2 (nI k) 1 (zM L x1.2.1 - zM L x0.2.1)) = f_X10_period_b86 F F μ2 (nI k) (nI 1) (nI hi) := by
          rw [b1.2, b0.2, nI_sub hmono]
          by_cases y : zm L x1.2.1 - zm L x0.2.1 ≤ 1
          · have y' : nI (zm L x1.2.1 - zm L x0.2.1) ≤ (1 : Int32) := by rw [show (1 : Int32) = nI 1 from rfl, leN (by omega) (by omega)]; exact y
            exact ⟨1, by omega, by omega, by rw [if_neg (by rw [ltT]; rw [leT] at y'; omega)]; rfl, by rw [if_pos y']; rfl⟩
          · have y' : ¬ nI (zm L x1.2.1 - zm L x0.2.1) ≤ (1 : Int32) := by rw [show (1 : Int32) = nI 1 from rfl, leN (by omega) (by omega)]; exact y
            exact ⟨zm L x1.2.1 - zm L x0.2.1, by omega, by omega, by rw [if_pos (by rw [ltT]; rw [leT] at y'; omega)], by rw [if_neg y']; rfl⟩
        obtain ⟨hi, hi1, hi2, ec, em⟩ := hi_
        have pb := bis_b (jn L (zm L x0.2.1) (jof u R)) 32 1 hi (by omega) hi1
        have hpc : f_X1_periodOf F μ1 (nI u) = some (nI (bis (jn L (zm L x0.2.1) (jof u R)) 32 1 hi)) := by
          unfold f_X1_periodOf
          rw [last_ok hF r1 g hu8 ex1, obs, first_ok hF r1 g hu8 e0, obs, ec]
          exact period_c jc 32 0 F 1 hi (by omega) (by omega) (by omega) hi1
        have hpm : f_X10_period_b86 F F μ2 (nI k) (nI 1) (nI hi) = some (if nI k = 0 then nI (bis (jn L (zm L x0.2.1) (jof u R)) 32 1 hi) else nI (jn L (zm L x0.2.1) (jof u R) (bis (jn L (zm L x0.2.1) (jof u R)) 32 1 hi)), μ2) :=
          period_m jm' 32 F 1 hi (by omega) (by omega) (by omega) hi1
        obtain ⟨d, ed, fd⟩ := jc (bis (jn L (zm L x0.2.1) (jof u R)) 32 1 hi) (by omega)
        have nbb := nb (bis (jn L (zm L x0.2.1) (jof u R)) 32 1 hi) (by omega)
        refine ⟨if nI k = 0 then nI (bis (jn L (zm L x0.2.1) (jof u R)) 32 1 hi) else nI (jn L (zm L x0.2.1) (jof u R) (bis (jn L (zm L x0.2.1) (jof u R)) 32 1 hi)), μ1, μ2, c1 _ ?_, ?_, hR.kept (s1'.trans s2)⟩
        · rw [if_pos z3', hpc, obs, ed, obs, l2j fd (by omega)]
          split <;> rfl
        · show f_X10_period F μ1 (nI u) (nI k) = _
          unfold f_X10_period
          have rr := r2.2 ((jof u R).length - 1) x1 ex1
          have r0 := r2.2 0 x0 e0
          rw [isTask_in h1.2.2.1.1.2.1 hT.2 hu, obs, if_neg i10, hin, obs, if_neg i10, e2, obs, hsz, if_pos z3', nsub1 (by omega), ra_in (show (jof u R).length - 1 < 100 by omega) (by omega), obs, rr.1, spot_in t2, obs, ra_in (show 200 * p + x1.2.1 < 4200 by omega) (by omega), obs, (M2.2.2.2 x1.2.1 (by omega)).2.2.2]
          rw [show ra μ2 1038 0 100 0 = some (μ2.1 1038 0 0) from ra_in (j := 0) (by omega) (by omega), obs, r0.1, spot_in t2, obs, ra_in (show 200 * p + x0.2.1 < 4200 by omega) (by omega), obs, (M2.2.2.2 x0.2.1 (by omega)).2.2.2, em, hpm]
      · have z3' : ¬ (3 : Int32) ≤ nI (jof u R).length := by rw [show (3 : Int32) = nI 3 from rfl, leN (by omega) (by omega)]; exact z3
        refine ⟨-1, μ1, μ2, c1 _ (by rw [if_neg z3']), ?_, hR.kept (s1'.trans s2)⟩
        show f_X10_period F μ1 (nI u) (nI k) = _
        unfold f_X10_period
        rw [isTask_in h1.2.2.1.1.2.1 hT.2 hu, obs, if_neg i10, hin, obs, if_neg i10, e2, obs, hsz, if_neg z3']
