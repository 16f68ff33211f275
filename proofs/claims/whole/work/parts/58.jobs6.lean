/-! CALL: job -/
theorem jof_at {u k : Nat} {R : List Jb} {y : Jb} (e : R[k]? = some y) (h : y.1 = u) : (jof u R)[(jof u (R.take k)).length]? = some y := by
  obtain ⟨hk, e'⟩ := List.getElem?_eq_some_iff.mp e
  have e2 : R = R.take k ++ (y :: R.drop (k + 1)) := by
    rw [← e', ← List.drop_eq_getElem_cons hk, List.take_append_drop]
  have e3 : jof u R = jof u (R.take k) ++ (y :: jof u (R.drop (k + 1))) := by
    conv => lhs; rw [e2]
    unfold jof
    rw [List.filter_append, List.filter_cons_of_pos (by simp [h])]
  rw [e3, List.getElem?_append_right (Nat.le_refl _), Nat.sub_self]; rfl
theorem jof_take {u k : Nat} {R : List Jb} {y : Jb} (e : R[k]? = some y) : (jof u (R.take (k + 1))).length = (jof u (R.take k)).length + if y.1 = u then 1 else 0 := by
  rw [List.take_succ, e]
  unfold jof
  rw [List.filter_append, List.length_append]
  congr 1
  by_cases h : y.1 = u
  · rw [if_pos h]; show (List.filter _ [y]).length = 1; rw [List.filter_cons_of_pos (by simp [h])]; rfl
  · rw [if_neg h]; show (List.filter _ [y]).length = 0; rw [List.filter_cons_of_neg (by simp [h])]; rfl
theorem rowOf_ok {F u i : Nat} {μ : Mm} {L : La} {R : List Jb} (hF : 1000 ≤ F) (h : CR μ L R) (hl : R.length ≤ 66) (hx : ∀ x, x ∈ R → x.1 < 8) (hu : u < 8) (hi : i < 2147483648) : ∃ r, f_X1_rowOf F μ (nI u) (nI i) = some r ∧ ((r = -1 ∧ (jof u R).length ≤ i) ∨ ∃ k y, r = nI k ∧ R[k]? = some y ∧ (jof u R)[i]? = some y) := by
  unfold f_X1_rowOf
  have := loop_ret (fun N a x => f_X1_rowOf_b5 F μ N (nI u) (nI i) a x) R.length (fun k a => a = nI (jof u (R.take k)).length ∧ (jof u (R.take k)).length ≤ i) (fun r => (r = -1 ∧ (jof u R).length ≤ i) ∨ ∃ k y, r = nI k ∧ R[k]? = some y ∧ (jof u R)[i]? = some y) (by
    intro N a k hk ⟨i1, i2⟩
    have e : R[k]? = some R[k] := List.getElem?_eq_getElem hk
    generalize R[k] = y at e
    have ht := jof_take (u := u) e
    have hb : (jof u (R.take k)).length ≤ 66 := by have := jof_le u (R.take k); rw [List.length_take] at this; omega
    show (∃ r, f_X1_rowOf_b5 F μ (N + 1) (nI u) (nI i) a (nI k) = some r ∧ _) ∨ ∃ s', f_X1_rowOf_b5 F μ (N + 1) (nI u) (nI i) a (nI k) = f_X1_rowOf_b5 F μ N (nI u) (nI i) s' (nI (k + 1)) ∧ _
    rw [f_X1_rowOf_b5, h.1, if_neg (ngt (by omega) (by omega) hk), isOf_in h hl e (hx y (List.mem_of_getElem? e)) hu, obs, s1, i1, s1]
    by_cases q : y.1 = u
    · rw [if_pos (decide_eq_true q), if_neg (by decide)]
      rw [if_pos q] at ht
      by_cases z : (jof u (R.take k)).length = i
      · left
        rw [if_pos (by rw [z])]
        exact ⟨_, rfl, .inr ⟨k, y, rfl, e, by rw [← z]; exact jof_at e q⟩⟩
      · right
        rw [if_neg (fun w => z ((eqN (by omega) (by omega)).mp w))]
        exact ⟨_, rfl, by rw [ht], by omega⟩
    · right
      have q' : ¬ decide (y.1 = u) = true := by rw [decide_eq_true_iff]; exact q
      rw [if_neg q', if_pos rfl]
      rw [if_neg q] at ht
      exact ⟨_, rfl, by rw [ht, Nat.add_zero], by omega⟩) (by
    intro N a ⟨i1, i2⟩
    rw [List.take_length] at i2
    show ∃ r, f_X1_rowOf_b5 F μ (N + 1) (nI u) (nI i) a (nI R.length) = some r ∧ _
    rw [f_X1_rowOf_b5, h.1, if_pos (nle (by omega) (by omega) (by omega))]
    exact ⟨_, rfl, .inl ⟨rfl, i2⟩⟩) F 0 0 (by omega) (by omega) ⟨by simp [jof]; rfl, by simp [jof]⟩
  exact this
theorem op_job {F : Nat} {μ : Mm} (hF : 1000 ≤ F) (h : Rel μ) (x i w : Int32) : OK2 (fun μ => f_X9_job F μ x i w) (fun μ => f_X10_job F μ x i w) μ := by
  obtain ⟨D, C, h⟩ := id h
  have hR : Rel μ := ⟨D, C, h⟩
  obtain ⟨hv, hc, hm, -⟩ := id h
  have hT := hv.2.1
  rcases ix2 x (n := tT D) (by omega) with q | ⟨u, hu, rfl⟩
  · refine OK2.both hR (r := -1) ?_ ?_
    · show f_X9_job F μ x i w = _
      unfold f_X9_job f_X9_jobRow; rw [hasTask_out hc.1.2.1 q, obs, if_pos rfl, obs, if_pos rfl]
    · show f_X10_job F μ x i w = _
      unfold f_X10_job; rw [isTask_out hm.1.2.1 hT.2 q, obs, if_pos rfl]
  · obtain ⟨p, R, μ1, e1, s1', hp, hu8, hL, r1, hl, hx, hs⟩ := both_jobs hF h hu
    have hl2 := jof_le u R
    by_cases d0 : 0 ≤ i
    · obtain ⟨μ2, e2, s2, r2, M2, t2⟩ := hs μ1 s1'
      have hi : ∃ n, n < 2147483648 ∧ i = nI n := by
        rw [leT, show (0 : Int32).toInt = 0 from rfl] at d0
        have := Int32.toInt_lt i
        exact ⟨i.toInt.toNat, by omega, toN i d0⟩
      obtain ⟨n, hn, rfl⟩ := hi
      obtain ⟨r, er, hr⟩ := rowOf_ok (F := F) (u := u) hF r1 hl (fun x hx' => (hx x hx').1) hu8 hn
      have hm1 : μ1.1 1000 0 2 = nI (tT D) := by rw [(s1' 1000 0 2 (by unfold scr; omega)).1]; exact hm.1.2.1
      unfold OK2 f_X9_job f_X9_jobRow f_X10_job
      dsimp only
      rw [hasTask_in hc.1.2.1 hT.2 hu, obs, if_neg (by decide), if_pos d0, e1, obs, er, obs, obs]
      dsimp only
      rcases hr with ⟨rfl, hq⟩ | ⟨k, y, rfl, hk, hy⟩
      · rw [if_pos rfl]
        refine ⟨-1, μ1, μ2, rfl, ?_, hR.kept (s1'.trans s2)⟩
        rw [isTask_in hm1 hT.2 hu, obs, if_neg (by decide), e2, obs, r2.1, in_out (by omega) (.inr (by rw [leN (by omega) hn]; exact hq)), obs, if_pos rfl]
      · have hk' := ix_lt hk
        have hn' := ix_lt hy
        have hy' := hx y (jof_mem (List.mem_of_getElem? hy)).1
        have c := r1.2 k y hk
        have mm := r2.2 n y hy
        have hgl := M2.1
        have hzn := M2.2.1
        rw [if_neg (nn1 (by omega))]
        refine ⟨if w = 0 then zM (tL D p) y.2.1 else if w = 1 then zM (tL D p) y.2.2.1 else if w = 2 then rsp (tL D p) y else if w = 3 then y.2.2.2.1 else if w = 4 then y.2.2.2.2 else -1, μ1, μ2, ?_, ?_, hR.kept (s1'.trans s2)⟩
        · rw [rsp_c r1 hl hk, ra_in (by omega) (by omega), ra_in (by omega) (by omega), ra_in (by omega) (by omega), ra_in (by omega) (by omega), obs, obs, obs, obs, obs, c.2.2.1, c.2.2.2.1, c.2.2.2.2.1, c.2.2.2.2.2]
          repeat' split
          all_goals rfl
        · rw [isTask_in hm1 hT.2 hu, obs, if_neg (by decide), e2, obs, r2.1, in_in (by omega) hn', obs, if_neg (by decide), rsp_m r2 (by omega) hy M2 t2 hy'.2, ra_in (by omega) (by omega), obs, mm.1, spot_in t2, obs, ra_in (by omega) (by omega), obs, (M2.2.2.2 y.2.1 (by omega)).2.2.2, ra_in (by omega) (by omega), obs, mm.2.1, spot_in t2, obs, ra_in (by omega) (by omega), obs, (M2.2.2.2 y.2.2.1 (by omega)).2.2.2, obs, ra_in (by omega) (by omega), obs, ra_in (by omega) (by omega), obs, mm.2.2.1, mm.2.2.2]
          repeat' split
          all_goals rfl
    · obtain ⟨μ2, e2, s2, r2, M2, t2⟩ := hs μ (SR.rf μ)
      refine ⟨-1, μ, μ2, ?_, ?_, hR.kept s2⟩
      · show f_X9_job F μ (nI u) i w = _
        unfold f_X9_job f_X9_jobRow; rw [hasTask_in hc.1.2.1 hT.2 hu, obs, if_neg (by decide), if_neg d0, obs, if_pos rfl]
      · show f_X10_job F μ (nI u) i w = _
        unfold f_X10_job
        rw [isTask_in hm.1.2.1 hT.2 hu, obs, if_neg (by decide), e2, obs, r2.1, in_out (by omega) (.inl (by rw [leT] at d0; rw [ltT]; omega)), obs, if_pos rfl]
