/-! CALLS: jobs, job, worst, late -/
theorem loop_fold {S X R : Type} (b : Nat → S → Int32 → Option R) (K : S → Option R) (Q : List X) (G : S → X → S) (hb : ∀ (N : Nat) (s : S) (i : Nat) (x : X), Q[i]? = some x → b (N + 1) s (nI i) = b N (G s x) (nI (i + 1))) (he : ∀ N s, b (N + 1) s (nI Q.length) = K s) (F : Nat) (hF : Q.length < F) (s : S) : b F s (nI 0) = K (Q.foldl G s) := by
  obtain ⟨s', e, i⟩ := loop_inv b K Q.length (fun j s' => s' = (Q.take j).foldl G s) (by
    intro N s' j hj h
    have e : Q[j]? = some Q[j] := List.getElem?_eq_getElem hj
    refine ⟨G s' Q[j], hb N s' j _ e, ?_⟩
    rw [List.take_succ, List.foldl_append, e, h]; rfl) (by
    intro N s' _
    exact he N s') F 0 s (by omega) (by omega) rfl
  rw [e, i, List.take_length]
def rsp (L : La) (x : Jb) : Int32 := zM L x.2.2.1 - zM L x.2.1
theorem r_has {μ : Mm} {L : La} {R : List Jb} {i : Nat} (h : CR μ L R) (hl : R.length ≤ 66) (hi : i < R.length) : f_X1_has μ (nI i) = some 1 := by
  unfold f_X1_has
  rw [if_neg (nN0 (by omega)), h.1, if_neg (ngt (by omega) (by omega) hi), if_neg (by rw [show (67 : Int32) = nI 67 from rfl]; exact ngt (by omega) (by omega) (by omega))]
theorem ix_lt {X : Type} {R : List X} {i : Nat} {x : X} (e : R[i]? = some x) : i < R.length := (List.getElem?_eq_some_iff.mp e).1
theorem isOf_in {μ : Mm} {L : La} {R : List Jb} {i u : Nat} {x : Jb} (h : CR μ L R) (hl : R.length ≤ 66) (e : R[i]? = some x) (hx : x.1 < 8) (hu : u < 8) : f_X1_isOf μ (nI i) (nI u) = some (if decide (x.1 = u) = true then 1 else 0) := by
  have hi := ix_lt e
  unfold f_X1_isOf
  rw [r_has h hl hi, obs, if_neg (by decide), ra_in (by omega) (by omega), obs, (h.2 i x e).1]
  by_cases q : x.1 = u
  · rw [if_pos (by rw [q]), if_pos (decide_eq_true q)]
  · rw [if_neg (fun z => q ((eqN (by omega) (by omega)).mp z)), if_neg (by rw [decide_eq_true_iff]; exact q)]
theorem rsp_c {μ : Mm} {L : La} {R : List Jb} {i : Nat} {x : Jb} (h : CR μ L R) (hl : R.length ≤ 66) (e : R[i]? = some x) : f_X1_responseOf μ (nI i) = some (rsp L x) := by
  have hi := ix_lt e
  unfold f_X1_responseOf
  rw [r_has h hl hi, obs, if_neg (by decide), ra_in (by omega) (by omega), obs, ra_in (by omega) (by omega), obs, (h.2 i x e).2.2.1, (h.2 i x e).2.2.2.1]; rfl
theorem rsp_m {μ : Mm} {L : La} {R : List Jb} {i g : Nat} {x : Jb} (h : MR μ R) (hl : R.length ≤ 66) (e : R[i]? = some x) (hM : ML μ g L) (ht : μ.1 1000 0 33 = nI g) (hx : x.2.1 < x.2.2.1 ∧ x.2.2.1 < zn L) : f_X10_response μ (nI i) = some (rsp L x) := by
  have hi := ix_lt e
  have hgl := hM.1
  have hn := hM.2.1
  unfold f_X10_response
  rw [ra_in (by omega) (by omega), obs, (h.2 i x e).2.1, spot_in ht, obs, ra_in (by omega) (by omega), obs, ra_in (by omega) (by omega), obs, (h.2 i x e).1, spot_in ht, obs, ra_in (by omega) (by omega), obs, (hM.2.2.2 _ hx.2).2.2.2, (hM.2.2.2 x.2.1 (by omega)).2.2.2]; rfl
/-- what both hold once the jobs are sought -/
theorem both_jobs {F u : Nat} {μ : Mm} {D : Tr} {C : Nat → Tr} (hF : 1000 ≤ F) (h : Rl μ D C) (hu : u < tT D) : ∃ (p : Nat) (R : List Jb) (μ1 : Mm), f_X9_gatherJobs F μ (nI u) = some μ1 ∧ SR μ μ1 ∧ p < 3 ∧ u < 8 ∧ LV (hmD D p) (tL D p) ∧ CR μ1 (tL D p) R ∧ R.length ≤ 66 ∧ (∀ x, x ∈ R → x.1 < 8 ∧ x.2.1 < x.2.2.1 ∧ x.2.2.1 < zn (tL D p)) ∧ ∀ m, SR μ m → ∃ μ2, f_X10_seeks F m (nI u) = some μ2 ∧ SR m μ2 ∧ MR μ2 (jof u R) ∧ ML μ2 p (tL D p) ∧ μ2.1 1000 0 33 = nI p := by
  obtain ⟨p, hp, hp3, hu8, hh, c1, m1, hmt⟩ := h.task hu
  obtain ⟨hL, cL, -, -⟩ := h.lane hp3
  obtain ⟨μ1, e1, s1', r1⟩ := gather_ok (F := F) hF cL hL
  have jv := JV_all hL (zn (tL D p)) (by omega)
  have hn := hL.1
  refine ⟨p, _, μ1, ?_, s1', hp3, hu8, hL, r1, by have := jv.2.2.1; omega, fun x hx => ?_, fun m sm' => ?_⟩
  · unfold f_X9_gatherJobs
    rw [homeLane_in hu8 c1 hp3, obs, show 3 * 0 + p = p by omega, e1, obs]
  · have := jv.2.1 x hx; exact ⟨this.1, this.2.2.1, this.2.2.2⟩
  · have hm' : m.1 1005 0 u = nI p := by rw [(sm' 1005 0 u (by unfold scr; omega)).1]; exact m1
    exact seeks_ok hF (h.kept sm') hu hp3 hm'
theorem jof_mem {u : Nat} {R : List Jb} {x : Jb} (h : x ∈ jof u R) : x ∈ R ∧ x.1 = u := by
  unfold jof at h; rw [List.mem_filter, decide_eq_true_iff] at h; exact h
theorem jof_len (u : Nat) : ∀ (R : List Jb) (n : Nat), R.foldl (fun (a : Int32) (x : Jb) => if decide (x.1 = u) = true then a + 1 else a) (nI n) = nI (n + (jof u R).length)
  | [], n => rfl
  | x :: R, n => by
    rw [List.foldl_cons]
    unfold jof
    by_cases q : decide (x.1 = u) = true
    · rw [if_pos q, s1, jof_len u R, List.filter_cons_of_pos (p := fun x : Jb => decide (x.1 = u)) q, List.length_cons]
      unfold jof; rw [show n + 1 + (List.filter (fun x => decide (x.fst = u)) R).length = n + ((List.filter (fun x => decide (x.fst = u)) R).length + 1) by omega]
    · rw [if_neg q, jof_len u R, List.filter_cons_of_neg (p := fun x : Jb => decide (x.1 = u)) q]; rfl
theorem many_ok {F u : Nat} {μ : Mm} {L : La} {R : List Jb} (hF : 1000 ≤ F) (h : CR μ L R) (hl : R.length ≤ 66) (hx : ∀ x, x ∈ R → x.1 < 8) (hu : u < 8) : f_X1_manyOf F μ (nI u) = some (nI (jof u R).length) := by
  unfold f_X1_manyOf
  have := loop_fold (fun N a x => f_X1_manyOf_b4 F μ N (nI u) a x) some R (fun (a : Int32) (x : Jb) => if decide (x.1 = u) = true then a + 1 else a) (by
    intro N a i x e
    have hi := ix_lt e
    show f_X1_manyOf_b4 F μ (N + 1) (nI u) a (nI i) = _
    rw [f_X1_manyOf_b4, h.1, if_neg (ngt (by omega) (by omega) hi), isOf_in h hl e (hx x (List.mem_of_getElem? e)) hu, obs, s1]
    by_cases q : decide (x.1 = u) = true
    · rw [if_pos q, if_neg (by decide), if_pos q]
    · rw [if_neg q, if_pos rfl, if_neg q, add0]) (by
    intro N a
    show f_X1_manyOf_b4 F μ (N + 1) (nI u) a (nI R.length) = _
    rw [f_X1_manyOf_b4, h.1, if_pos (nle (by omega) (by omega) (by omega))]) F (by omega) 0
  have e2 := jof_len u R 0
  rw [Nat.zero_add] at e2
  rw [show (0 : Int32) = nI 0 from rfl] at this ⊢
  rw [e2] at this
  exact this
theorem op_jobs {F : Nat} {μ : Mm} (hF : 1000 ≤ F) (h : Rel μ) (x : Int32) : OK2 (fun μ => f_X9_jobs F μ x) (fun μ => f_X10_jobs F μ x) μ := by
  obtain ⟨D, C, h⟩ := id h
  have hR : Rel μ := ⟨D, C, h⟩
  obtain ⟨hv, hc, hm, -⟩ := id h
  have hT := hv.2.1
  rcases ix2 x (n := tT D) (by omega) with q | ⟨u, hu, rfl⟩
  · refine OK2.both hR (r := -1) ?_ ?_
    · show f_X9_jobs F μ x = _
      unfold f_X9_jobs; rw [hasTask_out hc.1.2.1 q, obs, if_pos rfl]
    · show f_X10_jobs F μ x = _
      unfold f_X10_jobs; rw [isTask_out hm.1.2.1 hT.2 q, obs, if_pos rfl]
  · obtain ⟨p, R, μ1, e1, s1', hp, hu8, hL, r1, hl, hx, hs⟩ := both_jobs hF h hu
    obtain ⟨μ2, e2, s2, r2, -, -⟩ := hs μ1 s1'
    refine ⟨nI (jof u R).length, μ1, μ2, ?_, ?_, hR.kept (s1'.trans s2)⟩
    · show f_X9_jobs F μ (nI u) = _
      unfold f_X9_jobs
      rw [hasTask_in hc.1.2.1 hT.2 hu, obs, if_neg (by decide), e1, obs, many_ok hF r1 hl (fun x hx' => (hx x hx').1) hu8, obs]
    · show f_X10_jobs F μ1 (nI u) = _
      have hm1 : μ1.1 1000 0 2 = nI (tT D) := by rw [(s1' 1000 0 2 (by unfold scr; omega)).1]; exact hm.1.2.1
      unfold f_X10_jobs
      rw [isTask_in hm1 hT.2 hu, obs, if_neg (by decide), e2, obs, r2.1]

/-! late -/
theorem op_late {F : Nat} {μ : Mm} (hF : 1000 ≤ F) (h : Rel μ) (x d : Int32) : OK2 (fun μ => f_X9_late F μ x d) (fun μ => f_X10_late F μ x d) μ := by
  obtain ⟨D, C, h⟩ := id h
  have hR : Rel μ := ⟨D, C, h⟩
  obtain ⟨hv, hc, hm, -⟩ := id h
  have hT := hv.2.1
  rcases ix2 x (n := tT D) (by omega) with q | ⟨u, hu, rfl⟩
  · refine OK2.both hR (r := -1) ?_ ?_
    · show f_X9_late F μ x d = _
      unfold f_X9_late; rw [hasTask_out hc.1.2.1 q, obs, if_pos rfl]
    · show f_X10_late F μ x d = _
      unfold f_X10_late; rw [isTask_out hm.1.2.1 hT.2 q, obs, if_pos rfl]
  · by_cases d0 : 0 ≤ d
    · obtain ⟨p, R, μ1, e1, s1', hp, hu8, hL, r1, hl, hx, hs⟩ := both_jobs hF h hu
      obtain ⟨μ2, e2, s2, r2, M2, t2⟩ := hs μ1 s1'
      have l1 := loop_fold (fun N a x => f_X9_late_b27 F N μ1 (nI u) d a x) (fun a => some (a, μ1)) R (fun (a : Int32) (x : Jb) => if decide (x.1 = u) = true then (if rsp (tL D p) x ≤ d then a else a + 1) else a) (by
        intro N a i x e
        have hi := ix_lt e
        show f_X9_late_b27 F (N + 1) μ1 (nI u) d a (nI i) = _
        rw [f_X9_late_b27, r1.1, if_neg (ngt (by omega) (by omega) hi), isOf_in r1 hl e (hx x (List.mem_of_getElem? e)).1 hu8, obs, s1, rsp_c r1 hl e, obs]
        by_cases q : decide (x.1 = u) = true
        · rw [if_pos q, if_neg (by decide), if_pos q]; split <;> rfl
        · rw [if_neg q, if_pos rfl, if_neg q]) (by
        intro N a
        show f_X9_late_b27 F (N + 1) μ1 (nI u) d a (nI R.length) = _
        rw [f_X9_late_b27, r1.1, if_pos (nle (by omega) (by omega) (by omega))]) F (by omega) 0
      have hl2 := jof_le u R
      have l2 := loop_fold (fun N a x => f_X10_late_b24 F N μ2 d a x) (fun a => some (a, μ2)) (jof u R) (fun (a : Int32) (x : Jb) => if rsp (tL D p) x ≤ d then a else a + 1) (by
        intro N a i x e
        have hi := ix_lt e
        have hx' := hx x (jof_mem (List.mem_of_getElem? e)).1
        show f_X10_late_b24 F (N + 1) μ2 d a (nI i) = _
        rw [f_X10_late_b24, r2.1, if_neg (ngt (by omega) (by omega) hi), rsp_m r2 (by omega) e M2 t2 hx'.2, obs, s1, add0]
        split <;> rfl) (by
        intro N a
        show f_X10_late_b24 F (N + 1) μ2 d a (nI (jof u R).length) = _
        rw [f_X10_late_b24, r2.1, if_pos (nle (by omega) (by omega) (by omega))]) F (by omega) 0
      have e3 : (jof u R).foldl (fun (a : Int32) (x : Jb) => if rsp (tL D p) x ≤ d then a else a + 1) 0 = R.foldl (fun (a : Int32) (x : Jb) => if decide (x.1 = u) = true then (if rsp (tL D p) x ≤ d then a else a + 1) else a) 0 := by
        unfold jof; exact List.foldl_filter
      rw [e3] at l2
      refine ⟨R.foldl (fun (a : Int32) (x : Jb) => if decide (x.1 = u) = true then (if rsp (tL D p) x ≤ d then a else a + 1) else a) 0, μ1, μ2, ?_, ?_, hR.kept (s1'.trans s2)⟩
      · show f_X9_late F μ (nI u) d = _
        unfold f_X9_late
        rw [hasTask_in hc.1.2.1 hT.2 hu, obs, if_neg (by decide), if_pos d0, e1, obs]
        exact l1
      · show f_X10_late F μ1 (nI u) d = _
        have hm1 : μ1.1 1000 0 2 = nI (tT D) := by rw [(s1' 1000 0 2 (by unfold scr; omega)).1]; exact hm.1.2.1
        unfold f_X10_late
        rw [isTask_in hm1 hT.2 hu, obs, if_neg (by decide), if_pos d0, e2, obs]
        exact l2
    · refine OK2.both hR (r := -1) ?_ ?_
      · show f_X9_late F μ (nI u) d = _
        unfold f_X9_late; rw [hasTask_in hc.1.2.1 hT.2 hu, obs, if_neg (by decide), if_neg d0]
      · show f_X10_late F μ (nI u) d = _
        unfold f_X10_late; rw [isTask_in hm.1.2.1 hT.2 hu, obs, if_neg (by decide), if_neg d0]
/-! worst -/
theorem zm_mono {hm : Nat → Bool} {L : La} (h : LV hm L) (i : Nat) : ∀ k, i + k < zn L → zm L i ≤ zm L (i + k)
  | 0, _ => Nat.le_refl _
  | k + 1, hk => Nat.le_trans (zm_mono h i k (by omega)) (h.2.2.2.2.2.2 (i + k) hk)
theorem rsp_pos {hm : Nat → Bool} {L : La} (h : LV hm L) {x : Jb} (hx : x.2.1 < x.2.2.1 ∧ x.2.2.1 < zn L) : ∃ n, n < 100000000 ∧ rsp L x = nI n := by
  have hn := h.1
  have a := h.2.2.2.2.2.1 x.2.1 (by omega)
  have b := h.2.2.2.2.2.1 x.2.2.1 hx.2
  have c := zm_mono h x.2.1 (x.2.2.1 - x.2.1) (by omega)
  rw [show x.2.1 + (x.2.2.1 - x.2.1) = x.2.2.1 by omega] at c
  refine ⟨zm L x.2.2.1 - zm L x.2.1, by omega, ?_⟩
  unfold rsp
  rw [a.1, b.1]
  have : nI (zm L x.2.2.1) = nI (zm L x.2.2.1 - zm L x.2.1) + nI (zm L x.2.1) := by rw [nI_add]; congr 1; omega
  rw [this]; grind
def wG (L : La) (s : Int32 × Int32 × Int32) (x : Jb) : Int32 × Int32 × Int32 := if rsp L x ≤ s.2.1 then (s.1, s.2.1, s.2.2 + 1) else (s.2.2, rsp L x, s.2.2 + 1)
theorem op_worst {F : Nat} {μ : Mm} (hF : 1000 ≤ F) (h : Rel μ) (x : Int32) : OK2 (fun μ => f_X9_worst F μ x) (fun μ => f_X10_worst F μ x) μ := by
  obtain ⟨D, C, h⟩ := id h
  have hR : Rel μ := ⟨D, C, h⟩
  obtain ⟨hv, hc, hm, -⟩ := id h
  have hT := hv.2.1
  rcases ix2 x (n := tT D) (by omega) with q | ⟨u, hu, rfl⟩
  · refine OK2.both hR (r := -1) ?_ ?_
    · show f_X9_worst F μ x = _
      unfold f_X9_worst; rw [hasTask_out hc.1.2.1 q, obs, if_pos rfl]
    · show f_X10_worst F μ x = _
      unfold f_X10_worst; rw [isTask_out hm.1.2.1 hT.2 q, obs, if_pos rfl]
  · obtain ⟨p, R, μ1, e1, s1', hp, hu8, hL, r1, hl, hx, hs⟩ := both_jobs hF h hu
    obtain ⟨μ2, e2, s2, r2, M2, t2⟩ := hs μ1 s1'
    have l1 := loop_fold (fun N (s : Int32 × Int32 × Int32) x => f_X9_worst_b28 F N μ1 (nI u) s.1 s.2.1 s.2.2 x) (fun s => some (s.1, μ1)) R (fun (s : Int32 × Int32 × Int32) (x : Jb) => if decide (x.1 = u) = true then wG (tL D p) s x else s) (by
      intro N s i x e
      have hi := ix_lt e
      show f_X9_worst_b28 F (N + 1) μ1 (nI u) s.1 s.2.1 s.2.2 (nI i) = _
      rw [f_X9_worst_b28, r1.1, if_neg (ngt (by omega) (by omega) hi), isOf_in r1 hl e (hx x (List.mem_of_getElem? e)).1 hu8, obs, s1, rsp_c r1 hl e, obs, obs]
      by_cases q : decide (x.1 = u) = true
      · rw [if_pos q, if_neg (by decide), if_pos q]; unfold wG; split <;> rfl
      · rw [if_neg q, if_pos rfl, if_neg q]) (by
      intro N s
      show f_X9_worst_b28 F (N + 1) μ1 (nI u) s.1 s.2.1 s.2.2 (nI R.length) = _
      rw [f_X9_worst_b28, r1.1, if_pos (nle (by omega) (by omega) (by omega))]) F (by omega) (-1, -1, 0)
    have hl2 := jof_le u R
    have e3 : (jof u R).foldl (wG (tL D p)) (-1, -1, 0) = R.foldl (fun (s : Int32 × Int32 × Int32) (x : Jb) => if decide (x.1 = u) = true then wG (tL D p) s x else s) (-1, -1, 0) := by
      unfold jof; exact List.foldl_filter
    rw [← e3] at l1
    obtain ⟨a2, l2, i1, -⟩ := loop_inv (fun N a x => f_X10_worst_b19 F N μ2 a x) (fun a => some (a, μ2)) (jof u R).length (fun j a => a = (((jof u R).take j).foldl (wG (tL D p)) (-1, -1, 0)).1 ∧ (((jof u R).take j).foldl (wG (tL D p)) (-1, -1, 0)).2.2 = nI j ∧ ((j = 0 ∧ a = -1 ∧ (((jof u R).take j).foldl (wG (tL D p)) (-1, -1, 0)).2.1 = -1) ∨ ∃ k y, k < j ∧ a = nI k ∧ (jof u R)[k]? = some y ∧ (((jof u R).take j).foldl (wG (tL D p)) (-1, -1, 0)).2.1 = rsp (tL D p) y)) (by
      intro N a j hj ⟨i1, i2, i3⟩
      have e : (jof u R)[j]? = some (jof u R)[j] := List.getElem?_eq_getElem hj
      generalize (jof u R)[j] = x at e
      have hx' := hx x (jof_mem (List.mem_of_getElem? e)).1
      show ∃ s', f_X10_worst_b19 F (N + 1) μ2 a (nI j) = f_X10_worst_b19 F N μ2 s' (nI (j + 1)) ∧ _
      rw [f_X10_worst_b19, r2.1, if_neg (ngt (by omega) (by omega) hj), s1]
      have et : (jof u R).take (j + 1) = (jof u R).take j ++ [x] := by rw [List.take_succ, e]; rfl
      rw [et, List.foldl_append]
      generalize ((jof u R).take j).foldl (wG (tL D p)) (-1, -1, 0) = w at i1 i2 i3 ⊢
      show ∃ s', _ = _ ∧ s' = (wG (tL D p) w x).1 ∧ (wG (tL D p) w x).2.2 = _ ∧ _
      have n3 : (wG (tL D p) w x).2.2 = nI (j + 1) := by unfold wG; split <;> (show w.2.2 + 1 = _; rw [i2, s1])
      rcases i3 with ⟨rfl, ha, hg⟩ | ⟨k, y, hk, ha, hy, hg⟩
      · rw [if_pos ha]
        obtain ⟨n, n1, n2⟩ := rsp_pos hL hx'.2
        have q : ¬ rsp (tL D p) x ≤ -1 := by
          rw [n2, leT, nIT (by omega), show (-1 : Int32).toInt = -1 from by decide]; omega
        unfold wG at n3 ⊢
        rw [hg, if_neg q] at n3 ⊢
        exact ⟨_, rfl, i2.symm, n3, .inr ⟨0, x, by omega, rfl, e, by show (wG (tL D p) w x).2.1 = _; unfold wG; rw [hg, if_neg q]⟩⟩
      · have hy' := hx y (jof_mem (List.mem_of_getElem? hy)).1
        rw [ha, if_neg (nn1 (by omega)), rsp_m r2 (by omega) e M2 t2 hx'.2, obs, rsp_m r2 (by omega) hy M2 t2 hy'.2, obs]
        unfold wG at n3 ⊢
        rw [hg] at n3 ⊢
        by_cases q : rsp (tL D p) x ≤ rsp (tL D p) y
        · rw [if_pos q] at n3 ⊢; rw [if_pos q]
          exact ⟨_, rfl, by rw [← i1, ha], n3, .inr ⟨k, y, by omega, rfl, hy, by show (wG (tL D p) w x).2.1 = _; unfold wG; rw [hg, if_pos q]⟩⟩
        · rw [if_neg q] at n3 ⊢; rw [if_neg q]
          exact ⟨_, rfl, i2.symm, n3, .inr ⟨j, x, by omega, rfl, e, by show (wG (tL D p) w x).2.1 = _; unfold wG; rw [hg, if_neg q]⟩⟩) (by
      intro N a _
      show f_X10_worst_b19 F (N + 1) μ2 a (nI (jof u R).length) = _
      rw [f_X10_worst_b19, r2.1, if_pos (nle (by omega) (by omega) (by omega))]) F 0 (-1) (by omega) (by omega) ⟨rfl, rfl, .inl ⟨rfl, rfl, rfl⟩⟩
    rw [List.take_length] at i1
    refine ⟨a2, μ1, μ2, ?_, ?_, hR.kept (s1'.trans s2)⟩
    · show f_X9_worst F μ (nI u) = _
      unfold f_X9_worst
      rw [hasTask_in hc.1.2.1 hT.2 hu, obs, if_neg (by decide), e1, obs, i1]
      exact l1
    · show f_X10_worst F μ1 (nI u) = _
      have hm1 : μ1.1 1000 0 2 = nI (tT D) := by rw [(s1' 1000 0 2 (by unfold scr; omega)).1]; exact hm.1.2.1
      unfold f_X10_worst
      rw [isTask_in hm1 hT.2 hu, obs, if_neg (by decide), e2, obs]
      exact l2
