/-! THE CLASS's lanes and its walk over one -/
def CL (μ : Mm) (i : Nat) (L : La) : Prop := zn L ≤ 200 ∧ μ.1 200 i 5 = nI (zn L) ∧ ∀ j, j < zn L → μ.1 201 i j = zK L j ∧ μ.1 202 i j = zT L j ∧ μ.1 203 i j = zX L j ∧ μ.1 204 i j = zM L j
theorem has_in {μ : Mm} {i j : Nat} {L : La} (h : CL μ i L) (hj : j < 1000000) : f_X2_has μ i (nI j) = some (if j < zn L then 1 else 0) := by
  obtain ⟨h1, h2, -⟩ := h
  unfold f_X2_has
  rw [if_neg (nN0 (by omega)), h2]
  by_cases q : j < zn L
  · rw [if_neg (by rw [leN (by omega) (by omega)]; omega), if_neg (by rw [show (200 : Int32) = nI 200 from rfl, leN (by omega) (by omega)]; omega), if_pos q]
  · rw [if_pos (by rw [leN (by omega) (by omega)]; omega), if_neg q]
theorem kindOf_in {μ : Mm} {i j : Nat} {L : La} (h : CL μ i L) (hj : j < zn L) : f_X2_kindOf μ i (nI j) = some (zK L j) := by
  have := h.1
  unfold f_X2_kindOf
  rw [has_in h (by omega), obs, if_pos hj, if_neg (by decide), ra_in (by omega) (by omega), obs, (h.2.2 j hj).1]
theorem taskOf_in {μ : Mm} {i j : Nat} {L : La} (h : CL μ i L) (hj : j < zn L) : f_X2_taskOf μ i (nI j) = some (zT L j) := by
  have := h.1
  unfold f_X2_taskOf
  rw [has_in h (by omega), obs, if_pos hj, if_neg (by decide), ra_in (by omega) (by omega), obs, (h.2.2 j hj).2.1]
theorem numberOf_in {μ : Mm} {i j : Nat} {L : La} (h : CL μ i L) (hj : j < zn L) : f_X2_numberOf μ i (nI j) = some (zX L j) := by
  have := h.1
  unfold f_X2_numberOf
  rw [has_in h (by omega), obs, if_pos hj, if_neg (by decide), ra_in (by omega) (by omega), obs, (h.2.2 j hj).2.2.1]
theorem timeOf_in {μ : Mm} {i j : Nat} {L : La} (h : CL μ i L) (hj : j < zn L) : f_X2_timeOf μ i (nI j) = some (zM L j) := by
  have := h.1
  unfold f_X2_timeOf
  rw [has_in h (by omega), obs, if_pos hj, if_neg (by decide), ra_in (by omega) (by omega), obs, (h.2.2 j hj).2.2.2]
theorem kindOf_out {μ : Mm} {i j : Nat} {L : La} (h : CL μ i L) (hj : zn L ≤ j) (hb : j < 1000000) : f_X2_kindOf μ i (nI j) = some (-1) := by
  unfold f_X2_kindOf
  rw [has_in h hb, obs, if_neg (show ¬ j < zn L by omega), if_pos rfl]
theorem taskOf_out {μ : Mm} {i j : Nat} {L : La} (h : CL μ i L) (hj : zn L ≤ j) (hb : j < 1000000) : f_X2_taskOf μ i (nI j) = some (-1) := by
  unfold f_X2_taskOf
  rw [has_in h hb, obs, if_neg (show ¬ j < zn L by omega), if_pos rfl]
theorem timeOf_out {μ : Mm} {i j : Nat} {L : La} (h : CL μ i L) (hj : zn L ≤ j) (hb : j < 1000000) : f_X2_timeOf μ i (nI j) = some 0 := by
  unfold f_X2_timeOf
  rw [has_in h hb, obs, if_neg (show ¬ j < zn L by omega), if_pos rfl]
/-- all but the walk's own cells is the same -/
def wc (k i : Nat) : Prop := (400 ≤ k ∧ k ≤ 403 ∧ i = 21) ∨ k = 800
def SW (μ μ' : Mm) : Prop := ∀ k i j, ¬ wc k i → sm μ μ' k i j
theorem SW.rf (μ : Mm) : SW μ μ := fun _ _ _ _ => ⟨rfl, rfl⟩
theorem SW.trans {a b c : Mm} (h : SW a b) (h2 : SW b c) : SW a c := fun k i j q => (h k i j q).trans (h2 k i j q)
theorem CL.kept {μ μ' : Mm} {i : Nat} {L : La} (h : CL μ i L) (q : ∀ k j, 200 ≤ k → k ≤ 204 → μ'.1 k i j = μ.1 k i j) : CL μ' i L := by
  obtain ⟨h1, h2, h3⟩ := h
  refine ⟨h1, by rw [q _ _ (by omega) (by omega)]; exact h2, fun j hj => ?_⟩
  rw [q _ _ (by omega) (by omega), q _ _ (by omega) (by omega), q _ _ (by omega) (by omega), q _ _ (by omega) (by omega)]
  exact h3 j hj
theorem CL.sw {μ μ' : Mm} {i : Nat} {L : La} (h : CL μ i L) (s : SW μ μ') : CL μ' i L := h.kept (fun k j a b => (s k i j (by unfold wc; omega)).1)
theorem SW_start {μ z : Mm} (e : f_X8_start μ = some z) : SW μ z := fun k i j h => by unfold wc at h; exact (fr_X8_start (by omega) (by omega) (by omega) (by omega) (by omega) (by omega) e)
theorem SW_step {μ z : Mm} {n : Nat} {p : Int32} (e : f_X8_step μ n p = some z) : SW μ z := fun k i j h => by unfold wc at h; exact (fr_X8_step (by omega) (by omega) (by omega) (by omega) (by omega) (by omega) (by omega) e)
/-- the stretch behind mark j: dark, its length -/
def dk (hm : Nat → Bool) (L : La) (j : Nat) : Bool := decide ((j + 1 < zn L ∧ zK L (j + 1) = 8) ∨ cu (sq hm L (j + 1)) = -2)
def ln (L : La) (j : Nat) : Int32 := if j + 1 < zn L then zM L (j + 1) - zM L j else 0
def b2 (b : Bool) : Int32 := if b then 1 else 0
/-- the walk stands behind mark j -/
def WK (μ : Mm) (hm : Nat → Bool) (L : La) (j : Nat) : Prop := RC μ 21 (sq hm L (j + 1)) hm ∧ μ.1 800 0 1 = ln L j ∧ μ.1 800 0 2 = b2 (dk hm L j)
theorem start_ok (μ : Mm) (hm : Nat → Bool) : ∃ μ', f_X8_start μ = some μ' ∧ SW μ μ' ∧ RC μ' 21 ms0 hm := by
  have key : ∃ μ', f_X8_start μ = some μ' ∧ RC μ' 21 ms0 hm := by
    obtain ⟨m, e, r⟩ := reset_ok μ 21 hm
    unfold f_X8_start
    rw [e, obs, wf_eq, obs, wf_eq, obs]
    refine ⟨_, rfl, ?_⟩
    have q : ∀ k j, ¬ k = 800 → (wi (wi m 800 0 1 0) 800 0 2 0).1 k 21 j = m.1 k 21 j := fun k j h => by rw [wi_at, if_neg (by omega), wi_at, if_neg (by omega)]
    obtain ⟨⟨r1, r2, r3, r4, r5⟩, r6⟩ := r
    exact ⟨⟨fun u a b => by rw [q _ _ (by omega)]; exact r1 u a b, fun u a b => by rw [q _ _ (by omega)]; exact r2 u a b, fun l a => by rw [q _ _ (by omega)]; exact r3 l a, by rw [q _ _ (by omega)]; exact r4, by rw [q _ _ (by omega)]; exact r5⟩, fun u a b c => by rw [q _ _ (by omega)]; exact r6 u a b c⟩
  obtain ⟨m, e, r⟩ := key
  exact ⟨m, e, SW_start e, r⟩
theorem RC.wi8 {μ : Mm} {s : Ms} {hm : Nat → Bool} (r : RC μ 21 s hm) (j : Nat) (v : Int32) : RC (wi μ 800 0 j v) 21 s hm := by
  have q : ∀ k j', ¬ k = 800 → (wi μ 800 0 j v).1 k 21 j' = μ.1 k 21 j' := fun k j h => by rw [wi_at, if_neg (by omega)]
  obtain ⟨⟨r1, r2, r3, r4, r5⟩, r6⟩ := r
  exact ⟨⟨fun u a b => by rw [q _ _ (by omega)]; exact r1 u a b, fun u a b => by rw [q _ _ (by omega)]; exact r2 u a b, fun l a => by rw [q _ _ (by omega)]; exact r3 l a, by rw [q _ _ (by omega)]; exact r4, by rw [q _ _ (by omega)]; exact r5⟩, fun u a b c => by rw [q _ _ (by omega)]; exact r6 u a b c⟩
theorem cq_dark {hm : Nat → Bool} {s : Ms} (h : Si hm s) : cq (cu s) = -3 ↔ cu s = -2 := by
  rcases h.1 with q | q | ⟨u, a, -, b⟩
  · rw [q]; decide
  · rw [q]; decide
  · rw [b, cq_in a]; exact ⟨fun h => absurd h (nIneg a).2.2.1, fun h => absurd h (nIneg a).2.1⟩
theorem step_b50 {μ : Mm} {i j : Nat} {hm : Nat → Bool} {L : La} (hL : CL μ i L) (hj : j < zn L) (hg : WG hm L) (r : RC μ 21 (sq hm L (j + 1)) hm) : ∃ μ', f_X8_step_b50 μ i (nI j) (ln L j) = some μ' ∧ WK μ' hm L j := by
  have hn := hL.1
  unfold f_X8_step_b50
  rw [wf_eq, obs, s1]
  have hL1 : CL (wi μ 800 0 1 (ln L j)) i L := hL.kept (fun k j a b => by rw [wi_at, if_neg (by omega)])
  have r1 := r.wi8 1 (ln L j)
  have hd := cq_dark (Si_sq hg (j + 1) (by omega))
  have fin : ∀ d : Int32, d = b2 (dk hm L j) → WK (wi (wi μ 800 0 1 (ln L j)) 800 0 2 d) hm L j := fun d hd => ⟨r1.wi8 2 d, by rw [wi_at, if_neg (by omega), wi_at, if_pos ⟨rfl, rfl, rfl⟩], by rw [wi_at, if_pos ⟨rfl, rfl, rfl⟩]; exact hd⟩
  by_cases q : j + 1 < zn L
  · rw [kindOf_in hL1 q, obs]
    by_cases q8 : zK L (j + 1) = 8
    · rw [if_pos q8, wf_eq, obs]
      exact ⟨_, rfl, fin _ (by unfold b2 dk; rw [if_pos (decide_eq_true (Or.inl ⟨q, q8⟩))])⟩
    · rw [if_neg q8, r1.1.2.2.2.1]
      by_cases q3 : cu (sq hm L (j + 1)) = -2
      · rw [if_pos (hd.mpr q3), wf_eq, obs]
        exact ⟨_, rfl, fin _ (by unfold b2 dk; rw [if_pos (decide_eq_true (Or.inr q3))])⟩
      · rw [if_neg (fun z => q3 (hd.mp z)), wf_eq, obs]
        exact ⟨_, rfl, fin _ (by unfold b2 dk; rw [if_neg (by rw [decide_eq_true_iff]; exact fun z => z.elim (fun z => q8 z.2) q3)])⟩
  · rw [kindOf_out hL1 (by omega) (by omega), obs, if_neg (by decide), r1.1.2.2.2.1]
    by_cases q3 : cu (sq hm L (j + 1)) = -2
    · rw [if_pos (hd.mpr q3), wf_eq, obs]
      exact ⟨_, rfl, fin _ (by unfold b2 dk; rw [if_pos (decide_eq_true (Or.inr q3))])⟩
    · rw [if_neg (fun z => q3 (hd.mp z)), wf_eq, obs]
      exact ⟨_, rfl, fin _ (by unfold b2 dk; rw [if_neg (by rw [decide_eq_true_iff]; exact fun z => z.elim (fun z => q z.1) q3)])⟩
theorem SC_apply {μ z : Mm} {k t x : Int32} (e : f_X4_apply μ 21 k t x = some z) : SW μ z := fun k i j h => by unfold wc at h; exact (fr_X4_apply (by omega) (by omega) (by omega) (by omega) (by omega) e)
theorem step_ok {μ : Mm} {i j : Nat} {hm : Nat → Bool} {L : La} (hL : CL μ i L) (hj : j < zn L) (hg : WG hm L) (r : RC μ 21 (sq hm L j) hm) : ∃ μ', f_X8_step μ i (nI j) = some μ' ∧ SW μ μ' ∧ WK μ' hm L j := by
  have key : ∃ μ', f_X8_step μ i (nI j) = some μ' ∧ WK μ' hm L j := by
    have hn := hL.1
    unfold f_X8_step
    rw [kindOf_in hL hj, obs, taskOf_in hL hj, obs, numberOf_in hL hj, obs]
    obtain ⟨m, e, r1⟩ := apply_ok r (Si_sq hg j (by omega)) (hg j hj)
    have hL1 := hL.sw (SC_apply e)
    rw [e, obs, s1, has_in hL1 (by omega), obs]
    by_cases q : j + 1 < zn L
    · rw [if_pos q, if_neg (by decide), timeOf_in hL1 q, obs, timeOf_in hL1 hj, obs]
      have := step_b50 hL1 hj hg r1
      unfold ln at this
      rwa [if_pos q] at this
    · rw [if_neg q, if_pos rfl]
      have := step_b50 hL1 hj hg r1
      unfold ln at this
      rwa [if_neg q] at this
  obtain ⟨m, e, r⟩ := key
  exact ⟨m, e, SW_step e, r⟩
/-! what is asked of a moment -/
def ca (s : Ms) (d : Bool) (u : Nat) : Int32 := if d = true then 4 else if hw s u = 2 then (if nn s = 0 then 2 else 1) else hw s u
def dg (s : Ms) (d : Bool) : Int32 := if d = true then 3 else if nn s = 0 then (if cu s < 0 then 0 else 2) else 1
def wby (s : Ms) (rk : Nat → Int32) (u : Nat) : Int32 := if nn s = 0 then (if 0 ≤ cu s then (if rk (cu s).toNatClampNeg ≤ rk u then (if rk (cu s).toNatClampNeg = rk u then 2 else 3) else 1) else 4) else 0
def hby (s : Ms) (rk : Nat → Int32) (u : Nat) : Int32 :=
  if nn s = 0 then (if hd s (wn s u).toNatClampNeg = -1 then 6 else if hd s (wn s u).toNatClampNeg = cu s then 1 else if hw s (hd s (wn s u).toNatClampNeg).toNatClampNeg = 3 then 2 else if 0 ≤ cu s then (if rk (cu s).toNatClampNeg < rk u then 4 else 3) else 5) else 0
def cgo (s : Ms) : Nat → Nat → Int32 → Nat
  | 0, n, _ => n
  | m + 1, n, h => if h = -1 then n else if hw s h.toNatClampNeg = 3 then cgo s m (n + 1) (hd s (wn s h.toNatClampNeg).toNatClampNeg) else n
/-- at most eight steps: behind them it is 9 -/
def chn (s : Ms) (u : Nat) : Nat := cgo s 8 1 (hd s (wn s u).toNatClampNeg)
theorem b2_0 (b : Bool) : b2 b = 0 ↔ ¬ b = true := by cases b <;> decide
theorem countsAs_c {μ : Mm} {hm : Nat → Bool} {L : La} {j u : Nat} (h : WK μ hm L j) (hu : u < 8) (hh : hm u = true) : f_X8_countsAs μ (nI u) = some (ca (sq hm L (j + 1)) (dk hm L j) u) := by
  obtain ⟨⟨⟨r1, r2, r3, r4, r5⟩, r6⟩, l1, l2⟩ := h
  unfold f_X8_countsAs ca
  rw [l2]
  by_cases d : dk hm L j = true
  · rw [if_neg (by rw [b2_0]; exact fun z => z d), if_pos d]
  · rw [if_pos (by rw [b2_0]; exact d), if_neg d, stateOf_in hu, obs, r1 u hu hh, r5]
    by_cases q : hw (sq hm L (j + 1)) u = 2
    · rw [if_pos q, if_pos q, q]; split <;> rfl
    · rw [if_neg q, if_neg q]
theorem doing_c {μ : Mm} {hm : Nat → Bool} {L : La} {j : Nat} (h : WK μ hm L j) (hs : Si hm (sq hm L (j + 1))) : f_X8_doing μ = some (dg (sq hm L (j + 1)) (dk hm L j)) := by
  obtain ⟨⟨⟨r1, r2, r3, r4, r5⟩, r6⟩, l1, l2⟩ := h
  unfold f_X8_doing dg
  rw [l2, r5, r4]
  have hc : cq (cu (sq hm L (j + 1))) < 0 ↔ cu (sq hm L (j + 1)) < 0 := by
    rcases hs.1 with q | q | ⟨u, a, -, b⟩
    · rw [q]; decide
    · rw [q]; decide
    · rw [b, cq_in a]
  by_cases d : dk hm L j = true
  · rw [if_neg (by rw [b2_0]; exact fun z => z d), if_pos d]
  · rw [if_pos (by rw [b2_0]; exact d), if_neg d]
    by_cases q : nn (sq hm L (j + 1)) = 0
    · rw [if_pos q, if_pos q]
      by_cases q2 : cu (sq hm L (j + 1)) < 0
      · rw [if_pos q2, if_pos (hc.mpr q2)]
      · rw [if_neg q2, if_neg (fun z => q2 (hc.mp z))]
    · rw [if_neg q, if_neg q]
theorem rankOf_in {μ : Mm} {t u : Nat} (h : u < 8) : f_X7_rankOf μ t (nI u) = some (μ.1 702 t u) := by
  unfold f_X7_rankOf; rw [if_neg (nN0 (by omega)), if_neg (n8 h), ra_in h (by omega), obs]
theorem i32_le_antisymm {a b : Int32} (h : a ≤ b) (h2 : b ≤ a) : a = b := by
  rw [leT] at h h2; rw [eqT]; omega
theorem compare_c (μ : Mm) (a b : Int32) : f_J6_compare_7cf53 μ a b = some (if b ≤ a then (if a = b then 0 else 1) else -1) := by
  unfold f_J6_compare_7cf53; split
  · split <;> rfl
  · rfl
theorem cu_cases {hm : Nat → Bool} {s : Ms} (h : Si hm s) : (cu s < 0 ∧ ¬ 0 ≤ cu s ∧ ¬ 0 ≤ cq (cu s)) ∨ ∃ u, u < 8 ∧ hm u = true ∧ cu s = nI u := by
  rcases h.1 with q | q | ⟨u, a, b, c⟩
  · left; rw [q]; decide
  · left; rw [q]; decide
  · exact Or.inr ⟨u, a, b, c⟩
theorem readyBy_c {μ : Mm} {hm : Nat → Bool} {L : La} {j u t : Nat} {rk : Nat → Int32} (h : WK μ hm L j) (hs : Si hm (sq hm L (j + 1))) (hu : u < 8) (hr : ∀ u, u < 8 → μ.1 702 t u = rk u) : f_X8_readyBy μ (nI u) t = some (wby (sq hm L (j + 1)) rk u) := by
  obtain ⟨⟨⟨r1, r2, r3, r4, r5⟩, r6⟩, l1, l2⟩ := h
  unfold f_X8_readyBy wby
  rw [r5, r4]
  by_cases q : nn (sq hm L (j + 1)) = 0
  · rw [if_pos q, if_pos q]
    rcases cu_cases hs with ⟨-, a, b⟩ | ⟨c, c1, c2, c3⟩
    · rw [if_neg a, if_neg b]
    · rw [c3, cq_in c1, if_pos (n0N (by omega)), if_pos (n0N (by omega)), rankOf_in c1, obs, rankOf_in hu, obs, compare_c, obs, hr c c1, hr u hu, clN (by omega)]
      by_cases e1 : rk u ≤ rk c
      · by_cases e2 : rk c = rk u
        · rw [if_pos e1, if_pos e2, if_pos rfl, if_pos (by rw [e2]; exact Int32.le_refl _), if_pos e2]
        · rw [if_pos e1, if_neg e2, if_neg (by decide), if_neg (by decide), if_neg (fun z => e2 (i32_le_antisymm z e1))]
      · rw [if_neg e1, if_neg (by decide), if_pos (by decide), if_pos (by rw [leT] at e1 ⊢; omega), if_neg (fun z => e1 (by rw [z]; exact Int32.le_refl _))]
  · rw [if_neg q, if_neg q]
theorem holderAgainst_in {μ : Mm} {i u : Nat} {s : Ms} {hm : Nat → Bool} (h : RC μ i s hm) (hs : Si hm s) (hu : u < 8) (hh : hm u = true) (hw3 : hw s u = 3) : f_X4_holderAgainst μ i (nI u) = some (cz (hd s (wn s u).toNatClampNeg)) := by
  obtain ⟨l, hl, e⟩ := hs.2.1 u hu hw3
  unfold f_X4_holderAgainst
  rw [if_neg (nN0 (by omega)), if_neg (n8 hu), ra_in hu (by omega), obs, h.2 u hu hh hw3, e, holderOf_in hl, obs, h.1.2.2.1 l hl, clN (by omega)]
theorem ca_3 {s : Ms} {d : Bool} {u : Nat} (h : ca s d u = 3) : hw s u = 3 := by
  unfold ca at h
  split at h
  · exact absurd h (by decide)
  · split at h
    · split at h <;> exact absurd h (by decide)
    · exact h
theorem hd_cases {hm : Nat → Bool} {s : Ms} (hs : Si hm s) {u : Nat} (hu : u < 8) (h3 : hw s u = 3) : hd s (wn s u).toNatClampNeg = -1 ∨ ∃ v, v < 8 ∧ hm v = true ∧ hd s (wn s u).toNatClampNeg = nI v := by
  obtain ⟨l, hl, e⟩ := hs.2.1 u hu h3
  rw [e, clN (by omega)]; exact hs.2.2.1 l hl
theorem wantingBy_c {μ : Mm} {hm : Nat → Bool} {L : La} {j u t : Nat} {rk : Nat → Int32} (h : WK μ hm L j) (hs : Si hm (sq hm L (j + 1))) (hu : u < 8) (hh : hm u = true) (h3 : hw (sq hm L (j + 1)) u = 3) (hr : ∀ u, u < 8 → μ.1 702 t u = rk u) : f_X8_wantingBy μ (nI u) t = some (hby (sq hm L (j + 1)) rk u) := by
  have hR := h.1
  obtain ⟨⟨⟨r1, r2, r3, r4, r5⟩, r6⟩, l1, l2⟩ := h
  unfold f_X8_wantingBy hby
  rw [r5, r4]
  by_cases q : nn (sq hm L (j + 1)) = 0
  · rw [if_pos q, if_pos q, holderAgainst_in hR hs hu hh h3, obs]
    rcases hd_cases hs hu h3 with e | ⟨v, v1, v2, e⟩
    · rw [e, show cz (-1) = -2 from rfl, if_pos rfl, if_pos rfl]
    · rw [e, cz_in v1, if_neg (nIneg v1).2.1, if_neg (nIneg v1).1, clN (by omega), stateOf_in v1, obs, r1 v v1 v2]
      rcases cu_cases hs with ⟨a0, a, b⟩ | ⟨c, c1, c2, c3⟩
      · have n1 : ¬ nI v = cq (cu (sq hm L (j + 1))) := fun z => b (by rw [← z]; exact n0N (by omega))
        have n2 : ¬ nI v = cu (sq hm L (j + 1)) := fun z => a (by rw [← z]; exact n0N (by omega))
        rw [if_neg n1, if_neg n2, if_neg a, if_neg b]
        split <;> rfl
      · rw [c3, cq_in c1]
        by_cases e4 : nI v = nI c
        · rw [if_pos e4, if_pos e4]
        · rw [if_neg e4, if_neg e4]
          by_cases e5 : hw (sq hm L (j + 1)) v = 3
          · rw [if_pos e5, if_pos e5]
          · rw [if_neg e5, if_neg e5, if_pos (n0N (by omega)), if_pos (n0N (by omega)), rankOf_in c1, obs, rankOf_in hu, obs, hr c c1, hr u hu, clN (by omega)]
            split <;> rfl
  · rw [if_neg q, if_neg q]
theorem chain_c {μ : Mm} {F : Nat} {hm : Nat → Bool} {i : Nat} {s : Ms} (hR : RC μ i s hm) (hs : Si hm s) : ∀ (m N k u : Nat), m + k = 9 → 1 ≤ k → m < N → u < 8 → hm u = true → hw s u = 3 → f_X4_chainOf_b4 F μ N i (nI u) (nI k) = some (nI (cgo s m k (hd s (wn s u).toNatClampNeg))) := by
  intro m
  induction m with
  | zero =>
    intro N k u h1 h0 h2 h3 h4 h5
    obtain ⟨N, rfl⟩ : ∃ N', N = N' + 1 := ⟨N - 1, by omega⟩
    obtain rfl : k = 9 := by omega
    rw [f_X4_chainOf_b4, if_pos (by decide)]; rfl
  | succ m ih =>
    intro N k u h1 h0 h2 h3 h4 h5
    obtain ⟨N, rfl⟩ : ∃ N', N = N' + 1 := ⟨N - 1, by omega⟩
    rw [f_X4_chainOf_b4, if_neg (by rw [show (8 : Int32) = nI 8 from rfl, ltN (by omega) (by omega)]; omega), holderAgainst_in hR hs h3 h4 h5, obs]
    rw [cgo]
    rcases hd_cases hs h3 h5 with e | ⟨v, v1, v2, e⟩
    · rw [e, show cz (-1) = -2 from rfl, stateOf_neg (by decide), obs, if_neg (by decide), if_pos rfl]
    · rw [e, cz_in v1, stateOf_in v1, obs, hR.1.1 v v1 v2, if_neg (nIneg v1).1, clN (by omega)]
      by_cases q : hw s v = 3
      · rw [if_pos q, if_pos q, s1]
        exact ih N (k + 1) v (by omega) (by omega) (by omega) v1 v2 q
      · rw [if_neg q, if_neg q]
theorem chainOf_c {μ : Mm} {F : Nat} {hm : Nat → Bool} {i u : Nat} {s : Ms} (hF : 100 ≤ F) (hR : RC μ i s hm) (hs : Si hm s) (h3 : u < 8) (h4 : hm u = true) (h5 : hw s u = 3) : f_X4_chainOf F μ i (nI u) = some (nI (chn s u)) := by
  unfold f_X4_chainOf
  exact chain_c hR hs 8 F 1 u rfl (by omega) (by omega) h3 h4 h5
/-! the same, asked of the reference -/
theorem isDark_m {μ : Mm} {g j : Nat} {hm : Nat → Bool} {L : La} (hM : ML μ g L) (hg : μ.1 1000 0 33 = nI g) (r : RM μ (sq hm L (j + 1))) (hj : j + 1 < zn L) : f_X10_isDark μ (nI j) = some (b2 (dk hm L j)) := by
  obtain ⟨h1, h2, h3, h4⟩ := hM
  unfold f_X10_isDark
  rw [s1, spot_in hg, obs, ra_in (by omega) (by omega), obs, (h4 (j + 1) hj).1, r.2.2.2.1]
  by_cases q8 : zK L (j + 1) = 8
  · rw [if_pos q8]
    unfold b2 dk; rw [if_pos (decide_eq_true (Or.inl ⟨hj, q8⟩))]
  · rw [if_neg q8]
    by_cases q3 : cu (sq hm L (j + 1)) = -2
    · rw [if_pos q3]
      unfold b2 dk; rw [if_pos (decide_eq_true (Or.inr q3))]
    · rw [if_neg q3]
      unfold b2 dk; rw [if_neg (by rw [decide_eq_true_iff]; exact fun z => z.elim (fun z => q8 z.2) q3)]
theorem stretch_m {μ : Mm} {g j : Nat} {L : La} (hM : ML μ g L) (hg : μ.1 1000 0 33 = nI g) (hj : j + 1 < zn L) : f_X10_stretch μ (nI j) = some (ln L j) := by
  obtain ⟨h1, h2, h3, h4⟩ := hM
  unfold f_X10_stretch ln
  rw [s1, spot_in hg, obs, ra_in (by omega) (by omega), obs, (h4 (j + 1) hj).2.2.2, spot_in hg, obs, ra_in (by omega) (by omega), obs, (h4 j (by omega)).2.2.2, if_pos hj]
theorem countsAs_m {μ : Mm} {s : Ms} {u : Nat} {d : Bool} (r : RM μ s) (hu : u < 8) : f_X10_countsAs μ (nI u) (b2 d) = some (ca s d u) := by
  unfold f_X10_countsAs ca
  by_cases e : d = true
  · rw [if_neg (by rw [b2_0]; exact fun z => z e), if_pos e]
  · rw [if_pos (by rw [b2_0]; exact e), if_neg e, ra_in hu (by omega), obs, r.1 u hu, r.2.2.2.2, obs]
    by_cases q : hw s u = 2
    · rw [if_pos q, if_pos q, q]; split <;> rfl
    · rw [if_neg q, if_neg q]
theorem busyWith_m {μ : Mm} {g j : Nat} {hm : Nat → Bool} {L : La} (hM : ML μ g L) (hg : μ.1 1000 0 33 = nI g) (r : RM μ (sq hm L (j + 1))) (hj : j + 1 < zn L) : f_X10_busyWith μ (nI j) = some (dg (sq hm L (j + 1)) (dk hm L j)) := by
  unfold f_X10_busyWith dg
  rw [isDark_m hM hg r hj, obs, r.2.2.2.1, r.2.2.2.2]
  by_cases d : dk hm L j = true
  · rw [if_neg (by rw [b2_0]; exact fun z => z d), if_pos d]
  · rw [if_pos (by rw [b2_0]; exact d), if_neg d]
    split
    · split <;> rfl
    · rfl
theorem waitsBy_m {μ : Mm} {s : Ms} {hm : Nat → Bool} {u : Nat} {rk : Nat → Int32} (r : RM μ s) (hs : Si hm s) (hu : u < 8) (hr : ∀ u, u < 8 → μ.1 1006 0 u = rk u) : f_X10_waitsBy μ (nI u) = some (wby s rk u) := by
  unfold f_X10_waitsBy wby
  rw [r.2.2.2.1, r.2.2.2.2]
  by_cases q : nn s = 0
  · rw [if_pos q, if_pos q]
    rcases cu_cases hs with ⟨-, a, b⟩ | ⟨c, c1, c2, c3⟩
    · rw [if_neg a, if_neg a]
    · rw [c3, if_pos (n0N (by omega)), if_pos (n0N (by omega)), ra_in c1 (by omega), obs, ra_in hu (by omega), obs, obs, obs, hr c c1, hr u hu, clN (by omega)]
      split
      · split <;> rfl
      · rfl
  · rw [if_neg q, if_neg q]
theorem heldBy_m {μ : Mm} {s : Ms} {hm : Nat → Bool} {u : Nat} {rk : Nat → Int32} (r : RM μ s) (hs : Si hm s) (hu : u < 8) (h3 : hw s u = 3) (hr : ∀ u, u < 8 → μ.1 1006 0 u = rk u) : f_X10_heldBy μ (nI u) = some (hby s rk u) := by
  obtain ⟨l, hl, e⟩ := hs.2.1 u hu h3
  unfold f_X10_heldBy hby
  rw [ra_in hu (by omega), obs, r.2.1 u hu, e, ra_in hl (by omega), obs, r.2.2.1 l hl, r.2.2.2.1, r.2.2.2.2, clN (by omega)]
  by_cases q : nn s = 0
  · rw [if_pos q, if_pos q]
    rcases hs.2.2.1 l hl with e | ⟨v, v1, v2, e⟩
    · rw [e, if_pos rfl, if_pos rfl]
    · rw [e, if_neg (nIneg v1).1, if_neg (nIneg v1).1, clN (by omega), ra_in v1 (by omega), obs, r.1 v v1]
      by_cases e4 : nI v = cu s
      · rw [if_pos e4, if_pos e4]
      · rw [if_neg e4, if_neg e4]
        by_cases e5 : hw s v = 3
        · rw [if_pos e5, if_pos e5]
        · rw [if_neg e5, if_neg e5]
          rcases cu_cases hs with ⟨-, a, b⟩ | ⟨c, c1, c2, c3⟩
          · rw [if_neg a, if_neg a]
          · rw [c3, if_pos (n0N (by omega)), if_pos (n0N (by omega)), ra_in c1 (by omega), obs, ra_in hu (by omega), obs, hr c c1, hr u hu, clN (by omega)]
            split <;> rfl
  · rw [if_neg q, if_neg q]
theorem chain_m {μ : Mm} {F : Nat} {hm : Nat → Bool} {s : Ms} (r : RM μ s) (hs : Si hm s) : ∀ (m N k : Nat) (h : Int32), m + k = 9 → m < N → (h = -1 ∨ ∃ v, v < 8 ∧ h = nI v) → f_X10_chainOf_b14 F μ N (nI k) h = some (nI (cgo s m k h)) := by
  intro m
  induction m with
  | zero =>
    intro N k h h1 h2 h3
    obtain ⟨N, rfl⟩ : ∃ N', N = N' + 1 := ⟨N - 1, by omega⟩
    obtain rfl : k = 9 := by omega
    rw [f_X10_chainOf_b14, if_pos (by decide)]; rfl
  | succ m ih =>
    intro N k h h1 h2 h3
    obtain ⟨N, rfl⟩ : ∃ N', N = N' + 1 := ⟨N - 1, by omega⟩
    rw [f_X10_chainOf_b14, if_neg (by rw [show (9 : Int32) = nI 9 from rfl, leN (by omega) (by omega)]; omega), cgo]
    rcases h3 with e | ⟨v, v1, e⟩
    · rw [if_pos e, if_pos e]
    · rw [e, if_neg (nIneg v1).1, if_neg (nIneg v1).1, ra_in v1 (by omega), obs, r.1 v v1, clN (by omega)]
      by_cases q : hw s v = 3
      · obtain ⟨l, hl, e2⟩ := hs.2.1 v v1 q
        rw [if_pos q, if_pos q, ra_in v1 (by omega), obs, r.2.1 v v1, e2, ra_in hl (by omega), obs, r.2.2.1 l hl, s1, clN (by omega)]
        refine ih N (k + 1) _ (by omega) (by omega) ?_
        rcases hs.2.2.1 l hl with e | ⟨v, v1, v2, e⟩
        · exact Or.inl e
        · exact Or.inr ⟨v, v1, e⟩
      · rw [if_neg q, if_neg q]
theorem chainOf_m {μ : Mm} {F u : Nat} {hm : Nat → Bool} {s : Ms} (hF : 100 ≤ F) (r : RM μ s) (hs : Si hm s) (hu : u < 8) (h3 : hw s u = 3) : f_X10_chainOf F μ (nI u) = some (nI (chn s u)) := by
  obtain ⟨l, hl, e⟩ := hs.2.1 u hu h3
  unfold f_X10_chainOf chn
  rw [ra_in hu (by omega), obs, r.2.1 u hu, e, ra_in hl (by omega), obs, r.2.2.1 l hl, clN (by omega)]
  refine chain_m r hs 8 F 1 _ rfl (by omega) ?_
  rcases hs.2.2.1 l hl with e | ⟨v, v1, v2, e⟩
  · exact Or.inl e
  · exact Or.inr ⟨v, v1, e⟩
