theorem sureM_ok {μ : Mm} {B : Bk} (h : MB μ B) (hl : B.1.length < 200) (v : Int32) : ∃ μ', f_X10_breaksAt μ 1 v = some μ' ∧ MB μ' (B.1 ++ [v], B.2) ∧ ∀ k i j, ¬ k = 1044 → ¬ (k = 1000 ∧ j = 41) → μ'.1 k i j = μ.1 k i j := by
  obtain ⟨⟨a, b⟩, c, d⟩ := h
  unfold f_X10_breaksAt
  rw [if_neg (by decide), a, wa_in hl (by omega), obs, wi_at, if_neg (by omega), a, wf_eq, obs, s1]
  refine ⟨_, rfl, ⟨⟨?_, ?_⟩, ?_, ?_⟩, fun k i j hk hk' => ?_⟩
  · rw [wi_at, if_pos ⟨rfl, rfl, rfl⟩, List.length_append, List.length_singleton]
  · refine app_at (f := μ.1 1044 0) b (fun i => ?_)
    rw [wi_at, if_neg (by omega), wi_at]
    by_cases z : i = B.1.length
    · rw [if_pos ⟨rfl, rfl, z⟩, if_pos z]
    · rw [if_neg (fun q => z q.2.2), if_neg z]
  · rw [wi_at, if_neg (by omega), wi_at, if_neg (by omega)]; exact c
  · intro i w e
    rw [wi_at, if_neg (by omega), wi_at, if_neg (by omega)]; exact d i w e
  · rw [wi_at, if_neg (by omega), wi_at, if_neg (by omega)]
theorem maybeM_ok {μ : Mm} {B : Bk} (h : MB μ B) (hl : B.2.length < 200) (v : Int32) : ∃ μ', f_X10_breaksAt μ 0 v = some μ' ∧ MB μ' (B.1, B.2 ++ [v]) ∧ ∀ k i j, ¬ k = 1045 → ¬ (k = 1000 ∧ j = 42) → μ'.1 k i j = μ.1 k i j := by
  obtain ⟨⟨a, b⟩, c, d⟩ := h
  unfold f_X10_breaksAt
  rw [if_pos rfl, c, wa_in hl (by omega), obs, wi_at, if_neg (by omega), c, wf_eq, obs, s1]
  refine ⟨_, rfl, ⟨⟨?_, ?_⟩, ?_, ?_⟩, fun k i j hk hk' => ?_⟩
  · rw [wi_at, if_neg (by omega), wi_at, if_neg (by omega)]; exact a
  · intro i w e
    rw [wi_at, if_neg (by omega), wi_at, if_neg (by omega)]; exact b i w e
  · rw [wi_at, if_pos ⟨rfl, rfl, rfl⟩, List.length_append, List.length_singleton]
  · refine app_at (f := μ.1 1045 0) d (fun i => ?_)
    rw [wi_at, if_neg (by omega), wi_at]
    by_cases z : i = B.2.length
    · rw [if_pos ⟨rfl, rfl, z⟩, if_pos z]
    · rw [if_neg (fun q => z q.2.2), if_neg z]
  · rw [wi_at, if_neg (by omega), wi_at, if_neg (by omega)]
/-! the fourth law: a ready task, and nothing done -/
def anyR (hm : Nat → Bool) (s : Ms) : Nat → Bool
  | 0 => false
  | n + 1 => anyR hm s n || (hm n && decide (hw s n = 1))
def idw (hm : Nat → Bool) (L : La) (j : Nat) : Bool := (! decide (ln L j ≤ 0)) && (decide (dg (sq hm L (j + 1)) (dk hm L j) = 0) && anyR hm (sq hm L (j + 1)) 8)
def idl (hm : Nat → Bool) (L : La) : Nat → List Int32
  | 0 => []
  | j + 1 => if idw hm L j = true then idl hm L j ++ [zM L j] else idl hm L j
theorem idl_le (hm : Nat → Bool) (L : La) : ∀ j, (idl hm L j).length ≤ j
  | 0 => Nat.le_refl _
  | j + 1 => by
    have := idl_le hm L j
    unfold idl; split
    · rw [List.length_append, List.length_singleton]; omega
    · omega
theorem anyR_up (hm : Nat → Bool) (s : Ms) (n : Nat) (h : anyR hm s n = true) : ∀ k, anyR hm s (n + k) = true
  | 0 => h
  | k + 1 => by show (anyR hm s (n + k) || _) = true; rw [anyR_up hm s n h k]; rfl
theorem dg_0 {s : Ms} {d : Bool} (h : dg s d = 0) : ¬ d = true ∧ nn s = 0 := by
  unfold dg at h
  by_cases e : d = true
  · rw [if_pos e] at h; exact absurd h (by decide)
  · rw [if_neg e] at h
    refine ⟨e, ?_⟩
    by_cases q : nn s = 0
    · exact q
    · rw [if_neg q] at h; exact absurd h (by decide)
theorem wastes_ok {F : Nat} {μ : Mm} {hm : Nat → Bool} {L : La} {j : Nat} (hF : 100 ≤ F) (h : WK μ hm L j) (hs : Si hm (sq hm L (j + 1))) : f_X8_wastes F μ = some (if idw hm L j = true then 1 else 0) := by
  unfold f_X8_wastes idw
  rw [h.2.1, doing_c h hs, obs]
  by_cases l0 : ln L j ≤ 0
  · rw [if_pos l0, decide_eq_true l0]; rfl
  · rw [if_neg l0, decide_eq_false l0]
    by_cases d0 : dg (sq hm L (j + 1)) (dk hm L j) = 0
    · rw [if_pos d0, decide_eq_true d0]
      obtain ⟨e, n0⟩ := dg_0 d0
      show _ = some (if anyR hm (sq hm L (j + 1)) 8 = true then 1 else 0)
      have := loop_ret (fun N (_ : Unit) x => f_X8_wastes_b18 F μ N x) 8 (fun k _ => anyR hm (sq hm L (j + 1)) k = false) (fun r => r = if anyR hm (sq hm L (j + 1)) 8 = true then 1 else 0) (by
        intro N _ k hk i1
        show (∃ r, f_X8_wastes_b18 F μ (N + 1) (nI k) = some r ∧ _) ∨ ∃ s', f_X8_wastes_b18 F μ (N + 1) (nI k) = f_X8_wastes_b18 F μ N (nI (k + 1)) ∧ _
        rw [f_X8_wastes_b18, if_neg (by rw [show (8 : Int32) = nI 8 from rfl]; exact ngt (by omega) (by omega) hk), s1]
        cases hh : hm k with
        | true =>
          rw [countsAs_c h hk hh, obs]
          have ce : ca (sq hm L (j + 1)) (dk hm L j) k = 1 ↔ hw (sq hm L (j + 1)) k = 1 := by
            unfold ca; rw [if_neg e]
            by_cases q : hw (sq hm L (j + 1)) k = 2
            · rw [if_pos q, if_pos n0, q]
            · rw [if_neg q]
          by_cases q : hw (sq hm L (j + 1)) k = 1
          · left
            rw [if_pos (ce.mpr q)]
            refine ⟨1, rfl, ?_⟩
            have := anyR_up hm (sq hm L (j + 1)) (k + 1) (by show (_ || (hm k && _)) = true; rw [hh, decide_eq_true q, i1]; rfl) (8 - (k + 1))
            rw [show k + 1 + (8 - (k + 1)) = 8 by omega] at this
            rw [if_pos this]
          · right
            rw [if_neg (fun z => q (ce.mp z))]
            exact ⟨(), rfl, by show (_ || (hm k && _)) = false; rw [i1, decide_eq_false q, Bool.and_false]; rfl⟩
        | false =>
          right
          have st : ¬ μ.1 401 21 k = 1 := h.1.1.2.1 k hk hh
          have : ∃ v, f_X8_countsAs μ (nI k) = some v ∧ ¬ v = 1 := by
            unfold f_X8_countsAs
            rw [h.2.2, if_pos (by rw [b2_0]; exact e), stateOf_in hk, obs, h.1.1.2.2.2.2, n0, if_pos rfl]
            split
            · exact ⟨_, rfl, st⟩
            · exact ⟨_, rfl, st⟩
          obtain ⟨v, e1, e2⟩ := this
          rw [e1, obs, if_neg e2]
          exact ⟨(), rfl, by show (_ || (hm k && _)) = false; rw [hh, i1]; rfl⟩) (by
        intro N _ i1
        show ∃ r, f_X8_wastes_b18 F μ (N + 1) (nI 8) = some r ∧ _
        rw [f_X8_wastes_b18, if_pos (by decide)]
        exact ⟨0, rfl, by rw [if_neg (by rw [i1]; decide)]⟩) F 0 () (by omega) (by omega) rfl
      obtain ⟨r, e1, rfl⟩ := this
      exact e1
    · rw [if_neg d0, decide_eq_false d0]; rfl
theorem idle_c {F : Nat} {μ : Mm} {i : Nat} {hm : Nat → Bool} {L : La} (hF : 1000 ≤ F) (hL : CL μ i L) (hV : LV hm L) (hB : CB μ ([], [])) : ∃ μ', f_X0_judgeIdle F μ i = some μ' ∧ CB μ' (idl hm L (zn L - 1), []) := by
  have hn := hL.1
  unfold f_X0_judgeIdle
  obtain ⟨m1, e1, s1', r1⟩ := start_ok μ hm
  rw [e1, obs]
  obtain ⟨m', e, i1, i2, i3⟩ := loop_inv (fun N m x => f_X0_judgeIdle_b6 F N m i x) (fun μ => some μ) (zn L - 1) (fun j m => CL m i L ∧ RC m 21 (sq hm L j) hm ∧ CB m (idl hm L j, [])) (by
    intro N m j hj ⟨i1, i2, i3⟩
    show ∃ s', f_X0_judgeIdle_b6 F (N + 1) m i (nI j) = f_X0_judgeIdle_b6 F N s' i (nI (j + 1)) ∧ _
    rw [f_X0_judgeIdle_b6, i1.2.1, s1, if_neg (ngt (by omega) (by omega) (by omega))]
    obtain ⟨m2, e2, s2, k2⟩ := step_ok i1 (by omega) hV.2.1 i2
    have L2 := i1.sw s2
    rw [e2, obs, wastes_ok (by omega) k2 (Si_sq hV.2.1 (j + 1) (by omega)), obs]
    unfold idl
    by_cases w : idw hm L j = true
    · rw [if_pos w, if_pos w, if_neg (by decide), timeOf_in L2 (by omega), obs]
      have := idl_le hm L j
      obtain ⟨m3, e3, b3, f3⟩ := addSure_ok (i3.sw s2) (show (idl hm L j).length < 200 by omega) (zM L j)
      rw [e3, obs]
      exact ⟨m3, rfl, L2.kept (fun k j a b => f3 _ _ _ (by omega)), k2.1.kept (fun k j a b => f3 _ _ _ (by omega)), b3⟩
    · rw [if_neg w, if_neg w, if_pos rfl]
      exact ⟨m2, rfl, L2, k2.1, i3.sw s2⟩) (by
    intro N m ⟨i1, _⟩
    show f_X0_judgeIdle_b6 F (N + 1) m i (nI (zn L - 1)) = _
    rw [f_X0_judgeIdle_b6, i1.2.1, s1, if_pos (nle (by omega) (by omega) (by omega))]) F 0 m1 (by omega) (by omega) ⟨hL.sw s1', r1, hB.sw s1'⟩
  exact ⟨m', e, i3⟩
