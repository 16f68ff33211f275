theorem idle_m {F p : Nat} {μ : Mm} {D : Tr} {C : Nat → Tr} (hF : 1000 ≤ F) (h : Rl μ D C) (hp : p < 3) (hB : MB μ ([], [])) : ∃ μ', f_X10_rests F μ (nI p) = some μ' ∧ MB μ' (idl (hmD D p) (tL D p) (zn (tL D p) - 1), []) := by
  have hv : TV D := h.1
  have hT := hv.2.1
  have hV : LV (hmD D p) (tL D p) := hv.2.2.2.2.2.1 p hp
  have hn := hV.1
  have hm := h.2.2.1
  unfold f_X10_rests
  obtain ⟨m1, e1, s0, r0, t0, c0, M0⟩ := h.startsNow hF hp
  rw [e1, obs]
  obtain ⟨m', e, i1, i2, i3, i4, i5, i6⟩ := loop_inv (fun N m x => f_X10_rests_b7 F N m (nI p) x) (fun μ => some μ) (zn (tL D p) - 1) (fun j m => ML m p (tL D p) ∧ RM m (sq (hmD D p) (tL D p) j) ∧ HC m (hmD D p) ∧ m.1 1000 0 33 = nI p ∧ MB m (idl (hmD D p) (tL D p) j, []) ∧ (m.1 1000 0 2 = nI (tT D) ∧ ∀ u, u < 8 → m.1 1005 0 u = tH D u)) (by
    intro N m j hj ⟨i1, i2, i3, i4, i5, i6, i7⟩
    show ∃ s', f_X10_rests_b7 F (N + 1) m (nI p) (nI j) = f_X10_rests_b7 F N s' (nI p) (nI (j + 1)) ∧ _
    rw [f_X10_rests_b7, mk_m i1, obs, s1, if_neg (ngt (by omega) (by omega) (by omega))]
    obtain ⟨m2, e2, s2, r2, c2, t2⟩ := doesMark_ok (F := F) (by omega) i1 i4 i3 hV.2.1.wf (by omega) i2
    have M2 := i1.kept s2
    have T2 : m2.1 1000 0 2 = nI (tT D) := by rw [(s2 1000 0 2 (by unfold sc; omega)).1]; exact i6
    have H2 : ∀ u, u < 8 → m2.1 1005 0 u = tH D u := fun u hu => by rw [(s2 1005 0 u (by unfold sc; omega)).1]; exact i7 u hu
    have B2 := i5.sm s2
    rw [e2, obs]
    have lp : ∃ a3, f_X10_rests_b29 F (fun μ a1 a2 => f_X10_rests_b7 F N μ a1 a2) F m2 (nI p) (nI j) 0 (nI 0) = (f_X10_busyWith m2 (nI j)).bind (fun q21 => if q21 = 0 then (f_X10_stretch m2 (nI j)).bind fun q23 => if q23 ≤ 0 then f_X10_rests_b7 F N m2 (nI p) (nI (j + 1)) else if a3 = 0 then f_X10_rests_b7 F N m2 (nI p) (nI (j + 1)) else (f_X10_spot m2 (nI j)).bind fun q25 => (ra m2 1012 0 4200 q25).bind fun v27 => (f_X10_breaksAt m2 1 v27).bind fun q29 => f_X10_rests_b7 F N q29 (nI p) (nI (j + 1)) else f_X10_rests_b7 F N m2 (nI p) (nI (j + 1))) ∧ a3 = b2 (anyR (hmD D p) (sq (hmD D p) (tL D p) (j + 1)) (tT D)) := by
      exact loop_inv (fun N' a x => f_X10_rests_b29 F (fun μ a1 a2 => f_X10_rests_b7 F N μ a1 a2) N' m2 (nI p) (nI j) a x) (fun a3 => (f_X10_busyWith m2 (nI j)).bind (fun q21 => if q21 = 0 then (f_X10_stretch m2 (nI j)).bind fun q23 => if q23 ≤ 0 then f_X10_rests_b7 F N m2 (nI p) (nI (j + 1)) else if a3 = 0 then f_X10_rests_b7 F N m2 (nI p) (nI (j + 1)) else (f_X10_spot m2 (nI j)).bind fun q25 => (ra m2 1012 0 4200 q25).bind fun v27 => (f_X10_breaksAt m2 1 v27).bind fun q29 => f_X10_rests_b7 F N q29 (nI p) (nI (j + 1)) else f_X10_rests_b7 F N m2 (nI p) (nI (j + 1)))) (tT D) (fun k a => a = b2 (anyR (hmD D p) (sq (hmD D p) (tL D p) (j + 1)) k)) (by
        intro N' a k hk ia
        show ∃ s', f_X10_rests_b29 F _ (N' + 1) m2 (nI p) (nI j) a (nI k) = f_X10_rests_b29 F _ N' m2 (nI p) (nI j) s' (nI (k + 1)) ∧ _
        rw [f_X10_rests_b29, T2, if_neg (ngt (by omega) (by omega) hk), s1, ia]
        have st : anyR (hmD D p) (sq (hmD D p) (tL D p) (j + 1)) (k + 1) = (anyR (hmD D p) (sq (hmD D p) (tL D p) (j + 1)) k || (hmD D p k && decide (hw (sq (hmD D p) (tL D p) (j + 1)) k = 1))) := rfl
        rw [st]
        cases ha : anyR (hmD D p) (sq (hmD D p) (tL D p) (j + 1)) k with
        | true => rw [if_neg (by decide)]; exact ⟨1, rfl, rfl⟩
        | false =>
          rw [if_pos (show b2 false = 0 from rfl), ra_in (by omega) (by omega), obs, H2 k (by omega), ra_in (by omega) (by omega), obs, r2.1 k (by omega)]
          by_cases hh : tH D k = nI p
          · rw [if_pos hh, hmD_u hk hh]
            by_cases q : hw (sq (hmD D p) (tL D p) (j + 1)) k = 1
            · rw [if_pos q, decide_eq_true q]; exact ⟨1, rfl, rfl⟩
            · rw [if_neg q, decide_eq_false q]; exact ⟨0, rfl, rfl⟩
          · have : hmD D p k = false := by unfold hmD hmf; exact decide_eq_false (fun z => hh z.2)
            rw [if_neg hh, this]; exact ⟨0, rfl, rfl⟩) (by
        intro N' a _
        show f_X10_rests_b29 F _ (N' + 1) m2 (nI p) (nI j) a (nI (tT D)) = _
        rw [f_X10_rests_b29, T2, if_pos (nle (by omega) (by omega) (by omega)), s1]) F 0 0 (by omega) (by omega) rfl
    obtain ⟨a3, e3, ha3⟩ := lp
    rw [show f_X10_rests_b29 F (fun μ a1 a2 => f_X10_rests_b7 F N μ a1 a2) F m2 (nI p) (nI j) 0 0 = _ from e3]
    have any8 : anyR (hmD D p) (sq (hmD D p) (tL D p) (j + 1)) (tT D) = anyR (hmD D p) (sq (hmD D p) (tL D p) (j + 1)) 8 := by
      have up : ∀ k, anyR (hmD D p) (sq (hmD D p) (tL D p) (j + 1)) (tT D + k) = anyR (hmD D p) (sq (hmD D p) (tL D p) (j + 1)) (tT D) := fun k => by
        induction k with
        | zero => rfl
        | succ k ih =>
          have : hmD D p (tT D + k) = false := by unfold hmD hmf; exact decide_eq_false (fun z => by omega)
          show (anyR _ _ (tT D + k) || (hmD D p (tT D + k) && _)) = _
          rw [ih, this, Bool.false_and, Bool.or_false]
      have := up (8 - tT D)
      rw [show tT D + (8 - tT D) = 8 by omega] at this
      exact this.symm
    rw [any8] at ha3
    rw [busyWith_m M2 t2 r2 (by omega), obs, stretch_m M2 t2 (by omega), obs]
    have no : ¬ idw (hmD D p) (tL D p) j = true → ∃ s', f_X10_rests_b7 F N m2 (nI p) (nI (j + 1)) = f_X10_rests_b7 F N s' (nI p) (nI (j + 1)) ∧ ML s' p (tL D p) ∧ RM s' (sq (hmD D p) (tL D p) (j + 1)) ∧ HC s' (hmD D p) ∧ s'.1 1000 0 33 = nI p ∧ MB s' (idl (hmD D p) (tL D p) (j + 1), []) ∧ (s'.1 1000 0 2 = nI (tT D) ∧ ∀ u, u < 8 → s'.1 1005 0 u = tH D u) := fun w =>
      ⟨m2, rfl, M2, r2, c2, t2, by unfold idl; rw [if_neg w]; exact B2, T2, H2⟩
    by_cases d0 : dg (sq (hmD D p) (tL D p) (j + 1)) (dk (hmD D p) (tL D p) j) = 0
    · rw [if_pos d0]
      by_cases l0 : ln (tL D p) j ≤ 0
      · rw [if_pos l0]; exact no (by unfold idw; rw [decide_eq_true l0, Bool.not_true, Bool.false_and]; decide)
      · rw [if_neg l0]
        cases ha : anyR (hmD D p) (sq (hmD D p) (tL D p) (j + 1)) 8 with
        | false =>
          rw [ha] at ha3
          rw [if_pos (show a3 = 0 from ha3)]; exact no (by unfold idw; rw [ha, Bool.and_false, Bool.and_false]; decide)
        | true =>
          rw [ha] at ha3
          have w : idw (hmD D p) (tL D p) j = true := by unfold idw; rw [decide_eq_false l0, decide_eq_true d0, ha]; rfl
          have := idl_le (hmD D p) (tL D p) j
          rw [if_neg (by rw [ha3]; decide), spot_in t2, obs, ra_in (by omega) (by omega), obs, (M2.2.2.2 j (by omega)).2.2.2]
          obtain ⟨m3, e4, b3, f3⟩ := sureM_ok B2 (show (idl (hmD D p) (tL D p) j).length < 200 by omega) (zM (tL D p) j)
          rw [e4, obs]
          exact ⟨m3, rfl, M2.kept2 (fun k j a b => f3 _ _ _ (by omega) (by omega)), r2.kept (fun k j a => f3 _ _ _ (by omega) (by omega)), c2.kept (fun k j a => f3 _ _ _ (by omega) (by omega)), by rw [f3 _ _ _ (by omega) (by omega)]; exact t2, by unfold idl; rw [if_pos w]; exact b3, by rw [f3 _ _ _ (by omega) (by omega)]; exact T2, fun u hu => by rw [f3 _ _ _ (by omega) (by omega)]; exact H2 u hu⟩
    · rw [if_neg d0]; exact no (by unfold idw; rw [decide_eq_false d0, Bool.false_and, Bool.and_false]; decide)) (by
    intro N m ⟨i1, _⟩
    show f_X10_rests_b7 F (N + 1) m (nI p) (nI (zn (tL D p) - 1)) = _
    rw [f_X10_rests_b7, mk_m i1, obs, s1, if_pos (nle (by omega) (by omega) (by omega))]) F 0 m1 (by omega) (by omega) ⟨M0, r0, c0, t0, hB.sm s0, by rw [(s0 1000 0 2 (by unfold sc; omega)).1]; exact hm.1.2.1, fun u hu => by rw [(s0 1005 0 u (by unfold sc; omega)).1]; exact (hm.2.1 u hu).1⟩
  exact ⟨m', e, i5⟩
