theorem zm_le {hm : Nat → Bool} {L : La} (h : LV hm L) {i j : Nat} (hij : i ≤ j) (hj : j < zn L) : zm L i ≤ zm L j := by
  have := zm_mono h i (j - i) (by omega)
  rw [show i + (j - i) = j by omega] at this; exact this
theorem sum_fold (S : Rs) : ∀ (Q : List Jb) (a : Nat), Q.foldl (fun (v : Int32) (x : Jb) => v + nI (S.1 x)) (nI a) = nI (a + sumQ S Q)
  | [], a => rfl
  | x :: Q, a => by
    rw [List.foldl_cons, nI_add, sum_fold S Q]
    show nI (a + S.1 x + sumQ S Q) = nI (a + (S.1 x + sumQ S Q)); rw [Nat.add_assoc]
theorem dg_run {s : Ms} {d : Bool} : (dg s d = 2 ∨ dg s d = 0) ↔ (nn s = 0 ∧ ¬ d = true) := by
  unfold dg
  by_cases e : d = true
  · rw [if_pos e]; exact ⟨fun z => by rcases z with z | z <;> exact absurd z (by decide), fun z => absurd e z.2⟩
  · rw [if_neg e]
    by_cases q : nn s = 0
    · rw [if_pos q]
      refine ⟨fun _ => ⟨q, e⟩, fun _ => ?_⟩
      split
      · exact .inr rfl
      · exact .inl rfl
    · rw [if_neg q]; exact ⟨fun z => by rcases z with z | z <;> exact absurd z (by decide), fun z => absurd z.1 q⟩
theorem repeats_sr {F : Nat} {m m' : Mm} {x : Int32} (e : f_X10_repeats F m x = some m') : SR m m' := fun k i j h => by unfold scr at h; exact (fr_X10_repeats (by omega) (by omega) (by omega) (by omega) (by omega) (by omega) (by omega) (by omega) (by omega) (by omega) (by omega) (by omega) (by omega) (by omega) (by omega) (by omega) (by omega) (by omega) (by omega) (by omega) e)
theorem repeats_ok {F p : Nat} {μ : Mm} {D : Tr} {C : Nat → Tr} {R : List Jb} {rk : Nat → Int32} (hF : 1000 ≤ F) (h : Rl μ D C) (hp : p < 3) (eR : R = (js (hmD D p) (tL D p) (zn (tL D p))).2) (ho : RK μ rk) : ∃ μ', f_X10_repeats F μ (nI p) = some μ' ∧ SR μ μ' ∧ MWk μ' (tL D p) (qs R (tT D)) (gA (hmD D p) (tL D p) R rk (zn (tL D p))) ∧ MN μ' R (qs R (tT D)) ∧ QG R (qs R (tT D)) ∧ ∀ x, x ∈ R → (gA (hmD D p) (tL D p) R rk (zn (tL D p))).1 x = 0 := by
  have hv : TV D := h.1
  have hT := hv.2.1
  have hV : LV (hmD D p) (tL D p) := hv.2.2.2.2.2.1 p hp
  have g : JG (tL D p) R := by rw [eR]; exact JG_js hV
  have hmR : ∀ x, x ∈ R → hmD D p x.1 = true := fun x hx => by rw [eR] at hx; exact ((JV_all hV _ (Nat.le_refl _)).2.1 x hx).2.1
  have q : QG R (qs R (tT D)) := QG_qs g (fun x hx => by
    have := hmR x hx
    unfold hmD hmf at this
    rw [decide_eq_true_iff] at this
    exact this.1)
  obtain ⟨m1, e1, s1', q1, n1⟩ := gathers_ok hF h hp eR g
  have r1 : Rl m1 D C := h.kept s1'
  obtain ⟨m2, e2, s2, R2, t2, c2, M2⟩ := r1.startsNow hF hp
  generalize hQ : qs R (tT D) = Q at *
  generalize hL : tL D p = L at *
  generalize hHM : hmD D p = hm at *
  have hn := hV.1
  have ht : ∀ x, x ∈ R → zm L x.2.1 < 100000000 := fun x hx => by
    obtain ⟨-, a, b, -⟩ := g.2.1 x hx
    have := (hV.2.2.2.2.2.1 x.2.1 (by omega)).2
    omega
  have f2 : ∀ k j, ¬ sc k j → m2.1 k 0 j = m1.1 k 0 j := fun k j a => (s2 k 0 j a).1
  have o1 : ∀ k j, ¬ scr k 0 j → m1.1 k 0 j = μ.1 k 0 j := fun k j a => (s1' k 0 j a).1
  have rk2' : RK m2 rk := fun u hu => by
    rw [f2 _ _ (by unfold sc; omega), f2 _ _ (by unfold sc; omega), o1 _ _ (by unfold scr; omega), o1 _ _ (by unfold scr; omega)]; exact ho u hu
  -- what is left behind the last mark
  have fin : ∀ m, ML m p L → m.1 1000 0 33 = nI p → MWk m L Q (gA hm L R rk (zn L - 1)) → MN m R Q → RK m rk → 0 < zn L → ∃ m', f_X10_repeats_b89 F F m (nI p) 0 0 = some m' ∧ MWk m' L Q (gA hm L R rk (zn L)) ∧ MN m' R Q := by
    intro m hM htr hQm hN hK h0
    have hg := hM.1
    have sb := SB_gA hV R rk (zn L - 1) (by omega)
    have hsb := sumQ_b sb Q
    have hq66 := q.1
    have tl := hV.2.2.2.2.2.1 (zn L - 1) (by omega)
    have tl2 := tl.2
    have hfo := loop_fold (fun N a x => f_X10_repeats_b89 F N m (nI p) a x) (fun a => (f_X10_runs F m (nI (zm L (zn L - 1))) ((nI (zm L (zn L - 1)) + a) + 1)).bind fun q39 => some q39) Q (fun (v : Int32) (x : Jb) => v + nI ((gA hm L R rk (zn L - 1)).1 x)) (by
      intro N a i x e
      have hi := ix_lt e
      show f_X10_repeats_b89 F (N + 1) m (nI p) a (nI i) = _
      rw [f_X10_repeats_b89, hQm.1, if_neg (ngt (by omega) (by omega) hi), ra_in (show i < 400 by omega) (by omega), obs, (hQm.2 i x e).2.2.1, s1]) (by
      intro N a
      show f_X10_repeats_b89 F (N + 1) m (nI p) a (nI Q.length) = _
      rw [f_X10_repeats_b89, hQm.1, if_pos (nle (by omega) (by omega) (by omega)), mk_m hM, obs, nsub1 (by omega), spot_in htr, obs, ra_in (show 200 * p + (zn L - 1) < 4200 by omega) (by omega), obs, (hM.2.2.2 (zn L - 1) (by omega)).2.2.2, tl.1]) F (by omega) (nI 0)
    rw [sum_fold, Nat.zero_add, nI_add, s1] at hfo
    have hc := cnt_le (gA hm L R rk (zn L - 1)) Q
    obtain ⟨m', e', q', f'⟩ := run_m (F := F) (i := zn L - 1) (c0 := zm L (zn L - 1)) (e := zm L (zn L - 1) + sumQ (gA hm L R rk (zn L - 1)) Q + 1) (rk := rk) hF g q (by omega) ht (fun x hx => by
      obtain ⟨-, a, b, -⟩ := g.2.1 x hx
      exact ⟨fun w => zm_le hV w (by omega), fun w => by omega⟩) 68 F (zm L (zn L - 1)) _ m (by omega) (by omega) (Nat.le_refl _) (by omega) hQm hK sb
    have ee : gA hm L R rk (zn L) = runA R rk (zn L - 1) (zm L (zn L - 1) + sumQ (gA hm L R rk (zn L - 1)) Q + 1) 68 (zm L (zn L - 1)) (gA hm L R rk (zn L - 1)) := by
      rw [runA_far (e1 := zm L (zn L - 1) + sumQ (gA hm L R rk (zn L - 1)) Q + 1) (e2 := 1073741824) q.nd (fun x hx => (q.2.1 x).mpr hx) _ _ _ (by omega) (by omega)]
      conv => lhs; rw [show zn L = (zn L - 1) + 1 by omega]
      conv => lhs; unfold gA
      rw [if_pos (by omega)]
    refine ⟨m', ?_, by rw [ee]; exact q', hN.kept (fun j => f' _ _ _ (by omega))⟩
    have hfo' : f_X10_repeats_b89 F F m (nI p) (nI 0) (nI 0) = _ := hfo
    rw [show (0 : Int32) = nI 0 from rfl, hfo']
    unfold f_X10_runs
    rw [e', obs]
  have done : ∀ x, x ∈ R → (gA hm L R rk (zn L)).1 x = 0 := fun x hx => by
    have h0 : 0 < zn L := by obtain ⟨-, a, b, -⟩ := g.2.1 x hx; omega
    have sb := SB_gA hV R rk (zn L - 1) (by omega)
    have hsb := sumQ_b sb Q
    have hq66 := q.1
    have tl2 := (hV.2.2.2.2.2.1 (zn L - 1) (by omega)).2
    have hc := cnt_le (gA hm L R rk (zn L - 1)) Q
    have ee : gA hm L R rk (zn L) = runA R rk (zn L - 1) 1073741824 68 (zm L (zn L - 1)) (gA hm L R rk (zn L - 1)) := by
      conv => lhs; rw [show zn L = (zn L - 1) + 1 by omega]
      conv => lhs; unfold gA
      rw [if_pos (by omega)]
    rw [ee]
    exact runA_done q.nd (fun x hx => (q.2.1 x).mpr hx) (fun x hx => by obtain ⟨-, a, b, -⟩ := g.2.1 x hx; omega) 68 _ _ (by omega) (by omega) x hx
  obtain ⟨m', e', i1, i2, i3, i4, i5, i6, i7⟩ := loop_inv (fun N m x => f_X10_repeats_b12 F N m (nI p) x) (fun m => if zn L = 0 then some m else f_X10_repeats_b89 F F m (nI p) 0 0) (zn L - 1) (fun j m => ML m p L ∧ RM m (sq hm L j) ∧ HC m hm ∧ m.1 1000 0 33 = nI p ∧ MWk m L Q (gA hm L R rk j) ∧ MN m R Q ∧ RK m rk) (by
    intro N m j hj ⟨i1, i2, i3, i4, i5, i6, i7⟩
    show ∃ s', f_X10_repeats_b12 F (N + 1) m (nI p) (nI j) = f_X10_repeats_b12 F N s' (nI p) (nI (j + 1)) ∧ _
    have hg := i1.1
    obtain ⟨m3, e3, s3, r3, c3, t3⟩ := doesMark_ok (F := F) (by omega) i1 i4 i3 hV.2.1.wf (show j < zn L by omega) i2
    have M3 := i1.kept s3
    have f3 : ∀ k j, ¬ sc k j → m3.1 k 0 j = m.1 k 0 j := fun k j a => (s3 k 0 j a).1
    have q3 : MWk m3 L Q (gA hm L R rk j) := i5.kept (fun k j a => f3 _ _ (by unfold sc; omega))
    have n3 : MN m3 R Q := i6.kept (fun j => f3 _ _ (by unfold sc; omega))
    have k3 : RK m3 rk := fun u hu => by rw [f3 _ _ (by unfold sc; omega), f3 _ _ (by unfold sc; omega)]; exact i7 u hu
    have tj := hV.2.2.2.2.2.1 j (by omega)
    have tk := hV.2.2.2.2.2.1 (j + 1) (by omega)
    have tj2 := tj.2
    have tk2 := tk.2
    have hq66 := q.1
    have hc := cnt_le (gA hm L R rk j) Q
    rw [f_X10_repeats_b12, mk_m i1, obs, s1, if_neg (ngt (by omega) (by omega) (by omega)), e3, obs, r3.2.2.2.2, isDark_m M3 t3 r3 (by omega), obs]
    unfold gA
    rw [if_neg (show ¬ j + 1 = zn L by omega)]
    by_cases d0 : nn (sq hm L (j + 1)) = 0
    · rw [if_pos d0]
      by_cases d1 : dk hm L j = true
      · rw [if_neg (by rw [b2_0]; exact fun z => z d1), if_neg (fun z => (dg_run.mp z).2 d1)]
        exact ⟨m3, rfl, M3, r3, c3, t3, q3, n3, k3⟩
      · rw [if_pos (by rw [b2_0]; exact d1), if_pos (dg_run.mpr ⟨d0, d1⟩), spot_in t3, obs, ra_in (show 200 * p + j < 4200 by omega) (by omega), obs, (M3.2.2.2 j (by omega)).2.2.2, spot_in t3, obs, ra_in (show 200 * p + (j + 1) < 4200 by omega) (by omega), obs, (M3.2.2.2 (j + 1) (by omega)).2.2.2, tj.1, tk.1]
        obtain ⟨m4, e4, q4, f4⟩ := run_m (F := F) (i := j) (c0 := zm L j) (e := zm L (j + 1)) (rk := rk) hF g q (by omega) ht (fun x hx => by
          obtain ⟨-, a, b, -⟩ := g.2.1 x hx
          exact ⟨fun w => zm_le hV w (by omega), fun w => zm_le hV (by omega) (by omega)⟩) 68 F (zm L j) _ m3 (by omega) (by omega) (Nat.le_refl _) (by omega) q3 k3 (SB_gA hV R rk j (by omega))
        unfold f_X10_runs
        rw [e4, obs]
        exact ⟨m4, rfl, M3.kept2 (fun k j a b => f4 _ _ _ (by omega)), r3.kept (fun k j a => f4 _ _ _ (by omega)), c3.kept (fun k j a => f4 _ _ _ (by omega)), by rw [f4 _ _ _ (by omega)]; exact t3, q4, n3.kept (fun j => f4 _ _ _ (by omega)), fun u hu => by rw [f4 _ _ _ (by omega), f4 _ _ _ (by omega)]; exact k3 u hu⟩
    · rw [if_neg d0, if_neg (fun z => d0 (dg_run.mp z).1)]
      exact ⟨m3, rfl, M3, r3, c3, t3, q3, n3, k3⟩) (by
    intro N m ⟨i1, _⟩
    show f_X10_repeats_b12 F (N + 1) m (nI p) (nI (zn L - 1)) = _
    rw [f_X10_repeats_b12, mk_m i1, obs, s1, if_pos (nle (by omega) (by omega) (by omega)), obs]
    by_cases z : zn L = 0
    · rw [if_pos (by rw [z]; decide), if_pos z]
    · rw [if_neg (by rw [show (0 : Int32) = nI 0 from rfl, leN (by omega) (by omega)]; omega), if_neg z]) F 0 m2 (by omega) (by omega) ⟨M2, R2, c2, t2, q1.kept (fun k j a => f2 _ _ (by unfold sc; omega)), n1.kept (fun j => f2 _ _ (by unfold sc; omega)), rk2'⟩
  have e'' : f_X10_repeats_b12 F F m2 (nI p) 0 = if zn L = 0 then some m' else f_X10_repeats_b89 F F m' (nI p) 0 0 := e'
  have key : ∃ μ', f_X10_repeats F μ (nI p) = some μ' ∧ MWk μ' L Q (gA hm L R rk (zn L)) ∧ MN μ' R Q := by
    unfold f_X10_repeats
    rw [e1, obs, e2, obs, e'']
    by_cases z : zn L = 0
    · rw [if_pos z]
      refine ⟨m', rfl, ?_, i6⟩
      rw [z] at i5 ⊢; exact i5
    · rw [if_neg z]
      exact fin m' i1 i4 i5 i6 i7 (by omega)
  obtain ⟨m, e, a, b⟩ := key
  exact ⟨m, e, repeats_sr e, a, b, q, done⟩
