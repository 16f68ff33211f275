def dem (x : Jb) : Nat := x.2.2.2.1.toNatClampNeg
def S0 (L : La) : Rs := (fun x => min (dem x) 13107200, fun x => min (zm L x.2.1) 1073741824)
theorem SB_0 (L : La) : SB (S0 L) := fun x => ⟨Nat.min_le_right _ _, Nat.min_le_right _ _⟩
theorem S0_in {hm : Nat → Bool} {L : La} {R : List Jb} (hV : LV hm L) (g : JG L R) {x : Jb} (hx : x ∈ R) : x.2.2.2.1 = nI ((S0 L).1 x) ∧ zM L x.2.1 = nI ((S0 L).2 x) ∧ (S0 L).2 x = zm L x.2.1 := by
  obtain ⟨-, g2, g3, n, g4, g5⟩ := g.2.1 x hx
  have hn := hV.1
  have t := hV.2.2.2.2.2.1 x.2.1 (by omega)
  have d : dem x = n := by unfold dem; rw [g4, clN (by omega)]
  have e1 : (S0 L).1 x = n := by show min (dem x) 13107200 = n; omega
  have e2 : (S0 L).2 x = zm L x.2.1 := by show min (zm L x.2.1) 1073741824 = _; have := t.2; omega
  exact ⟨by rw [e1]; exact g4, by rw [e2]; exact t.1, e2⟩
/-- how far it is behind mark j's stretch -/
def gA (hm : Nat → Bool) (L : La) (R : List Jb) (rk : Nat → Int32) : Nat → Rs
  | 0 => S0 L
  | j + 1 => if j + 1 = zn L then runA R rk j 1073741824 68 (zm L j) (gA hm L R rk j)
    else if dg (sq hm L (j + 1)) (dk hm L j) = 2 ∨ dg (sq hm L (j + 1)) (dk hm L j) = 0 then runA R rk j (zm L (j + 1)) 68 (zm L j) (gA hm L R rk j)
    else gA hm L R rk j
theorem SB_gA {hm : Nat → Bool} {L : La} (hV : LV hm L) (R : List Jb) (rk : Nat → Int32) : ∀ j, j ≤ zn L → SB (gA hm L R rk j)
  | 0, _ => SB_0 L
  | j + 1, h => by
    have ih := SB_gA hV R rk j (by omega)
    have hn := hV.1
    unfold gA
    split
    · exact SB_run (by omega) _ _ _ ih
    · split
      · have := (hV.2.2.2.2.2.1 (j + 1) (by omega)).2
        exact SB_run (by omega) _ _ _ ih
      · exact ih
theorem rerun_ok {F : Nat} {μ : Mm} {i : Nat} {hm : Nat → Bool} {L : La} {R : List Jb} {rk : Nat → Int32} (hF : 1000 ≤ F) (hL : CL μ i L) (hV : LV hm L) (h : CR μ L R) (g : JG L R) (hr : ∀ u, u < 8 → μ.1 903 0 u = rk u) : ∃ μ', f_X1_rerun F μ i = some μ' ∧ CR μ' L R ∧ CS μ' R (gA hm L R rk (zn L)) := by
  have hn := hL.1
  have h66 := g.1
  unfold f_X1_rerun
  obtain ⟨m0, e0, a1, a2, a3, a4⟩ := loop_inv (fun N m x => f_X1_rerun_b3 F N m i x) (fun m => (f_X8_start m).bind fun q => f_X1_rerun_b60 F F q i 0) R.length (fun k m => CL m i L ∧ CR m L R ∧ (∀ u, u < 8 → m.1 903 0 u = rk u) ∧ ∀ (l : Nat) (x : Jb), l < k → R[l]? = some x → m.1 107 0 l = nI ((S0 L).1 x) ∧ m.1 108 0 l = nI ((S0 L).2 x)) (by
    intro N m k hk ⟨i1, i2, i3, i4⟩
    have e : R[k]? = some R[k] := List.getElem?_eq_getElem hk
    generalize R[k] = y at e
    have c := i2.2 k y e
    have s := S0_in hV g (List.mem_of_getElem? e)
    show ∃ s', f_X1_rerun_b3 F (N + 1) m i (nI k) = f_X1_rerun_b3 F N s' i (nI (k + 1)) ∧ _
    rw [f_X1_rerun_b3, i2.1, if_neg (ngt (by omega) (by omega) hk), if_neg (by rw [show (67 : Int32) = nI 67 from rfl]; exact ngt (by omega) (by omega) (by omega)), ra_in (show k < 67 by omega) (by omega), obs, c.2.2.2.2.1, wa_in (show k < 67 by omega) (by omega), obs, ra_in (show k < 67 by omega) (by omega), obs, wi_at, if_neg (by omega), c.2.2.1, wa_in (show k < 67 by omega) (by omega), obs, s1, s.1, s.2.1]
    generalize hm2 : wi (wi m 107 0 k (nI ((S0 L).1 y))) 108 0 k (nI ((S0 L).2 y)) = m2
    have g2 : ∀ k i' j', ¬ (k = 107 ∨ k = 108) → m2.1 k i' j' = m.1 k i' j' := fun k i' j' a => by rw [← hm2, wi_at, if_neg (by omega), wi_at, if_neg (by omega)]
    refine ⟨m2, rfl, i1.kept (fun k j a b => g2 _ _ _ (by omega)), i2.kept (fun k j a b => g2 _ _ _ (by omega)), fun u hu => by rw [g2 _ _ _ (by omega)]; exact i3 u hu, fun l x hl ex => ?_⟩
    by_cases z : l = k
    · subst z
      have : y = x := Option.some.inj (e.symm.trans ex)
      subst this
      exact ⟨by rw [← hm2, wi_at, if_neg (by omega), wi_at, if_pos ⟨rfl, rfl, rfl⟩], by rw [← hm2, wi_at, if_pos ⟨rfl, rfl, rfl⟩]⟩
    · have o := i4 l x (by omega) ex
      exact ⟨by rw [← hm2, wi_at, if_neg (fun w => z w.2.2), wi_at, if_neg (fun w => z w.2.2), o.1], by rw [← hm2, wi_at, if_neg (fun w => z w.2.2), wi_at, if_neg (fun w => z w.2.2), o.2]⟩) (by
    intro N m ⟨_, i2, _⟩
    show f_X1_rerun_b3 F (N + 1) m i (nI R.length) = _
    rw [f_X1_rerun_b3, i2.1, if_pos (nle (by omega) (by omega) (by omega))]) F 0 μ (by omega) (by omega) ⟨hL, h, hr, fun l x hl => by omega⟩
  have a4' : CS m0 R (S0 L) := fun l x ex => a4 l x (ix_lt ex) ex
  obtain ⟨m1, e1, s1', r1⟩ := start_ok m0 hm
  have f1 : ∀ k i' j', ¬ wc k i' → m1.1 k i' j' = m0.1 k i' j' := fun k i' j' a => (s1' k i' j' a).1
  have kept : ∀ (m m' : Mm) (S : Rs), CS m R S → (∀ k j, k = 107 ∨ k = 108 → m'.1 k 0 j = m.1 k 0 j) → CS m' R S := fun m m' S hs q l x ex => by
    rw [q _ _ (by omega), q _ _ (by omega)]; exact hs l x ex
  obtain ⟨m', e, i1, i2, i3, i4, i5⟩ := loop_inv (fun N m x => f_X1_rerun_b60 F N m i x) (fun m => some m) (zn L) (fun j m => CL m i L ∧ RC m 21 (sq hm L j) hm ∧ CR m L R ∧ (∀ u, u < 8 → m.1 903 0 u = rk u) ∧ CS m R (gA hm L R rk j)) (by
    intro N m j hj ⟨i1, i2, i3, i4, i5⟩
    show ∃ s', f_X1_rerun_b60 F (N + 1) m i (nI j) = f_X1_rerun_b60 F N s' i (nI (j + 1)) ∧ _
    obtain ⟨m2, e2, s2, k2⟩ := step_ok i1 hj hV.2.1 i2
    have f2 : ∀ k i' j', ¬ wc k i' → m2.1 k i' j' = m.1 k i' j' := fun k i' j' a => (s2 k i' j' a).1
    have L2 := i1.sw s2
    have R2 : CR m2 L R := i3.kept (fun k j a b => f2 _ _ _ (by unfold wc; omega))
    have o2 : ∀ u, u < 8 → m2.1 903 0 u = rk u := fun u hu => by rw [f2 _ _ _ (by unfold wc; omega)]; exact i4 u hu
    have c2 : CS m2 R (gA hm L R rk j) := kept m m2 _ i5 (fun k j a => f2 _ _ _ (by unfold wc; omega))
    have sb := SB_gA hV R rk j (by omega)
    have tj := hV.2.2.2.2.2.1 j hj
    rw [f_X1_rerun_b60, i1.2.1, if_neg (ngt (by omega) (by omega) hj), e2, obs, L2.2.1, s1]
    have fin : ∀ m3 S, CS m3 R S → (∀ k i j, ¬ (k = 107 ∨ k = 108) → m3.1 k i j = m2.1 k i j) → CL m3 i L ∧ RC m3 21 (sq hm L (j + 1)) hm ∧ CR m3 L R ∧ (∀ u, u < 8 → m3.1 903 0 u = rk u) ∧ CS m3 R S := fun m3 S c3 f3 =>
      ⟨L2.kept (fun k j a b => f3 _ _ _ (by omega)), k2.1.kept (fun k j a b => f3 _ _ _ (by omega)), R2.kept (fun k j a b => f3 _ _ _ (by omega)), fun u hu => by rw [f3 _ _ _ (by omega)]; exact o2 u hu, c3⟩
    unfold gA
    by_cases z : j + 1 = zn L
    · rw [if_pos (by rw [z]), if_pos z, timeOf_in L2 hj, obs, tj.1, show (1073741824 : Int32) = nI 1073741824 from rfl]
      obtain ⟨m3, e3, c3, f3⟩ := runJobs_ok (i := j) (e := 1073741824) (c := zm L j) hF g hn (by omega) (by omega) (by omega) R2 o2 c2 sb
      rw [e3, obs]
      exact ⟨m3, rfl, fin m3 _ c3 f3⟩
    · have hj1 : j + 1 < zn L := by omega
      have tk := hV.2.2.2.2.2.1 (j + 1) hj1
      rw [if_neg (fun w => z ((eqN (by omega) (by omega)).mp w)), if_neg z, doing_c k2 (Si_sq hV.2.1 (j + 1) (by omega)), obs, obs]
      have run : ∀ K : Mm → Nat → Int32 → Option Mm, ∃ m3, f_X1_rerun_b120 F K m2 i (nI j) = K m3 i (nI (j + 1)) ∧ CS m3 R (runA R rk j (zm L (j + 1)) 68 (zm L j) (gA hm L R rk j)) ∧ ∀ k i j, ¬ (k = 107 ∨ k = 108) → m3.1 k i j = m2.1 k i j := fun K => by
        unfold f_X1_rerun_b120
        rw [timeOf_in L2 hj, obs, s1, timeOf_in L2 hj1, obs, tj.1, tk.1]
        obtain ⟨m3, e3, c3, f3⟩ := runJobs_ok (i := j) (e := zm L (j + 1)) (c := zm L j) hF g hn (by omega) (by omega) (by omega) R2 o2 c2 sb
        rw [e3, obs]
        exact ⟨m3, rfl, c3, f3⟩
      by_cases d2 : dg (sq hm L (j + 1)) (dk hm L j) = 2
      · rw [if_pos d2, if_pos (.inl d2)]
        obtain ⟨m3, e3, c3, f3⟩ := run (fun μ a1 a4 => f_X1_rerun_b60 F N μ a1 a4)
        exact ⟨m3, e3, fin m3 _ c3 f3⟩
      · rw [if_neg d2]
        by_cases d0 : dg (sq hm L (j + 1)) (dk hm L j) = 0
        · rw [if_pos d0, if_pos (.inr d0)]
          obtain ⟨m3, e3, c3, f3⟩ := run (fun μ a1 a4 => f_X1_rerun_b60 F N μ a1 a4)
          exact ⟨m3, e3, fin m3 _ c3 f3⟩
        · rw [if_neg d0, if_neg (fun w => w.elim d2 d0)]
          exact ⟨m2, rfl, fin m2 _ c2 (fun _ _ _ _ => rfl)⟩) (by
    intro N m ⟨i1, _⟩
    show f_X1_rerun_b60 F (N + 1) m i (nI (zn L)) = _
    rw [f_X1_rerun_b60, i1.2.1, if_pos (nle (by omega) (by omega) (by omega))]) F 0 m1 (by omega) (by omega) ⟨a1.sw s1', r1, a2.kept (fun k j a b => f1 _ _ _ (by unfold wc; omega)), fun u hu => by rw [f1 _ _ _ (by unfold wc; omega)]; exact a3 u hu, kept m0 m1 _ a4' (fun k j a => f1 _ _ _ (by unfold wc; omega))⟩
  refine ⟨m', ?_, i3, i5⟩
  have e0' : f_X1_rerun_b3 F F μ i (nI 0) = (f_X8_start m0).bind fun q => f_X1_rerun_b60 F F q i 0 := e0
  rw [show (0 : Int32) = nI 0 from rfl] at e0' ⊢
  rw [e0', e1, obs]; exact e
