/-! THE CLASS gathers the jobs -/
def CO (μ : Mm) (f : Nat → Option Jo) : Prop := ∀ u, u < 8 → (f u = none ∧ μ.1 109 0 u = -1) ∨ ∃ o : Jo, f u = some o ∧ μ.1 109 0 u = nI o.1 ∧ μ.1 110 0 u = o.2.1 ∧ μ.1 111 0 u = o.2.2
def CR (μ : Mm) (L : La) (R : List Jb) : Prop := μ.1 100 0 11 = nI R.length ∧ ∀ (i : Nat) (x : Jb), R[i]? = some x → μ.1 101 0 i = nI x.1 ∧ μ.1 102 0 i = nI x.2.1 ∧ μ.1 103 0 i = zM L x.2.1 ∧ μ.1 104 0 i = zM L x.2.2.1 ∧ μ.1 105 0 i = x.2.2.2.1 ∧ μ.1 106 0 i = x.2.2.2.2
theorem CO.kept {μ μ' : Mm} {f : Nat → Option Jo} (h : CO μ f) (q : ∀ k j, 109 ≤ k → k ≤ 111 → μ'.1 k 0 j = μ.1 k 0 j) : CO μ' f := fun u hu => by
  rw [q _ _ (by omega) (by omega), q _ _ (by omega) (by omega), q _ _ (by omega) (by omega)]; exact h u hu
theorem CR.kept {μ μ' : Mm} {L : La} {R : List Jb} (h : CR μ L R) (q : ∀ k j, 100 ≤ k → k ≤ 106 → μ'.1 k 0 j = μ.1 k 0 j) : CR μ' L R := by
  refine ⟨by rw [q _ _ (by omega) (by omega)]; exact h.1, fun i x e => ?_⟩
  rw [q 101 _ (by omega) (by omega), q 102 _ (by omega) (by omega), q 103 _ (by omega) (by omega), q 104 _ (by omega) (by omega), q 105 _ (by omega) (by omega), q 106 _ (by omega) (by omega)]
  exact h.2 i x e
theorem nn1 {a : Nat} (h : a < 1000000) : ¬ nI a = (-1 : Int32) := by
  rw [eqT, nIT (by omega), show (-1 : Int32).toInt = -1 from by decide]; omega
/-- a job ends -/
theorem close_ok {m : Mm} {i j u : Nat} {L : La} {s : Js} {o : Jo} (hL : CL m i L) (hj : j < zn L) (hu : u < 8) (c : CO m s.1) (r : CR m L s.2) (e : s.1 u = some o) (ho : o.1 < zn L) (hl : s.2.length < 67) :
    ∃ m', f_X1_close m i (nI u) (nI j) = some m' ∧ CO m' (ju s.1 u none) ∧ CR m' L (s.2 ++ [(u, o.1, j, o.2.1, o.2.2)]) := by
  have hn := hL.1
  obtain ⟨r1, r2⟩ := r
  obtain ⟨o1, o2, o3⟩ : m.1 109 0 u = nI o.1 ∧ m.1 110 0 u = o.2.1 ∧ m.1 111 0 u = o.2.2 := by
    rcases c u hu with ⟨a, -⟩ | ⟨o', a, b⟩
    · rw [e] at a; exact absurd a (by simp)
    · rw [e] at a; rw [Option.some.inj a]; exact b
  have h67 : (67 : Int32) = nI 67 := rfl
  unfold f_X1_close
  rw [if_neg (nN0 (by omega)), if_neg (n8 hu), r1, if_neg (nN0 (by omega)), if_pos (by rw [h67, ltN (by omega) (by omega)]; exact hl)]
  rw [wa_in hl (by omega), obs, ra_in hu (by omega), obs, wi_at, if_neg (by omega), r1, wi_at, if_neg (by omega), o1, wa_in hl (by omega), obs, ra_in hu (by omega), obs]
  generalize hm2 : wi (wi m 101 0 s.2.length (nI u)) 102 0 s.2.length (nI o.1) = m2
  have g2 : ∀ k i' j', ¬ k = 101 → ¬ k = 102 → m2.1 k i' j' = m.1 k i' j' := fun k i' j' a b => by rw [← hm2, wi_at, if_neg (by omega), wi_at, if_neg (by omega)]
  have hL2 : CL m2 i L := hL.kept (fun k j a b => g2 _ _ _ (by omega) (by omega))
  rw [g2 _ _ _ (by omega) (by omega), o1, timeOf_in hL2 ho, obs, g2 _ _ _ (by omega) (by omega), r1, wa_in hl (by omega), obs]
  generalize hm3 : wi m2 103 0 s.2.length (zM L o.1) = m3
  have g3 : ∀ k i' j', ¬ k = 103 → m3.1 k i' j' = m2.1 k i' j' := fun k i' j' a => by rw [← hm3, wi_at, if_neg (by omega)]
  have hL3 : CL m3 i L := hL2.kept (fun k j a b => g3 _ _ _ (by omega))
  rw [timeOf_in hL3 hj, obs, g3 _ _ _ (by omega), g2 _ _ _ (by omega) (by omega), r1, wa_in hl (by omega), obs]
  generalize hm4 : wi m3 104 0 s.2.length (zM L j) = m4
  have g4 : ∀ k i' j', ¬ k = 104 → m4.1 k i' j' = m3.1 k i' j' := fun k i' j' a => by rw [← hm4, wi_at, if_neg (by omega)]
  have d4 : ∀ k i' j', ¬ (101 ≤ k ∧ k ≤ 104) → m4.1 k i' j' = m.1 k i' j' := fun k i' j' a => by rw [g4 _ _ _ (by omega), g3 _ _ _ (by omega), g2 _ _ _ (by omega) (by omega)]
  rw [ra_in hu (by omega), obs, d4 _ _ _ (by omega), d4 _ _ _ (by omega), r1, o2, wa_in hl (by omega), obs]
  generalize hm5 : wi m4 105 0 s.2.length o.2.1 = m5
  have g5 : ∀ k i' j', ¬ k = 105 → m5.1 k i' j' = m4.1 k i' j' := fun k i' j' a => by rw [← hm5, wi_at, if_neg (by omega)]
  rw [ra_in hu (by omega), obs, g5 _ _ _ (by omega), g5 _ _ _ (by omega), d4 _ _ _ (by omega), d4 _ _ _ (by omega), r1, o3, wa_in hl (by omega), obs]
  generalize hm6 : wi m5 106 0 s.2.length o.2.2 = m6
  have g6 : ∀ k i' j', ¬ k = 106 → m6.1 k i' j' = m5.1 k i' j' := fun k i' j' a => by rw [← hm6, wi_at, if_neg (by omega)]
  have d6 : ∀ k i' j', ¬ (101 ≤ k ∧ k ≤ 106) → m6.1 k i' j' = m.1 k i' j' := fun k i' j' a => by rw [g6 _ _ _ (by omega), g5 _ _ _ (by omega), d4 _ _ _ (by omega)]
  rw [wf_eq, obs, d6 _ _ _ (by omega), r1, s1, wa_in hu (by omega), obs]
  refine ⟨_, rfl, fun v hv => ?_, ?_, fun l x hx => ?_⟩
  · by_cases z : v = u
    · left
      refine ⟨by unfold ju; rw [if_pos z], ?_⟩
      rw [wi_at, if_pos ⟨rfl, rfl, z⟩]
    · have a : ∀ k, 109 ≤ k → (wi (wi m6 100 0 11 (nI (s.2.length + 1))) 109 0 u (-1)).1 k 0 v = m.1 k 0 v := fun k hk => by
        rw [wi_at, if_neg (fun q => z q.2.2), wi_at, if_neg (by omega), d6 _ _ _ (by omega)]
      rw [a _ (by omega), a _ (by omega), a _ (by omega)]
      unfold ju; rw [if_neg z]; exact c v hv
  · rw [wi_at, if_neg (by omega), wi_at, if_pos ⟨rfl, rfl, rfl⟩, List.length_append, List.length_singleton]
  · have a : ∀ k, 101 ≤ k → k ≤ 106 → (wi (wi m6 100 0 11 (nI (s.2.length + 1))) 109 0 u (-1)).1 k 0 l = m6.1 k 0 l := fun k hk hk' => by
      rw [wi_at, if_neg (by omega), wi_at, if_neg (by omega)]
    rw [a _ (by omega) (by omega), a _ (by omega) (by omega), a _ (by omega) (by omega), a _ (by omega) (by omega), a _ (by omega) (by omega), a _ (by omega) (by omega)]
    by_cases z : l = s.2.length
    · subst z
      rw [List.getElem?_append_right (by omega), Nat.sub_self] at hx
      have hx := Option.some.inj hx
      subst hx
      refine ⟨?_, ?_, ?_, ?_, ?_, ?_⟩
      · rw [g6 _ _ _ (by omega), g5 _ _ _ (by omega), g4 _ _ _ (by omega), g3 _ _ _ (by omega), ← hm2, wi_at, if_neg (by omega), wi_at, if_pos ⟨rfl, rfl, rfl⟩]
      · rw [g6 _ _ _ (by omega), g5 _ _ _ (by omega), g4 _ _ _ (by omega), g3 _ _ _ (by omega), ← hm2, wi_at, if_pos ⟨rfl, rfl, rfl⟩]
      · rw [g6 _ _ _ (by omega), g5 _ _ _ (by omega), g4 _ _ _ (by omega), ← hm3, wi_at, if_pos ⟨rfl, rfl, rfl⟩]
      · rw [g6 _ _ _ (by omega), g5 _ _ _ (by omega), ← hm4, wi_at, if_pos ⟨rfl, rfl, rfl⟩]
      · rw [g6 _ _ _ (by omega), ← hm5, wi_at, if_pos ⟨rfl, rfl, rfl⟩]
      · rw [← hm6, wi_at, if_pos ⟨rfl, rfl, rfl⟩]
    · have hx' : s.2[l]? = some x := by
        have : l < (s.2 ++ [(u, o.1, j, o.2.1, o.2.2)]).length := (List.getElem?_eq_some_iff.mp hx).1
        rw [List.length_append, List.length_singleton] at this
        rw [List.getElem?_append_left (by omega)] at hx; exact hx
      have b : ∀ k, m6.1 k 0 l = m.1 k 0 l := fun k => by
        rw [← hm6, wi_at, if_neg (fun q => z q.2.2), ← hm5, wi_at, if_neg (fun q => z q.2.2), ← hm4, wi_at, if_neg (fun q => z q.2.2), ← hm3, wi_at, if_neg (fun q => z q.2.2), ← hm2, wi_at, if_neg (fun q => z q.2.2), wi_at, if_neg (fun q => z q.2.2)]
      rw [b, b, b, b, b, b]
      exact r2 l x hx'
theorem meet_ok {m : Mm} {i j : Nat} {hm : Nat → Bool} {L : La} {s : Js} (hL : CL m i L) (hV : LV hm L) (hj : j < zn L) (v : JV hm L j s) (c : CO m s.1) (r : CR m L s.2) :
    ∃ m', f_X1_meet m i (nI j) = some m' ∧ CO m' (jm L j s).1 ∧ CR m' L (jm L j s).2 := by
  have hn := hL.1
  unfold f_X1_meet
  rw [taskOf_in hL hj, obs]
  have hw' := (hV.2.1 j hj).1
  unfold jm
  by_cases k0 : zK L j = 0
  · obtain ⟨u, u1, u2, u3⟩ := hw' (by rw [k0]; decide)
    rw [u3, if_pos k0, clN (by omega), if_neg (nN0 (by omega)), if_pos (by rw [show (8 : Int32) = nI 8 from rfl, ltN (by omega) (by omega)]; exact u1), kindOf_in hL hj, obs, if_pos k0, wa_in u1 (by omega), obs, wa_in u1 (by omega), obs, wa_in u1 (by omega), obs]
    generalize hm2 : wi (wi (wi m 109 0 u (nI j)) 110 0 u 0) 111 0 u 0 = m2
    have g2 : ∀ k i' j', ¬ (109 ≤ k ∧ k ≤ 111) → m2.1 k i' j' = m.1 k i' j' := fun k i' j' a => by rw [← hm2, wi_at, if_neg (by omega), wi_at, if_neg (by omega), wi_at, if_neg (by omega)]
    have hL2 : CL m2 i L := hL.kept (fun k j a b => g2 _ _ _ (by omega))
    unfold f_X1_meet_b46
    rw [kindOf_in hL2 hj, obs, if_neg (by rw [k0]; decide)]
    refine ⟨_, rfl, fun v hv => ?_, r.kept (fun k j a b => g2 _ _ _ (by omega))⟩
    show (ju s.1 u _ v = _ ∧ _) ∨ _
    by_cases z : v = u
    · right
      refine ⟨(j, 0, 0), by show ju s.1 u _ v = _; unfold ju; rw [if_pos z], ?_, ?_, ?_⟩
      · rw [← hm2, wi_at, if_neg (by omega), wi_at, if_neg (by omega), wi_at, if_pos ⟨rfl, rfl, z⟩]
      · rw [← hm2, wi_at, if_neg (by omega), wi_at, if_pos ⟨rfl, rfl, z⟩]
      · rw [← hm2, wi_at, if_pos ⟨rfl, rfl, z⟩]
    · have b : ∀ k, m2.1 k 0 v = m.1 k 0 v := fun k => by
        rw [← hm2, wi_at, if_neg (fun q => z q.2.2), wi_at, if_neg (fun q => z q.2.2), wi_at, if_neg (fun q => z q.2.2)]
      rw [b, b, b]
      have : ju s.1 u (some (j, 0, 0)) v = s.1 v := by unfold ju; rw [if_neg z]
      have cc := c v hv
      rw [← this] at cc; exact cc
  · rw [if_neg k0]
    by_cases k2 : zK L j = 2
    · obtain ⟨u, u1, u2, u3⟩ := hw' (by rw [k2]; decide)
      rw [u3, if_pos k2, clN (by omega), if_neg (nN0 (by omega)), if_pos (by rw [show (8 : Int32) = nI 8 from rfl, ltN (by omega) (by omega)]; exact u1), kindOf_in hL hj, obs, if_neg k0]
      unfold f_X1_meet_b46
      rw [kindOf_in hL hj, obs, if_pos k2, ra_in u1 (by omega), obs]
      rcases c u u1 with ⟨a, b⟩ | ⟨o, a, b⟩
      · rw [a, b, if_pos rfl]
        exact ⟨m, rfl, c, r⟩
      · have hv := v.1 u o a
        have h3 := v.2.2.1
        rw [a, b.1, if_neg (nn1 (by omega))]
        obtain ⟨m', e, c', r'⟩ := close_ok (j := j) (s := s) hL hj u1 c r a (by omega) (by omega)
        rw [e, obs]
        exact ⟨m', rfl, c', r'⟩
    · rw [if_neg k2]
      have fin : ∀ t, f_X1_meet_b46 m i (nI j) t = some m := fun t => by
        unfold f_X1_meet_b46; rw [kindOf_in hL hj, obs, if_neg k2]
      by_cases q : zT L j < 0
      · rw [if_pos q]; exact ⟨m, rfl, c, r⟩
      · rw [if_neg q, kindOf_in hL hj, obs, if_neg k0, fin]
        split <;> exact ⟨m, rfl, c, r⟩

/-- a stretch that isn't dark is added -/
def jh (hm : Nat → Bool) (L : La) (j n : Nat) (f : Nat → Option Jo) (v : Nat) : Option Jo := if v < n then (f v).map (jx hm L j v) else f v
theorem WK.kept {μ μ' : Mm} {hm : Nat → Bool} {L : La} {j : Nat} (h : WK μ hm L j) (q : ∀ k l, 400 ≤ k → k ≤ 403 → μ'.1 k 21 l = μ.1 k 21 l) (q8 : ∀ l, μ'.1 800 0 l = μ.1 800 0 l) : WK μ' hm L j := by
  obtain ⟨a, b, c⟩ := h
  exact ⟨a.kept q, by rw [q8]; exact b, by rw [q8]; exact c⟩
theorem add_ok {F : Nat} {m : Mm} {j : Nat} {hm : Nat → Bool} {L : La} {f : Nat → Option Jo} (hF : 100 ≤ F) (w : WK m hm L j) (c : CO m f) (hf : ∀ v o, f v = some o → hm v = true ∧ o.1 < 1000) :
    ∃ m', f_X1_addStretch F m = some m' ∧ CO m' (fun v => (f v).map (jx hm L j v)) := by
  unfold f_X1_addStretch
  obtain ⟨m', e, i1, i2⟩ := loop_inv (f_X1_addStretch_b2 F) (fun μ => some μ) 8 (fun n m' => CO m' (jh hm L j n f) ∧ ∀ k i l, ¬ k = 110 → ¬ k = 111 → m'.1 k i l = m.1 k i l) (by
    intro N m1 n hn ⟨i1, i2⟩
    rw [f_X1_addStretch_b2, if_neg (by rw [show (8 : Int32) = nI 8 from rfl]; exact ngt (by omega) (by omega) hn), ra_in hn (by omega), obs, s1]
    rcases i1 n hn with ⟨a, b⟩ | ⟨o, a, b1, b2', b3⟩
    · rw [b, if_pos rfl]
      refine ⟨m1, rfl, fun v hv => ?_, i2⟩
      by_cases z : v = n
      · left
        subst z
        unfold jh at a ⊢
        rw [if_neg (by omega)] at a
        rw [if_pos (by omega), a]; exact ⟨rfl, b⟩
      · have : jh hm L j (n + 1) f v = jh hm L j n f v := by
          unfold jh
          by_cases y : v < n
          · rw [if_pos y, if_pos (by omega)]
          · rw [if_neg y, if_neg (by omega)]
        rw [this]; exact i1 v hv
    · have a' : f n = some o := by unfold jh at a; rw [if_neg (by omega)] at a; exact a
      have w1 : WK m1 hm L j := w.kept (fun k l p q => i2 _ _ _ (by omega) (by omega)) (fun l => i2 _ _ _ (by omega) (by omega))
      have key : ∀ (s0 w0 : Int32), jx hm L j n o = (o.1, o.2.1 + s0, o.2.2 + w0) → ∀ m2, m2 = wi (wi m1 110 0 n (o.2.1 + s0)) 111 0 n (o.2.2 + w0) → CO m2 (jh hm L j (n + 1) f) ∧ ∀ k i l, ¬ k = 110 → ¬ k = 111 → m2.1 k i l = m.1 k i l := by
        intro s0 w0 hx m2 e2
        have g2 : ∀ k i l, ¬ k = 110 → ¬ k = 111 → m2.1 k i l = m1.1 k i l := fun k i l p q => by rw [e2, wi_at, if_neg (by omega), wi_at, if_neg (by omega)]
        refine ⟨fun v hv => ?_, fun k i l p q => (g2 k i l p q).trans (i2 k i l p q)⟩
        by_cases z : v = n
        · right
          subst z
          refine ⟨jx hm L j v o, by unfold jh; rw [if_pos (by omega), a']; rfl, ?_⟩
          rw [hx]
          refine ⟨by rw [g2 _ _ _ (by omega) (by omega)]; exact b1, ?_, ?_⟩
          · rw [e2, wi_at, if_neg (by omega), wi_at, if_pos ⟨rfl, rfl, rfl⟩]
          · rw [e2, wi_at, if_pos ⟨rfl, rfl, rfl⟩]
        · have : jh hm L j (n + 1) f v = jh hm L j n f v := by
            unfold jh
            by_cases y : v < n
            · rw [if_pos y, if_pos (by omega)]
            · rw [if_neg y, if_neg (by omega)]
          have b : ∀ k, m2.1 k 0 v = m1.1 k 0 v := fun k => by
            rw [e2, wi_at, if_neg (fun q => z q.2.2), wi_at, if_neg (fun q => z q.2.2)]
          rw [this, b, b, b]; exact i1 v hv
      have o1 : ¬ m1.1 109 0 n = (-1 : Int32) := by
        rw [b1]; exact nn1 (by have := (hf n o a').2; omega)
      rw [if_neg o1, countsAs_c w1 hn (hf n o a').1, obs, ra_in hn (by omega), obs, w1.2.1, b2']
      have z3 : ∀ s0, (wi m1 110 0 n (o.2.1 + s0)).1 111 0 n = o.2.2 := fun s0 => by rw [wi_at, if_neg (by omega)]; exact b3
      have z8 : ∀ s0, (wi m1 110 0 n (o.2.1 + s0)).1 800 0 1 = ln L j := fun s0 => by rw [wi_at, if_neg (by omega)]; exact w1.2.1
      unfold f_X1_addStretch_b44
      by_cases q2 : ca (sq hm L (j + 1)) (dk hm L j) n = 2
      · rw [if_pos q2, wa_in hn (by omega), obs, ra_in hn (by omega), obs, if_neg (by rw [q2]; decide), z3, wa_in hn (by omega), obs, s1]
        exact ⟨_, rfl, key (ln L j) 0 (by unfold jx; rw [if_pos q2, if_neg (by rw [q2]; decide), add0]) _ rfl⟩
      · rw [if_neg q2, wa_in hn (by omega), obs, ra_in hn (by omega), obs, z3]
        by_cases q3 : ca (sq hm L (j + 1)) (dk hm L j) n = 3
        · rw [if_pos q3, z8, wa_in hn (by omega), obs, s1]
          exact ⟨_, rfl, key 0 (ln L j) (by unfold jx; rw [if_neg q2, if_pos q3, add0]) _ rfl⟩
        · rw [if_neg q3, wa_in hn (by omega), obs, s1]
          exact ⟨_, rfl, key 0 0 (by unfold jx; rw [if_neg q2, if_neg q3, add0, add0]) _ rfl⟩) (by
    intro N m1 _
    rw [f_X1_addStretch_b2, if_pos (by decide)]) F 0 m (by omega) (by omega) ⟨fun v hv => by unfold jh; rw [if_neg (by omega)]; exact c v hv, fun _ _ _ _ _ => rfl⟩
  refine ⟨m', e, fun v hv => ?_⟩
  have := i1 v hv
  unfold jh at this
  rw [if_pos hv] at this
  exact this

theorem meet_fr {m m' : Mm} {i : Nat} {x : Int32} (e : f_X1_meet m i x = some m') : ∀ k i j, ¬ (100 ≤ k ∧ k ≤ 111) → m'.1 k i j = m.1 k i j := fun k i j h => (show sm m m' k i j from (fr_X1_meet (by omega) (by omega) (by omega) (by omega) (by omega) (by omega) (by omega) (by omega) (by omega) (by omega) e)).1
theorem addS_fr {F : Nat} {m m' : Mm} (e : f_X1_addStretch F m = some m') : ∀ k i j, ¬ (110 ≤ k ∧ k ≤ 111) → m'.1 k i j = m.1 k i j := fun k i j h => (show sm m m' k i j from (fr_X1_addStretch (by omega) (by omega) e)).1
theorem gather_sr {F : Nat} {m m' : Mm} {i : Nat} (e : f_X1_gather F m i = some m') : SR m m' := fun k i j h => by unfold scr at h; exact (fr_X1_gather (by omega) (by omega) (by omega) (by omega) (by omega) (by omega) (by omega) (by omega) (by omega) (by omega) (by omega) (by omega) (by omega) (by omega) (by omega) (by omega) (by omega) e)
theorem gather_ok {F : Nat} {μ : Mm} {i : Nat} {hm : Nat → Bool} {L : La} (hF : 1000 ≤ F) (hL : CL μ i L) (hV : LV hm L) :
    ∃ μ', f_X1_gather F μ i = some μ' ∧ SR μ μ' ∧ CR μ' L (js hm L (zn L)).2 := by
  have hn := hL.1
  have key : ∃ μ', f_X1_gather F μ i = some μ' ∧ CR μ' L (js hm L (zn L)).2 := by
    unfold f_X1_gather f_J7_fill_53178
    rw [wf_eq, obs, obs]
    generalize hm0 : fl (wi μ 100 0 11 0) 109 0 8 (-1) 8 = m0
    have g0 : ∀ k i' j', ¬ (k = 100 ∧ i' = 0 ∧ j' = 11) → ¬ (k = 109 ∧ i' = 0) → m0.1 k i' j' = μ.1 k i' j' := fun k i' j' a b => by rw [← hm0, fl_at, if_neg (fun q => b ⟨q.1, q.2.1⟩), wi_at, if_neg a]
    obtain ⟨m1, e1, s1', r1⟩ := start_ok m0 hm
    rw [e1, obs]
    have g1 : ∀ k i' j', ¬ wc k i' → m1.1 k i' j' = m0.1 k i' j' := fun k i' j' a => (s1' k i' j' a).1
    obtain ⟨m', e, i1, i2, i3, i4⟩ := loop_inv (fun N m x => f_X1_gather_b19 F N m i x) (fun μ => some μ) (zn L) (fun j m => CL m i L ∧ RC m 21 (sq hm L j) hm ∧ CO m (js hm L j).1 ∧ CR m L (js hm L j).2) (by
      intro N m j hj ⟨i1, i2, i3, i4⟩
      show ∃ s', f_X1_gather_b19 F (N + 1) m i (nI j) = f_X1_gather_b19 F N s' i (nI (j + 1)) ∧ _
      have hv := JV_all hV j (by omega)
      have hv1 := JV_all hV (j + 1) (by omega)
      rw [f_X1_gather_b19, i1.2.1, if_neg (ngt (by omega) (by omega) hj), s1]
      obtain ⟨m2, e2, c2, r2⟩ := meet_ok i1 hV hj hv i3 i4
      have f2 := meet_fr e2
      have L2 : CL m2 i L := i1.kept (fun k j a b => f2 _ _ _ (by omega))
      have R2 : RC m2 21 (sq hm L j) hm := i2.kept (fun k j a b => f2 _ _ _ (by omega))
      obtain ⟨m3, e3, s3, k3⟩ := step_ok L2 hj hV.2.1 R2
      have f3 : ∀ k i' j', ¬ wc k i' → m3.1 k i' j' = m2.1 k i' j' := fun k i' j' a => (s3 k i' j' a).1
      have c3 : CO m3 (jm L j (js hm L j)).1 := c2.kept (fun k j a b => f3 _ _ _ (by unfold wc; omega))
      have r3 : CR m3 L (jm L j (js hm L j)).2 := r2.kept (fun k j a b => f3 _ _ _ (by unfold wc; omega))
      rw [e2, obs, e3, obs, k3.2.2]
      by_cases d : dk hm L j = true
      · rw [if_neg (by rw [b2_0]; exact fun z => z d)]
        unfold f_J7_fill_53178
        rw [obs]
        have f4 : ∀ k i' j', ¬ k = 109 → (fl m3 109 0 8 (-1) 8).1 k i' j' = m3.1 k i' j' := fun k i' j' a => by rw [fl_at, if_neg (fun q => a q.1)]
        refine ⟨_, rfl, (L2.sw s3).kept (fun k j a b => f4 _ _ _ (by omega)), k3.1.kept (fun k j a b => f4 _ _ _ (by omega)), fun v hv => .inl ⟨?_, ?_⟩, ?_⟩
        · show (ja hm L j (jm L j (js hm L j))).1 v = none
          unfold ja; rw [if_pos d]
        · rw [fl_at, if_pos ⟨rfl, rfl, hv⟩]
        · exact r3.kept (fun k j a b => f4 _ _ _ (by omega))
      · rw [if_pos (by rw [b2_0]; exact d)]
        have hf : ∀ v o, (jm L j (js hm L j)).1 v = some o → hm v = true ∧ o.1 < 1000 := fun v o e => by
          have z := hv1.1 v (jx hm L j v o) (by
            show (ja hm L j (jm L j (js hm L j))).1 v = _
            unfold ja; rw [if_neg d]; show Option.map _ _ = _; rw [e]; rfl)
          have z3 : o.1 < j + 1 := z.2.2
          exact ⟨z.2.1, by omega⟩
        obtain ⟨m4, e4, c4⟩ := add_ok (F := F) (by omega) k3 c3 hf
        have f4 := addS_fr e4
        rw [e4, obs]
        refine ⟨_, rfl, (L2.sw s3).kept (fun k j a b => f4 _ _ _ (by omega)), k3.1.kept (fun k j a b => f4 _ _ _ (by omega)), ?_, r3.kept (fun k j a b => f4 _ _ _ (by omega))⟩
        show CO m4 (ja hm L j (jm L j (js hm L j))).1
        unfold ja; rw [if_neg d]; exact c4) (by
      intro N m ⟨i1, _⟩
      show f_X1_gather_b19 F (N + 1) m i (nI (zn L)) = _
      rw [f_X1_gather_b19, i1.2.1, if_pos (nle (by omega) (by omega) (by omega))]) F 0 m1 (by omega) (by omega) ⟨hL.kept (fun k j a b => by rw [g1 _ _ _ (by unfold wc; omega), g0 _ _ _ (by omega) (by omega)]), r1, fun v hv => .inl ⟨rfl, by
        rw [g1 _ _ _ (by unfold wc; omega), ← hm0, fl_at, if_pos ⟨rfl, rfl, hv⟩]⟩, by
        rw [g1 _ _ _ (by unfold wc; omega), ← hm0, fl_at, if_neg (by omega), wi_at, if_pos ⟨rfl, rfl, rfl⟩]; rfl, fun i x e => absurd e (by simp [js])⟩
    exact ⟨m', e, i4⟩
  obtain ⟨m, e, r⟩ := key
  exact ⟨m, e, gather_sr e, r⟩
