/-! CALL: period -/
theorem sub64 {a b : Int64} (ha : -1099511627776 < a.toInt ∧ a.toInt < 1099511627776) (hb : -1099511627776 < b.toInt ∧ b.toInt < 1099511627776) : (a - b).toInt = a.toInt - b.toInt := by
  rw [Int64.toInt_sub]; exact Int.bmod_eq_of_le (by omega) (by omega)
theorem mul64 {a b : Int64} (h : -1099511627776 < a.toInt * b.toInt ∧ a.toInt * b.toInt < 1099511627776) : (a * b).toInt = a.toInt * b.toInt := by
  rw [Int64.toInt_mul]; exact Int.bmod_eq_of_le (by omega) (by omega)
theorem l2j {P : Int64} {y : Nat} (h : P.toInt = y) (hy : y < 2147483648) : P.toInt32 = nI y := by
  apply Int32.toInt_inj.mp
  rw [Int64.toInt_toInt32, h, nIT hy]
  exact Int.bmod_eq_of_le (by omega) (by omega)
theorem half {a : Nat} (h : a < 2147483648) : nI a / (2 : Int32) = nI (a / 2) := by
  apply Int32.toInt_inj.mp
  rw [Int32.toInt_div_of_ne_right _ _ (by decide), nIT h, nIT (by omega), show (2 : Int32).toInt = 2 from by decide]
  exact (Int.ofNat_tdiv a 2).symm
def jv (L : La) (q k : Nat) (x : Jb) : Int := (zm L x.2.1 : Int) - (k : Int) * (q : Int)
def jG (L : La) (q : Nat) (s : Int × Int × Nat) (x : Jb) : Int × Int × Nat := (if jv L q s.2.2 x < s.1 then jv L q s.2.2 x else s.1, if jv L q s.2.2 x < s.2.1 then s.2.1 else jv L q s.2.2 x, s.2.2 + 1)
def jR (L : La) (q : Nat) (f : Int) (J : List Jb) : Int × Int × Nat := J.foldl (jG L q) (f, f, 0)
def jn (L : La) (f : Int) (J : List Jb) (q : Nat) : Nat := ((jR L q f J).2.1 - (jR L q f J).1).toNat
theorem kq_b {k q : Nat} (hk : k ≤ 66) (hq : q ≤ 13107201) : 0 ≤ (k : Int) * (q : Int) ∧ (k : Int) * (q : Int) ≤ 880000000 := by
  have : k * q ≤ 66 * 13107201 := Nat.mul_le_mul hk hq
  have e : (k : Int) * (q : Int) = ((k * q : Nat) : Int) := (Int.natCast_mul k q).symm
  rw [e]; omega
theorem jv_b {L : La} {q k : Nat} {x : Jb} (hk : k ≤ 66) (hq : q ≤ 13107201) (hz : zm L x.2.1 ≤ 13107200) : -900000000 ≤ jv L q k x ∧ jv L q k x ≤ 13107200 := by
  have := kq_b hk hq
  unfold jv; omega
theorem jF_b {L : La} {q : Nat} (hq : q ≤ 13107201) : ∀ (J : List Jb) (s : Int × Int × Nat), (-900000000 ≤ s.1 ∧ s.1 ≤ s.2.1 ∧ s.2.1 ≤ 13107200) → s.2.2 + J.length ≤ 66 → (∀ x, x ∈ J → zm L x.2.1 ≤ 13107200) → (-900000000 ≤ (J.foldl (jG L q) s).1 ∧ (J.foldl (jG L q) s).1 ≤ (J.foldl (jG L q) s).2.1 ∧ (J.foldl (jG L q) s).2.1 ≤ 13107200) ∧ (J.foldl (jG L q) s).2.2 = s.2.2 + J.length
  | [], s, h, _, _ => ⟨h, rfl⟩
  | x :: J, s, h, hl, hx => by
    rw [List.length_cons] at hl
    have b := jv_b (L := L) (q := q) (k := s.2.2) (x := x) (by omega) hq (hx x List.mem_cons_self)
    have := jF_b hq J (jG L q s x) (by
      show -900000000 ≤ (if jv L q s.2.2 x < s.1 then jv L q s.2.2 x else s.1) ∧ (if jv L q s.2.2 x < s.1 then jv L q s.2.2 x else s.1) ≤ (if jv L q s.2.2 x < s.2.1 then s.2.1 else jv L q s.2.2 x) ∧ (if jv L q s.2.2 x < s.2.1 then s.2.1 else jv L q s.2.2 x) ≤ 13107200
      split <;> split <;> omega) (by show s.2.2 + 1 + J.length ≤ 66; omega) (fun y hy => hx y (List.mem_cons_of_mem _ hy))
    rw [List.foldl_cons]
    refine ⟨this.1, this.2.trans ?_⟩
    show s.2.2 + 1 + J.length = s.2.2 + (x :: J).length
    rw [List.length_cons]; omega
theorem jR_b {L : La} {q : Nat} {f : Int} {J : List Jb} (hq : q ≤ 13107201) (hf : 0 ≤ f ∧ f ≤ 13107200) (hl : J.length ≤ 66) (hx : ∀ x, x ∈ J → zm L x.2.1 ≤ 13107200) : (-900000000 ≤ (jR L q f J).1 ∧ (jR L q f J).1 ≤ (jR L q f J).2.1 ∧ (jR L q f J).2.1 ≤ 13107200) ∧ (jR L q f J).2.2 = J.length := by
  have := jF_b (L := L) hq J (f, f, 0) (by show -900000000 ≤ f ∧ f ≤ f ∧ f ≤ 13107200; omega) (by show 0 + J.length ≤ 66; omega) hx
  exact ⟨this.1, this.2.trans (by show 0 + J.length = _; omega)⟩
theorem jR_app (L : La) (q : Nat) (f : Int) (J : List Jb) (x : Jb) : jR L q f (J ++ [x]) = jG L q (jR L q f J) x := by
  unfold jR; rw [List.foldl_append]; rfl
theorem jn_b {L : La} {q : Nat} {f : Int} {J : List Jb} (hq : q ≤ 13107201) (hf : 0 ≤ f ∧ f ≤ 13107200) (hl : J.length ≤ 66) (hx : ∀ x, x ∈ J → zm L x.2.1 ≤ 13107200) : jn L f J q < 1000000000 ∧ (jn L f J q : Int) = (jR L q f J).2.1 - (jR L q f J).1 := by
  have := (jR_b hq hf hl hx).1
  unfold jn; omega
theorem jof_app (u : Nat) (R : List Jb) (x : Jb) : jof u (R ++ [x]) = if x.1 = u then jof u R ++ [x] else jof u R := by
  unfold jof
  rw [List.filter_append]
  by_cases h : x.1 = u
  · rw [if_pos h, List.filter_cons_of_pos (by simp [h]), List.filter_nil]
  · rw [if_neg h, List.filter_cons_of_neg (by simp [h]), List.filter_nil, List.append_nil]
theorem zm_b {hm : Nat → Bool} {L : La} {R : List Jb} (hV : LV hm L) (g : JG L R) {x : Jb} (hx : x ∈ R) : zm L x.2.1 ≤ 13107200 ∧ zM L x.2.1 = nI (zm L x.2.1) := by
  obtain ⟨-, a, b, -⟩ := g.2.1 x hx
  have hn := hV.1
  have := hV.2.2.2.2.2.1 x.2.1 (by omega)
  exact ⟨by omega, this.1⟩
/-- a job's distance from its place, in long numbers -/
theorem jv64 {L : La} {q k : Nat} {x : Jb} {a : Int64} (hk : k ≤ 66) (hq : q ≤ 13107201) (hz : zm L x.2.1 ≤ 13107200) (ez : zM L x.2.1 = nI (zm L x.2.1)) (ha : a.toInt = (k : Int)) : ((zM L x.2.1).toInt64 - a * (nI q).toInt64).toInt = jv L q k x := by
  have b := kq_b hk hq
  have e1 : (nI q).toInt64.toInt = (q : Int) := by rw [t64, nIT (by omega)]
  have e2 : (zM L x.2.1).toInt64.toInt = (zm L x.2.1 : Int) := by rw [t64, ez, nIT (by omega)]
  have e3 : (a * (nI q).toInt64).toInt = (k : Int) * (q : Int) := by rw [mul64 (by rw [ha, e1]; omega), ha, e1]
  rw [sub64 (by omega) (by omega), e2, e3]; rfl
theorem first_ok {F u : Nat} {μ : Mm} {L : La} {R : List Jb} {x0 : Jb} (hF : 1000 ≤ F) (h : CR μ L R) (g : JG L R) (hu : u < 8) (e0 : (jof u R)[0]? = some x0) : f_X1_firstReadyOf F μ (nI u) = some (zM L x0.2.1) := by
  have h66 := g.1
  unfold f_X1_firstReadyOf
  obtain ⟨r, er, hr⟩ := rowOf_ok (F := F) (u := u) (i := 0) hF h g.1 (fun x hx' => (g.2.1 x hx').1) hu (by omega)
  rw [show (0 : Int32) = nI 0 from rfl, er, obs]
  rcases hr with ⟨-, hq⟩ | ⟨k, y, rfl, hk, hy⟩
  · have := ix_lt e0; omega
  · rw [e0] at hy
    have hk' := ix_lt hk
    rw [r_has h g.1 hk', obs, if_neg (show ¬ (1 : Int32) = nI 0 from i10), ra_in (by omega) (by omega), obs, (h.2 k y hk).2.2.1, Option.some.inj hy]
theorem last_ok {F u : Nat} {μ : Mm} {L : La} {R : List Jb} {x1 : Jb} (hF : 1000 ≤ F) (h : CR μ L R) (g : JG L R) (hu : u < 8) (e1 : (jof u R)[(jof u R).length - 1]? = some x1) : f_X1_lastReadyOf F μ (nI u) = some (zM L x1.2.1) := by
  have h66 := g.1
  have hl := jof_le u R
  have h1 := ix_lt e1
  unfold f_X1_lastReadyOf
  obtain ⟨r, er, hr⟩ := rowOf_ok (F := F) (u := u) (i := (jof u R).length - 1) hF h g.1 (fun x hx' => (g.2.1 x hx').1) hu (by omega)
  rw [many_ok hF h g.1 (fun x hx' => (g.2.1 x hx').1) hu, obs, nsub1 (by omega), er, obs]
  rcases hr with ⟨-, hq⟩ | ⟨k, y, rfl, hk, hy⟩
  · omega
  · rw [e1] at hy
    have hk' := ix_lt hk
    rw [r_has h g.1 hk', obs, if_neg i10, ra_in (by omega) (by omega), obs, (h.2 k y hk).2.2.1, Option.some.inj hy]
theorem jitter_c {F u q : Nat} {μ : Mm} {hm : Nat → Bool} {L : La} {R : List Jb} {x0 : Jb} (hF : 1000 ≤ F) (hV : LV hm L) (h : CR μ L R) (g : JG L R) (hu : u < 8) (hq : q ≤ 13107201) (e0 : (jof u R)[0]? = some x0) : ∃ d, f_X1_jitterOf F μ (nI u) (nI q) = some d ∧ d.toInt = (jn L (zm L x0.2.1) (jof u R) q : Int) := by
  have h66 := g.1
  have hx0 := zm_b hV g (jof_mem (List.mem_of_getElem? e0)).1
  have f0 : (zM L x0.2.1).toInt64.toInt = (zm L x0.2.1 : Int) := by rw [t64, hx0.2, nIT (by omega)]
  unfold f_X1_jitterOf
  rw [first_ok hF h g hu e0, obs]
  have bd : ∀ k, (jof u (R.take k)).length ≤ 66 ∧ ∀ x, x ∈ jof u (R.take k) → zm L x.2.1 ≤ 13107200 := fun k => by
    refine ⟨?_, fun x hx => ?_⟩
    · have := jof_le u (R.take k); rw [List.length_take] at this; omega
    · exact (zm_b hV g (List.mem_of_mem_take (jof_mem hx).1)).1
  obtain ⟨a, e, i1, i2, i3⟩ := loop_inv (fun N (a : Int64 × Int64 × Int64) x => f_X1_jitterOf_b16 F μ N (nI u) (nI q) a.1 a.2.1 a.2.2 x) (fun a => some (a.2.1 - a.1)) R.length (fun k a => a.1.toInt = (jR L q (zm L x0.2.1) (jof u (R.take k))).1 ∧ a.2.1.toInt = (jR L q (zm L x0.2.1) (jof u (R.take k))).2.1 ∧ a.2.2.toInt = ((jR L q (zm L x0.2.1) (jof u (R.take k))).2.2 : Int)) (by
    intro N a k hk ⟨i1, i2, i3⟩
    have e : R[k]? = some R[k] := List.getElem?_eq_getElem hk
    generalize R[k] = x at e
    have hx := List.mem_of_getElem? e
    have zx := zm_b hV g hx
    have c := h.2 k x e
    have b := jR_b (L := L) (f := (zm L x0.2.1 : Int)) hq (by omega) (bd k).1 (bd k).2
    have et : R.take (k + 1) = R.take k ++ [x] := by rw [List.take_succ, e]; rfl
    show ∃ s' : Int64 × Int64 × Int64, f_X1_jitterOf_b16 F μ (N + 1) (nI u) (nI q) a.1 a.2.1 a.2.2 (nI k) = f_X1_jitterOf_b16 F μ N (nI u) (nI q) s'.1 s'.2.1 s'.2.2 (nI (k + 1)) ∧ _
    rw [f_X1_jitterOf_b16, h.1, if_neg (ngt (by omega) (by omega) hk), isOf_in h g.1 e (g.2.1 x hx).1 hu, obs, s1, et, jof_app]
    by_cases z : x.1 = u
    · rw [if_pos z, jR_app]
      rw [if_pos (decide_eq_true z), if_neg i10, ra_in (show k < 67 by omega) (by omega), obs, c.2.2.1]
      generalize jR L q (zm L x0.2.1) (jof u (R.take k)) = s at i1 i2 i3 b ⊢
      have bl := (bd k).1
      have ev := jv64 (L := L) (x := x) (k := s.2.2) (by omega) hq zx.1 zx.2 i3
      generalize (zM L x.2.1).toInt64 - a.2.2 * (nI q).toInt64 = v at ev ⊢
      refine ⟨(_, _, _), rfl, ?_, ?_, ?_⟩
      · show (if v < a.1 then v else a.1).toInt = if jv L q s.2.2 x < s.1 then jv L q s.2.2 x else s.1
        by_cases w : jv L q s.2.2 x < s.1
        · rw [if_pos w, if_pos (by rw [ltT64]; omega), ev]
        · rw [if_neg w, if_neg (by rw [ltT64]; omega), i1]
      · show (if v < a.2.1 then a.2.1 else v).toInt = if jv L q s.2.2 x < s.2.1 then s.2.1 else jv L q s.2.2 x
        by_cases w : jv L q s.2.2 x < s.2.1
        · rw [if_pos w, if_pos (by rw [ltT64]; omega), i2]
        · rw [if_neg w, if_neg (by rw [ltT64]; omega), ev]
      · show (a.2.2 + (1 : Int64)).toInt = ((s.2.2 + 1 : Nat) : Int)
        rw [add64 (by omega) (by decide), i3, show (1 : Int64).toInt = 1 from by decide]; omega
    · rw [if_neg z]
      rw [if_neg (show ¬ decide (x.1 = u) = true by rw [decide_eq_true_iff]; exact z), if_pos rfl]
      exact ⟨a, rfl, i1, i2, i3⟩) (by
    intro N a _
    show f_X1_jitterOf_b16 F μ (N + 1) (nI u) (nI q) a.1 a.2.1 a.2.2 (nI R.length) = _
    rw [f_X1_jitterOf_b16, h.1, if_pos (nle (by omega) (by omega) (by omega))]) F 0 ((zM L x0.2.1).toInt64, (zM L x0.2.1).toInt64, 0) (by omega) (by omega) ⟨f0, f0, rfl⟩
  rw [List.take_length] at i1 i2
  have hb := bd R.length
  rw [List.take_length] at hb
  have b := jR_b (L := L) (f := (zm L x0.2.1 : Int)) hq (by omega) hb.1 hb.2
  have nb := jn_b (L := L) (f := (zm L x0.2.1 : Int)) hq (by omega) hb.1 hb.2
  refine ⟨a.2.1 - a.1, e, ?_⟩
  rw [sub64 (by omega) (by omega), nb.2, i1, i2]
