/-! CALLS: put, copy -/
theorem narrow_eq {μ m : Mm} {d : Nat} {v : Int64} {s : Int32} (h : μ.1 600 d 1 = s) : ∃ w, f_X6_narrow μ d v = some w ∧ f_X10_narrowed m s v = some w := by
  unfold f_X6_narrow f_X10_narrowed
  rw [h]
  split
  · exact ⟨_, rfl, rfl⟩
  · split
    · exact ⟨_, rfl, rfl⟩
    · split
      · exact ⟨_, rfl, rfl⟩
      · exact ⟨_, rfl, rfl⟩
theorem hasPl1 {μ : Mm} {d n : Nat} {x c : Int32} (h : μ.1 600 d 2 = nI n) (hn : n ≤ 100) : f_X6_hasPlaces μ d x.toInt64 c = some (if 0 ≤ x.toInt ∧ 0 ≤ c.toInt ∧ x.toInt + c.toInt ≤ n then 1 else 0) := by
  have hb := i32b x
  rw [hasPl (by rw [t64]; omega), t64, h, nIT (by omega)]
  by_cases q : 0 ≤ x.toInt ∧ 0 ≤ c.toInt ∧ x.toInt + c.toInt ≤ n
  · rw [if_pos q, if_pos (by omega)]
  · rw [if_neg q, if_neg (by omega)]
theorem toN (x : Int32) (h : 0 ≤ x.toInt) : x = nI x.toInt.toNat := by
  rw [eqT, nIT (by have := i32b x; omega)]; omega
theorem op_put {μ : Mm} (h : Rel μ) (x y : Int32) (v : Int64) : OK2 (fun μ => f_X9_put μ x y v) (fun μ => f_X10_put μ x y v) μ := by
  obtain ⟨D, C, h⟩ := id h
  have hR : Rel μ := ⟨D, C, h⟩
  unfold OK2 f_X9_put f_X10_put
  dsimp only
  rcases isTape_c μ x with ⟨q1, q2⟩ | ⟨d, hd, rfl⟩
  · exact ⟨-1, μ, μ, by rw [q1, obs, if_pos rfl], by rw [q2, obs, if_pos rfl], hR⟩
  obtain ⟨-, -, -, -, -, h6, h7⟩ := id h
  obtain ⟨s, s0, t1, t2, t3, -⟩ := h7 d hd
  rw [isTape_in hd, obs, if_neg i10, rq_in hd (by omega), obs, t1]
  by_cases z0 : nI s = 0
  · rw [if_pos z0, refuse_c, obs]
    refine ⟨-11, _, _, rfl, ?_, D, C, h.refuse⟩
    rw [isTapeM_in hd, obs, if_neg i10, ra9 _ _ _ _ _ _ (by omega), ra_in hd (by omega), obs, t2, if_pos z0, refuse_m, obs, wi9 _ _ _ _ _ (by omega)]
  rw [if_neg z0]
  by_cases z5 : nI s = 5
  · rw [if_pos z5, refuse_c, obs]
    refine ⟨-12, _, _, rfl, ?_, D, C, h.refuse⟩
    rw [isTapeM_in hd, obs, if_neg i10, ra9 _ _ _ _ _ _ (by omega), ra_in hd (by omega), obs, t2, if_neg z0, obs, if_pos z5, refuse_m, obs, wi9 _ _ _ _ _ (by omega)]
  rw [if_neg z5]
  have s1' : 1 ≤ s := by
    rcases Nat.eq_zero_or_pos s with e | e
    · exact absurd (by rw [e]; rfl) z0
    · exact e
  have s4 : s ≤ 4 := by
    rcases Nat.lt_or_ge s 5 with e | e
    · omega
    · exact absurd (by rw [show s = 5 by omega]; rfl) z5
  obtain ⟨n, n1, n2, n3, n4⟩ := t3 s1' s4
  clear t3
  have isin : ∀ m : Mm, (∀ k j, 1000 ≤ k → m.1 k 0 j = μ.1 k 0 j) → f_X10_isIn m (nI d) y = some (if 0 ≤ y.toInt ∧ y.toInt + 1 ≤ n then 1 else 0) := fun m hm => by
    unfold f_X10_isIn
    rw [ra_in hd (by omega), obs, hm _ _ (by omega), n3]
    rcases ix2 y (n := n) (by omega) with q | ⟨j, hj, rfl⟩
    · rw [in_out (by omega) q, obs, if_neg]
      · rfl
      · rw [ltT, leT, nIT (by omega), show (0 : Int32).toInt = 0 from by decide] at q; omega
    · rw [in_in (by omega) hj, obs, if_pos (by rw [nIT (by omega)]; omega)]; rfl
  rw [hasPl1 n2 n1, obs, show (1 : Int32).toInt = 1 from by decide]
  by_cases q : 0 ≤ y.toInt ∧ y.toInt + 1 ≤ n
  · obtain ⟨j, hj, rfl⟩ : ∃ j, j < n ∧ y = nI j := ⟨y.toInt.toNat, by omega, toN y q.1⟩
    obtain ⟨w, w1, w2⟩ := narrow_eq (v := v) (m := wj μ 601 d j v) t1
    rw [if_pos (show 0 ≤ (nI j).toInt ∧ (0 : Int) ≤ 1 ∧ (nI j).toInt + 1 ≤ (n : Int) by omega), if_neg i10, w1, obs, wg_in (by omega) (by omega), obs]
    refine ⟨1, wj μ 601 d j w, wj (wj μ 601 d j w) 1022 0 (100 * d + j) w, rfl, ?_, D, C, h.tapes h6 (fun e he => ?_) (fun _ _ _ _ _ _ _ _ _ => rfl)⟩
    · have w3 : f_X10_narrowed (wj μ 601 d j w) (nI s) v = some w := w2
      rw [isTapeM_in hd, obs, if_neg i10, ra_in hd (by omega), obs, wj_1, t2, if_neg z0, obs, if_neg z5, isin (wj μ 601 d j w) (fun _ _ _ => rfl), if_pos q, obs, if_neg i10, obs, w3, obs, show (100 : Int32) = nI 100 from rfl, pk_mul, nI_add, wg_in (by omega) (by omega), obs]
    · by_cases z : e = d
      · subst z
        refine ⟨s, s0, t1, t2, fun _ _ => ⟨n, n1, n2, n3, fun l hl => ?_⟩, fun a => by omega⟩
        rw [wj_at, wj_at, wj_at, wj_at]
        by_cases el : l = j
        · rw [if_neg (by omega), if_pos ⟨rfl, rfl, el⟩, if_pos ⟨rfl, rfl, by omega⟩]
        · rw [if_neg (by omega), if_neg (by omega), if_neg (by omega), if_neg (by omega)]; exact n4 l hl
      · exact (h7 e he).other he z (fun _ _ _ _ _ _ _ _ _ => rfl) (fun k i l a b c => by rw [wj_at, if_neg (by omega), wj_at, if_neg (by omega)])
  · rw [if_neg (show ¬ (0 ≤ y.toInt ∧ (0 : Int) ≤ 1 ∧ y.toInt + 1 ≤ (n : Int)) by omega), if_pos rfl, refuse_c, obs]
    refine ⟨-13, _, _, rfl, ?_, D, C, h.refuse⟩
    rw [isTapeM_in hd, obs, if_neg i10, ra9 _ _ _ _ _ _ (by omega), ra_in hd (by omega), obs, t2, if_neg z0, obs, if_neg z5, isin _ (fun k j hk => wi9 _ _ _ _ _ hk), if_neg q, obs, if_pos rfl, refuse_m, obs, wi9 _ _ _ _ _ (by omega)]
theorem subT {a : Nat} {x : Int32} (ha : a ≤ 100) (hx : 0 ≤ x.toInt) : (nI a - x).toInt = a - x.toInt := by
  have hb := i32b x
  rw [Int32.toInt_sub, nIT (by omega)]
  exact Int.bmod_eq_of_le (by omega) (by omega)
theorem op_copy {F : Nat} {μ : Mm} (hF : 1000 ≤ F) (h : Rel μ) (x i y j c : Int32) : OK2 (fun μ => f_X9_copy μ x i y j c) (fun μ => f_X10_copy F μ x i y j c) μ := by
  obtain ⟨D, C, h⟩ := id h
  have hR : Rel μ := ⟨D, C, h⟩
  unfold OK2 f_X9_copy f_X10_copy
  dsimp only
  rcases isTape_c μ x with ⟨q1, q2⟩ | ⟨d, hd, rfl⟩
  · exact ⟨-1, μ, μ, by rw [q1, obs, if_pos rfl], by rw [q2, obs, if_pos rfl], hR⟩
  rw [isTape_in hd, obs, if_neg i10]
  rcases isTape_c μ y with ⟨q1, q2⟩ | ⟨e, he, rfl⟩
  · exact ⟨-1, μ, μ, by rw [q1, obs, if_pos rfl], by rw [isTapeM_in hd, obs, if_neg i10, q2, obs, if_pos rfl], hR⟩
  obtain ⟨-, -, -, -, -, h6, h7⟩ := id h
  obtain ⟨s, s0, t1, t2, t3, -⟩ := h7 d hd
  obtain ⟨s', s0', u1, u2, u3, -⟩ := h7 e he
  have mh : ∀ m : Mm, f_X10_isTape m (nI d) = some 1 ∧ f_X10_isTape m (nI e) = some 1 := fun m => ⟨isTapeM_in hd, isTapeM_in he⟩
  rw [isTape_in he, obs, if_neg i10, rq_in hd (by omega), obs, rq_in he (by omega), obs, t1, u1]
  by_cases z0 : nI s = 0
  · rw [if_pos z0, refuse_c, obs]
    refine ⟨-11, _, _, rfl, ?_, D, C, h.refuse⟩
    rw [(mh _).1, obs, if_neg i10, (mh _).2, obs, if_neg i10, ra9 _ _ _ _ _ _ (by omega), ra_in hd (by omega), obs, t2, if_pos z0, refuse_m, obs, wi9 _ _ _ _ _ (by omega)]
  rw [if_neg z0]
  by_cases z0' : nI s' = 0
  · rw [if_pos z0', refuse_c, obs]
    refine ⟨-11, _, _, rfl, ?_, D, C, h.refuse⟩
    rw [(mh _).1, obs, if_neg i10, (mh _).2, obs, if_neg i10, ra9 _ _ _ _ _ _ (by omega), ra_in hd (by omega), obs, t2, if_neg z0, ra9 _ _ _ _ _ _ (by omega), ra_in he (by omega), obs, u2, if_pos z0', refuse_m, obs, wi9 _ _ _ _ _ (by omega)]
  rw [if_neg z0']
  have s1' : 1 ≤ s := by
    rcases Nat.eq_zero_or_pos s with e | e
    · exact absurd (by rw [e]; rfl) z0
    · exact e
  have hrow : f_X6_hasRow μ d = some (if s = 5 then 0 else 1) := by
    unfold f_X6_hasRow
    rw [t1, if_neg (by rw [show (1 : Int32) = nI 1 from rfl, ltN (by omega) (by omega)]; omega)]
    by_cases z : s = 5
    · rw [if_pos z, if_pos (by rw [show (4 : Int32) = nI 4 from rfl, ltN (by omega) (by omega)]; omega)]
    · rw [if_neg z, if_neg (by rw [show (4 : Int32) = nI 4 from rfl, ltN (by omega) (by omega)]; omega)]
  rw [hrow, obs]
  by_cases z5 : s = 5
  · rw [if_pos z5, if_pos rfl, refuse_c, obs]
    refine ⟨-12, _, _, rfl, ?_, D, C, h.refuse⟩
    rw [(mh _).1, obs, if_neg i10, (mh _).2, obs, if_neg i10, ra9 _ _ _ _ _ _ (by omega), ra_in hd (by omega), obs, t2, if_neg z0, ra9 _ _ _ _ _ _ (by omega), ra_in he (by omega), obs, u2, if_neg z0', obs, if_pos (by rw [z5]; rfl), refuse_m, obs, wi9 _ _ _ _ _ (by omega)]
  have z5' : ¬ nI s = 5 := fun z => z5 ((eqN (b := 5) (by omega) (by omega)).mp z)
  rw [if_neg z5, if_neg i10]
  by_cases zs : nI s = nI s'
  · have es : s = s' := (eqN (by omega) (by omega)).mp zs
    subst es
    obtain ⟨n, n1, n2, n3, n4⟩ := t3 s1' (by omega)
    obtain ⟨n', n1', n2', n3', n4'⟩ := u3 s1' (by omega)
    clear t3 u3
    rw [if_pos rfl, hasPl1 n2 n1, obs, hasPl1 n2' n1', obs]
    have mod : ∀ m : Mm, (∀ k j, 1000 ≤ k → m.1 k 0 j = μ.1 k 0 j) → f_X10_copy F m (nI d) i (nI e) j c = (if (0 ≤ i.toInt ∧ 0 ≤ c.toInt ∧ i.toInt + c.toInt ≤ n) ∧ (0 ≤ j.toInt ∧ 0 ≤ c.toInt ∧ j.toInt + c.toInt ≤ n') then f_X10_copy_b124 F F m (nI d) i (nI e) j c 0 else some (-13, wi m 1000 0 18 (m.1 1000 0 18 + 1))) := fun m hm => by
      unfold f_X10_copy f_X10_copy_b114
      rw [(mh _).1, obs, if_neg i10, (mh _).2, obs, if_neg i10, ra_in hd (by omega), obs, hm _ _ (by omega), t2, if_neg z0, ra_in he (by omega), obs, hm _ _ (by omega), u2, if_neg z0', obs, if_neg z5', obs, obs, if_pos rfl, ra_in hd (by omega), obs, hm _ _ (by omega), n3, ra_in he (by omega), obs, hm _ _ (by omega), n3', refuse_m, obs]
      by_cases a1 : c < 0
      · rw [if_pos a1]; rw [ltT, show (0 : Int32).toInt = 0 from by decide] at a1; rw [if_neg (by omega)]
      rw [if_neg a1]; rw [ltT, show (0 : Int32).toInt = 0 from by decide] at a1
      by_cases a2 : i < 0
      · rw [if_pos a2]; rw [ltT, show (0 : Int32).toInt = 0 from by decide] at a2; rw [if_neg (by omega)]
      rw [if_neg a2]; rw [ltT, show (0 : Int32).toInt = 0 from by decide] at a2
      by_cases a3 : j < 0
      · rw [if_pos a3]; rw [ltT, show (0 : Int32).toInt = 0 from by decide] at a3; rw [if_neg (by omega)]
      rw [if_neg a3]; rw [ltT, show (0 : Int32).toInt = 0 from by decide] at a3
      by_cases a4 : nI n - i < c
      · rw [if_pos a4]; rw [ltT, subT n1 (by omega)] at a4; rw [if_neg (by omega)]
      rw [if_neg a4]; rw [ltT, subT n1 (by omega)] at a4
      by_cases a5 : c ≤ nI n' - j
      · rw [if_pos a5]; rw [leT, subT n1' (by omega)] at a5; rw [if_pos (by omega)]
      · rw [if_neg a5]; rw [leT, subT n1' (by omega)] at a5; rw [if_neg (by omega)]
    by_cases q : 0 ≤ i.toInt ∧ 0 ≤ c.toInt ∧ i.toInt + c.toInt ≤ n
    · by_cases q' : 0 ≤ j.toInt ∧ 0 ≤ c.toInt ∧ j.toInt + c.toInt ≤ n'
      · obtain ⟨a, ha, ei⟩ : ∃ a, a + c.toInt.toNat ≤ n ∧ i = nI a := ⟨i.toInt.toNat, by omega, toN i q.1⟩
        obtain ⟨b, hb, ej⟩ : ∃ b, b + c.toInt.toNat ≤ n' ∧ j = nI b := ⟨j.toInt.toNat, by omega, toN j q'.1⟩
        obtain ⟨cn, hcn, ec⟩ : ∃ cn, cn = c.toInt.toNat ∧ c = nI cn := ⟨c.toInt.toNat, rfl, toN c q.2.1⟩
        rw [← hcn] at ha hb
        rw [if_pos q, if_neg i10, if_pos q', if_neg i10]
        have ecp : cpL μ 601 d 100 601 e 100 i j c = some (sl μ 601 e (va_cpy (μ.2 601 d) (μ.2 601 e) a b cn)) := by
          unfold cpL
          rw [ei, ej, ec, clN (by omega), clN (by omega), clN (by omega), if_neg]
          intro z
          rcases z with z | z | z | z | z
          · exact nN0 (by omega) z
          · exact nN0 (by omega) z
          · exact nN0 (by omega) z
          · omega
          · omega
        rw [ecp, obs]
        generalize hm1 : sl μ 601 e (va_cpy (μ.2 601 d) (μ.2 601 e) a b cn) = m1
        have p1 : m1.1 = μ.1 := by rw [← hm1]; rfl
        have p2 : ∀ k l o, m1.2 k l o = if k = 601 ∧ l = e then va_cpy (μ.2 601 d) (μ.2 601 e) a b cn o else μ.2 k l o := fun k l o => by rw [← hm1, sl_at]
        clear hm1
        -- the reference's two loops
        obtain ⟨m2, f1, i1, i2, i3⟩ := loop_inv (fun N m x => f_X10_copy_b124 F N m (nI d) i (nI e) j c x) (fun m => f_X10_copy_b161 F F m (nI e) j c 0) cn (fun l m => (∀ o, o < l → m.2 1055 0 o = μ.2 1022 0 (100 * d + a + o)) ∧ m.1 = m1.1 ∧ ∀ k z o, ¬ k = 1055 → m.2 k z o = m1.2 k z o) (by
            intro N m l hl ⟨i1, i2, i3⟩
            show ∃ s', f_X10_copy_b124 F (N + 1) m (nI d) i (nI e) j c (nI l) = f_X10_copy_b124 F N s' (nI d) i (nI e) j c (nI (l + 1)) ∧ _
            rw [f_X10_copy_b124, ec, if_neg (ngt (by omega) (by omega) hl), ei, show (100 : Int32) = nI 100 from rfl, pk_mul, nI_add, nI_add, rl_in (by omega) (by omega), obs, wg_in (by omega) (by omega), obs, s1]
            refine ⟨_, rfl, fun o ho => ?_, i2, fun k z o hk => ?_⟩
            · rw [wj_at]
              by_cases eo : o = l
              · rw [if_pos ⟨rfl, rfl, eo⟩, i3 _ _ _ (by omega), p2, if_neg (by omega), eo]
              · rw [if_neg (fun z => eo z.2.2)]; exact i1 o (by omega)
            · rw [wj_at, if_neg (fun z => hk z.1)]; exact i3 k z o hk) (by
            intro N m _
            show f_X10_copy_b124 F (N + 1) m (nI d) i (nI e) j c (nI cn) = _
            rw [f_X10_copy_b124, ec, if_pos (nle (by omega) (by omega) (by omega))]) F 0 m1 (by omega) (by omega) ⟨fun o ho => by omega, rfl, fun _ _ _ _ => rfl⟩
        have f1' : f_X10_copy_b124 F F m1 (nI d) i (nI e) j c 0 = f_X10_copy_b161 F F m2 (nI e) j c 0 := f1
        obtain ⟨m3, g1, j1, j2, j3⟩ := loop_inv (fun N m x => f_X10_copy_b161 F N m (nI e) j c x) (fun m => some (c, m)) cn (fun l m => (∀ o, o < l → m.2 1022 0 (100 * e + b + o) = μ.2 1022 0 (100 * d + a + o)) ∧ m.1 = m1.1 ∧ ∀ k z o, ¬ (k = 1022 ∧ z = 0 ∧ 100 * e + b ≤ o ∧ o < 100 * e + b + l) → m.2 k z o = m2.2 k z o) (by
            intro N m l hl ⟨i1', i2', i3'⟩
            show ∃ s', f_X10_copy_b161 F (N + 1) m (nI e) j c (nI l) = f_X10_copy_b161 F N s' (nI e) j c (nI (l + 1)) ∧ _
            rw [f_X10_copy_b161, ec, if_neg (ngt (by omega) (by omega) hl), ej, rl_in (by omega) (by omega), obs, show (100 : Int32) = nI 100 from rfl, pk_mul, nI_add, nI_add, wg_in (by omega) (by omega), obs, s1]
            refine ⟨_, rfl, fun o ho => ?_, i2', fun k z o hk => ?_⟩
            · rw [wj_at]
              by_cases eo : o = l
              · rw [if_pos ⟨rfl, rfl, by omega⟩, i3' _ _ _ (by omega), i1 l hl, eo]
              · rw [if_neg (by omega)]; exact i1' o (by omega)
            · rw [wj_at, if_neg (by omega)]; exact i3' k z o (by omega)) (by
            intro N m _
            show f_X10_copy_b161 F (N + 1) m (nI e) j c (nI cn) = _
            rw [f_X10_copy_b161, ec, if_pos (nle (by omega) (by omega) (by omega))]) F 0 m2 (by omega) (by omega) ⟨fun o ho => by omega, i2, fun _ _ _ _ => rfl⟩
        have g1' : f_X10_copy_b161 F F m2 (nI e) j c 0 = some (c, m3) := g1
        have pm3 : m3.1 = μ.1 := j2.trans p1
        refine ⟨c, m1, m3, rfl, ?_, D, C, h.tapes ?_ (fun o ho => ?_) (fun k i j _ _ _ _ _ _ => by rw [pm3])⟩
        · show f_X10_copy F m1 (nI d) i (nI e) j c = _
          rw [mod m1 (fun k j _ => by rw [p1]), if_pos ⟨q, q'⟩, f1', g1']
        · exact ⟨by rw [pm3]; exact h6.1, by rw [pm3]; exact h6.2⟩
        · by_cases z : o = e
          · subst z
            refine ⟨s, s0, by rw [pm3]; exact u1, by rw [pm3]; exact u2, fun _ _ => ⟨n', n1', by rw [pm3]; exact n2', by rw [pm3]; exact n3', fun l hl => ?_⟩, fun w => by omega⟩
            rw [j3 601 _ _ (by omega), i3 601 _ _ (by omega), p2, if_pos ⟨rfl, rfl⟩]
            unfold va_cpy
            by_cases w : b ≤ l ∧ l < b + cn
            · rw [if_pos w]
              have := j1 (l - b) (by omega)
              rw [show 100 * o + b + (l - b) = 100 * o + l by omega] at this
              rw [this, n4 (a + (l - b)) (by omega), show 100 * d + a + (l - b) = 100 * d + (a + (l - b)) by omega]
            · rw [if_neg w, j3 _ _ _ (by omega), i3 _ _ _ (by omega), p2, if_neg (by omega)]; exact n4' l hl
          · exact (h7 o ho).other ho z (fun k i j _ _ _ _ _ _ => by rw [pm3]) (fun k i l x1 x2 x3 => by rw [j3 _ _ _ (by omega), i3 _ _ _ (by omega), p2, if_neg x1])
      · rw [if_pos q, if_neg i10, if_neg q', if_pos rfl, refuse_c, obs]
        refine ⟨-13, _, _, rfl, ?_, D, C, h.refuse⟩
        show f_X10_copy F (wi μ 900 0 10 (μ.1 900 0 10 + 1)) (nI d) i (nI e) j c = _
        rw [mod _ (fun k j hk => wi9 _ _ _ _ _ hk), if_neg (fun z => q' z.2), wi9 _ _ _ _ _ (by omega)]
    · rw [if_neg q, if_pos rfl, refuse_c, obs]
      refine ⟨-13, _, _, rfl, ?_, D, C, h.refuse⟩
      show f_X10_copy F (wi μ 900 0 10 (μ.1 900 0 10 + 1)) (nI d) i (nI e) j c = _
      rw [mod _ (fun k j hk => wi9 _ _ _ _ _ hk), if_neg (fun z => q z.1), wi9 _ _ _ _ _ (by omega)]
  · rw [if_neg zs, refuse_c, obs]
    refine ⟨-12, _, _, rfl, ?_, D, C, h.refuse⟩
    rw [(mh _).1, obs, if_neg i10, (mh _).2, obs, if_neg i10, ra9 _ _ _ _ _ _ (by omega), ra_in hd (by omega), obs, t2, if_neg z0, ra9 _ _ _ _ _ _ (by omega), ra_in he (by omega), obs, u2, if_neg z0', obs, if_neg z5', obs, obs, if_neg zs, refuse_m, obs, wi9 _ _ _ _ _ (by omega)]
