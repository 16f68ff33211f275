/-! the class runs again -/
def CS (μ : Mm) (R : List Jb) (S : Rs) : Prop := ∀ (i : Nat) (x : Jb), R[i]? = some x → μ.1 107 0 i = nI (S.1 x) ∧ μ.1 108 0 i = nI (S.2 x)
theorem goes_ok {μ : Mm} {L : La} {R : List Jb} {rk : Nat → Int32} {k l : Nat} {y x : Jb} (h : CR μ L R) (g : JG L R) (hn : zn L ≤ 200) (hr : ∀ u, u < 8 → μ.1 903 0 u = rk u) (ek : R[k]? = some y) (el : R[l]? = some x) : f_X1_goesAhead μ (nI k) (nI l) = some (if ah rk y x = true then 1 else 0) := by
  have hk := ix_lt ek
  have hl := ix_lt el
  have h66 := g.1
  have gy := g.2.1 y (List.mem_of_getElem? ek)
  have gx := g.2.1 x (List.mem_of_getElem? el)
  have gy1 := gy.1
  have gx1 := gx.1
  have gy2 := gy.2.1
  have gx2 := gx.2.1
  have gy3 := gy.2.2.1
  have gx3 := gx.2.2.1
  clear gy gx
  unfold f_X1_goesAhead
  rw [ra_in (show k < 67 by omega) (by omega), obs, ra_in (show l < 67 by omega) (by omega), obs, (h.2 k y ek).1, (h.2 l x el).1, if_neg (nN0 (by omega)), if_neg (n8 gy1), if_neg (nN0 (by omega)), if_pos (by rw [show (8 : Int32) = nI 8 from rfl, ltN (by omega) (by omega)]; exact gx1), ra_in gy1 (by omega), obs, ra_in gx1 (by omega), obs, hr _ gy1, hr _ gx1]
  by_cases q : rk y.1 = rk x.1
  · have q' : (rk y.1).toInt = (rk x.1).toInt := by rw [q]
    rw [if_pos q]
    by_cases t : y.1 = x.1
    · rw [if_pos (by rw [t]), ra_in (show k < 67 by omega) (by omega), obs, ra_in (show l < 67 by omega) (by omega), obs, (h.2 k y ek).2.1, (h.2 l x el).2.1]
      by_cases z : x.2.1 ≤ y.2.1
      · rw [if_pos (nle (by omega) (by omega) z), if_neg (show ¬ ah rk y x = true by unfold ah; rw [decide_eq_true_iff]; omega)]
      · rw [if_neg (ngt (by omega) (by omega) (by omega)), if_pos (show ah rk y x = true by unfold ah; rw [decide_eq_true_iff]; omega)]
    · rw [if_neg (fun w => t ((eqN (by omega) (by omega)).mp w))]
      by_cases z : x.1 ≤ y.1
      · rw [if_pos (nle (by omega) (by omega) z), if_neg (show ¬ ah rk y x = true by unfold ah; rw [decide_eq_true_iff]; omega)]
      · rw [if_neg (ngt (by omega) (by omega) (by omega)), if_pos (show ah rk y x = true by unfold ah; rw [decide_eq_true_iff]; omega)]
  · have q' : ¬ (rk y.1).toInt = (rk x.1).toInt := fun w => q (Int32.toInt_inj.mp w)
    rw [if_neg q, obs, obs]
    by_cases z : rk y.1 ≤ rk x.1
    · rw [if_pos z]
      rw [leT] at z
      rw [if_neg (show ¬ ah rk y x = true by unfold ah; rw [decide_eq_true_iff]; omega)]
    · rw [if_neg z]
      rw [leT] at z
      rw [if_pos (show ah rk y x = true by unfold ah; rw [decide_eq_true_iff]; omega)]
theorem mem_take1 {X : Type} {R : List X} {k : Nat} {y : X} (e : R[k]? = some y) {z : X} (hz : z ∈ R.take (k + 1)) : z ∈ R.take k ∨ z = y := by
  have et : R.take (k + 1) = R.take k ++ [y] := by rw [List.take_succ, e]; rfl
  rw [et] at hz
  rcases List.mem_append.mp hz with hz | hz
  · exact .inl hz
  · rw [List.mem_singleton] at hz; exact .inr hz
theorem foremost_ok {F : Nat} {μ : Mm} {L : La} {R : List Jb} {rk : Nat → Int32} {S : Rs} {i : Nat} (hF : 1000 ≤ F) (h : CR μ L R) (g : JG L R) (hr : ∀ u, u < 8 → μ.1 903 0 u = rk u) (hs : CS μ R S) (hb : SB S) (hn : zn L ≤ 200) (hi : i < 1000) : ∃ r, f_X1_foremost F μ (nI i) = some r ∧ ((r = -1 ∧ best R rk S i = none) ∨ ∃ k x, r = nI k ∧ R[k]? = some x ∧ best R rk S i = some x) := by
  have hl := g.1
  unfold f_X1_foremost
  obtain ⟨r, e, iv⟩ := loop_inv (fun N a x => f_X1_foremost_b5 F μ N (nI i) a x) some R.length (fun k a => (a = -1 ∧ ∀ y, y ∈ R.take k → av S i y = false) ∨ ∃ l x, l < k ∧ a = nI l ∧ R[l]? = some x ∧ av S i x = true ∧ ∀ y, y ∈ R.take k → av S i y = true → ah rk y x = false) (by
    intro N a k hk iv
    have e : R[k]? = some R[k] := List.getElem?_eq_getElem hk
    generalize R[k] = y at e
    have gy := g.2.1 y (List.mem_of_getElem? e)
    have gy2 := gy.2.1
    have gy3 := gy.2.2.1
    clear gy
    have c := h.2 k y e
    have cs := hs k y e
    have b1 := (hb y).1
    show ∃ s', f_X1_foremost_b5 F μ (N + 1) (nI i) a (nI k) = f_X1_foremost_b5 F μ N (nI i) s' (nI (k + 1)) ∧ _
    have skipI : av S i y = false → ((a = -1 ∧ ∀ z, z ∈ R.take (k + 1) → av S i z = false) ∨ ∃ l x, l < k + 1 ∧ a = nI l ∧ R[l]? = some x ∧ av S i x = true ∧ ∀ z, z ∈ R.take (k + 1) → av S i z = true → ah rk z x = false) := fun q => by
      rcases iv with ⟨h1, h2⟩ | ⟨l, x, h1, h2, h3, h4, h5⟩
      · left
        refine ⟨h1, fun z hz => ?_⟩
        rcases mem_take1 e hz with hz | hz
        · exact h2 z hz
        · rw [hz]; exact q
      · right
        refine ⟨l, x, by omega, h2, h3, h4, fun z hz ha => ?_⟩
        rcases mem_take1 e hz with hz | hz
        · exact h5 z hz ha
        · rw [hz, q] at ha; exact absurd ha (by decide)
    rw [f_X1_foremost_b5, h.1, if_neg (ngt (by omega) (by omega) hk), if_neg (by rw [show (67 : Int32) = nI 67 from rfl]; exact ngt (by omega) (by omega) (by omega)), ra_in (show k < 67 by omega) (by omega), obs, c.2.1, ra_in (show k < 67 by omega) (by omega), obs, cs.1]
    by_cases q1 : i < y.2.1
    · rw [if_pos ((ltN (by omega) (by omega)).mpr q1)]
      unfold f_X1_foremost_b47
      rw [if_pos rfl, s1]
      exact ⟨a, rfl, skipI (by unfold av; rw [decide_eq_false_iff_not]; omega)⟩
    · rw [if_neg (fun w => q1 ((ltN (by omega) (by omega)).mp w))]
      by_cases q2 : S.1 y = 0
      · rw [if_pos (by rw [q2]; decide)]
        unfold f_X1_foremost_b47
        rw [if_pos rfl, s1]
        exact ⟨a, rfl, skipI (by unfold av; rw [decide_eq_false_iff_not]; exact fun z => z.2 q2)⟩
      · rw [if_neg (by rw [show (0 : Int32) = nI 0 from rfl, leN (by omega) (by omega)]; omega)]
        have ay : av S i y = true := by unfold av; rw [decide_eq_true_iff]; exact ⟨by omega, q2⟩
        unfold f_X1_foremost_b47
        rw [if_neg i10, s1]
        rcases iv with ⟨h1, h2⟩ | ⟨l, x, h1, h2, h3, h4, h5⟩
        · rw [if_pos h1]
          refine ⟨nI k, rfl, .inr ⟨k, y, by omega, rfl, e, ay, fun z hz ha => ?_⟩⟩
          rcases mem_take1 e hz with hz | hz
          · rw [h2 z hz] at ha; exact absurd ha (by decide)
          · rw [hz]; exact ah_irr _ _
        · rw [if_neg (by rw [h2]; exact nn1 (by omega)), h2, goes_ok h g hn hr e h3]
          by_cases b : ah rk y x = true
          · rw [if_pos b, obs, if_neg i10]
            refine ⟨nI k, rfl, .inr ⟨k, y, by omega, rfl, e, ay, fun z hz ha => ?_⟩⟩
            rcases mem_take1 e hz with hz | hz
            · cases d : ah rk z y with
              | false => rfl
              | true => have := ah_trans d b; rw [h5 z hz ha] at this; exact absurd this (by decide)
            · rw [hz]; exact ah_irr _ _
          · rw [if_neg b, obs, if_pos rfl]
            refine ⟨nI l, rfl, .inr ⟨l, x, by omega, rfl, h3, h4, fun z hz ha => ?_⟩⟩
            rcases mem_take1 e hz with hz | hz
            · exact h5 z hz ha
            · rw [hz]; exact Bool.eq_false_iff.mpr b) (by
    intro N a _
    show f_X1_foremost_b5 F μ (N + 1) (nI i) a (nI R.length) = _
    rw [f_X1_foremost_b5, h.1, if_pos (nle (by omega) (by omega) (by omega))]) F 0 (-1) (by omega) (by omega) (.inl ⟨rfl, fun y hy => absurd hy (by simp)⟩)
  refine ⟨r, e, ?_⟩
  rw [List.take_length] at iv
  rcases iv with ⟨h1, h2⟩ | ⟨l, x, h1, h2, h3, h4, h5⟩
  · exact .inl ⟨h1, best_no h2⟩
  · exact .inr ⟨l, x, h2, h3, best_eq g (List.mem_of_getElem? h3) h4 h5⟩
theorem has_neg (μ : Mm) : f_X1_has μ (-1) = some 0 := by unfold f_X1_has; rw [if_pos (by decide)]
theorem run_c {F : Nat} {L : La} {R : List Jb} {rk : Nat → Int32} {i e : Nat} (hF : 1000 ≤ F) (g : JG L R) (hn : zn L ≤ 200) (hi : i < 1000) (he : e ≤ 1073741824) : ∀ (k t N c : Nat) (S : Rs) (μ : Mm), k + t = 68 → k < N → c < 2000000000 → CR μ L R → (∀ u, u < 8 → μ.1 903 0 u = rk u) → CS μ R S → SB S → ∃ μ', f_X1_runJobs_b6 F N μ (nI i) (nI e) (nI c) (nI t) = some μ' ∧ CS μ' R (runA R rk i e k c S) ∧ ∀ k i j, ¬ (k = 107 ∨ k = 108) → μ'.1 k i j = μ.1 k i j
  | 0, t, N, c, S, μ, h1, h2, hc, h3, h4, h5, h6 => by
    obtain ⟨M, rfl⟩ : ∃ M, N = M + 1 := ⟨N - 1, by omega⟩
    have : t = 68 := by omega
    subst this
    rw [f_X1_runJobs_b6, if_pos (by decide)]
    exact ⟨μ, rfl, h5, fun _ _ _ _ => rfl⟩
  | k + 1, t, N, c, S, μ, h1, h2, hc, h3, h4, h5, h6 => by
    obtain ⟨M, rfl⟩ : ∃ M, N = M + 1 := ⟨N - 1, by omega⟩
    rw [f_X1_runJobs_b6, if_neg (by rw [show (67 : Int32) = nI 67 from rfl, ltN (by omega) (by omega)]; omega)]
    by_cases q : e ≤ c
    · rw [if_pos ((leN (by omega) (by omega)).mpr q), runA_end q]
      exact ⟨μ, rfl, h5, fun _ _ _ _ => rfl⟩
    · rw [if_neg (fun w => q ((leN (by omega) (by omega)).mp w))]
      obtain ⟨r, er, hr⟩ := foremost_ok hF h3 g h4 h5 h6 hn hi
      rw [er, obs]
      rcases hr with ⟨rfl, hb⟩ | ⟨l, x, rfl, hx, hb⟩
      · rw [has_neg, obs, if_pos rfl, runA_none hb]
        exact ⟨μ, rfl, h5, fun _ _ _ _ => rfl⟩
      · have hl := ix_lt hx
        have h66 := g.1
        have cs := h5 l x hx
        have b := (h6 x).1
        have p := pt_le S x e c
        have p1 := p.1
        have p2 := p.2.1
        clear p
        have ep : (if nI e - nI c < nI (S.1 x) then nI e - nI c else nI (S.1 x)) = nI (pt S x e c) := by
          rw [nI_sub (by omega)]; unfold pt
          by_cases z : e - c < S.1 x
          · rw [if_pos ((ltN (by omega) (by omega)).mpr z), if_pos z]
          · rw [if_neg (fun w => z ((ltN (by omega) (by omega)).mp w)), if_neg z]
        rw [r_has h3 g.1 hl, obs, if_neg i10, ra_in (show l < 67 by omega) (by omega), obs, obs, cs.1, ep, wa_in (show l < 67 by omega) (by omega), obs, wa_in (show l < 67 by omega) (by omega), obs, nI_sub p1, nI_add, s1, runA_some q hb]
        generalize hm2 : wi (wi μ 107 0 l (nI (S.1 x - pt S x e c))) 108 0 l (nI (c + pt S x e c)) = m2
        have g2 : ∀ k i' j', ¬ (k = 107 ∨ k = 108) → m2.1 k i' j' = μ.1 k i' j' := fun k i' j' a => by rw [← hm2, wi_at, if_neg (by omega), wi_at, if_neg (by omega)]
        have cs2 : CS m2 R (stp S x (pt S x e c) (c + pt S x e c)) := fun l' y hy => by
          by_cases z : l' = l
          · subst z
            have : x = y := Option.some.inj (hx.symm.trans hy)
            subst this
            refine ⟨?_, ?_⟩
            · rw [← hm2, wi_at, if_neg (by omega), wi_at, if_pos ⟨rfl, rfl, rfl⟩]
              show _ = nI (if x = x then _ else _); rw [if_pos rfl]
            · rw [← hm2, wi_at, if_pos ⟨rfl, rfl, rfl⟩]
              show _ = nI (if x = x then _ else _); rw [if_pos rfl]
          · have ne : ¬ y = x := fun w => z (g.at1 (w ▸ hy) hx)
            have o := h5 l' y hy
            refine ⟨?_, ?_⟩
            · rw [← hm2, wi_at, if_neg (fun w => z w.2.2), wi_at, if_neg (fun w => z w.2.2), o.1]
              show _ = nI (if y = x then _ else _); rw [if_neg ne]
            · rw [← hm2, wi_at, if_neg (fun w => z w.2.2), wi_at, if_neg (fun w => z w.2.2), o.2]
              show _ = nI (if y = x then _ else _); rw [if_neg ne]
        obtain ⟨μ', e', c', f'⟩ := run_c (rk := rk) hF g hn hi he k (t + 1) M (c + pt S x e c) _ m2 (by omega) (by omega) (by omega) (h3.kept (fun k j a b => g2 _ _ _ (by omega))) (fun u hu => by rw [g2 _ _ _ (by omega)]; exact h4 u hu) cs2 (SB_stp h6 (by omega))
        exact ⟨μ', e', c', fun k i j a => (f' k i j a).trans (g2 k i j a)⟩
theorem runJobs_ok {F : Nat} {L : La} {R : List Jb} {rk : Nat → Int32} {i e c : Nat} {S : Rs} {μ : Mm} (hF : 1000 ≤ F) (g : JG L R) (hn : zn L ≤ 200) (hi : i < 1000) (he : e ≤ 1073741824) (hc : c < 2000000000) (h3 : CR μ L R) (h4 : ∀ u, u < 8 → μ.1 903 0 u = rk u) (h5 : CS μ R S) (h6 : SB S) : ∃ μ', f_X1_runJobs F μ (nI i) (nI c) (nI e) = some μ' ∧ CS μ' R (runA R rk i e 68 c S) ∧ ∀ k i j, ¬ (k = 107 ∨ k = 108) → μ'.1 k i j = μ.1 k i j :=
  run_c hF g hn hi he 68 0 F c S μ (by omega) (by omega) hc h3 h4 h5 h6
