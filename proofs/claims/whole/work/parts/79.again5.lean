/-! the reference runs again -/
def Qlt (x y : Jb) : Prop := x.1 < y.1 ∨ (x.1 = y.1 ∧ x.2.1 < y.2.1)
def QG (R Q : List Jb) : Prop := Q.length ≤ 66 ∧ (∀ x, x ∈ Q ↔ x ∈ R) ∧ Q.Pairwise Qlt
theorem QG.nd {R Q : List Jb} (h : QG R Q) : Q.Nodup := h.2.2.imp (fun {x y} q e => by subst e; unfold Qlt at q; omega)
def MWk (μ : Mm) (L : La) (Q : List Jb) (S : Rs) : Prop := μ.1 1000 0 48 = nI Q.length ∧ ∀ (w : Nat) (x : Jb), Q[w]? = some x → μ.1 1050 0 w = nI x.1 ∧ μ.1 1052 0 w = nI (zm L x.2.1) ∧ μ.1 1053 0 w = nI (S.1 x) ∧ μ.1 1054 0 w = if S.1 x = 0 then nI (S.2 x) else -1
theorem MWk.kept {μ μ' : Mm} {L : La} {Q : List Jb} {S : Rs} (h : MWk μ L Q S) (q : ∀ k j, 1050 ≤ k ∨ (k = 1000 ∧ j = 48) → μ'.1 k 0 j = μ.1 k 0 j) : MWk μ' L Q S := by
  refine ⟨by rw [q _ _ (by omega)]; exact h.1, fun w x e => ?_⟩
  rw [q 1050 _ (by omega), q 1052 _ (by omega), q 1053 _ (by omega), q 1054 _ (by omega)]; exact h.2 w x e
theorem nIne1 {a : Nat} (h : a < 2147483648) : ¬ nI a = (-1 : Int32) := fun e => by
  have : (nI a).toInt = (-1 : Int32).toInt := by rw [e]
  rw [nIT h, show (-1 : Int32).toInt = -1 from by decide] at this; omega
def RK (μ : Mm) (rk : Nat → Int32) : Prop := ∀ u, u < 8 → rk u = (if μ.1 1007 0 u = -1 then μ.1 1006 0 u else μ.1 1007 0 u)
theorem otherOf_m {μ : Mm} {rk : Nat → Int32} (h : RK μ rk) {u : Nat} (hu : u < 8) : f_X10_otherOf μ (nI u) = some (rk u) := by
  unfold f_X10_otherOf
  rw [ra_in hu (by omega), obs, ra_in hu (by omega), obs, obs, h u hu]
  split <;> rfl
theorem chosen_ok {F : Nat} {μ : Mm} {L : La} {R Q : List Jb} {rk : Nat → Int32} {S : Rs} {i c : Nat} (hF : 1000 ≤ F) (g : JG L R) (q : QG R Q) (h : MWk μ L Q S) (ho : RK μ rk) (hb : SB S) (ht : ∀ x, x ∈ R → zm L x.2.1 < 100000000) (hc : c < 2000000000) (hav : ∀ x, x ∈ R → (zm L x.2.1 ≤ c ↔ x.2.1 ≤ i)) : ∃ r, f_X10_chosen F μ (nI c) = some r ∧ ((r = -1 ∧ best R rk S i = none) ∨ ∃ k x, r = nI k ∧ Q[k]? = some x ∧ best R rk S i = some x) := by
  have hl := q.1
  unfold f_X10_chosen
  obtain ⟨r, e, iv⟩ := loop_inv (fun N a x => f_X10_chosen_b4 F μ N (nI c) a x) some Q.length (fun k a => (a = -1 ∧ ∀ v y, v < k → Q[v]? = some y → av S i y = false) ∨ ∃ l x, l < k ∧ a = nI l ∧ Q[l]? = some x ∧ av S i x = true ∧ ∀ v y, v < k → Q[v]? = some y → av S i y = true → (rk y.1).toInt ≤ (rk x.1).toInt ∧ (v < l → (rk y.1).toInt < (rk x.1).toInt)) (by
    intro N a k hk iv
    have e : Q[k]? = some Q[k] := List.getElem?_eq_getElem hk
    generalize Q[k] = y at e
    have hy : y ∈ R := (q.2.1 y).mp (List.mem_of_getElem? e)
    have gy := (g.2.1 y hy).1
    have m := h.2 k y e
    have b1 := (hb y).1
    have b2' := (hb y).2
    have tb := ht y hy
    have ha := hav y hy
    show ∃ s', f_X10_chosen_b4 F μ (N + 1) (nI c) a (nI k) = f_X10_chosen_b4 F μ N (nI c) s' (nI (k + 1)) ∧ _
    have skipI : av S i y = false → ((a = -1 ∧ ∀ v z, v < k + 1 → Q[v]? = some z → av S i z = false) ∨ ∃ l x, l < k + 1 ∧ a = nI l ∧ Q[l]? = some x ∧ av S i x = true ∧ ∀ v z, v < k + 1 → Q[v]? = some z → av S i z = true → (rk z.1).toInt ≤ (rk x.1).toInt ∧ (v < l → (rk z.1).toInt < (rk x.1).toInt)) := fun w => by
      rcases iv with ⟨h1, h2⟩ | ⟨l, x, h1, h2, h3, h4, h5⟩
      · left
        refine ⟨h1, fun v z hv hz => ?_⟩
        by_cases p : v = k
        · rw [p, e] at hz; rw [← Option.some.inj hz]; exact w
        · exact h2 v z (by omega) hz
      · right
        refine ⟨l, x, by omega, h2, h3, h4, fun v z hv hz hz' => ?_⟩
        by_cases p : v = k
        · rw [p, e] at hz; rw [← Option.some.inj hz, w] at hz'; exact absurd hz' (by decide)
        · exact h5 v z (by omega) hz hz'
    rw [f_X10_chosen_b4, h.1, if_neg (ngt (by omega) (by omega) hk), ra_in (show k < 400 by omega) (by omega), obs, m.2.2.2, s1]
    by_cases q2 : S.1 y = 0
    · rw [if_pos q2, if_neg (nIne1 (by omega))]
      exact ⟨a, rfl, skipI (by unfold av; rw [decide_eq_false_iff_not]; exact fun z => z.2 q2)⟩
    · rw [if_neg q2, if_pos rfl, ra_in (show k < 400 by omega) (by omega), obs, m.2.1]
      by_cases q1 : c < zm L y.2.1
      · rw [if_pos ((ltN (by omega) (by omega)).mpr q1)]
        exact ⟨a, rfl, skipI (by unfold av; rw [decide_eq_false_iff_not]; omega)⟩
      · rw [if_neg (fun w => q1 ((ltN (by omega) (by omega)).mp w))]
        have ay : av S i y = true := by unfold av; rw [decide_eq_true_iff]; exact ⟨by omega, q2⟩
        unfold f_X10_chosen_b65
        rw [if_neg i10, if_pos rfl, s1]
        rcases iv with ⟨h1, h2⟩ | ⟨l, x, h1, h2, h3, h4, h5⟩
        · rw [if_pos h1]
          refine ⟨nI k, rfl, .inr ⟨k, y, by omega, rfl, e, ay, fun v z hv hz hz' => ?_⟩⟩
          by_cases p : v = k
          · rw [p, e] at hz; rw [← Option.some.inj hz]; exact ⟨Int.le_refl _, fun w => by omega⟩
          · rw [h2 v z (by omega) hz] at hz'; exact absurd hz' (by decide)
        · have gx := (g.2.1 x ((q.2.1 x).mp (List.mem_of_getElem? h3))).1
          rw [if_neg (by rw [h2]; exact nn1 (by omega)), h2, ra_in (show k < 400 by omega) (by omega), obs, m.1, otherOf_m ho gy, obs, ra_in (show l < 400 by omega) (by omega), obs, (h.2 l x h3).1, otherOf_m ho gx, obs]
          by_cases b : rk y.1 ≤ rk x.1
          · rw [if_pos b]
            rw [leT] at b
            refine ⟨nI l, rfl, .inr ⟨l, x, by omega, rfl, h3, h4, fun v z hv hz hz' => ?_⟩⟩
            by_cases p : v = k
            · rw [p, e] at hz; rw [← Option.some.inj hz]; exact ⟨b, fun w => by omega⟩
            · exact h5 v z (by omega) hz hz'
          · rw [if_neg b]
            rw [leT] at b
            refine ⟨nI k, rfl, .inr ⟨k, y, by omega, rfl, e, ay, fun v z hv hz hz' => ?_⟩⟩
            by_cases p : v = k
            · rw [p, e] at hz; rw [← Option.some.inj hz]; exact ⟨Int.le_refl _, fun w => by omega⟩
            · have := (h5 v z (by omega) hz hz').1
              exact ⟨by omega, fun _ => by omega⟩) (by
    intro N a _
    show f_X10_chosen_b4 F μ (N + 1) (nI c) a (nI Q.length) = _
    rw [f_X10_chosen_b4, h.1, if_pos (nle (by omega) (by omega) (by omega))]) F 0 (-1) (by omega) (by omega) (.inl ⟨rfl, fun v y hv => by omega⟩)
  refine ⟨r, e, ?_⟩
  rcases iv with ⟨h1, h2⟩ | ⟨l, x, h1, h2, h3, h4, h5⟩
  · refine .inl ⟨h1, best_no (fun y hy => ?_)⟩
    obtain ⟨v, ev⟩ := at_of_mem ((q.2.1 y).mpr hy)
    exact h2 v y (ix_lt ev) ev
  · refine .inr ⟨l, x, h2, h3, best_eq g ((q.2.1 x).mp (List.mem_of_getElem? h3)) h4 (fun y hy ha => ?_)⟩
    obtain ⟨v, ev⟩ := at_of_mem ((q.2.1 y).mpr hy)
    obtain ⟨a1, a2⟩ := h5 v y (ix_lt ev) ev ha
    rcases Nat.lt_trichotomy v l with p | p | p
    · have := a2 p
      unfold ah; rw [decide_eq_false_iff_not]; omega
    · rw [p, h3] at ev; rw [← Option.some.inj ev]; exact ah_irr _ _
    · have := pw_at q.2.2 h3 ev p
      unfold Qlt at this
      unfold ah; rw [decide_eq_false_iff_not]; omega
theorem next_ok {F : Nat} {μ : Mm} {L : La} {R Q : List Jb} {S : Rs} {c e : Nat} (hF : 1000 ≤ F) (q : QG R Q) (h : MWk μ L Q S) (ht : ∀ x, x ∈ R → zm L x.2.1 < 100000000) (hc : c < 2000000000) (he : e < 2000000000) (hav : ∀ x, x ∈ R → zm L x.2.1 ≤ c ∨ e ≤ zm L x.2.1) : f_X10_nextComing F μ (nI c) (nI e) = some (nI e) := by
  have hl := q.1
  unfold f_X10_nextComing
  obtain ⟨r, e', rfl⟩ := loop_inv (fun N a x => f_X10_nextComing_b5 F μ N (nI c) a x) some Q.length (fun _ a => a = nI e) (by
    intro N a k hk iv
    subst iv
    have e1 : Q[k]? = some Q[k] := List.getElem?_eq_getElem hk
    generalize Q[k] = y at e1
    have hy : y ∈ R := (q.2.1 y).mp (List.mem_of_getElem? e1)
    have m := h.2 k y e1
    have tb := ht y hy
    show ∃ s', f_X10_nextComing_b5 F μ (N + 1) (nI c) (nI e) (nI k) = f_X10_nextComing_b5 F μ N (nI c) s' (nI (k + 1)) ∧ _
    refine ⟨nI e, ?_, rfl⟩
    rw [f_X10_nextComing_b5, h.1, if_neg (ngt (by omega) (by omega) hk), ra_in (show k < 400 by omega) (by omega), obs, obs, obs, m.2.1, s1]
    rcases hav y hy with z | z
    · rw [if_pos ((leN (by omega) (by omega)).mpr z)]
    · by_cases z1 : zm L y.2.1 ≤ c
      · rw [if_pos ((leN (by omega) (by omega)).mpr z1)]
      · rw [if_neg (fun w => z1 ((leN (by omega) (by omega)).mp w)), if_pos ((leN (by omega) (by omega)).mpr z)]) (by
    intro N a _
    show f_X10_nextComing_b5 F μ (N + 1) (nI c) a (nI Q.length) = _
    rw [f_X10_nextComing_b5, h.1, if_pos (nle (by omega) (by omega) (by omega))]) F 0 (nI e) (by omega) (by omega) rfl
  exact e'
theorem stp_s (S : Rs) (x : Jb) (n c : Nat) : (stp S x n c).1 x = S.1 x - n ∧ (stp S x n c).2 x = c := ⟨if_pos rfl, if_pos rfl⟩
theorem stp_n (S : Rs) {x y : Jb} (n c : Nat) (h : ¬ y = x) : (stp S x n c).1 y = S.1 y ∧ (stp S x n c).2 y = S.2 y := ⟨if_neg h, if_neg h⟩
theorem b55_ok {F : Nat} {μ : Mm} {L : La} {R Q : List Jb} {S : Rs} {c w n : Nat} {x : Jb} {a : Int32} (K : Mm → Int32 → Int32 → Option Mm) (q : QG R Q) (h : MWk μ L Q S) (hb : SB S) (ew : Q[w]? = some x) (hn : n ≤ S.1 x) (hc : c + n < 2000000000) :
    ∃ m2, f_X10_runs_b55 F K μ a (nI c) (nI w) (nI n) = K m2 a (nI (c + n)) ∧ MWk m2 L Q (stp S x n (c + n)) ∧ ∀ k i j, ¬ (k = 1053 ∨ k = 1054) → m2.1 k i j = μ.1 k i j := by
  have hw := ix_lt ew
  have hl := q.1
  have b := (hb x).1
  have m := h.2 w x ew
  unfold f_X10_runs_b55
  have wv : (wi μ 1053 0 w (nI (S.1 x - n))).1 1053 0 w = nI (S.1 x - n) := by rw [wi_at, if_pos ⟨rfl, rfl, rfl⟩]
  rw [ra_in (show w < 400 by omega) (by omega), obs, m.2.2.1, nI_sub hn, wa_in (show w < 400 by omega) (by omega), obs, ra_in (show w < 400 by omega) (by omega), obs, wv, wa_in (show w < 400 by omega) (by omega), obs, wa_in (show w < 400 by omega) (by omega), obs, nI_add]
  have key : ∀ v : Int32, v = (if S.1 x - n = 0 then nI (c + n) else -1) → MWk (wi (wi μ 1053 0 w (nI (S.1 x - n))) 1054 0 w v) L Q (stp S x n (c + n)) ∧ ∀ k i j, ¬ (k = 1053 ∨ k = 1054) → (wi (wi μ 1053 0 w (nI (S.1 x - n))) 1054 0 w v).1 k i j = μ.1 k i j := fun v hv => by
    have f : ∀ k i j, ¬ (k = 1053 ∨ k = 1054) → (wi (wi μ 1053 0 w (nI (S.1 x - n))) 1054 0 w v).1 k i j = μ.1 k i j := fun k i j a => by rw [wi_at, if_neg (by omega), wi_at, if_neg (by omega)]
    refine ⟨⟨by rw [f _ _ _ (by omega)]; exact h.1, fun l y ey => ?_⟩, f⟩
    have o := h.2 l y ey
    rw [f _ _ _ (by omega), f _ _ _ (by omega)]
    refine ⟨o.1, o.2.1, ?_⟩
    by_cases z : l = w
    · subst z
      have : x = y := Option.some.inj (ew.symm.trans ey)
      subst this
      rw [(stp_s S x n (c + n)).1, (stp_s S x n (c + n)).2]
      exact ⟨by rw [wi_at, if_neg (by omega), wi_at, if_pos ⟨rfl, rfl, rfl⟩], by rw [wi_at, if_pos ⟨rfl, rfl, rfl⟩]; exact hv⟩
    · have ne : ¬ y = x := fun p => by
        subst p
        rcases Nat.lt_or_gt_of_ne z with u | u
        · have := pw_at q.2.2 ey ew u; unfold Qlt at this; omega
        · have := pw_at q.2.2 ew ey u; unfold Qlt at this; omega
      rw [(stp_n S n (c + n) ne).1, (stp_n S n (c + n) ne).2]
      exact ⟨by rw [wi_at, if_neg (fun p => z p.2.2), wi_at, if_neg (fun p => z p.2.2)]; exact o.2.2.1, by rw [wi_at, if_neg (fun p => z p.2.2), wi_at, if_neg (fun p => z p.2.2)]; exact o.2.2.2⟩
  by_cases z : S.1 x - n = 0
  · rw [if_pos (by rw [z]; rfl)]
    obtain ⟨k1, k2⟩ := key (nI (c + n)) (by rw [if_pos z])
    exact ⟨_, rfl, k1, k2⟩
  · rw [if_neg (by rw [show (0 : Int32) = nI 0 from rfl, eqN (by omega) (by omega)]; exact z)]
    obtain ⟨k1, k2⟩ := key (-1) (by rw [if_neg z])
    exact ⟨_, rfl, k1, k2⟩
theorem run_m {F : Nat} {L : La} {R Q : List Jb} {rk : Nat → Int32} {i e c0 : Nat} (hF : 1000 ≤ F) (g : JG L R) (q : QG R Q) (he : e ≤ 1073741824) (ht : ∀ x, x ∈ R → zm L x.2.1 < 100000000) (hav : ∀ x, x ∈ R → (x.2.1 ≤ i → zm L x.2.1 ≤ c0) ∧ (¬ x.2.1 ≤ i → e ≤ zm L x.2.1)) : ∀ (k N c : Nat) (S : Rs) (μ : Mm), cnt S Q < k → k + 1 < N → c0 ≤ c → c < 2000000000 → MWk μ L Q S → RK μ rk → SB S → ∃ μ', f_X10_runs_b2 F N μ (nI e) (nI c) = some μ' ∧ MWk μ' L Q (runA R rk i e k c S) ∧ ∀ k i j, ¬ (k = 1053 ∨ k = 1054) → μ'.1 k i j = μ.1 k i j
  | 0, N, c, S, μ, h1, h2, h0, hc, h3, h4, h6 => by omega
  | k + 1, N, c, S, μ, h1, h2, h0, hc, h3, h4, h6 => by
    obtain ⟨M, rfl⟩ : ∃ M, N = M + 1 := ⟨N - 1, by omega⟩
    rw [f_X10_runs_b2]
    by_cases z : e ≤ c
    · rw [if_pos ((leN (by omega) (by omega)).mpr z), runA_end z]
      exact ⟨μ, rfl, h3, fun _ _ _ _ => rfl⟩
    · rw [if_neg (fun w => z ((leN (by omega) (by omega)).mp w))]
      have hv1 : ∀ x, x ∈ R → (zm L x.2.1 ≤ c ↔ x.2.1 ≤ i) := fun x hx => by
        obtain ⟨a, b⟩ := hav x hx
        constructor
        · intro w
          by_cases y : x.2.1 ≤ i
          · exact y
          · have := b y; omega
        · intro w; have := a w; omega
      have hv2 : ∀ x, x ∈ R → zm L x.2.1 ≤ c ∨ e ≤ zm L x.2.1 := fun x hx => by
        obtain ⟨a, b⟩ := hav x hx
        by_cases y : x.2.1 ≤ i
        · have := a y; omega
        · have := b y; omega
      obtain ⟨r, er, hr⟩ := chosen_ok hF g q h3 h4 h6 ht hc hv1
      rw [er, obs, next_ok hF q h3 ht hc (by omega) hv2, obs]
      have stop : ∀ m : Mm, f_X10_runs_b2 F M m (nI e) (nI e) = some m := fun m => by
        obtain ⟨M', rfl⟩ : ∃ M', M = M' + 1 := ⟨M - 1, by omega⟩
        rw [f_X10_runs_b2, if_pos ((leN (by omega) (by omega)).mpr (Nat.le_refl _))]
      rcases hr with ⟨rfl, hb⟩ | ⟨l, x, rfl, hx, hb⟩
      · rw [if_pos rfl, stop, runA_none hb]
        exact ⟨μ, rfl, h3, fun _ _ _ _ => rfl⟩
      · have hl := ix_lt hx
        have h66 := q.1
        have b := (h6 x).1
        have p := pt_le S x e c
        have m := h3.2 l x hx
        have ha := (best_some hb).2.1
        unfold av at ha
        rw [decide_eq_true_iff] at ha
        rw [if_neg (nn1 (by omega)), ra_in (show l < 400 by omega) (by omega), obs, m.2.2.1, nI_sub (by omega), runA_some z hb]
        have es : (if nI (e - c) ≤ nI (S.1 x) then f_X10_runs_b55 F (fun μ a2 a3 => f_X10_runs_b2 F M μ a2 a3) μ (nI e) (nI c) (nI l) (nI (e - c)) else f_X10_runs_b55 F (fun μ a2 a3 => f_X10_runs_b2 F M μ a2 a3) μ (nI e) (nI c) (nI l) (nI (S.1 x))) = f_X10_runs_b55 F (fun μ a2 a3 => f_X10_runs_b2 F M μ a2 a3) μ (nI e) (nI c) (nI l) (nI (pt S x e c)) := by
          by_cases y : e - c ≤ S.1 x
          · rw [if_pos ((leN (by omega) (by omega)).mpr y), show pt S x e c = e - c by omega]
          · rw [if_neg (fun w => y ((leN (by omega) (by omega)).mp w)), show pt S x e c = S.1 x by omega]
        rw [es]
        obtain ⟨m2, e2, q2, f2⟩ := b55_ok (F := F) (a := nI e) (fun μ a2 a3 => f_X10_runs_b2 F M μ a2 a3) q h3 h6 hx p.1 (show c + pt S x e c < 2000000000 by omega)
        rw [e2]
        rcases p.2.2 with y | ⟨y, -⟩
        · have hd := (sumQ_stp (S := S) (c := c + pt S x e c) p.1 q.nd (List.mem_of_getElem? hx)).2.2 y (by omega)
          obtain ⟨μ', e', c', f'⟩ := run_m (rk := rk) hF g q he ht hav k M (c + pt S x e c) _ m2 (by omega) (by omega) (by omega) (by omega) q2 (fun u hu => by rw [f2 _ _ _ (by omega), f2 _ _ _ (by omega)]; exact h4 u hu) (SB_stp h6 (by omega))
          exact ⟨μ', e', c', fun k i j a => (f' k i j a).trans (f2 k i j a)⟩
        · have ec : c + pt S x e c = e := by omega
          rw [runA_end (show e ≤ c + pt S x e c by omega)]
          refine ⟨m2, ?_, q2, f2⟩
          show f_X10_runs_b2 F M m2 (nI e) (nI (c + pt S x e c)) = some m2
          rw [ec]; exact stop m2
