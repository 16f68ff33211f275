/-! what the letters say -/
def rs (M : Mx3) (p q : Nat) (b : Int64) : Mx3 := fun a c => if a = p ∧ c = q then (if b < M p q then M p q else b) else M a c
def lM (D : Tr) (x : Nat) (M : Mx3) : Mx3 := match ltr D 0 x, ltr D 1 x with
  | some u, some w => rs M u.1 w.1 ((zM (tL D u.1) u.2).toInt64 - (zM (tL D w.1) w.2).toInt64)
  | _, _ => M
def M0 : Mx3 := fun a b => if a = b then 0 else Uu
def Ml (D : Tr) : Nat → Mx3
  | 0 => M0
  | x + 1 => lM D x (Ml D x)
theorem zmb {D : Tr} (hv : TV D) {p j : Nat} (hp : p < 3) (hj : j < zn (tL D p)) : zM (tL D p) j = nI (zm (tL D p) j) ∧ zm (tL D p) j ≤ 13107200 := by
  have hL := hv.2.2.2.2.2.1 p hp
  have := hL.2.2.2.2.2.1 j hj
  have := hL.1
  exact ⟨(hL.2.2.2.2.2.1 j hj).1, by omega⟩
theorem tdiff {D : Tr} (hv : TV D) {p j q i : Nat} (hp : p < 3) (hj : j < zn (tL D p)) (hq : q < 3) (hi : i < zn (tL D q)) : ((zM (tL D p) j).toInt64 - (zM (tL D q) i).toInt64).toInt = (zm (tL D p) j : Int) - (zm (tL D q) i : Int) := by
  obtain ⟨a1, a2⟩ := zmb hv hp hj
  obtain ⟨b1, b2⟩ := zmb hv hq hi
  have e1 : (zM (tL D p) j).toInt64.toInt = (zm (tL D p) j : Int) := by rw [t64, a1, nIT (by omega)]
  have e2 : (zM (tL D q) i).toInt64.toInt = (zm (tL D q) i : Int) := by rw [t64, b1, nIT (by omega)]
  rw [sub64 (by omega) (by omega), e1, e2]
theorem sub32 {a b : Nat} (ha : a ≤ 13107200) (hb : b ≤ 13107200) : (nI a - nI b).toInt = (a : Int) - (b : Int) := by
  rw [Int32.toInt_sub, nIT (by omega), nIT (by omega)]
  exact Int.bmod_eq_of_le (by omega) (by omega)
theorem OKM_l {D : Tr} (hv : TV D) : ∀ x, OKM (Ml D x) 13107200
  | 0 => fun p q hp hq => by
    show (if p = q then (0 : Int64) else Uu) = Uu ∨ _
    by_cases z : p = q
    · right
      have : (Ml D 0 p q) = 0 := if_pos z
      rw [this]; decide
    · left; rw [if_neg z]
  | x + 1 => fun p q hp hq => by
    have ih := OKM_l hv x p q hp hq
    show lM D x (Ml D x) p q = Uu ∨ _
    show lM D x (Ml D x) p q = Uu ∨ (-13107200 ≤ (lM D x (Ml D x) p q).toInt ∧ (lM D x (Ml D x) p q).toInt ≤ 13107200)
    unfold lM
    cases e0 : ltr D 0 x with
    | none => exact ih
    | some u =>
      cases e1 : ltr D 1 x with
      | none => exact ih
      | some w =>
        obtain ⟨u1, u2⟩ := u
        obtain ⟨w1, w2⟩ := w
        obtain ⟨a1, a2, -⟩ := ltr_some e0
        obtain ⟨b1, b2', -⟩ := ltr_some e1
        have d := tdiff hv a1 a2 b1 b2'
        have za := (zmb hv a1 a2).2
        have zb := (zmb hv b1 b2').2
        show rs (Ml D x) u1 w1 _ p q = Uu ∨ (-13107200 ≤ (rs (Ml D x) u1 w1 _ p q).toInt ∧ (rs (Ml D x) u1 w1 _ p q).toInt ≤ 13107200)
        unfold rs
        by_cases z : p = u1 ∧ q = w1
        · rw [if_pos z]
          split
          · rw [← z.1, ← z.2]; exact ih
          · right; rw [d]; omega
        · rw [if_neg z]; exact ih
/-- behind the phases -/
def Mk (D : Tr) : Nat → Mx3
  | 0 => Ml D 64
  | k + 1 => Tm k (Mk D k)
def gd (D : Tr) (k : Nat) : Prop := ∀ i a, i ≤ k → a < 3 → Mk D i a a = 0
theorem OKM_k {D : Tr} (hv : TV D) : ∀ k, k ≤ 3 → OKM (Mk D k) (13107200 * 2 ^ k)
  | 0, _ => OKM_l hv 64
  | k + 1, h => by
    have ih := OKM_k hv k (by omega)
    have hb : (13107200 : Int) * 2 ^ k ≤ 549755813888 := by
      rcases (show k = 0 ∨ k = 1 ∨ k = 2 by omega) with rfl | rfl | rfl <;> decide
    have := OKM_T (k := k) ih hb (by omega)
    have e : (13107200 : Int) * 2 ^ (k + 1) = 2 * (13107200 * 2 ^ k) := by
      rcases (show k = 0 ∨ k = 1 ∨ k = 2 by omega) with rfl | rfl | rfl <;> decide
    rw [e]; exact this
theorem lM_pos {D : Tr} {a : Nat} {x : Nat} {M : Mx3} (h : 0 ≤ (M a a).toInt) : 0 ≤ (lM D x M a a).toInt := by
  unfold lM
  cases e0 : ltr D 0 x with
  | none => exact h
  | some u =>
    cases e1 : ltr D 1 x with
    | none => exact h
    | some w =>
      show 0 ≤ (rs M u.1 w.1 _ a a).toInt
      unfold rs
      by_cases z : a = u.1 ∧ a = w.1
      · rw [if_pos z, ← z.1, ← z.2]
        have := max64 (M a a) ((zM (tL D a) u.2).toInt64 - (zM (tL D a) w.2).toInt64)
        omega
      · rw [if_neg z]; exact h
theorem Ml_pos (D : Tr) (a : Nat) : ∀ x, 0 ≤ (Ml D x a a).toInt
  | 0 => by
    have : Ml D 0 a a = 0 := if_pos rfl
    rw [this]; decide
  | x + 1 => lM_pos (Ml_pos D a x)
theorem Mk_pos (D : Tr) (a : Nat) : ∀ k, 0 ≤ (Mk D k a a).toInt
  | 0 => Ml_pos D a 64
  | k + 1 => by
    have ih := Mk_pos D a k
    show 0 ≤ (Tm k (Mk D k) a a).toInt
    unfold Tm
    split
    · exact ih
    · split
      · exact ih
      · have := max64 (Mk D k a a) (Mk D k a k + Mk D k k a)
        omega
theorem CO5_raise {m : Mm} {M : Mx3} {p q : Nat} (h : CO5 m M) (hp : p < 3) (hq : q < 3) (b : Int64) : ∃ m', f_X5_raise m (nI p) (nI q) b = some m' ∧ m'.1 = m.1 ∧ CO5 m' (rs M p q b) := by
  refine ⟨_, raise_in hp hq b, rfl, fun a c ha hc => ?_⟩
  rw [wj_at, h p q hp hq]
  unfold rs
  by_cases z : a = p ∧ c = q
  · rw [if_pos (show 501 = 501 ∧ 0 = 0 ∧ 3 * a + c = 3 * p + q by omega), if_pos z]
  · rw [if_neg (by omega), if_neg z]; exact h a c ha hc
/-- the class joins -/
theorem join_ok {F : Nat} {μ : Mm} {D : Tr} (hF : 1000 ≤ F) (hv : TV D) (h : CT μ 0 D) : ∃ μ', f_X5_join F μ 0 = some μ' ∧ (gd D 3 → CO5 μ' (Mk D 3)) ∧ (¬ gd D 3 → ∃ a, a < 3 ∧ 0 < (μ'.2 501 0 (3 * a + a)).toInt) := by
  unfold f_X5_join f_J7_fill_d0a16
  rw [obs]
  obtain ⟨m0, hm0⟩ : ∃ m0, m0 = flL μ 501 0 9 (-1152921504606846976) 9 := ⟨_, rfl⟩
  have a1 : m0.1 = μ.1 := by rw [hm0]; rfl
  have a2 : ∀ j, j < 9 → m0.2 501 0 j = Uu := fun j hj => by rw [hm0, flL_at, if_pos ⟨rfl, rfl, hj⟩]; rfl
  obtain ⟨m1, e1, i1, i2⟩ := loop_inv (fun N m x => f_X5_join_b12 F N m 0 x) (fun m => f_X5_join_b32 F F m 0 0) 3 (fun p m => m.1 = μ.1 ∧ CO5 m (fun a b => if a = b ∧ a < p then 0 else Uu)) (by
    intro N m p hp ⟨i1, i2⟩
    show ∃ s', f_X5_join_b12 F (N + 1) m 0 (nI p) = f_X5_join_b12 F N s' 0 (nI (p + 1)) ∧ _
    rw [f_X5_join_b12, if_neg (by rw [show (3 : Int32) = nI 3 from rfl]; exact ngt (by omega) (by omega) hp)]
    obtain ⟨m', e', j1, j2⟩ := CO5_raise i2 hp hp 0
    rw [e', obs, s1]
    refine ⟨m', rfl, j1.trans i1, fun a b ha hb => ?_⟩
    rw [j2 a b ha hb]
    unfold rs
    dsimp only
    by_cases z : a = p ∧ b = p
    · rw [if_pos z, if_pos (show a = b ∧ a < p + 1 by omega)]
      have e9 : (if p = p ∧ p < p then (0 : Int64) else Uu) = Uu := if_neg (by omega)
      have e8 : ∀ v : Int64, v = Uu → (if 0 < v then v else 0) = (0 : Int64) := fun v hv => by subst hv; rw [if_neg (by rw [ltT64, Uu_T]; decide)]
      exact e8 _ e9
    · rw [if_neg z]
      by_cases y : a = b ∧ a < p
      · rw [if_pos y, if_pos (by omega)]
      · rw [if_neg y, if_neg (by omega)]) (by
    intro N m _
    show f_X5_join_b12 F (N + 1) m 0 (nI 3) = _
    rw [f_X5_join_b12, if_pos (by decide)]) F 0 m0 (by omega) (by omega) ⟨a1, fun a b ha hb => by dsimp only; rw [a2 _ (by omega), if_neg (by omega)]⟩
  have i2' : CO5 m1 (Ml D 0) := fun a b ha hb => by
    rw [i2 a b ha hb]
    show (if a = b ∧ a < 3 then (0 : Int64) else Uu) = if a = b then (0 : Int64) else Uu
    by_cases z : a = b
    · rw [if_pos z, if_pos ⟨z, ha⟩]
    · rw [if_neg z, if_neg (fun w => z w.1)]
  obtain ⟨m2, e2, j1, j2⟩ := loop_inv (fun N m x => f_X5_join_b32 F N m 0 x) (fun m => f_X5_join_b107 F F m 0) 64 (fun x m => m.1 = μ.1 ∧ CO5 m (Ml D x)) (by
    intro N m x hx ⟨i1, i2⟩
    show ∃ s', f_X5_join_b32 F (N + 1) m 0 (nI x) = f_X5_join_b32 F N s' 0 (nI (x + 1)) ∧ _
    have hc : CT m 0 D := h.kept (by omega) (fun k i j _ => by rw [i1])
    rw [f_X5_join_b32, if_neg (by rw [show (64 : Int32) = nI 64 from rfl]; exact ngt (by omega) (by omega) hx), show (9 : Int32) = nI (9 + 0) from rfl, show (10 : Int32) = nI (9 + 1) from rfl, letterAt_in (by omega) hx, obs, letterAt_in (by omega) hx, obs, s1]
    show ∃ s', _ ∧ s'.1 = μ.1 ∧ CO5 s' (lM D x (Ml D x))
    rcases letter_c hv hc (c := 0) (by omega) hx with ⟨l0, v0⟩ | ⟨p, i, l0, v0⟩
    · rw [if_pos v0]
      exact ⟨m, rfl, i1, by unfold lM; rw [l0]; exact i2⟩
    · obtain ⟨hp, hi, -⟩ := ltr_some l0
      have hnp := (hc.2.2.1 p hp).1.1
      rw [v0, if_neg (nn1 (by omega))]
      rcases letter_c hv hc (c := 1) (by omega) hx with ⟨l1, v1⟩ | ⟨q, j, l1, v1⟩
      · rw [if_pos v1]
        exact ⟨m, rfl, i1, by unfold lM; rw [l0, l1]; exact i2⟩
      · obtain ⟨hq, hj, -⟩ := ltr_some l1
        have hnq := (hc.2.2.1 q hq).1.1
        rw [v1, if_neg (nn1 (by omega)), ltime hc hp hi, obs, ltime hc hq hj, obs, lproc hp (by omega), obs, lproc hq (by omega), obs]
        obtain ⟨m', e', k1, k2⟩ := CO5_raise i2 hp hq ((zM (tL D p) i).toInt64 - (zM (tL D q) j).toInt64)
        rw [e', obs]
        exact ⟨m', rfl, k1.trans i1, by unfold lM; rw [l0, l1]; exact k2⟩) (by
    intro N m _
    show f_X5_join_b32 F (N + 1) m 0 (nI 64) = _
    rw [f_X5_join_b32, if_pos (by decide)]) F 0 m1 (by omega) (by omega) ⟨i1, i2'⟩
  obtain ⟨m3, e3, k1, k2, k3⟩ := loop_inv (fun N m x => f_X5_join_b107 F N m x) (fun m => some m) 3 (fun k m => m.1 = μ.1 ∧ (gd D k → CO5 m (Mk D k)) ∧ (¬ gd D k → ∃ a, a < 3 ∧ 0 < (m.2 501 0 (3 * a + a)).toInt)) (by
    intro N m k hk ⟨i1, i2, i3⟩
    show ∃ s', f_X5_join_b107 F (N + 1) m (nI k) = f_X5_join_b107 F N s' (nI (k + 1)) ∧ _
    rw [f_X5_join_b107, if_neg (by rw [show (3 : Int32) = nI 3 from rfl]; exact ngt (by omega) (by omega) hk), s1]
    obtain ⟨m', e', c1, c2, c3⟩ := phase_c (F := F) (k := k) (μ := m) (M := fun a b => m.2 501 0 (3 * a + b)) hF hk (fun _ _ _ _ => rfl)
    rw [e', obs]
    have ex : gd D k → CO5 m' (Mk D (k + 1)) := fun g => by
      obtain ⟨m'', e'', -, -, c4⟩ := phase_c (F := F) hF hk (i2 g)
      have : m' = m'' := Option.some.inj (e'.symm.trans e'')
      rw [this]; exact c4 (g k k (Nat.le_refl _) hk)
    refine ⟨m', rfl, c1.trans i1, fun g => ex (fun i a hi ha => g i a (by omega) ha), fun g => ?_⟩
    by_cases gk : gd D k
    · -- the new one is bad
      have co := ex gk
      have : ∃ a, a < 3 ∧ ¬ Mk D (k + 1) a a = 0 := by
        by_cases n0 : Mk D (k + 1) 0 0 = 0
        · by_cases n1 : Mk D (k + 1) 1 1 = 0
          · by_cases n2 : Mk D (k + 1) 2 2 = 0
            · exfalso
              refine g (fun i a hi ha => ?_)
              by_cases z : i = k + 1
              · rw [z]
                rcases (show a = 0 ∨ a = 1 ∨ a = 2 by omega) with rfl | rfl | rfl
                · exact n0
                · exact n1
                · exact n2
              · exact gk i a (by omega) ha
            · exact ⟨2, by omega, n2⟩
          · exact ⟨1, by omega, n1⟩
        · exact ⟨0, by omega, n0⟩
      obtain ⟨a, ha, hne⟩ := this
      refine ⟨a, ha, ?_⟩
      rw [co a a ha ha]
      have p0 := Mk_pos D a (k + 1)
      have : ¬ (Mk D (k + 1) a a).toInt = 0 := fun w => hne (Int64.toInt_inj.mp (by rw [w]; rfl))
      omega
    · obtain ⟨a, ha, hb⟩ := i3 gk
      have := c2 a ha
      exact ⟨a, ha, by omega⟩) (by
    intro N m _
    show f_X5_join_b107 F (N + 1) m (nI 3) = _
    rw [f_X5_join_b107, if_pos (by decide)]) F 0 m2 (by omega) (by omega) ⟨j1, fun _ => j2, fun g => by
      have : ∃ a, a < 3 ∧ ¬ Mk D 0 a a = 0 := by
        by_cases n0 : Mk D 0 0 0 = 0
        · by_cases n1 : Mk D 0 1 1 = 0
          · by_cases n2 : Mk D 0 2 2 = 0
            · exfalso
              refine g (fun i a hi ha => ?_)
              obtain rfl : i = 0 := by omega
              rcases (show a = 0 ∨ a = 1 ∨ a = 2 by omega) with rfl | rfl | rfl
              · exact n0
              · exact n1
              · exact n2
            · exact ⟨2, by omega, n2⟩
          · exact ⟨1, by omega, n1⟩
        · exact ⟨0, by omega, n0⟩
      obtain ⟨a, ha, hne⟩ := this
      refine ⟨a, ha, ?_⟩
      have co : m2.2 501 0 (3 * a + a) = Mk D 0 a a := j2 a a ha ha
      rw [co]
      have p0 := Mk_pos D a 0
      have : ¬ (Mk D 0 a a).toInt = 0 := fun w => hne (Int64.toInt_inj.mp (by rw [w]; rfl))
      omega⟩
  refine ⟨m3, ?_, k2, k3⟩
  have e1' : f_X5_join_b12 F F m0 0 0 = f_X5_join_b32 F F m1 0 0 := e1
  have e2' : f_X5_join_b32 F F m1 0 0 = f_X5_join_b107 F F m2 0 := e2
  have e3' : f_X5_join_b107 F F m2 0 = some m3 := e3
  rw [← hm0, e1', e2', e3']
