/-! the reference's phase -/
def Wn (v : Int64) : Int64 := if v = Uu then Ff else -v
def MO6 (μ : Mm) (M : Mx3) : Prop := ∀ a b, a < 3 → b < 3 → μ.2 1046 0 (3 * a + b) = Wn (M b a)
def OKM (M : Mx3) (B : Int) : Prop := ∀ p q, p < 3 → q < 3 → M p q = Uu ∨ (-B ≤ (M p q).toInt ∧ (M p q).toInt ≤ B)
theorem Uu_T : Uu.toInt = -1152921504606846976 := by decide
theorem Ff_T : Ff.toInt = 1125899906842624 := by decide
theorem neg64 {a : Int64} (h : -1099511627776 ≤ a.toInt ∧ a.toInt ≤ 1099511627776) : (-a).toInt = -a.toInt := by
  rw [Int64.toInt_neg]; exact Int.bmod_eq_of_le (by omega) (by omega)
theorem Wn_U {v : Int64} (h : v = Uu) : (Wn v).toInt = 1125899906842624 := by unfold Wn; rw [if_pos h, Ff_T]
theorem Wn_n {v : Int64} (h : -1099511627776 ≤ v.toInt ∧ v.toInt ≤ 1099511627776) : (Wn v).toInt = -v.toInt := by
  unfold Wn
  rw [if_neg (fun e => by rw [e, Uu_T] at h; omega), neg64 h]
theorem nU {v : Int64} (h : -1099511627776 ≤ v.toInt ∧ v.toInt ≤ 1099511627776) : ¬ v = Uu := fun e => by rw [e, Uu_T] at h; omega
theorem lgP (a b : Int64) : 0 ≤ lg_cmp a b ↔ b.toInt ≤ a.toInt := by
  have := lgT a b
  rw [ltT, show (0 : Int32).toInt = 0 from rfl] at this
  rw [leT, show (0 : Int32).toInt = 0 from rfl]; omega
/-- one place, in both forms -/
theorem both_1 {M : Mx3} {B : Int} {k p q : Nat} (h : OKM M B) (hB : B ≤ 549755813888) (h0 : M k k = 0) (hk : k < 3) (hp : p < 3) (hq : q < 3) (d : Int64) (hd : d = if 0 ≤ lg_cmp (Wn (M k p)) Ff then Ff else if 0 ≤ lg_cmp (Wn (M q k)) Ff then Ff else Wn (M k p) + Wn (M q k)) : (if 0 ≤ lg_cmp d (Wn (M q p)) then Wn (M q p) else d) = Wn (Tm k M q p) := by
  have c1 := h k p hk hp
  have c2 := h q k hq hk
  have c3 := h q p hq hp
  have hFd : d = Ff → (if 0 ≤ lg_cmp d (Wn (M q p)) then Wn (M q p) else d) = Wn (M q p) := fun e => by
    rw [if_pos]
    rw [lgP, e, Ff_T]
    rcases c3 with c3 | c3
    · rw [Wn_U c3]; omega
    · rw [Wn_n (by omega)]; omega
  by_cases u1 : M k p = Uu
  · rw [if_pos (by rw [lgP, Wn_U u1, Ff_T]; omega)] at hd
    rw [hFd hd]
    unfold Tm; rw [if_pos u1]; split <;> rfl
  · have b1 := c1.resolve_left u1
    rw [if_neg (by rw [lgP, Wn_n (by omega), Ff_T]; omega)] at hd
    by_cases u2 : M q k = Uu
    · rw [if_pos (by rw [lgP, Wn_U u2, Ff_T]; omega)] at hd
      rw [hFd hd]
      unfold Tm; rw [if_pos u2]
    · have b2 := c2.resolve_left u2
      rw [if_neg (by rw [lgP, Wn_n (by omega), Ff_T]; omega)] at hd
      have eW : (Wn (M k p) + Wn (M q k)).toInt = -((M k p).toInt + (M q k).toInt) := by
        rw [add64 (by rw [Wn_n (by omega)]; omega) (by rw [Wn_n (by omega)]; omega), Wn_n (by omega), Wn_n (by omega)]; omega
      have eS : (M q k + M k p).toInt = (M q k).toInt + (M k p).toInt := add64 (by omega) (by omega)
      unfold Tm
      rw [if_neg u2, if_neg u1]
      apply Int64.toInt_inj.mp
      rw [hd]
      by_cases y : M q k + M k p < M q p
      · rw [if_pos y]
        rw [ltT64, eS] at y
        rcases c3 with c3 | c3
        · rw [c3, Uu_T] at y; omega
        · rw [if_pos (by rw [lgP, eW, Wn_n (by omega)]; omega)]
      · rw [if_neg y]
        rw [ltT64, eS] at y
        rw [Wn_n (v := M q k + M k p) (by omega), eS]
        by_cases z : 0 ≤ lg_cmp (Wn (M k p) + Wn (M q k)) (Wn (M q p))
        · rw [if_pos z]
          rw [lgP, eW] at z
          rcases c3 with c3 | c3
          · rw [Wn_U c3] at z; omega
          · rw [Wn_n (by omega)] at z ⊢; omega
        · rw [if_neg z, eW]; omega
theorem OKM_T {M : Mx3} {B : Int} {k : Nat} (h : OKM M B) (hB : B ≤ 549755813888) (hk : k < 3) : OKM (Tm k M) (2 * B) := fun p q hp hq => by
  have c1 := h p k hp hk
  have c2 := h k q hk hq
  have c3 := h p q hp hq
  have c3' : M p q = Uu ∨ (-(2 * B) ≤ (M p q).toInt ∧ (M p q).toInt ≤ 2 * B) := by
    rcases c3 with c3 | c3
    · exact .inl c3
    · right; omega
  unfold Tm
  by_cases u1 : M p k = Uu
  · rw [if_pos u1]; exact c3'
  · have b1 := c1.resolve_left u1
    rw [if_neg u1]
    by_cases u2 : M k q = Uu
    · rw [if_pos u2]; exact c3'
    · have b2 := c2.resolve_left u2
      rw [if_neg u2]
      split
      · exact c3'
      · right; rw [add64 (by omega) (by omega)]; omega
def PI6 (μ : Mm) (k : Nat) (M : Mx3) (p q : Nat) : Prop := ∀ a b, a < 3 → b < 3 → μ.2 1046 0 (3 * a + b) = if a < p ∨ (a = p ∧ b < q) then Wn (Tm k M b a) else Wn (M b a)
theorem PI6.rd {μ : Mm} {k p q : Nat} {M : Mx3} (h : PI6 μ k M p q) (h0 : M k k = 0) (hk : k < 3) (hp : p < 3) (hq : q < 3) : μ.2 1046 0 (3 * p + k) = Wn (M k p) ∧ μ.2 1046 0 (3 * k + q) = Wn (M q k) := by
  refine ⟨?_, ?_⟩
  · rw [h p k hp hk]; split
    · rw [Tm_row h0]
    · rfl
  · rw [h k q hk hq]; split
    · rw [Tm_col h0]
    · rfl
theorem i3m (p k : Nat) : (3 : Int32) * nI p + nI k = nI (3 * p + k) := by
  rw [show (3 : Int32) = nI 3 from rfl, pk_mul, nI_add]
/-- all that holds of a phase's course: exact where the middle is 0, else the middle's rows alone fall -/
def PM (μ m : Mm) (k p q : Nat) : Prop := m.1 = μ.1 ∧ (∀ a, a < 3 → (m.2 1046 0 (3 * a + a)).toInt ≤ (μ.2 1046 0 (3 * a + a)).toInt) ∧ ∀ M B, MO6 μ M → M k k = 0 → OKM M B → B ≤ 549755813888 → PI6 m k M p q
theorem phase_m1 {F k p : Nat} {μ m0 : Mm} (K138 : Mm → Int32 → Option (Int32 × Mm)) (K145 : Mm → Int32 → Int32 → Option (Int32 × Mm)) (hF : 1000 ≤ F) (hk : k < 3) (hp : p < 3) (h : PM μ m0 k p 0) :
    ∃ m', f_X10_joins_b152 F K138 K145 F m0 (nI k) (nI p) 0 = K145 m' (nI k) (nI (p + 1)) ∧ PM μ m' k (p + 1) 0 := by
  obtain ⟨m', e, i1, i2, i3⟩ := loop_inv (fun N m x => f_X10_joins_b152 F K138 K145 N m (nI k) (nI p) x) (fun m => K145 m (nI k) (nI (p + 1))) 3 (fun q m => PM μ m k p q) (by
    intro N m q hq ⟨i1, i2, i3⟩
    show ∃ s', f_X10_joins_b152 F K138 K145 (N + 1) m (nI k) (nI p) (nI q) = f_X10_joins_b152 F K138 K145 N s' (nI k) (nI p) (nI (q + 1)) ∧ _
    have key : ∀ d : Int64, d = (if 0 ≤ lg_cmp (m.2 1046 0 (3 * p + k)) Ff then Ff else if 0 ≤ lg_cmp (m.2 1046 0 (3 * k + q)) Ff then Ff else m.2 1046 0 (3 * p + k) + m.2 1046 0 (3 * k + q)) → ∃ s', f_X10_joins_b218 F K138 K145 (fun μ a1 a2 a3 => f_X10_joins_b152 F K138 K145 N μ a1 a2 a3) m (nI k) (nI p) (nI q) d = f_X10_joins_b152 F K138 K145 N s' (nI k) (nI p) (nI (q + 1)) ∧ PM μ s' k p (q + 1) := fun d hd => by
      unfold f_X10_joins_b218
      rw [i3m, rl_in (show 3 * p + q < 9 by omega) (by omega), obs, obs, wg_in (show 3 * p + q < 9 by omega) (by omega), obs, wg_in (show 3 * p + q < 9 by omega) (by omega), obs, s1]
      have fin : ∀ v : Int64, v = (if 0 ≤ lg_cmp d (m.2 1046 0 (3 * p + q)) then m.2 1046 0 (3 * p + q) else d) → PM μ (wj m 1046 0 (3 * p + q) v) k p (q + 1) := fun v hv => by
        refine ⟨i1, fun a ha => ?_, fun M B h1 h0 hM hB a b ha hb => ?_⟩
        · rw [wj_at]
          by_cases z : 3 * a + a = 3 * p + q
          · rw [if_pos ⟨rfl, rfl, z⟩]
            have := i2 a ha
            rw [z] at this ⊢
            by_cases y : 0 ≤ lg_cmp d (m.2 1046 0 (3 * p + q))
            · rw [hv, if_pos y]; exact this
            · rw [hv, if_neg y]; rw [lgP] at y; omega
          · rw [if_neg (fun w => z w.2.2)]; exact i2 a ha
        · have pi := i3 M B h1 h0 hM hB
          obtain ⟨r1, r2⟩ := pi.rd h0 hk hp hq
          rw [wj_at]
          by_cases z : a = p ∧ b = q
          · rw [if_pos (show 1046 = 1046 ∧ 0 = 0 ∧ 3 * a + b = 3 * p + q by omega), if_pos (show a < p ∨ (a = p ∧ b < q + 1) by omega), z.1, z.2, hv, pi p q hp hq, if_neg (show ¬ (p < p ∨ (p = p ∧ q < q)) by omega)]
            rw [r1, r2] at hd
            exact both_1 hM hB h0 hk hp hq d hd
          · rw [if_neg (by omega), pi a b ha hb]
            by_cases y : a < p ∨ (a = p ∧ b < q)
            · rw [if_pos y, if_pos (by omega)]
            · rw [if_neg y, if_neg (by omega)]
      by_cases y : 0 ≤ lg_cmp d (m.2 1046 0 (3 * p + q))
      · rw [if_pos y]; exact ⟨_, rfl, fin _ (by rw [if_pos y])⟩
      · rw [if_neg y]; exact ⟨_, rfl, fin _ (by rw [if_neg y])⟩
    rw [f_X10_joins_b152, if_neg (by rw [show (3 : Int32) = nI 3 from rfl]; exact ngt (by omega) (by omega) hq), i3m, rl_in (show 3 * p + k < 9 by omega) (by omega), obs, i3m, rl_in (show 3 * k + q < 9 by omega) (by omega), obs, obs, obs, show (1125899906842624 : Int64) = Ff from rfl]
    by_cases y1 : 0 ≤ lg_cmp (m.2 1046 0 (3 * p + k)) Ff
    · rw [if_pos y1]; exact key Ff (by rw [if_pos y1])
    · rw [if_neg y1]
      by_cases y2 : 0 ≤ lg_cmp (m.2 1046 0 (3 * k + q)) Ff
      · rw [if_pos y2]; exact key Ff (by rw [if_neg y1, if_pos y2])
      · rw [if_neg y2]; exact key _ (by rw [if_neg y1, if_neg y2])) (by
    intro N m _
    show f_X10_joins_b152 F K138 K145 (N + 1) m (nI k) (nI p) (nI 3) = _
    rw [f_X10_joins_b152, if_pos (by decide), s1]) F 0 m0 (by omega) (by omega) h
  refine ⟨m', e, i1, i2, fun M B h1 h0 hM hB a b ha hb => ?_⟩
  rw [i3 M B h1 h0 hM hB a b ha hb]
  by_cases y : a < p ∨ (a = p ∧ b < 3)
  · rw [if_pos y, if_pos (by omega)]
  · rw [if_neg y, if_neg (by omega)]
theorem phase_m {F k : Nat} {μ : Mm} (K138 : Mm → Int32 → Option (Int32 × Mm)) (hF : 1000 ≤ F) (hk : k < 3) : ∃ m', f_X10_joins_b145 F K138 F μ (nI k) 0 = K138 m' (nI (k + 1)) ∧ m'.1 = μ.1 ∧ (∀ a, a < 3 → (m'.2 1046 0 (3 * a + a)).toInt ≤ (μ.2 1046 0 (3 * a + a)).toInt) ∧ ∀ M B, MO6 μ M → M k k = 0 → OKM M B → B ≤ 549755813888 → MO6 m' (Tm k M) := by
  obtain ⟨m', e, i1, i2, i3⟩ := loop_inv (fun N m x => f_X10_joins_b145 F K138 N m (nI k) x) (fun m => K138 m (nI (k + 1))) 3 (fun p m => PM μ m k p 0) (by
    intro N m p hp hi
    show ∃ s', f_X10_joins_b145 F K138 (N + 1) m (nI k) (nI p) = f_X10_joins_b145 F K138 N s' (nI k) (nI (p + 1)) ∧ _
    rw [f_X10_joins_b145, if_neg (by rw [show (3 : Int32) = nI 3 from rfl]; exact ngt (by omega) (by omega) hp)]
    exact phase_m1 K138 (fun μ a1 a2 => f_X10_joins_b145 F K138 N μ a1 a2) hF hk hp hi) (by
    intro N m _
    show f_X10_joins_b145 F K138 (N + 1) m (nI k) (nI 3) = _
    rw [f_X10_joins_b145, if_pos (by decide), s1]) F 0 μ (by omega) (by omega) ⟨rfl, fun a ha => by omega, fun M B h1 h0 hM hB a b ha hb => by rw [if_neg (by omega)]; exact h1 a b ha hb⟩
  refine ⟨m', e, i1, i2, fun M B h1 h0 hM hB a b ha hb => ?_⟩
  rw [i3 M B h1 h0 hM hB a b ha hb, if_pos (by omega)]
