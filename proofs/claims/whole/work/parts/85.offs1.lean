/-! CLOCKS JOINED: the class's phase -/
def Uu : Int64 := -1152921504606846976
def Ff : Int64 := 1125899906842624
abbrev Mx3 : Type := Nat → Nat → Int64
def CO5 (μ : Mm) (M : Mx3) : Prop := ∀ p q, p < 3 → q < 3 → μ.2 501 0 (3 * p + q) = M p q
def Tm (k : Nat) (M : Mx3) : Mx3 := fun p q => if M p k = Uu then M p q else if M k q = Uu then M p q else if M p k + M k q < M p q then M p q else M p k + M k q
theorem lgE (a b : Int64) : lg_cmp a b = 0 ↔ a = b := by
  unfold lg_cmp
  by_cases h : a > b
  · rw [if_pos h]; have h' : b < a := h; rw [ltT64] at h'
    exact ⟨fun z => absurd z (by decide), fun z => by rw [z] at h'; omega⟩
  · rw [if_neg h]
    by_cases e : a = b
    · rw [if_pos e]; exact ⟨fun _ => e, fun _ => rfl⟩
    · rw [if_neg e]; exact ⟨fun z => absurd z (by decide), fun z => absurd z e⟩
theorem place_in {μ : Mm} {p q : Nat} (hp : p < 3) (hq : q < 3) : f_X5_placeOf μ (nI p) (nI q) = some (nI (3 * p + q)) := by
  unfold f_X5_placeOf
  rw [if_neg (nN0 (by omega)), if_neg (by rw [show (3 : Int32) = nI 3 from rfl]; exact ngt (by omega) (by omega) hp), if_neg (nN0 (by omega)), if_pos (by rw [show (3 : Int32) = nI 3 from rfl, ltN (by omega) (by omega)]; exact hq), show (3 : Int32) = nI 3 from rfl, pk_mul, nI_add, Nat.mul_comm]
theorem bound_in {μ : Mm} {p q : Nat} (hp : p < 3) (hq : q < 3) : f_X5_boundOf μ (nI p) (nI q) = some (μ.2 501 0 (3 * p + q)) := by
  unfold f_X5_boundOf
  rw [place_in hp hq, obs, if_neg (nn1 (by omega)), rl_in (show 3 * p + q < 9 by omega) (by omega), obs]
theorem raise_in {μ : Mm} {p q : Nat} (hp : p < 3) (hq : q < 3) (b : Int64) : f_X5_raise μ (nI p) (nI q) b = some (wj μ 501 0 (3 * p + q) (if b < μ.2 501 0 (3 * p + q) then μ.2 501 0 (3 * p + q) else b)) := by
  unfold f_X5_raise
  rw [place_in hp hq, obs, if_neg (nn1 (by omega)), rl_in (show 3 * p + q < 9 by omega) (by omega), obs, wg_in (show 3 * p + q < 9 by omega) (by omega), obs]
theorem Tm_col {k : Nat} {M : Mx3} (h : M k k = 0) (p : Nat) : Tm k M p k = M p k := by
  unfold Tm
  rw [h, Int64.add_zero]
  split
  · rfl
  · split
    · rfl
    · split <;> rfl
theorem Tm_row {k : Nat} {M : Mx3} (h : M k k = 0) (q : Nat) : Tm k M k q = M k q := by
  unfold Tm
  rw [h, Int64.zero_add]
  split
  · rfl
  · split
    · rfl
    · split <;> rfl
theorem max64 (a b : Int64) : a.toInt ≤ (if b < a then a else b).toInt := by
  split
  · omega
  · rename_i h; rw [ltT64] at h; omega
def PI5 (μ : Mm) (k : Nat) (M : Mx3) (p q : Nat) : Prop := ∀ a b, a < 3 → b < 3 → μ.2 501 0 (3 * a + b) = if a < p ∨ (a = p ∧ b < q) then Tm k M a b else M a b
theorem PI5.rd {μ : Mm} {k p q : Nat} {M : Mx3} (h : PI5 μ k M p q) (h0 : M k k = 0) (hk : k < 3) (hp : p < 3) (hq : q < 3) : μ.2 501 0 (3 * p + k) = M p k ∧ μ.2 501 0 (3 * k + q) = M k q := by
  refine ⟨?_, ?_⟩
  · rw [h p k hp hk]; split
    · exact Tm_col h0 p
    · rfl
  · rw [h k q hk hq]; split
    · exact Tm_row h0 q
    · rfl
theorem phase_c1 {F k p : Nat} {μ m0 : Mm} {M : Mx3} (K2 : Mm → Int32 → Int32 → Option Mm) (hF : 1000 ≤ F) (hk : k < 3) (hp : p < 3) (h1 : m0.1 = μ.1) (h2 : ∀ a, a < 3 → (M a a).toInt ≤ (m0.2 501 0 (3 * a + a)).toInt) (h3 : M k k = 0 → PI5 m0 k M p 0) :
    ∃ m', f_X5_joinThrough_b9 F K2 F m0 (nI k) (nI p) 0 = K2 m' (nI k) (nI (p + 1)) ∧ m'.1 = μ.1 ∧ (∀ a, a < 3 → (M a a).toInt ≤ (m'.2 501 0 (3 * a + a)).toInt) ∧ (M k k = 0 → PI5 m' k M (p + 1) 0) := by
  obtain ⟨m', e, i1, i2, i3⟩ := loop_inv (fun N m x => f_X5_joinThrough_b9 F K2 N m (nI k) (nI p) x) (fun m => K2 m (nI k) (nI (p + 1))) 3 (fun q m => m.1 = μ.1 ∧ (∀ a, a < 3 → (M a a).toInt ≤ (m.2 501 0 (3 * a + a)).toInt) ∧ (M k k = 0 → PI5 m k M p q)) (by
    intro N m q hq ⟨i1, i2, i3⟩
    show ∃ s', f_X5_joinThrough_b9 F K2 (N + 1) m (nI k) (nI p) (nI q) = f_X5_joinThrough_b9 F K2 N s' (nI k) (nI p) (nI (q + 1)) ∧ _
    rw [f_X5_joinThrough_b9, if_neg (by rw [show (3 : Int32) = nI 3 from rfl]; exact ngt (by omega) (by omega) hq), bound_in hp hk, obs, bound_in hk hq, obs, s1, show (-1152921504606846976 : Int64) = Uu from rfl]
    -- nothing is written, or the greater one
    have skip : (M k k = 0 → Tm k M p q = M p q) → (M k k = 0 → PI5 m k M p (q + 1)) := fun w h0 a b ha hb => by
      rw [i3 h0 a b ha hb]
      by_cases z : a = p ∧ b = q
      · rw [if_neg (by omega), if_pos (by omega), z.1, z.2, w h0]
      · by_cases y : a < p ∨ (a = p ∧ b < q)
        · rw [if_pos y, if_pos (by omega)]
        · rw [if_neg y, if_neg (by omega)]
    by_cases u1 : m.2 501 0 (3 * p + k) = Uu
    · rw [if_pos ((lgE _ _).mpr u1)]
      refine ⟨m, rfl, i1, i2, skip (fun h0 => ?_)⟩
      have := ((i3 h0).rd h0 hk hp hq).1
      unfold Tm; rw [if_pos (this.symm.trans u1)]
    · rw [if_neg (fun w => u1 ((lgE _ _).mp w))]
      by_cases u2 : m.2 501 0 (3 * k + q) = Uu
      · rw [if_pos ((lgE _ _).mpr u2)]
        refine ⟨m, rfl, i1, i2, skip (fun h0 => ?_)⟩
        have := ((i3 h0).rd h0 hk hp hq).2
        unfold Tm; split
        · rfl
        · rw [if_pos (this.symm.trans u2)]
      · rw [if_neg (fun w => u2 ((lgE _ _).mp w)), raise_in hp hq, obs]
        refine ⟨_, rfl, i1, fun a ha => ?_, fun h0 a b ha hb => ?_⟩
        · rw [wj_at]
          by_cases z : 3 * a + a = 3 * p + q
          · rw [if_pos ⟨rfl, rfl, z⟩, ← z]
            have := max64 (m.2 501 0 (3 * a + a)) (m.2 501 0 (3 * p + k) + m.2 501 0 (3 * k + q))
            have := i2 a ha
            omega
          · rw [if_neg (fun w => z w.2.2)]; exact i2 a ha
        · obtain ⟨r1, r2⟩ := (i3 h0).rd h0 hk hp hq
          rw [wj_at]
          by_cases z : a = p ∧ b = q
          · rw [if_pos (show 501 = 501 ∧ 0 = 0 ∧ 3 * a + b = 3 * p + q by omega), if_pos (show a < p ∨ (a = p ∧ b < q + 1) by omega), i3 h0 p q hp hq, if_neg (show ¬ (p < p ∨ (p = p ∧ q < q)) by omega), z.1, z.2, r1, r2]
            unfold Tm
            rw [if_neg (show ¬ M p k = Uu by rw [← r1]; exact u1), if_neg (show ¬ M k q = Uu by rw [← r2]; exact u2)]
          · rw [if_neg (by omega), i3 h0 a b ha hb]
            by_cases y : a < p ∨ (a = p ∧ b < q)
            · rw [if_pos y, if_pos (by omega)]
            · rw [if_neg y, if_neg (by omega)]) (by
    intro N m _
    show f_X5_joinThrough_b9 F K2 (N + 1) m (nI k) (nI p) (nI 3) = _
    rw [f_X5_joinThrough_b9, if_pos (by decide), s1]) F 0 m0 (by omega) (by omega) ⟨h1, h2, h3⟩
  refine ⟨m', e, i1, i2, fun h0 a b ha hb => ?_⟩
  rw [i3 h0 a b ha hb]
  by_cases y : a < p ∨ (a = p ∧ b < 3)
  · rw [if_pos y, if_pos (by omega)]
  · rw [if_neg y, if_neg (by omega)]
theorem phase_c {F k : Nat} {μ : Mm} {M : Mx3} (hF : 1000 ≤ F) (hk : k < 3) (h : CO5 μ M) : ∃ μ', f_X5_joinThrough F μ (nI k) = some μ' ∧ μ'.1 = μ.1 ∧ (∀ a, a < 3 → (M a a).toInt ≤ (μ'.2 501 0 (3 * a + a)).toInt) ∧ (M k k = 0 → CO5 μ' (Tm k M)) := by
  unfold f_X5_joinThrough
  obtain ⟨m', e, i1, i2, i3⟩ := loop_inv (fun N m x => f_X5_joinThrough_b2 F N m (nI k) x) (fun m => some m) 3 (fun p m => m.1 = μ.1 ∧ (∀ a, a < 3 → (M a a).toInt ≤ (m.2 501 0 (3 * a + a)).toInt) ∧ (M k k = 0 → PI5 m k M p 0)) (by
    intro N m p hp ⟨i1, i2, i3⟩
    show ∃ s', f_X5_joinThrough_b2 F (N + 1) m (nI k) (nI p) = f_X5_joinThrough_b2 F N s' (nI k) (nI (p + 1)) ∧ _
    rw [f_X5_joinThrough_b2, if_neg (by rw [show (3 : Int32) = nI 3 from rfl]; exact ngt (by omega) (by omega) hp)]
    obtain ⟨m', e, j1, j2, j3⟩ := phase_c1 (μ := μ) (fun μ a1 a2 => f_X5_joinThrough_b2 F N μ a1 a2) hF hk hp i1 i2 i3
    exact ⟨m', e, j1, j2, j3⟩) (by
    intro N m _
    show f_X5_joinThrough_b2 F (N + 1) m (nI k) (nI 3) = _
    rw [f_X5_joinThrough_b2, if_pos (by decide)]) F 0 μ (by omega) (by omega) ⟨rfl, fun a ha => by rw [h a a ha ha]; omega, fun _ a b ha hb => by rw [if_neg (by omega)]; exact h a b ha hb⟩
  refine ⟨m', e, i1, i2, fun h0 a b ha hb => ?_⟩
  rw [i3 h0 a b ha hb, if_pos (by omega)]
