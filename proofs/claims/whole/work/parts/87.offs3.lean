/-! letters: where each was told -/
theorem nI_div {a b : Nat} (ha : a < 2147483648) (hb : b < 2147483648) : nI a / nI b = nI (a / b) := by
  apply Int32.toInt_inj.mp
  rw [Int32.toInt_div_of_ne_right _ _ (nIne1 hb), nIT ha, nIT hb, nIT (Nat.lt_of_le_of_lt (Nat.div_le_self _ _) ha)]
  exact (Int.ofNat_tdiv a b).symm
def pL (D : Tr) (c x p : Nat) (j : Nat) : Bool := decide (zK (tL D p) j = nI (9 + c) ∧ zX (tL D p) j = nI x)
def lat (D : Tr) (c x p : Nat) : Nat := fnd (pL D c x p) (zn (tL D p)) 0
def ltr (D : Tr) (c x : Nat) : Option (Nat × Nat) := if lat D c x 0 < zn (tL D 0) then some (0, lat D c x 0) else if lat D c x 1 < zn (tL D 1) then some (1, lat D c x 1) else if lat D c x 2 < zn (tL D 2) then some (2, lat D c x 2) else none
theorem lat_is {D : Tr} {c x p : Nat} (h : lat D c x p < zn (tL D p)) : zK (tL D p) (lat D c x p) = nI (9 + c) ∧ zX (tL D p) (lat D c x p) = nI x := by
  have := fnd_is (pL D c x p) (zn (tL D p)) 0 (by show lat D c x p < _; omega)
  unfold pL at this
  rw [decide_eq_true_iff] at this; exact this
theorem lat_no {D : Tr} {c x p : Nat} (h : ¬ lat D c x p < zn (tL D p)) {j : Nat} (hj : j < zn (tL D p)) (hk : zK (tL D p) j = nI (9 + c)) : ¬ zX (tL D p) j = nI x := fun e => by
  have := fnd_not (pL D c x p) (zn (tL D p)) 0 j (by omega) (by show j < lat D c x p; omega)
  exact this (decide_eq_true ⟨hk, e⟩)
theorem ltr_some {D : Tr} {c x p j : Nat} (h : ltr D c x = some (p, j)) : p < 3 ∧ j < zn (tL D p) ∧ zK (tL D p) j = nI (9 + c) ∧ zX (tL D p) j = nI x := by
  unfold ltr at h
  by_cases a0 : lat D c x 0 < zn (tL D 0)
  · rw [if_pos a0] at h; have h := Option.some.inj h; obtain ⟨rfl, rfl⟩ := Prod.mk.inj h; exact ⟨by omega, a0, lat_is a0⟩
  rw [if_neg a0] at h
  by_cases a1 : lat D c x 1 < zn (tL D 1)
  · rw [if_pos a1] at h; have h := Option.some.inj h; obtain ⟨rfl, rfl⟩ := Prod.mk.inj h; exact ⟨by omega, a1, lat_is a1⟩
  rw [if_neg a1] at h
  by_cases a2 : lat D c x 2 < zn (tL D 2)
  · rw [if_pos a2] at h; have h := Option.some.inj h; obtain ⟨rfl, rfl⟩ := Prod.mk.inj h; exact ⟨by omega, a2, lat_is a2⟩
  rw [if_neg a2] at h; exact absurd h (by simp)
theorem ltr_none {D : Tr} {c x : Nat} (h : ltr D c x = none) {p j : Nat} (hp : p < 3) (hj : j < zn (tL D p)) (hk : zK (tL D p) j = nI (9 + c)) : ¬ zX (tL D p) j = nI x := by
  unfold ltr at h
  by_cases a0 : lat D c x 0 < zn (tL D 0)
  · rw [if_pos a0] at h; exact absurd h (by simp)
  rw [if_neg a0] at h
  by_cases a1 : lat D c x 1 < zn (tL D 1)
  · rw [if_pos a1] at h; exact absurd h (by simp)
  rw [if_neg a1] at h
  by_cases a2 : lat D c x 2 < zn (tL D 2)
  · rw [if_pos a2] at h; exact absurd h (by simp)
  rcases (show p = 0 ∨ p = 1 ∨ p = 2 by omega) with rfl | rfl | rfl
  · exact lat_no a0 hj hk
  · exact lat_no a1 hj hk
  · exact lat_no a2 hj hk
theorem letter_c {μ : Mm} {t : Nat} {D : Tr} (hv : TV D) (h : CT μ t D) {c x : Nat} (hc : c < 4) (hx : x < 64) : (ltr D c x = none ∧ μ.1 704 t (64 * c + x) = -1) ∨ ∃ p j, ltr D c x = some (p, j) ∧ μ.1 704 t (64 * c + x) = nI (200 * p + j) := by
  have h4 := h.2.2.2.1 c x hc hx
  cases e : ltr D c x with
  | none =>
    left
    rcases h4 with ⟨a, -⟩ | ⟨p, j, hp, hj, -, k1, k2⟩
    · exact ⟨rfl, a⟩
    · exact absurd k2 (ltr_none e hp hj k1)
  | some w =>
    right
    obtain ⟨p, j⟩ := w
    obtain ⟨hp, hj, k1, k2⟩ := ltr_some e
    rcases h4 with ⟨-, a⟩ | ⟨p', j', hp', hj', a, l1, l2⟩
    · exact absurd k2 (a p j hp hj k1)
    · obtain ⟨rfl, rfl⟩ := hv.2.2.2.2.2.2.2 p p' j j' c hp hp' hj hj' hc k1 l1 (k2.trans l2.symm)
      exact ⟨p, j, rfl, a⟩
theorem lproc {μ : Mm} {t p j : Nat} (hp : p < 3) (hj : j < 200) : f_X7_letterProcessor μ t (nI (200 * p + j)) = some (nI p) := by
  unfold f_X7_letterProcessor
  rw [show (200 : Int32) = nI 200 from rfl, nI_div (by omega) (by omega), show (200 * p + j) / 200 = p by omega]
theorem ltime {μ : Mm} {p j : Nat} {D : Tr} (h : CT μ 0 D) (hp : p < 3) (hj : j < zn (tL D p)) : f_X7_letterTime μ 0 (nI (200 * p + j)) = some (zM (tL D p) j) := by
  have hL := (h.2.2.1 p hp).1
  have hn := hL.1
  unfold f_X7_letterTime
  rw [lproc hp (by omega), obs, laneOf_in hp, obs, show (200 : Int32) = nI 200 from rfl, nI_div (by omega) (by omega), pk_mul, nI_sub (by omega), show 200 * p + j - (200 * p + j) / 200 * 200 = j by omega, timeOf_in hL hj, obs]
/-- the reference seeks a letter -/
theorem i200m (p k : Nat) : (200 : Int32) * nI p + nI k = nI (200 * p + k) := by
  rw [show (200 : Int32) = nI 200 from rfl, pk_mul, nI_add]
theorem seekM_in {F c x p : Nat} {m : Mm} {D : Tr} (K2 : Mm → Int32 → Int32 → Int32 → Option (Int32 × Mm)) (hF : 1000 ≤ F) (hM : ML m p (tL D p)) : f_X10_seeksMark_b13 F K2 F m (nI (9 + c)) (nI x) (nI p) 0 = if lat D c x p < zn (tL D p) then some (1, wi (wi m 1000 0 46 (nI p)) 1000 0 47 (zM (tL D p) (lat D c x p))) else K2 m (nI (9 + c)) (nI x) (nI (p + 1)) := by
  have hn := hM.2.1
  have hg := hM.1
  refine loop_fnd (fun N y => f_X10_seeksMark_b13 F K2 N m (nI (9 + c)) (nI x) (nI p) y) (zn (tL D p)) (pL D c x p) (fun j => if j < zn (tL D p) then some (1, wi (wi m 1000 0 46 (nI p)) 1000 0 47 (zM (tL D p) j)) else K2 m (nI (9 + c)) (nI x) (nI (p + 1))) (fun N j hj => ?_) (fun N => ?_) (zn (tL D p)) 0 F (by omega) (by omega)
  · show f_X10_seeksMark_b13 F K2 (N + 1) m (nI (9 + c)) (nI x) (nI p) (nI j) = _
    have hz := hM.2.2.2 j hj
    rw [f_X10_seeksMark_b13, mk_m hM, obs, if_neg (ngt (by omega) (by omega) hj), i200m, ra_in (show 200 * p + j < 4200 by omega) (by omega), obs, hz.1, ra_in (show 200 * p + j < 4200 by omega) (by omega), obs, hz.2.2.1, wf_eq, obs, ra_in (show 200 * p + j < 4200 by omega) (by omega), obs, wi_at, if_neg (show ¬ (1012 = 1000 ∧ 0 = 0 ∧ 200 * p + j = 46) by omega), hz.2.2.2, wf_eq, obs, s1, if_pos hj]
    unfold pL
    by_cases a : zK (tL D p) j = nI (9 + c)
    · rw [if_pos a]
      by_cases b : zX (tL D p) j = nI x
      · rw [if_pos b, if_pos (decide_eq_true ⟨a, b⟩)]
      · rw [if_neg b, decide_eq_false (fun w => b w.2), if_neg (by decide)]
    · rw [if_neg a, decide_eq_false (fun w => a w.1), if_neg (by decide)]
  · show f_X10_seeksMark_b13 F K2 (N + 1) m (nI (9 + c)) (nI x) (nI p) (nI (zn (tL D p))) = _
    rw [f_X10_seeksMark_b13, mk_m hM, obs, if_pos (nle (by omega) (by omega) (by omega)), s1, if_neg (show ¬ zn (tL D p) < zn (tL D p) by omega)]
def skR (D : Tr) (m : Mm) (c x : Nat) : Int32 × Mm := match ltr D c x with
  | none => (0, m)
  | some w => (1, wi (wi m 1000 0 46 (nI w.1)) 1000 0 47 (zM (tL D w.1) w.2))
theorem seekM_ok {F c x : Nat} {m : Mm} {D : Tr} (hF : 1000 ≤ F) (hv : TV D) (h : MT m D) : f_X10_seeksMark F m (nI (9 + c)) (nI x) = some (skR D m c x) := by
  have hP := hv.1
  unfold f_X10_seeksMark
  have st : ∀ N p, p < 3 → f_X10_seeksMark_b2 F (N + 1) m (nI (9 + c)) (nI x) (nI p) = if lat D c x p < zn (tL D p) then some (1, wi (wi m 1000 0 46 (nI p)) 1000 0 47 (zM (tL D p) (lat D c x p))) else if tP D ≤ p then some (0, m) else f_X10_seeksMark_b2 F N m (nI (9 + c)) (nI x) (nI (p + 1)) := fun N p hp => by
    rw [f_X10_seeksMark_b2, h.1.1]
    by_cases z : tP D ≤ p
    · have z0 := hv.2.2.2.2.2.2.1 p hp z
      rw [if_pos (nle (by omega) (by omega) z), if_neg (by omega), if_pos z]
    · rw [if_neg (ngt (by omega) (by omega) (by omega)), if_neg z]
      exact seekM_in _ hF (h.2.2 p hp)
  have st3 : ∀ N, f_X10_seeksMark_b2 F (N + 1) m (nI (9 + c)) (nI x) (nI 3) = some (0, m) := fun N => by
    rw [f_X10_seeksMark_b2, h.1.1, if_pos (nle (by omega) (by omega) (by omega))]
  have no : ∀ p, p < 3 → tP D ≤ p → ¬ lat D c x p < zn (tL D p) := fun p hp z => by have := hv.2.2.2.2.2.2.1 p hp z; omega
  obtain ⟨N, rfl⟩ : ∃ N, F = N + 1 + 1 + 1 + 1 := ⟨F - 4, by omega⟩
  rw [show (0 : Int32) = nI 0 from rfl, st _ 0 (by omega)]
  unfold skR ltr
  by_cases a0 : lat D c x 0 < zn (tL D 0)
  · rw [if_pos a0, if_pos a0]
  rw [if_neg a0, if_neg a0]
  by_cases z0 : tP D ≤ 0
  · omega
  rw [if_neg z0, st _ 1 (by omega)]
  by_cases a1 : lat D c x 1 < zn (tL D 1)
  · rw [if_pos a1, if_pos a1]
  rw [if_neg a1, if_neg a1]
  by_cases z1 : tP D ≤ 1
  · rw [if_pos z1, if_neg (no 2 (by omega) (by omega))]
  rw [if_neg z1, st _ 2 (by omega)]
  by_cases a2 : lat D c x 2 < zn (tL D 2)
  · rw [if_pos a2, if_pos a2]
  rw [if_neg a2, if_neg a2]
  by_cases z2 : tP D ≤ 2
  · rw [if_pos z2]
  · rw [if_neg z2, st3]
