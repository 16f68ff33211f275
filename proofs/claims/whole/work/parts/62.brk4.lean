/-! the third law: readied again too soon -/
abbrev Ap : Type := Option Nat × Bool × Bk
def obi : Option Nat → Int32
  | none => -1
  | some k => nI k
def apP (L : La) (d : Int32) (j k : Nat) (l : Bool) (B : Bk) : Bk := if d ≤ zM L j - zM L k then (if l = true then (B.1, B.2 ++ [zM L k]) else B) else (B.1 ++ [zM L k], B.2)
def apG (L : La) (u : Nat) (d : Int32) (j : Nat) (s : Ap) : Ap :=
  if zK L j = 0 ∧ zT L j = nI u then (some j, false, match s.1 with
    | none => s.2.2
    | some k => apP L d j k (s.2.1 || decide (zK L j = 8)) s.2.2)
  else (s.1, s.2.1 || decide (zK L j = 8), s.2.2)
def apS (L : La) (u : Nat) (d : Int32) : Nat → Ap
  | 0 => (none, false, [], [])
  | j + 1 => apG L u d j (apS L u d j)
theorem apP_le (L : La) (d : Int32) (j k : Nat) (l : Bool) (B : Bk) : (apP L d j k l B).1.length + (apP L d j k l B).2.length ≤ B.1.length + B.2.length + 1 := by
  unfold apP; split
  · split
    · show B.1.length + (B.2 ++ [_]).length ≤ _; rw [List.length_append, List.length_singleton]; omega
    · omega
  · show (B.1 ++ [_]).length + B.2.length ≤ _; rw [List.length_append, List.length_singleton]; omega
theorem apS_le (L : La) (u : Nat) (d : Int32) : ∀ j, (apS L u d j).2.2.1.length + (apS L u d j).2.2.2.length ≤ j ∧ ∀ k, (apS L u d j).1 = some k → k < j
  | 0 => ⟨Nat.le_refl _, fun k e => absurd e (by simp [apS])⟩
  | j + 1 => by
    obtain ⟨a, b⟩ := apS_le L u d j
    show (apG L u d j (apS L u d j)).2.2.1.length + (apG L u d j (apS L u d j)).2.2.2.length ≤ j + 1 ∧ ∀ k, (apG L u d j (apS L u d j)).1 = some k → _
    unfold apG
    by_cases q : zK L j = 0 ∧ zT L j = nI u
    · rw [if_pos q]
      refine ⟨?_, fun k e => by have := Option.some.inj e; omega⟩
      cases e : (apS L u d j).1 with
      | none => show (apS L u d j).2.2.1.length + (apS L u d j).2.2.2.length ≤ j + 1; omega
      | some k => have := apP_le L d j k ((apS L u d j).2.1 || decide (zK L j = 8)) (apS L u d j).2.2; exact Nat.le_trans this (by omega)
    · rw [if_neg q]
      exact ⟨by show (apS L u d j).2.2.1.length + (apS L u d j).2.2.2.length ≤ j + 1; omega, fun k e => by have := b k e; omega⟩
theorem isMarkOf_in {μ : Mm} {i j u : Nat} {L : La} (h : CL μ i L) (hj : j < zn L) (k : Int32) : f_X2_isMarkOf μ i (nI j) k (nI u) = some (if zK L j = k ∧ zT L j = nI u then 1 else 0) := by
  unfold f_X2_isMarkOf
  rw [kindOf_in h hj, obs, taskOf_in h hj, obs]
  by_cases a : zK L j = k
  · by_cases b : zT L j = nI u
    · rw [if_pos a, if_pos b, if_pos ⟨a, b⟩]
    · rw [if_pos a, if_neg b, if_neg (fun z => b z.2)]
  · rw [if_neg a, if_neg (fun z => a z.1)]
theorem is_in {μ : Mm} {g j u : Nat} {L : La} (hM : ML μ g L) (ht : μ.1 1000 0 33 = nI g) (hj : j < zn L) (hu : u < 8) (k : Int32) : f_X10_is μ (nI j) k (nI u) (-1) = some (if zK L j = k ∧ zT L j = nI u then 1 else 0) := by
  have h1 := hM.1
  have h2 := hM.2.1
  unfold f_X10_is f_X10_is_b33
  rw [spot_in ht, obs, ra_in (by omega) (by omega), obs, if_pos rfl, (hM.2.2.2 j hj).1, if_neg (nn1 (by omega)), obs, ra_in (by omega) (by omega), obs, (hM.2.2.2 j hj).2.1]
  by_cases a : zK L j = k
  · by_cases b : zT L j = nI u
    · rw [if_pos a, if_pos b, if_pos ⟨a, b⟩]
    · rw [if_pos a, if_neg b, if_neg (fun z => b z.2)]
  · rw [if_neg a, if_neg (fun z => a z.1)]
theorem b2_or (l : Bool) (p : Prop) [Decidable p] : b2 (l || decide p) = if p then 1 else b2 l := by
  by_cases h : p
  · rw [decide_eq_true h, Bool.or_true, if_pos h]; rfl
  · rw [decide_eq_false h, Bool.or_false, if_neg h]
theorem judgePair_ok {μ : Mm} {B : Bk} {L : La} {j k : Nat} {l : Bool} {d : Int32} (h : CB μ B) (hl : B.1.length + B.2.length < 200) : ∃ μ', f_X0_judgePair μ (zM L k) (zM L j) (b2 l) d = some μ' ∧ CB μ' (apP L d j k l B) ∧ ∀ k i j, 2 < k → μ'.1 k i j = μ.1 k i j := by
  unfold f_X0_judgePair apP
  by_cases q : d ≤ zM L j - zM L k
  · rw [if_pos q, if_pos q]
    cases l with
    | false => rw [if_pos (show b2 false = 0 from rfl), if_neg (by decide)]; exact ⟨μ, rfl, h, fun _ _ _ _ => rfl⟩
    | true =>
      rw [if_neg (by decide), if_pos rfl]
      obtain ⟨m, e, b, f⟩ := addMaybe_ok h (by omega) (zM L k)
      rw [e, obs]; exact ⟨m, rfl, b, f⟩
  · rw [if_neg q, if_neg q]
    obtain ⟨m, e, b, f⟩ := addSure_ok h (by omega) (zM L k)
    rw [e, obs]; exact ⟨m, rfl, b, f⟩
theorem apart_c {F : Nat} {μ : Mm} {i u : Nat} {L : La} {d : Int32} (hF : 1000 ≤ F) (hL : CL μ i L) (hB : CB μ ([], [])) : ∃ μ', f_X0_judgeApart F μ i (nI u) d = some μ' ∧ CB μ' (apS L u d (zn L)).2.2 := by
  have hn := hL.1
  unfold f_X0_judgeApart
  obtain ⟨⟨m', a4, a5⟩, e, i1, i2⟩ := loop_inv (fun N (s : Mm × Int32 × Int32) x => f_X0_judgeApart_b9 F N s.1 i (nI u) d s.2.1 s.2.2 x) (fun s => some s.1) (zn L) (fun j s => CL s.1 i L ∧ CB s.1 (apS L u d j).2.2 ∧ s.2.1 = obi (apS L u d j).1 ∧ s.2.2 = b2 (apS L u d j).2.1) (by
    intro N ⟨m, a4, a5⟩ j hj ⟨i1, i2, i3, i4⟩
    obtain ⟨w1, w2⟩ := apS_le L u d j
    have i1 : CL m i L := i1
    have i2 : CB m (apS L u d j).2.2 := i2
    have i3 : a4 = obi (apS L u d j).1 := i3
    have i4 : a5 = b2 (apS L u d j).2.1 := i4
    show ∃ s' : Mm × Int32 × Int32, f_X0_judgeApart_b9 F (N + 1) m i (nI u) d a4 a5 (nI j) = f_X0_judgeApart_b9 F N s'.1 i (nI u) d s'.2.1 s'.2.2 (nI (j + 1)) ∧ _
    rw [f_X0_judgeApart_b9, i1.2.1, if_neg (ngt (by omega) (by omega) hj), kindOf_in i1 hj, obs]
    have key : ∃ s' : Mm × Int32 × Int32, f_X0_judgeApart_b32 F (fun μ a1 a2 a3 a4 a5 a6 => f_X0_judgeApart_b9 F N μ a1 a2 a3 a4 a5 a6) m i (nI u) d a4 (b2 ((apS L u d j).2.1 || decide (zK L j = 8))) (nI j) = f_X0_judgeApart_b9 F N s'.1 i (nI u) d s'.2.1 s'.2.2 (nI (j + 1)) ∧ CL s'.1 i L ∧ CB s'.1 (apS L u d (j + 1)).2.2 ∧ s'.2.1 = obi (apS L u d (j + 1)).1 ∧ s'.2.2 = b2 (apS L u d (j + 1)).2.1 := by
      unfold f_X0_judgeApart_b32
      rw [isMarkOf_in i1 hj, obs, s1]
      show ∃ s' : Mm × Int32 × Int32, _ ∧ CL s'.1 i L ∧ CB s'.1 (apG L u d j (apS L u d j)).2.2 ∧ s'.2.1 = obi (apG L u d j (apS L u d j)).1 ∧ s'.2.2 = b2 (apG L u d j (apS L u d j)).2.1
      unfold apG
      by_cases q : zK L j = 0 ∧ zT L j = nI u
      · rw [if_pos q, if_pos q, if_neg (by decide), i3]
        cases e : (apS L u d j).1 with
        | none =>
          rw [if_pos (show obi none = -1 from rfl)]
          exact ⟨(m, nI j, 0), rfl, i1, i2, rfl, rfl⟩
        | some k =>
          have hk := w2 k e
          rw [if_neg (show ¬ obi (some k) = -1 from nn1 (by omega)), show obi (some k) = nI k from rfl, timeOf_in i1 (by omega), obs, timeOf_in i1 hj, obs]
          obtain ⟨m2, e2, b2', f2⟩ := judgePair_ok (L := L) (j := j) (k := k) (l := (apS L u d j).2.1 || decide (zK L j = 8)) (d := d) i2 (by omega)
          rw [e2, obs]
          exact ⟨(m2, nI j, 0), rfl, i1.kept (fun k j a b => f2 _ _ _ (by omega)), b2', rfl, rfl⟩
      · rw [if_neg q, if_neg q, if_pos rfl]
        exact ⟨(m, a4, _), rfl, i1, i2, i3, rfl⟩
    rw [b2_or] at key
    rw [i4]
    by_cases k8 : zK L j = 8
    · rw [if_pos k8] at key ⊢; exact key
    · rw [if_neg k8] at key ⊢; exact key) (by
    intro N ⟨m, a4, a5⟩ ⟨i1, _⟩
    have i1 : CL m i L := i1
    show f_X0_judgeApart_b9 F (N + 1) m i (nI u) d a4 a5 (nI (zn L)) = _
    rw [f_X0_judgeApart_b9, i1.2.1, if_pos (nle (by omega) (by omega) (by omega))]) F 0 (μ, -1, 0) (by omega) (by omega) ⟨hL, hB, rfl, rfl⟩
  exact ⟨m', e, i2.1⟩
