/-! MARKS: what is well formed, what is allowed -/
def fmt (T k : Nat) (t x : Int32) : Prop := (if k ≤ 5 then ∃ u, u < T ∧ t = nI u else t = -1) ∧ (if 3 ≤ k ∧ k ≤ 5 then ∃ l, l < 4 ∧ x = nI l else if 9 ≤ k then ∃ l, l < 64 ∧ x = nI l else x = -1)
theorem lit_lt {k n : Nat} (hk : k < 100000) (hn : n < 100000) : nI k < nI n ↔ k < n := ltN (by omega) (by omega)
/-- the number x, behind a task that fits (s) -/
theorem formed35 {μ : Mm} {k : Nat} {x : Int32} {s : Int32} (hk : k ≤ 12) (hs : s = 0 ∨ s = 1) : f_X7_isFormed_b35 μ (nI k) x s = some 1 ∧ s = 1 ∧ (if 3 ≤ k ∧ k ≤ 5 then ∃ l, l < 4 ∧ x = nI l else if 9 ≤ k then ∃ l, l < 64 ∧ x = nI l else x = -1) ∨ f_X7_isFormed_b35 μ (nI k) x s = some 0 ∧ ¬ (s = 1 ∧ (if 3 ≤ k ∧ k ≤ 5 then ∃ l, l < 4 ∧ x = nI l else if 9 ≤ k then ∃ l, l < 64 ∧ x = nI l else x = -1)) := by
  unfold f_X7_isFormed_b35 f_X7_isFormed_b67
  have a3 : nI k < (3 : Int32) ↔ k < 3 := lit_lt (n := 3) (by omega) (by omega)
  have a5 : (5 : Int32) < nI k ↔ 5 < k := lit_lt (k := 5) (by omega) (by omega)
  have a9 : nI k < (9 : Int32) ↔ k < 9 := lit_lt (n := 9) (by omega) (by omega)
  simp only [a3, a5, a9]
  rcases hs with rfl | rfl
  · right
    refine ⟨?_, fun z => absurd z.1 (by decide)⟩
    split
    · split <;> rw [if_pos rfl]
    · split
      · split <;> rw [if_pos rfl]
      · rw [if_pos rfl]
  · by_cases k3 : 3 ≤ k ∧ k ≤ 5
    · rw [if_neg (by omega), if_neg (by omega), if_neg i10, if_pos k3]
      rcases ix2 x (n := 4) (by omega) with q | ⟨l, hl, rfl⟩
      · right
        refine ⟨?_, fun z => ?_⟩
        · rcases q with q | q
          · rw [if_pos q]
          · by_cases q0 : x < 0
            · rw [if_pos q0]
            · rw [if_neg q0, if_pos (show (4 : Int32) ≤ x from q)]
        · obtain ⟨-, l, hl, rfl⟩ := z
          rcases q with q | q
          · exact nN0 (by omega) q
          · exact ngt (by omega) (by omega) hl q
      · left
        refine ⟨?_, rfl, l, hl, rfl⟩
        rw [if_neg (nN0 (by omega)), if_neg (n4 hl)]
    · rw [if_neg k3]
      by_cases k9 : 9 ≤ k
      · rw [if_pos k9]
        have e : ∀ y : Option Int32, (if k < 3 then (if k < 9 then (if (1 : Int32) = 0 then some 0 else if x = (-1) then some 1 else some 0) else if (1 : Int32) = 0 then some 0 else if x < 0 then some 0 else if (64 : Int32) ≤ x then some 0 else some 1) else if 5 < k then (if k < 9 then (if (1 : Int32) = 0 then some 0 else if x = (-1) then some 1 else some 0) else if (1 : Int32) = 0 then some 0 else if x < 0 then some 0 else if (64 : Int32) ≤ x then some 0 else some 1) else y) = if x < 0 then some 0 else if (64 : Int32) ≤ x then some 0 else some 1 := fun y => by
          rw [if_neg (by omega), if_pos (by omega), if_neg (by omega), if_neg i10]
        rw [e]
        rcases ix2 x (n := 64) (by omega) with q | ⟨l, hl, rfl⟩
        · right
          refine ⟨?_, fun z => ?_⟩
          · rcases q with q | q
            · rw [if_pos q]
            · by_cases q0 : x < 0
              · rw [if_pos q0]
              · rw [if_neg q0, if_pos (show (64 : Int32) ≤ x from q)]
          · obtain ⟨-, l, hl, rfl⟩ := z
            rcases q with q | q
            · exact nN0 (by omega) q
            · exact ngt (by omega) (by omega) hl q
        · left
          refine ⟨?_, rfl, l, hl, rfl⟩
          rw [if_neg (nN0 (by omega)), if_neg (by rw [show (64 : Int32) = nI 64 from rfl]; exact ngt (by omega) (by omega) hl)]
      · rw [if_neg k9]
        have e : ∀ y z w : Option Int32, (if k < 3 then (if k < 9 then (if (1 : Int32) = 0 then some 0 else if x = (-1) then some 1 else some 0) else y) else if 5 < k then (if k < 9 then (if (1 : Int32) = 0 then some 0 else if x = (-1) then some 1 else some 0) else z) else w) = if x = (-1) then some 1 else some 0 := fun y z w => by
          by_cases k0 : k < 3
          · rw [if_pos k0, if_pos (by omega), if_neg i10]
          · rw [if_neg k0, if_pos (by omega), if_pos (by omega), if_neg i10]
        rw [e]
        by_cases q : x = -1
        · left; rw [if_pos q]; exact ⟨rfl, rfl, q⟩
        · right; rw [if_neg q]; exact ⟨rfl, fun z => q z.2⟩
theorem isFormed_c {μ : Mm} {T k : Nat} {t x : Int32} (h : μ.1 700 0 5 = nI T) (hT : T ≤ 8) (hk : k ≤ 12) : (f_X7_isFormed μ 0 (nI k) t x = some 1 ∧ fmt T k t x) ∨ (f_X7_isFormed μ 0 (nI k) t x = some 0 ∧ ¬ fmt T k t x) := by
  unfold f_X7_isFormed fmt
  have a12 : nI k ≤ (12 : Int32) := nle (b := 12) (by omega) (by omega) hk
  have a5 : (5 : Int32) < nI k ↔ 5 < k := lit_lt (k := 5) (by omega) (by omega)
  rw [if_neg (nN0 (by omega)), if_pos a12]
  simp only [a5]
  by_cases k5 : k ≤ 5
  · rw [if_neg (by omega), if_pos k5]
    rcases ix2 t (n := T) (by omega) with q | ⟨u, hu, rfl⟩
    · right
      rw [hasTask_out h q, obs]
      refine ⟨?_, fun z => ?_⟩
      · rcases formed35 (μ := μ) (x := x) (s := 0) hk (.inl rfl) with ⟨-, e, -⟩ | ⟨e, -⟩
        · exact absurd e (by decide)
        · exact e
      · obtain ⟨⟨u, hu, rfl⟩, -⟩ := z
        rcases q with q | q
        · exact nN0 (by omega) q
        · exact ngt (by omega) (by omega) hu q
    · rw [hasTask_in h hT hu, obs]
      rcases formed35 (μ := μ) (x := x) (s := 1) hk (.inr rfl) with ⟨e, -, f⟩ | ⟨e, f⟩
      · exact .inl ⟨e, ⟨u, hu, rfl⟩, f⟩
      · exact .inr ⟨e, fun z => f ⟨rfl, z.2⟩⟩
  · rw [if_pos (by omega), if_neg k5]
    by_cases q : t = -1
    · rw [if_pos q]
      rcases formed35 (μ := μ) (x := x) (s := 1) hk (.inr rfl) with ⟨e, -, f⟩ | ⟨e, f⟩
      · exact .inl ⟨e, q, f⟩
      · exact .inr ⟨e, fun z => f ⟨rfl, z.2⟩⟩
    · rw [if_neg q]
      right
      refine ⟨?_, fun z => q z.1⟩
      rcases formed35 (μ := μ) (x := x) (s := 0) hk (.inl rfl) with ⟨-, e, -⟩ | ⟨e, -⟩
      · exact absurd e (by decide)
      · exact e
/-! the reference's test of form -/
theorem in_gen (m : Mm) {x : Int32} {n : Nat} (hn : n ≤ 1000) (e : Int32) (he : e = nI n - 1) : (f_X10_in m x 0 e = some 1 ∧ ∃ l, l < n ∧ x = nI l) ∨ (f_X10_in m x 0 e = some 0 ∧ ¬ ∃ l, l < n ∧ x = nI l) := by
  subst he
  rcases ix2 x (n := n) (by omega) with q | ⟨l, hl, rfl⟩
  · right
    refine ⟨in_out hn q, fun ⟨l, hl, z⟩ => ?_⟩
    subst z
    rcases q with q | q
    · exact nN0 (by omega) q
    · exact ngt (by omega) (by omega) hl q
  · exact .inl ⟨in_in hn hl, l, hl, rfl⟩
theorem in35 (m : Mm) {k : Nat} (hk : k ≤ 12) : f_X10_in m (nI k) 3 5 = some (if 3 ≤ k ∧ k ≤ 5 then 1 else 0) := by
  have a3 : nI k < (3 : Int32) ↔ k < 3 := lit_lt (n := 3) (by omega) (by omega)
  have a5 : (5 : Int32) < nI k ↔ 5 < k := lit_lt (k := 5) (by omega) (by omega)
  rw [in_eq]
  simp only [a3, a5]
  by_cases a : k < 3
  · rw [if_pos a, if_neg (by omega)]
  · rw [if_neg a]
    by_cases b : 5 < k
    · rw [if_pos b, if_neg (by omega)]
    · rw [if_neg b, if_pos (by omega)]
theorem isMark61 {m : Mm} {k : Nat} {x s : Int32} (hk : k ≤ 12) (hs : s = 0 ∨ s = 1) : (f_X10_isMark_b61 m (nI k) x s = some 1 ∧ s = 1 ∧ (if 3 ≤ k ∧ k ≤ 5 then ∃ l, l < 4 ∧ x = nI l else if 9 ≤ k then ∃ l, l < 64 ∧ x = nI l else x = -1)) ∨ (f_X10_isMark_b61 m (nI k) x s = some 0 ∧ ¬ (s = 1 ∧ (if 3 ≤ k ∧ k ≤ 5 then ∃ l, l < 4 ∧ x = nI l else if 9 ≤ k then ∃ l, l < 64 ∧ x = nI l else x = -1))) := by
  unfold f_X10_isMark_b61
  rcases hs with rfl | rfl
  · right; rw [if_pos rfl]; exact ⟨rfl, fun z => absurd z.1 (by decide)⟩
  rw [if_neg i10, in35 m hk, obs]
  have a9 : nI k < (9 : Int32) ↔ k < 9 := lit_lt (n := 9) (by omega) (by omega)
  simp only [a9]
  by_cases k3 : 3 ≤ k ∧ k ≤ 5
  · rw [if_pos k3, if_neg i10, if_pos k3]
    rcases in_gen m (x := x) (n := 4) (by omega) 3 (by decide) with ⟨e, f⟩ | ⟨e, f⟩
    · left; rw [e, obs, if_neg i10]; exact ⟨rfl, trivial, f⟩
    · right; rw [e, obs, if_pos rfl]; exact ⟨rfl, fun z => f z.2⟩
  · rw [if_neg k3, if_pos rfl, if_neg k3]
    by_cases k9 : 9 ≤ k
    · rw [if_neg (by omega), if_pos k9]
      rcases in_gen m (x := x) (n := 64) (by omega) 63 (by decide) with ⟨e, f⟩ | ⟨e, f⟩
      · left; rw [e, obs, if_neg i10]; exact ⟨rfl, trivial, f⟩
      · right; rw [e, obs, if_pos rfl]; exact ⟨rfl, fun z => f z.2⟩
    · rw [if_pos (by omega), if_neg k9]
      by_cases q : x = -1
      · left; rw [if_pos q]; exact ⟨rfl, trivial, q⟩
      · right; rw [if_neg q]; exact ⟨rfl, fun z => q z.2⟩
/-! what is allowed -/
def rn (s : Ms) (u : Nat) : Bool := decide (cu s = nI u ∧ hw s u = 2 ∧ nn s = 0)
/-- whether a mark of kind k fits the moment: tasks and locks by number -/
def af (s : Ms) (k u l : Nat) : Bool := decide (if k = 0 then hw s u = 0 ∨ hw s u = 4 else if k = 1 then nn s = 0 ∧ (hw s u = 1 ∨ hw s u = 4) else if k = 2 then rn s u = true else if k = 3 then rn s u = true ∧ ¬ hd s l = -1 ∧ ¬ hd s l = nI u else if k = 4 then hd s l = -1 ∧ (rn s u = true ∨ (hw s u = 3 ∧ wn s u = nI l)) else if k = 5 then rn s u = true ∧ hd s l = nI u else if k = 6 then nn s = 0 else if k = 7 then ¬ nn s = 0 else True)
theorem runsNow_m {μ : Mm} {s : Ms} {u : Nat} (r : RM μ s) (hu : u < 8) : f_X10_runsNow μ (nI u) = some (b2 (rn s u)) := by
  unfold f_X10_runsNow rn
  rw [r.2.2.2.1, ra_in hu (by omega), obs, r.1 u hu, r.2.2.2.2]
  by_cases a : cu s = nI u
  · rw [if_pos a]
    by_cases b : hw s u = 2
    · rw [if_pos b]
      by_cases c : nn s = 0
      · rw [if_pos c, decide_eq_true ⟨a, b, c⟩]; rfl
      · rw [if_neg c, decide_eq_false (fun z => c z.2.2)]; rfl
    · rw [if_neg b, decide_eq_false (fun z => b z.2.1)]; rfl
  · rw [if_neg a, decide_eq_false (fun z => a z.1)]; rfl
theorem acts_c {μ : Mm} {s : Ms} {hm : Nat → Bool} {i u : Nat} (r : RC μ i s hm) (hs : Si hm s) (hu : u < 8) (hh : hm u = true) : f_X4_acts μ i (nI u) = some (b2 (rn s u)) := by
  unfold f_X4_acts rn
  rw [r.1.2.2.2.1, stateOf_in hu, obs, r.1.1 u hu hh, r.1.2.2.2.2]
  have e : cq (cu s) = nI u ↔ cu s = nI u := by
    rcases hs.1 with q | q | ⟨v, a, -, b⟩
    · rw [q]; exact ⟨fun z => absurd z.symm (nIneg hu).2.1, fun z => absurd z.symm (nIneg hu).1⟩
    · rw [q]; exact ⟨fun z => absurd z.symm (nIneg hu).2.2.1, fun z => absurd z.symm (nIneg hu).2.1⟩
    · rw [b, cq_in a]
  by_cases a : cu s = nI u
  · rw [if_pos (e.mpr a)]
    by_cases b : hw s u = 2
    · rw [if_pos b]
      by_cases c : nn s = 0
      · rw [if_pos c, decide_eq_true ⟨a, b, c⟩]; rfl
      · rw [if_neg c, decide_eq_false (fun z => c z.2.2)]; rfl
    · rw [if_neg b, decide_eq_false (fun z => b z.2.1)]; rfl
  · rw [if_neg (fun z => a (e.mp z)), decide_eq_false (fun z => a z.1)]; rfl
theorem gz_b2 (b : Bool) : gz (b2 b) = some (b2 b) := by cases b <;> rfl
theorem b2t {p : Prop} [Decidable p] (h : p) : (some (1 : Int32)) = some (b2 (decide p)) := by rw [decide_eq_true h]; rfl
theorem b2f {p : Prop} [Decidable p] (h : ¬ p) : (some (0 : Int32)) = some (b2 (decide p)) := by rw [decide_eq_false h]; rfl
theorem lo_in {k : Nat} (hk : 8 ≤ k) (hk2 : k ≤ 12) : ¬ nI k = 0 ∧ ¬ nI k = 1 ∧ ¬ nI k = 2 ∧ ¬ nI k = 3 ∧ ¬ nI k = 4 ∧ ¬ nI k = 5 ∧ ¬ nI k = 6 ∧ ¬ nI k = 7 := by
  rcases (show k = 8 ∨ k = 9 ∨ k = 10 ∨ k = 11 ∨ k = 12 by omega) with rfl | rfl | rfl | rfl | rfl <;> decide
theorem fits_m {μ : Mm} {s : Ms} {k u l : Nat} {t x : Int32} (r : RM μ s) (hn : nn s = 0 ∨ nn s = 1) (hk : k ≤ 12) (ht : k ≤ 5 → u < 8 ∧ t = nI u) (hx : 3 ≤ k → k ≤ 5 → l < 4 ∧ x = nI l) : f_X10_fits μ (nI k) t x = some (b2 (af s k u l)) := by
  unfold f_X10_fits af
  rcases (show k = 0 ∨ k = 1 ∨ k = 2 ∨ k = 3 ∨ k = 4 ∨ k = 5 ∨ k = 6 ∨ k = 7 ∨ 8 ≤ k by omega) with rfl | rfl | rfl | rfl | rfl | rfl | rfl | rfl | h8
  · obtain ⟨hu, rfl⟩ := ht (by omega)
    rw [if_pos (by decide), ra_in hu (by omega), obs, obs, r.1 u hu]
    simp only [if_true]
    by_cases a : hw s u = 0
    · rw [if_pos a]; exact b2t (.inl a)
    · rw [if_neg a]
      by_cases b : hw s u = 4
      · rw [if_pos b]; exact b2t (.inr b)
      · rw [if_neg b]; exact b2f (fun z => z.elim a b)
  · obtain ⟨hu, rfl⟩ := ht (by omega)
    rw [if_neg (by decide), if_pos (by decide), ra_in hu (by omega), obs, obs, r.1 u hu, r.2.2.2.2]
    simp only [show ¬ (1 = 0) by omega, if_true, if_false]
    by_cases c : nn s = 0
    · rw [if_pos c]
      by_cases a : hw s u = 1
      · rw [if_pos a]; exact b2t ⟨c, .inl a⟩
      · rw [if_neg a]
        by_cases b : hw s u = 4
        · rw [if_pos b]; exact b2t ⟨c, .inr b⟩
        · rw [if_neg b]; exact b2f (fun z => z.2.elim a b)
    · rw [if_neg c]; exact b2f (fun z => c z.1)
  · obtain ⟨hu, rfl⟩ := ht (by omega)
    rw [if_neg (by decide), if_neg (by decide), if_pos (by decide), runsNow_m r hu, obs, gz_b2]
    simp [decide_eq_true_eq]
  · obtain ⟨hu, rfl⟩ := ht (by omega)
    obtain ⟨hl, rfl⟩ := hx (by omega) (by omega)
    rw [if_neg (by decide), if_neg (by decide), if_neg (by decide), if_pos (by decide), runsNow_m r hu, obs, ra_in hl (by omega), obs, obs, r.2.2.1 l hl]
    simp only [show ¬ (3 = 0) by omega, show ¬ (3 = 1) by omega, show ¬ (3 = 2) by omega, if_true, if_false]
    by_cases a : rn s u = true
    · rw [if_neg (by rw [b2_0]; exact fun z => z a)]
      by_cases b : hd s l = -1
      · rw [if_pos b]; exact b2f (fun z => z.2.1 b)
      · rw [if_neg b]
        by_cases c : hd s l = nI u
        · rw [if_pos c]; exact b2f (fun z => z.2.2 c)
        · rw [if_neg c]; exact b2t ⟨a, b, c⟩
    · rw [if_pos (by rw [b2_0]; exact a)]; exact b2f (fun z => a z.1)
  · obtain ⟨hu, rfl⟩ := ht (by omega)
    obtain ⟨hl, rfl⟩ := hx (by omega) (by omega)
    rw [if_neg (by decide), if_neg (by decide), if_neg (by decide), if_neg (by decide), if_pos (by decide), ra_in hl (by omega), obs, r.2.2.1 l hl, runsNow_m r hu, obs, ra_in hu (by omega), obs, r.1 u hu, ra_in hu (by omega), obs, r.2.1 u hu]
    simp only [show ¬ (4 = 0) by omega, show ¬ (4 = 1) by omega, show ¬ (4 = 2) by omega, show ¬ (4 = 3) by omega, if_true, if_false]
    by_cases b : hd s l = -1
    · rw [if_pos b]
      by_cases a : rn s u = true
      · rw [if_neg (by rw [b2_0]; exact fun z => z a)]; exact b2t ⟨b, .inl a⟩
      · rw [if_pos (by rw [b2_0]; exact a)]
        by_cases c : hw s u = 3
        · rw [if_pos c]
          by_cases d : wn s u = nI l
          · rw [if_pos d]; exact b2t ⟨b, .inr ⟨c, d⟩⟩
          · rw [if_neg d]; exact b2f (fun z => z.2.elim a (fun z => d z.2))
        · rw [if_neg c]; exact b2f (fun z => z.2.elim a (fun z => c z.1))
    · rw [if_neg b]; exact b2f (fun z => b z.1)
  · obtain ⟨hu, rfl⟩ := ht (by omega)
    obtain ⟨hl, rfl⟩ := hx (by omega) (by omega)
    rw [if_neg (by decide), if_neg (by decide), if_neg (by decide), if_neg (by decide), if_neg (by decide), if_pos (by decide), runsNow_m r hu, obs, ra_in hl (by omega), obs, r.2.2.1 l hl]
    simp only [show ¬ (5 = 0) by omega, show ¬ (5 = 1) by omega, show ¬ (5 = 2) by omega, show ¬ (5 = 3) by omega, show ¬ (5 = 4) by omega, if_true, if_false]
    by_cases a : rn s u = true
    · rw [if_neg (by rw [b2_0]; exact fun z => z a)]
      by_cases b : hd s l = nI u
      · rw [if_pos b]; exact b2t ⟨a, b⟩
      · rw [if_neg b]; exact b2f (fun z => b z.2)
    · rw [if_pos (by rw [b2_0]; exact a)]; exact b2f (fun z => a z.1)
  · rw [if_neg (by decide), if_neg (by decide), if_neg (by decide), if_neg (by decide), if_neg (by decide), if_neg (by decide), if_pos (by decide), r.2.2.2.2]
    simp only [show ¬ (6 = 0) by omega, show ¬ (6 = 1) by omega, show ¬ (6 = 2) by omega, show ¬ (6 = 3) by omega, show ¬ (6 = 4) by omega, show ¬ (6 = 5) by omega, if_true, if_false]
    by_cases a : nn s = 0
    · rw [if_pos a]; exact b2t a
    · rw [if_neg a]; exact b2f a
  · rw [if_neg (by decide), if_neg (by decide), if_neg (by decide), if_neg (by decide), if_neg (by decide), if_neg (by decide), if_neg (by decide), if_pos (by decide), r.2.2.2.2]
    simp only [show ¬ (7 = 0) by omega, show ¬ (7 = 1) by omega, show ¬ (7 = 2) by omega, show ¬ (7 = 3) by omega, show ¬ (7 = 4) by omega, show ¬ (7 = 5) by omega, show ¬ (7 = 6) by omega, if_true, if_false]
    rcases hn with a | a
    · rw [a]; rfl
    · rw [a]; rfl
  · obtain ⟨a0, a1, a2, a3, a4, a5, a6, a7⟩ := lo_in h8 hk
    rw [if_neg a0, if_neg a1, if_neg a2, if_neg a3, if_neg a4, if_neg a5, if_neg a6, if_neg a7]
    simp only [show ¬ k = 0 by omega, show ¬ k = 1 by omega, show ¬ k = 2 by omega, show ¬ k = 3 by omega, show ¬ k = 4 by omega, show ¬ k = 5 by omega, show ¬ k = 6 by omega, show ¬ k = 7 by omega, if_false]
    rfl
theorem cz_neg {hm : Nat → Bool} {s : Ms} (hs : Si hm s) {l : Nat} (hl : l < 4) : cz (hd s l) = -2 ↔ hd s l = -1 := by
  rcases hs.2.2.1 l hl with q | ⟨v, a, -, b⟩
  · rw [q]; decide
  · rw [b, cz_in a]; exact ⟨fun z => absurd z (nIneg a).2.1, fun z => absurd z (nIneg a).1⟩
theorem cz_eq {hm : Nat → Bool} {s : Ms} (hs : Si hm s) {l u : Nat} (hl : l < 4) (hu : u < 8) : cz (hd s l) = nI u ↔ hd s l = nI u := by
  rcases hs.2.2.1 l hl with q | ⟨v, a, -, b⟩
  · rw [q]; exact ⟨fun z => absurd z.symm (nIneg hu).2.1, fun z => absurd z.symm (nIneg hu).1⟩
  · rw [b, cz_in a]
theorem allows_c {μ : Mm} {s : Ms} {hm : Nat → Bool} {i k u l : Nat} {t x : Int32} (r : RC μ i s hm) (hs : Si hm s) (hk : k ≤ 12) (ht : k ≤ 5 → u < 8 ∧ hm u = true ∧ t = nI u) (h1 : 6 ≤ k → t = -1) (hx : 3 ≤ k → k ≤ 5 → l < 4 ∧ x = nI l) : f_X4_allows μ i (nI k) t x = some (b2 (af s k u l)) := by
  unfold f_X4_allows f_X4_allows_b85 af
  rcases (show k = 0 ∨ k = 1 ∨ k = 2 ∨ k = 3 ∨ k = 4 ∨ k = 5 ∨ k = 6 ∨ k = 7 ∨ 8 ≤ k by omega) with rfl | rfl | rfl | rfl | rfl | rfl | rfl | rfl | h8
  · obtain ⟨hu, hh, rfl⟩ := ht (by omega)
    rw [stateOf_in hu, obs, if_pos (by decide), r.1.1 u hu hh]
    simp only [if_true]
    by_cases a : hw s u = 0
    · rw [if_pos a]; exact b2t (.inl a)
    · rw [if_neg a]
      by_cases b : hw s u = 4
      · rw [if_pos b]; exact b2t (.inr b)
      · rw [if_neg b]; exact b2f (fun z => z.elim a b)
  · obtain ⟨hu, hh, rfl⟩ := ht (by omega)
    rw [stateOf_in hu, obs, if_neg (by decide), if_pos (by decide), r.1.1 u hu hh, r.1.2.2.2.2]
    simp only [show ¬ (1 = 0) by omega, if_true, if_false]
    by_cases c : nn s = 0
    · rw [if_pos c]
      by_cases a : hw s u = 1
      · rw [if_pos a]; exact b2t ⟨c, .inl a⟩
      · rw [if_neg a]
        by_cases b : hw s u = 4
        · rw [if_pos b]; exact b2t ⟨c, .inr b⟩
        · rw [if_neg b]; exact b2f (fun z => z.2.elim a b)
    · rw [if_neg c]
      have e : some (0 : Int32) = some (b2 (decide (nn s = 0 ∧ (hw s u = 1 ∨ hw s u = 4)))) := b2f (fun z => c z.1)
      split
      · exact e
      · split <;> exact e
  · obtain ⟨hu, hh, rfl⟩ := ht (by omega)
    rw [stateOf_in hu, obs, if_neg (by decide), if_neg (by decide), if_pos (by decide), acts_c r hs hu hh, obs, gz_b2]
    simp [decide_eq_true_eq]
  · obtain ⟨hu, hh, rfl⟩ := ht (by omega)
    obtain ⟨hl, rfl⟩ := hx (by omega) (by omega)
    rw [stateOf_in hu, obs, if_neg (by decide), if_neg (by decide), if_neg (by decide), if_pos (by decide), acts_c r hs hu hh, obs, holderOf_in hl, obs, obs, r.1.2.2.1 l hl]
    simp only [show ¬ (3 = 0) by omega, show ¬ (3 = 1) by omega, show ¬ (3 = 2) by omega, if_true, if_false]
    by_cases a : rn s u = true
    · rw [if_neg (by rw [b2_0]; exact fun z => z a)]
      by_cases b : hd s l = -1
      · rw [if_pos ((cz_neg hs hl).mpr b)]; exact b2f (fun z => z.2.1 b)
      · rw [if_neg (fun z => b ((cz_neg hs hl).mp z))]
        by_cases c : hd s l = nI u
        · rw [if_pos ((cz_eq hs hl hu).mpr c)]; exact b2f (fun z => z.2.2 c)
        · rw [if_neg (fun z => c ((cz_eq hs hl hu).mp z))]; exact b2t ⟨a, b, c⟩
    · rw [if_pos (by rw [b2_0]; exact a)]; exact b2f (fun z => a z.1)
  · obtain ⟨hu, hh, rfl⟩ := ht (by omega)
    obtain ⟨hl, rfl⟩ := hx (by omega) (by omega)
    have wn' : f_X4_wants μ i (nI u) (nI l) = some (if hw s u = 3 ∧ wn s u = nI l then 1 else 0) := by
      unfold f_X4_wants
      rw [stateOf_in hu, obs, r.1.1 u hu hh, ra_in hu (by omega), obs]
      by_cases c : hw s u = 3
      · rw [if_pos c, r.2 u hu hh c]
        by_cases d : wn s u = nI l
        · rw [if_pos d, if_pos ⟨c, d⟩]
        · rw [if_neg d, if_neg (fun z => d z.2)]
      · rw [if_neg c, if_neg (fun z => c z.1)]
    rw [stateOf_in hu, obs, if_neg (by decide), if_neg (by decide), if_neg (by decide), if_neg (by decide), if_pos (by decide), holderOf_in hl, obs, r.1.2.2.1 l hl, acts_c r hs hu hh, obs, wn', obs]
    simp only [show ¬ (4 = 0) by omega, show ¬ (4 = 1) by omega, show ¬ (4 = 2) by omega, show ¬ (4 = 3) by omega, if_true, if_false]
    by_cases b : hd s l = -1
    · rw [if_pos ((cz_neg hs hl).mpr b)]
      by_cases a : rn s u = true
      · rw [if_neg (by rw [b2_0]; exact fun z => z a)]; exact b2t ⟨b, .inl a⟩
      · rw [if_pos (by rw [b2_0]; exact a)]
        by_cases c : hw s u = 3 ∧ wn s u = nI l
        · rw [if_pos c, if_neg i10]; exact b2t ⟨b, .inr c⟩
        · rw [if_neg c, if_pos rfl]; exact b2f (fun z => z.2.elim a c)
    · rw [if_neg (fun z => b ((cz_neg hs hl).mp z))]; exact b2f (fun z => b z.1)
  · obtain ⟨hu, hh, rfl⟩ := ht (by omega)
    obtain ⟨hl, rfl⟩ := hx (by omega) (by omega)
    rw [stateOf_in hu, obs, if_neg (by decide), if_neg (by decide), if_neg (by decide), if_neg (by decide), if_neg (by decide), if_pos (by decide), acts_c r hs hu hh, obs, holderOf_in hl, obs, r.1.2.2.1 l hl]
    simp only [show ¬ (5 = 0) by omega, show ¬ (5 = 1) by omega, show ¬ (5 = 2) by omega, show ¬ (5 = 3) by omega, show ¬ (5 = 4) by omega, if_true, if_false]
    by_cases a : rn s u = true
    · rw [if_neg (by rw [b2_0]; exact fun z => z a)]
      by_cases b : hd s l = nI u
      · rw [if_pos ((cz_eq hs hl hu).mpr b)]; exact b2t ⟨a, b⟩
      · rw [if_neg (fun z => b ((cz_eq hs hl hu).mp z))]; exact b2f (fun z => b z.2)
    · rw [if_pos (by rw [b2_0]; exact a)]; exact b2f (fun z => a z.1)
  · rw [h1 (by omega), stateOf_neg (by decide), obs, if_neg (by decide), if_neg (by decide), if_neg (by decide), if_neg (by decide), if_neg (by decide), if_neg (by decide), if_pos (by decide), r.1.2.2.2.2]
    simp only [show ¬ (6 = 0) by omega, show ¬ (6 = 1) by omega, show ¬ (6 = 2) by omega, show ¬ (6 = 3) by omega, show ¬ (6 = 4) by omega, show ¬ (6 = 5) by omega, if_true, if_false]
    by_cases a : nn s = 0
    · rw [if_pos a]; exact b2t a
    · rw [if_neg a]; exact b2f a
  · rw [h1 (by omega), stateOf_neg (by decide), obs, if_neg (by decide), if_neg (by decide), if_neg (by decide), if_neg (by decide), if_neg (by decide), if_neg (by decide), if_neg (by decide), if_pos (by decide), r.1.2.2.2.2]
    simp only [show ¬ (7 = 0) by omega, show ¬ (7 = 1) by omega, show ¬ (7 = 2) by omega, show ¬ (7 = 3) by omega, show ¬ (7 = 4) by omega, show ¬ (7 = 5) by omega, show ¬ (7 = 6) by omega, if_true, if_false]
    rcases hs.2.2.2.2 with a | a
    · rw [a]; rfl
    · rw [a]; rfl
  · obtain ⟨a0, a1, a2, a3, a4, a5, a6, a7⟩ := lo_in h8 hk
    rw [h1 (by omega), stateOf_neg (by decide), obs, if_neg a0, if_neg a1, if_neg a2, if_neg a3, if_neg a4, if_neg a5, if_neg a6, if_neg a7]
    simp only [show ¬ k = 0 by omega, show ¬ k = 1 by omega, show ¬ k = 2 by omega, show ¬ k = 3 by omega, show ¬ k = 4 by omega, show ¬ k = 5 by omega, show ¬ k = 6 by omega, show ¬ k = 7 by omega, if_false]
    rfl
