/-! TOOLS for the pure part -/
theorem ltT (a b : Int32) : (a < b) = (a.toInt < b.toInt) := propext Int32.lt_iff_toInt_lt
theorem leT (a b : Int32) : (a ≤ b) = (a.toInt ≤ b.toInt) := propext Int32.le_iff_toInt_le
theorem eqT (a b : Int32) : (a = b) = (a.toInt = b.toInt) := propext Int32.toInt_inj.symm
theorem clT (x : Int32) : x.toNatClampNeg = x.toInt.toNat := rfl
theorem nIT {a : Nat} (h : a < 2147483648) : (nI a).toInt = (a : Int) := nI_toInt h
theorem clN {a : Nat} (h : a < 2147483648) : (nI a).toNatClampNeg = a := nI_clamp h
theorem ltN {a b : Nat} (ha : a < 2147483648) (hb : b < 2147483648) : nI a < nI b ↔ a < b := nI_ltI ha hb
theorem leN {a b : Nat} (ha : a < 2147483648) (hb : b < 2147483648) : nI a ≤ nI b ↔ a ≤ b := nI_leI ha hb
theorem eqN {a b : Nat} (ha : a < 2147483648) (hb : b < 2147483648) : nI a = nI b ↔ a = b := nI_eq ha hb
theorem nN0 {a : Nat} (ha : a < 2147483648) : ¬ nI a < 0 := nI_pos ha
theorem n0N {a : Nat} (ha : a < 2147483648) : (0 : Int32) ≤ nI a := nI_pos' ha
theorem s1 (a : Nat) : nI a + (1 : Int32) = nI (a + 1) := nI_1 a
theorem ra_in {μ : Mm} {k i n j : Nat} (h : j < n) (hn : n < 2147483648) : ra μ k i n (nI j) = some (μ.1 k i j) := by
  unfold ra; rw [if_neg (nI_in h hn), nI_clamp (by omega)]
theorem rl_in {μ : Mm} {k i n j : Nat} (h : j < n) (hn : n < 2147483648) : rl μ k i n (nI j) = some (μ.2 k i j) := by
  unfold rl; rw [if_neg (nI_in h hn), nI_clamp (by omega)]
theorem rq_in {n j : Nat} (h : j < n) (hn : n < 2147483648) : rq n (nI j) = some j := by
  unfold rq; rw [if_neg (nI_in h hn), nI_clamp (by omega)]
theorem wa_in {μ : Mm} {k i n j : Nat} {v : Int32} (h : j < n) (hn : n < 2147483648) : wa μ k i n (nI j) v = some (wi μ k i j v) := by
  unfold wa; rw [if_neg (nI_in h hn), nI_clamp (by omega)]
theorem wb_in {μ : Mm} {k i n j : Nat} {v : Int32} (h : j < n) (hn : n < 2147483648) : wb μ k i n (nI j) v = some (wi μ k i j v.toInt8.toInt32) := by
  unfold wb; rw [if_neg (nI_in h hn), nI_clamp (by omega)]
theorem wg_in {μ : Mm} {k i n j : Nat} {v : Int64} (h : j < n) (hn : n < 2147483648) : wg μ k i n (nI j) v = some (wj μ k i j v) := by
  unfold wg; rw [if_neg (nI_in h hn), nI_clamp (by omega)]
theorem wf_eq (μ : Mm) (k i j : Nat) (v : Int32) : wf μ k i j v = some (wi μ k i j v) := rfl
theorem sr_at (μ : Mm) (k i : Nat) (f : Nat → Int32) (k' i' j' : Nat) : (sr μ k i f).1 k' i' j' = if k' = k ∧ i' = i then f j' else μ.1 k' i' j' := by
  show (if k' = k ∧ i' = i then f else μ.1 k' i') j' = _
  split <;> rfl
theorem wi_at (μ : Mm) (k i j : Nat) (v : Int32) (k' i' j' : Nat) : (wi μ k i j v).1 k' i' j' = if k' = k ∧ i' = i ∧ j' = j then v else μ.1 k' i' j' := by
  unfold wi
  rw [sr_at]
  by_cases h : k' = k ∧ i' = i
  · obtain ⟨rfl, rfl⟩ := h
    rw [if_pos ⟨rfl, rfl⟩]
    show (if j' = j then v else _) = _
    by_cases h2 : j' = j
    · rw [if_pos h2, if_pos ⟨rfl, rfl, h2⟩]
    · rw [if_neg h2, if_neg (fun e => h2 e.2.2)]
  · rw [if_neg h, if_neg (fun e => h ⟨e.1, e.2.1⟩)]
theorem sl_at (μ : Mm) (k i : Nat) (f : Nat → Int64) (k' i' j' : Nat) : (sl μ k i f).2 k' i' j' = if k' = k ∧ i' = i then f j' else μ.2 k' i' j' := by
  show (if k' = k ∧ i' = i then f else μ.2 k' i') j' = _
  split <;> rfl
theorem wj_at (μ : Mm) (k i j : Nat) (v : Int64) (k' i' j' : Nat) : (wj μ k i j v).2 k' i' j' = if k' = k ∧ i' = i ∧ j' = j then v else μ.2 k' i' j' := by
  unfold wj
  rw [sl_at]
  by_cases h : k' = k ∧ i' = i
  · obtain ⟨rfl, rfl⟩ := h
    rw [if_pos ⟨rfl, rfl⟩]
    show (if j' = j then v else _) = _
    by_cases h2 : j' = j
    · rw [if_pos h2, if_pos ⟨rfl, rfl, h2⟩]
    · rw [if_neg h2, if_neg (fun e => h2 e.2.2)]
  · rw [if_neg h, if_neg (fun e => h ⟨e.1, e.2.1⟩)]
theorem wi_2 (μ : Mm) (k i j : Nat) (v : Int32) : (wi μ k i j v).2 = μ.2 := rfl
theorem sr_2 (μ : Mm) (k i : Nat) (f : Nat → Int32) : (sr μ k i f).2 = μ.2 := rfl
theorem wj_1 (μ : Mm) (k i j : Nat) (v : Int64) : (wj μ k i j v).1 = μ.1 := rfl
theorem sl_1 (μ : Mm) (k i : Nat) (f : Nat → Int64) : (sl μ k i f).1 = μ.1 := rfl
theorem obs {α β : Type} (v : α) (k : α → Option β) : (some v).bind k = k v := rfl
/-- a counted loop, by what holds at its head -/
theorem loop_inv {S R : Type} (b : Nat → S → Int32 → Option R) (K : S → Option R) (n : Nat) (Inv : Nat → S → Prop)
    (hb : ∀ N s j, j < n → Inv j s → ∃ s', b (N + 1) s (nI j) = b N s' (nI (j + 1)) ∧ Inv (j + 1) s') (he : ∀ N s, Inv n s → b (N + 1) s (nI n) = K s) :
    ∀ (N j : Nat) (s : S), n - j < N → j ≤ n → Inv j s → ∃ s', b N s (nI j) = K s' ∧ Inv n s' := by
  intro N
  induction N with
  | zero => intro j s h; omega
  | succ N ih =>
    intro j s h1 h2 h3
    by_cases hj : j < n
    · obtain ⟨s1, e1, i1⟩ := hb N s j hj h3
      obtain ⟨s2, e2, i2⟩ := ih (j + 1) s1 (by omega) (by omega) i1
      exact ⟨s2, e1.trans e2, i2⟩
    · obtain rfl : j = n := by omega
      exact ⟨s, he N s h3, h3⟩
/-- one that may end early, with an answer that is known -/
theorem loop_ret {S R : Type} (b : Nat → S → Int32 → Option R) (n : Nat) (Inv : Nat → S → Prop) (Post : R → Prop)
    (hb : ∀ N s j, j < n → Inv j s → (∃ r, b (N + 1) s (nI j) = some r ∧ Post r) ∨ ∃ s', b (N + 1) s (nI j) = b N s' (nI (j + 1)) ∧ Inv (j + 1) s') (he : ∀ N s, Inv n s → ∃ r, b (N + 1) s (nI n) = some r ∧ Post r) :
    ∀ (N j : Nat) (s : S), n - j < N → j ≤ n → Inv j s → ∃ r, b N s (nI j) = some r ∧ Post r := by
  intro N
  induction N with
  | zero => intro j s h; omega
  | succ N ih =>
    intro j s h1 h2 h3
    by_cases hj : j < n
    · rcases hb N s j hj h3 with h | ⟨s1, e1, i1⟩
      · exact h
      · obtain ⟨r, e2, p⟩ := ih (j + 1) s1 (by omega) (by omega) i1
        exact ⟨r, e1.trans e2, p⟩
    · obtain rfl : j = n := by omega
      exact he N s h3
