/-! the first two laws: searches -/
def fnd (P : Nat → Bool) : Nat → Nat → Nat
  | 0, i => i
  | k + 1, i => if P i = true then i else fnd P k (i + 1)
theorem fnd_le (P : Nat → Bool) : ∀ k i, i ≤ fnd P k i ∧ fnd P k i ≤ i + k
  | 0, i => ⟨Nat.le_refl _, Nat.le_refl _⟩
  | k + 1, i => by
    have := fnd_le P k (i + 1)
    unfold fnd; split
    · omega
    · omega
theorem fnd_is (P : Nat → Bool) : ∀ k i, fnd P k i < i + k → P (fnd P k i) = true
  | 0, i, h => by have := (fnd_le P 0 i).1; omega
  | k + 1, i, h => by
    unfold fnd at h ⊢
    by_cases q : P i = true
    · rw [if_pos q]; exact q
    · rw [if_neg q] at h ⊢; exact fnd_is P k (i + 1) (by omega)
theorem fnd_not (P : Nat → Bool) : ∀ k i j, i ≤ j → j < fnd P k i → ¬ P j = true
  | 0, i, j, h1, h2 => by have : fnd P 0 i = i := rfl; omega
  | k + 1, i, j, h1, h2 => by
    unfold fnd at h2
    by_cases q : P i = true
    · rw [if_pos q] at h2; omega
    · rw [if_neg q] at h2
      by_cases z : j = i
      · rw [z]; exact q
      · exact fnd_not P k (i + 1) j (by omega) h2
/-- a search loop finds what fnd finds -/
theorem loop_fnd {R : Type} (b : Nat → Int32 → Option R) (n : Nat) (P : Nat → Bool) (K : Nat → Option R) (hb : ∀ N j, j < n → b (N + 1) (nI j) = if P j = true then K j else b N (nI (j + 1))) (he : ∀ N, b (N + 1) (nI n) = K n) : ∀ k i N, i + k = n → k < N → b N (nI i) = K (fnd P k i)
  | 0, i, N, h, hN => by
    obtain ⟨M, rfl⟩ : ∃ M, N = M + 1 := ⟨N - 1, by omega⟩
    have : i = n := by omega
    rw [this, he]; rfl
  | k + 1, i, N, h, hN => by
    obtain ⟨M, rfl⟩ : ∃ M, N = M + 1 := ⟨N - 1, by omega⟩
    rw [hb M i (by omega)]
    unfold fnd
    by_cases q : P i = true
    · rw [if_pos q, if_pos q]
    · rw [if_neg q, if_neg q]; exact loop_fnd b n P K hb he k (i + 1) M (by omega) (by omega)
def pW (L : La) (u : Nat) (j : Nat) : Bool := decide ((zK L j = 2 ∧ zT L j = nI u) ∨ zK L j = 8)
def pH (L : La) (x : Int32) (j : Nat) : Bool := decide ((zK L j = 5 ∧ zX L j = x) ∨ zK L j = 8)
def pS (L : La) (u : Nat) (j : Nat) : Bool := decide ((zK L j = 0 ∧ zT L j = nI u) ∨ (zK L j = 1 ∧ zT L j = nI u))
/-- nothing found: the last mark -/
def lst (n e : Nat) : Nat := if e = n then n - 1 else e
theorem endOfWork_ok {F : Nat} {μ : Mm} {i j u : Nat} {L : La} (hF : 1000 ≤ F) (hL : CL μ i L) (hj : j < zn L) : f_X2_endOfWork F μ i (nI j) (nI u) = some (nI (lst (zn L) (fnd (pW L u) (zn L - (j + 1)) (j + 1)))) := by
  have hn := hL.1
  unfold f_X2_endOfWork
  rw [s1]
  refine loop_fnd (fun N x => f_X2_endOfWork_b4 F μ N i (nI u) x) (zn L) (pW L u) (fun e => some (nI (lst (zn L) e))) (fun N k hk => ?_) (fun N => ?_) (zn L - (j + 1)) (j + 1) F (by omega) (by omega)
  · show f_X2_endOfWork_b4 F μ (N + 1) i (nI u) (nI k) = _
    rw [f_X2_endOfWork_b4, hL.2.1, if_neg (ngt (by omega) (by omega) hk), isMarkOf_in hL hk, obs, kindOf_in hL hk, obs, s1]
    have e : lst (zn L) k = k := by unfold lst; rw [if_neg (by omega)]
    unfold pW
    rw [e]
    by_cases a : zK L k = 2 ∧ zT L k = nI u
    · rw [if_pos a, if_neg (by decide), if_pos (decide_eq_true (.inl a))]
    · rw [if_neg a, if_pos rfl]
      by_cases c : zK L k = 8
      · rw [if_pos c, if_pos (decide_eq_true (.inr c))]
      · rw [if_neg c, decide_eq_false (fun z => z.elim a c), if_neg (by decide)]
  · show f_X2_endOfWork_b4 F μ (N + 1) i (nI u) (nI (zn L)) = _
    rw [f_X2_endOfWork_b4, hL.2.1, if_pos (nle (by omega) (by omega) (by omega)), nsub1 (by omega)]
    unfold lst; rw [if_pos rfl]
