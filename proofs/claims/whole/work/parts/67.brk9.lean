/-- the first law, the class -/
def bkS (L : La) (u : Nat) (d : Int32) : Nat → Bk
  | 0 => ([], [])
  | j + 1 => if zK L j = 0 ∧ zT L j = nI u then spB L d j (fnd (pW L u) (zn L - (j + 1)) (j + 1)) (lst (zn L) (fnd (pS L u) (zn L - (lst (zn L) (fnd (pW L u) (zn L - (j + 1)) (j + 1)) + 1)) (lst (zn L) (fnd (pW L u) (zn L - (j + 1)) (j + 1)) + 1))) (bkS L u d j) else bkS L u d j
def lkS (L : La) (x : Int32) (d : Int32) : Nat → Bk
  | 0 => ([], [])
  | j + 1 => if zK L j = 4 ∧ zX L j = x then spB L d j (fnd (pH L x) (zn L - (j + 1)) (j + 1)) (lst (zn L) (fnd (pH L x) (zn L - (j + 1)) (j + 1))) (lkS L x d j) else lkS L x d j
theorem bkS_le (L : La) (u : Nat) (d : Int32) : ∀ j, (bkS L u d j).1.length + (bkS L u d j).2.length ≤ j
  | 0 => Nat.le_refl _
  | j + 1 => by
    have h := bkS_le L u d j
    unfold bkS; split
    · exact Nat.le_trans (spB_le _ _ _ _ _ _) (by omega)
    · omega
theorem lkS_le (L : La) (x : Int32) (d : Int32) : ∀ j, (lkS L x d j).1.length + (lkS L x d j).2.length ≤ j
  | 0 => Nat.le_refl _
  | j + 1 => by
    have h := lkS_le L x d j
    unfold lkS; split
    · exact Nat.le_trans (spB_le _ _ _ _ _ _) (by omega)
    · omega
theorem lst_8 {L : La} {P : Nat → Bool} {j : Nat} (hj : j < zn L) (h8 : ∀ k, zK L k = 8 → P k = true) (hk : ¬ zK L j = 8) (h : zK L (lst (zn L) (fnd P (zn L - (j + 1)) (j + 1))) = 8) : fnd P (zn L - (j + 1)) (j + 1) < zn L := by
  have b := fnd_le P (zn L - (j + 1)) (j + 1)
  by_cases q : fnd P (zn L - (j + 1)) (j + 1) = zn L
  · exfalso
    unfold lst at h
    rw [if_pos q] at h
    by_cases z : zn L - 1 = j
    · rw [z] at h; exact hk h
    · exact fnd_not P (zn L - (j + 1)) (j + 1) (zn L - 1) (by omega) (by omega) (h8 _ h)
  · omega
