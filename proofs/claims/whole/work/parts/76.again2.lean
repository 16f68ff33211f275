/-! running again, as such -/
def ah (rk : Nat → Int32) (y x : Jb) : Bool := decide ((rk x.1).toInt < (rk y.1).toInt ∨ ((rk x.1).toInt = (rk y.1).toInt ∧ (y.1 < x.1 ∨ (y.1 = x.1 ∧ y.2.1 < x.2.1))))
abbrev Rs : Type := (Jb → Nat) × (Jb → Nat)
def av (S : Rs) (i : Nat) (x : Jb) : Bool := decide (x.2.1 ≤ i ∧ ¬ S.1 x = 0)
def best (R : List Jb) (rk : Nat → Int32) (S : Rs) (i : Nat) : Option Jb := R.find? (fun x => av S i x && R.all (fun y => ! (av S i y && ah rk y x)))
theorem ah_trans {rk : Nat → Int32} {x y z : Jb} (h1 : ah rk z y = true) (h2 : ah rk y x = true) : ah rk z x = true := by
  unfold ah at *
  rw [decide_eq_true_iff] at *
  omega
theorem ah_irr (rk : Nat → Int32) (x : Jb) : ah rk x x = false := by
  unfold ah; rw [decide_eq_false_iff_not]; omega
theorem ah_tot {rk : Nat → Int32} {x y : Jb} (h1 : ah rk x y = false) (h2 : ah rk y x = false) : x.1 = y.1 ∧ x.2.1 = y.2.1 := by
  unfold ah at *
  rw [decide_eq_false_iff_not] at *
  omega
theorem best_some {R : List Jb} {rk : Nat → Int32} {S : Rs} {i : Nat} {x : Jb} (h : best R rk S i = some x) : x ∈ R ∧ av S i x = true ∧ ∀ y, y ∈ R → av S i y = true → ah rk y x = false := by
  have h1 := List.mem_of_find?_eq_some h
  have h2 := List.find?_some h
  rw [Bool.and_eq_true, List.all_eq_true] at h2
  refine ⟨h1, h2.1, fun y hy ha => ?_⟩
  have := h2.2 y hy
  rw [ha, Bool.true_and, Bool.not_eq_true'] at this
  exact this
theorem best_eq {L : La} {R : List Jb} {rk : Nat → Int32} {S : Rs} {i : Nat} {x : Jb} (g : JG L R) (h1 : x ∈ R) (h2 : av S i x = true) (h3 : ∀ y, y ∈ R → av S i y = true → ah rk y x = false) : best R rk S i = some x := by
  cases e : best R rk S i with
  | none =>
    have := List.find?_eq_none.mp e x h1
    refine absurd ?_ this
    rw [Bool.and_eq_true, List.all_eq_true]
    refine ⟨h2, fun y hy => ?_⟩
    cases a : av S i y with
    | false => rfl
    | true => rw [h3 y hy a]; rfl
  | some x' =>
    obtain ⟨b1, b2, b3⟩ := best_some e
    obtain ⟨c1, c2⟩ := ah_tot (b3 x h1 h2) (h3 x' b1 b2)
    rw [g.uni h1 b1 c1 c2]
theorem best_no {R : List Jb} {rk : Nat → Int32} {S : Rs} {i : Nat} (h : ∀ y, y ∈ R → av S i y = false) : best R rk S i = none := by
  cases e : best R rk S i with
  | none => rfl
  | some x => obtain ⟨b1, b2, -⟩ := best_some e; rw [h x b1] at b2; exact absurd b2 (by decide)
theorem best_ex (rk : Nat → Int32) (S : Rs) (i : Nat) : ∀ l : List Jb, (∀ y, y ∈ l → av S i y = false) ∨ ∃ x, x ∈ l ∧ av S i x = true ∧ ∀ y, y ∈ l → av S i y = true → ah rk y x = false
  | [] => .inl (fun y hy => absurd hy (by simp))
  | z :: l => by
    cases a : av S i z with
    | false =>
      rcases best_ex rk S i l with h | ⟨x, h1, h2, h3⟩
      · left
        intro y hy
        rcases List.mem_cons.mp hy with rfl | hy
        · exact a
        · exact h y hy
      · right
        refine ⟨x, List.mem_cons_of_mem _ h1, h2, fun y hy ha => ?_⟩
        rcases List.mem_cons.mp hy with rfl | hy
        · rw [a] at ha; exact absurd ha (by decide)
        · exact h3 y hy ha
    | true =>
      right
      rcases best_ex rk S i l with h | ⟨x, h1, h2, h3⟩
      · refine ⟨z, List.mem_cons_self, a, fun y hy ha => ?_⟩
        rcases List.mem_cons.mp hy with rfl | hy
        · exact ah_irr _ _
        · rw [h y hy] at ha; exact absurd ha (by decide)
      · cases b : ah rk z x with
        | false =>
          refine ⟨x, List.mem_cons_of_mem _ h1, h2, fun y hy ha => ?_⟩
          rcases List.mem_cons.mp hy with rfl | hy
          · exact b
          · exact h3 y hy ha
        | true =>
          refine ⟨z, List.mem_cons_self, a, fun y hy ha => ?_⟩
          rcases List.mem_cons.mp hy with rfl | hy
          · exact ah_irr _ _
          · cases c : ah rk y z with
            | false => rfl
            | true => have := ah_trans c b; rw [h3 y hy ha] at this; exact absurd this (by decide)
theorem best_none {R : List Jb} {rk : Nat → Int32} {S : Rs} {i : Nat} (h : best R rk S i = none) : ∀ y, y ∈ R → av S i y = false := by
  rcases best_ex rk S i R with q | ⟨x, h1, h2, h3⟩
  · exact q
  · refine absurd ?_ (List.find?_eq_none.mp h x h1)
    rw [Bool.and_eq_true, List.all_eq_true]
    refine ⟨h2, fun y hy => ?_⟩
    cases a : av S i y with
    | false => rfl
    | true => rw [h3 y hy a]; rfl
def stp (S : Rs) (x : Jb) (n c : Nat) : Rs := (fun y => if y = x then S.1 x - n else S.1 y, fun y => if y = x then c else S.2 y)
def pt (S : Rs) (x : Jb) (e c : Nat) : Nat := if e - c < S.1 x then e - c else S.1 x
theorem pt_le (S : Rs) (x : Jb) (e c : Nat) : pt S x e c ≤ S.1 x ∧ pt S x e c ≤ e - c ∧ (pt S x e c = S.1 x ∨ (pt S x e c = e - c ∧ e - c < S.1 x)) := by
  unfold pt; split <;> omega
def runA (R : List Jb) (rk : Nat → Int32) (i e : Nat) : Nat → Nat → Rs → Rs
  | 0, _, S => S
  | k + 1, c, S => if e ≤ c then S else match best R rk S i with
    | none => S
    | some x => runA R rk i e k (c + pt S x e c) (stp S x (pt S x e c) (c + pt S x e c))
theorem runA_end {R : List Jb} {rk : Nat → Int32} {i e c : Nat} {S : Rs} (h : e ≤ c) : ∀ k, runA R rk i e k c S = S
  | 0 => rfl
  | k + 1 => by unfold runA; rw [if_pos h]
theorem runA_none {R : List Jb} {rk : Nat → Int32} {i e c : Nat} {S : Rs} (h : best R rk S i = none) : ∀ k, runA R rk i e k c S = S
  | 0 => rfl
  | k + 1 => by
    unfold runA; split
    · rfl
    · rw [h]
theorem runA_some {R : List Jb} {rk : Nat → Int32} {i e c k : Nat} {S : Rs} {x : Jb} (h0 : ¬ e ≤ c) (h : best R rk S i = some x) : runA R rk i e (k + 1) c S = runA R rk i e k (c + pt S x e c) (stp S x (pt S x e c) (c + pt S x e c)) := by
  conv => lhs; unfold runA
  rw [if_neg h0, h]
/-- sizes -/
def SB (S : Rs) : Prop := ∀ x, S.1 x ≤ 13107200 ∧ S.2 x ≤ 1073741824
theorem SB_stp {S : Rs} {x : Jb} {n c : Nat} (h : SB S) (hc : c ≤ 1073741824) : SB (stp S x n c) := fun y => by
  have h1 := h y
  have h2 := h x
  show (if y = x then S.1 x - n else S.1 y) ≤ _ ∧ (if y = x then c else S.2 y) ≤ _
  split <;> omega
theorem SB_run {R : List Jb} {rk : Nat → Int32} {i e : Nat} (he : e ≤ 1073741824) : ∀ (k c : Nat) (S : Rs), SB S → SB (runA R rk i e k c S)
  | 0, _, _, h => h
  | k + 1, c, S, h => by
    by_cases h0 : e ≤ c
    · rw [runA_end h0]; exact h
    · cases b : best R rk S i with
      | none => rw [runA_none b]; exact h
      | some x =>
        rw [runA_some h0 b]
        have := pt_le S x e c
        exact SB_run he k _ _ (SB_stp h (by omega))
/-- what is left in all, and of how many -/
def sumQ (S : Rs) : List Jb → Nat
  | [] => 0
  | x :: l => S.1 x + sumQ S l
def cnt (S : Rs) : List Jb → Nat
  | [] => 0
  | x :: l => (if S.1 x = 0 then 0 else 1) + cnt S l
theorem cnt_le (S : Rs) : ∀ l, cnt S l ≤ l.length
  | [] => Nat.le_refl _
  | x :: l => by have := cnt_le S l; unfold cnt; rw [List.length_cons]; split <;> omega
theorem sumQ_same {S S' : Rs} : ∀ {l : List Jb}, (∀ y, y ∈ l → S'.1 y = S.1 y) → sumQ S' l = sumQ S l ∧ cnt S' l = cnt S l
  | [], _ => ⟨rfl, rfl⟩
  | x :: l, h => by
    obtain ⟨a, b⟩ := sumQ_same (S := S) (S' := S') (l := l) (fun y hy => h y (List.mem_cons_of_mem _ hy))
    unfold sumQ cnt
    rw [a, b, h x List.mem_cons_self]; exact ⟨rfl, rfl⟩
theorem sumQ_stp {S : Rs} {x : Jb} {n c : Nat} (hn : n ≤ S.1 x) : ∀ {l : List Jb}, l.Nodup → x ∈ l → sumQ (stp S x n c) l + n = sumQ S l ∧ cnt (stp S x n c) l ≤ cnt S l ∧ (n = S.1 x → ¬ n = 0 → cnt (stp S x n c) l + 1 = cnt S l)
  | [], _, h => absurd h (by simp)
  | z :: l, hd, h => by
    rw [List.nodup_cons] at hd
    have sx : (stp S x n c).1 x = S.1 x - n := if_pos rfl
    by_cases q : z = x
    · subst q
      obtain ⟨a, b⟩ := sumQ_same (S := S) (S' := stp S z n c) (l := l) (fun y hy => if_neg (fun (e : y = z) => hd.1 (e ▸ hy)))
      unfold sumQ cnt
      rw [a, b, sx]
      refine ⟨by omega, ?_, fun e e0 => ?_⟩
      · split <;> split <;> omega
      · rw [if_pos (by omega), if_neg (by omega)]; omega
    · have hx : x ∈ l := by
        rcases List.mem_cons.mp h with e | e
        · exact absurd e.symm q
        · exact e
      obtain ⟨a, b, d⟩ := sumQ_stp hn hd.2 hx (c := c)
      have sz : (stp S x n c).1 z = S.1 z := if_neg q
      unfold sumQ cnt
      rw [sz]
      exact ⟨by omega, by omega, fun e e0 => by have := d e e0; omega⟩
theorem sumQ_ge {S : Rs} {x : Jb} : ∀ {l : List Jb}, x ∈ l → S.1 x ≤ sumQ S l
  | [], h => absurd h (by simp)
  | z :: l, h => by
    unfold sumQ
    rcases List.mem_cons.mp h with rfl | e
    · omega
    · have := sumQ_ge (S := S) e; omega
theorem sumQ_b {S : Rs} (h : SB S) : ∀ l : List Jb, sumQ S l ≤ 13107200 * l.length
  | [] => Nat.le_refl _
  | z :: l => by
    have := sumQ_b h l
    have := (h z).1
    unfold sumQ; rw [List.length_cons]; omega
/-- behind the last mark the end is of no account -/
theorem runA_far {R Q : List Jb} {rk : Nat → Int32} {i e1 e2 : Nat} (hd : Q.Nodup) (hm : ∀ x, x ∈ R → x ∈ Q) : ∀ (k c : Nat) (S : Rs), c + sumQ S Q < e1 → c + sumQ S Q < e2 → runA R rk i e1 k c S = runA R rk i e2 k c S
  | 0, _, _, _, _ => rfl
  | k + 1, c, S, h1, h2 => by
    cases b : best R rk S i with
    | none => rw [runA_none b, runA_none b]
    | some x =>
      have hx := hm x (best_some b).1
      have hg := sumQ_ge (S := S) hx
      have p1 : pt S x e1 c = S.1 x := by unfold pt; rw [if_neg (by omega)]
      have p2 : pt S x e2 c = S.1 x := by unfold pt; rw [if_neg (by omega)]
      have := (sumQ_stp (S := S) (c := c + S.1 x) (Nat.le_refl (S.1 x)) hd hx).1
      rw [runA_some (by omega) b, runA_some (by omega) b, p1, p2]
      exact runA_far hd hm k _ _ (by omega) (by omega)
/-- and all is done there -/
theorem runA_done {R Q : List Jb} {rk : Nat → Int32} {i e : Nat} (hd : Q.Nodup) (hm : ∀ x, x ∈ R → x ∈ Q) (hi : ∀ x, x ∈ R → x.2.1 ≤ i) : ∀ (k c : Nat) (S : Rs), c + sumQ S Q < e → cnt S Q < k → ∀ x, x ∈ R → (runA R rk i e k c S).1 x = 0
  | 0, _, _, _, h => by omega
  | k + 1, c, S, h1, h2 => by
    intro y hy
    cases b : best R rk S i with
    | none =>
      rw [runA_none b]
      have := best_none b y hy
      unfold av at this
      rw [decide_eq_false_iff_not] at this
      by_cases q : S.1 y = 0
      · exact q
      · exact absurd ⟨hi y hy, q⟩ this
    | some x =>
      have hb := best_some b
      have hx := hm x hb.1
      have ha := hb.2.1
      unfold av at ha
      rw [decide_eq_true_iff] at ha
      have hg := sumQ_ge (S := S) hx
      have p1 : pt S x e c = S.1 x := by unfold pt; rw [if_neg (by omega)]
      have := sumQ_stp (S := S) (c := c + S.1 x) (Nat.le_refl (S.1 x)) hd hx
      have t1 := this.1
      have t2 := this.2.2 rfl ha.2
      rw [runA_some (by omega) b, p1]
      exact runA_done hd hm hi k _ _ (by omega) (by omega) y hy
