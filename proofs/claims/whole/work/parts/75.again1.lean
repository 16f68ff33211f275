/-! AGAIN: the jobs' order and sizes -/
theorem nI_sub {a b : Nat} (h : b ≤ a) : nI a - nI b = nI (a - b) := by
  have : nI a = nI (a - b) + nI b := by rw [nI_add]; congr 1; omega
  rw [this]; grind
theorem ln_nat {hm : Nat → Bool} {L : La} (h : LV hm L) {j : Nat} (hj : j + 1 < zn L) : ln L j = nI (zm L (j + 1) - zm L j) := by
  unfold ln
  rw [if_pos hj, (h.2.2.2.2.2.1 (j + 1) hj).1, (h.2.2.2.2.2.1 j (by omega)).1, nI_sub (h.2.2.2.2.2.2 j hj)]
def Jlt (x y : Jb) : Prop := x.2.2.1 < y.2.2.1 ∧ (x.1 = y.1 → x.2.1 < y.2.1)
def JE (L : La) (j : Nat) (s : Js) : Prop := (∀ v o, s.1 v = some o → (∃ n, o.2.1 = nI n ∧ (j < zn L → n ≤ zm L j)) ∧ ∀ x, x ∈ s.2 → x.1 = v → x.2.1 < o.1) ∧ (∀ x, x ∈ s.2 → ∃ n, x.2.2.2.1 = nI n ∧ n ≤ 13107200) ∧ s.2.Pairwise Jlt
theorem JE_step {hm : Nat → Bool} {L : La} {j : Nat} {s : Js} (hL : LV hm L) (hj : j < zn L) (v : JV hm L j s) (h : JE L j s) : JE L (j + 1) (ja hm L j (jm L j s)) := by
  obtain ⟨h1, h2, h3⟩ := h
  have hb := (hL.2.2.2.2.2.1 j hj).2
  have hn := hL.1
  have key : (∀ v o, (jm L j s).1 v = some o → (∃ n, o.2.1 = nI n ∧ n ≤ zm L j) ∧ ∀ x, x ∈ (jm L j s).2 → x.1 = v → x.2.1 < o.1) ∧ (∀ x, x ∈ (jm L j s).2 → ∃ n, x.2.2.2.1 = nI n ∧ n ≤ 13107200) ∧ (jm L j s).2.Pairwise Jlt := by
    have old : ∀ v o, s.1 v = some o → (∃ n, o.2.1 = nI n ∧ n ≤ zm L j) ∧ ∀ x, x ∈ s.2 → x.1 = v → x.2.1 < o.1 := fun v o e => by
      obtain ⟨⟨n, a, b⟩, c⟩ := h1 v o e
      exact ⟨⟨n, a, b hj⟩, c⟩
    unfold jm
    by_cases k0 : zK L j = 0
    · rw [if_pos k0]
      refine ⟨fun w o e => ?_, h2, h3⟩
      have e : ju s.1 (zT L j).toNatClampNeg (some (j, 0, 0)) w = some o := e
      unfold ju at e
      split at e
      · have e := Option.some.inj e
        subst e
        exact ⟨⟨0, rfl, by omega⟩, fun x hx _ => by have := v.2.1 x hx; show x.2.1 < j; omega⟩
      · exact old w o e
    · rw [if_neg k0]
      by_cases k2 : zK L j = 2
      · rw [if_pos k2]
        cases e : s.1 (zT L j).toNatClampNeg with
        | none => exact ⟨old, h2, h3⟩
        | some o =>
          obtain ⟨⟨n, a, b⟩, c⟩ := old _ o e
          refine ⟨fun w o' e' => ?_, fun x hx => ?_, ?_⟩
          · have e' : ju s.1 (zT L j).toNatClampNeg none w = some o' := e'
            unfold ju at e'
            split at e'
            · exact absurd e' (by simp)
            · rename_i z
              obtain ⟨c1, c2⟩ := old w o' e'
              refine ⟨c1, fun x hx hv => ?_⟩
              rcases List.mem_append.mp hx with hx | hx
              · exact c2 x hx hv
              · rw [List.mem_singleton] at hx; subst hx; exact absurd hv.symm z
          · rcases List.mem_append.mp hx with hx | hx
            · exact h2 x hx
            · rw [List.mem_singleton] at hx; subst hx; exact ⟨n, a, by omega⟩
          · show (s.2 ++ [_]).Pairwise _
            rw [List.pairwise_append]
            refine ⟨h3, List.pairwise_singleton _ _, fun x hx y hy => ?_⟩
            rw [List.mem_singleton] at hy; subst hy
            exact ⟨(v.2.1 x hx).2.2.2, fun z => c x hx z⟩
      · rw [if_neg k2]; exact ⟨old, h2, h3⟩
  obtain ⟨g1, g2, g3⟩ := key
  refine ⟨fun w o e => ?_, g2, g3⟩
  obtain ⟨o', e', rfl⟩ := ja_o e
  obtain ⟨⟨n, a, b⟩, c⟩ := g1 w o' e'
  refine ⟨?_, c⟩
  show ∃ n, (if ca (sq hm L (j + 1)) (dk hm L j) w = 2 then o'.2.1 + ln L j else o'.2.1) = nI n ∧ (j + 1 < zn L → n ≤ zm L (j + 1))
  by_cases q : j + 1 < zn L
  · have hm' := hL.2.2.2.2.2.2 j q
    split
    · exact ⟨n + (zm L (j + 1) - zm L j), by rw [a, ln_nat hL q, nI_add], fun _ => by omega⟩
    · exact ⟨n, a, fun _ => by omega⟩
  · split
    · exact ⟨n, by rw [a]; unfold ln; rw [if_neg q, add0], fun z => absurd z q⟩
    · exact ⟨n, a, fun z => absurd z q⟩
theorem JE_all {hm : Nat → Bool} {L : La} (hL : LV hm L) : ∀ j, j ≤ zn L → JE L j (js hm L j)
  | 0, _ => ⟨fun _ _ e => absurd e (by simp [js]), fun _ h => absurd h (by simp [js]), List.Pairwise.nil⟩
  | j + 1, h => JE_step hL h (JV_all hL j (by omega)) (JE_all hL j (by omega))
theorem pw_at {X : Type} {P : X → X → Prop} {l : List X} (h : l.Pairwise P) {i j : Nat} {x y : X} (ei : l[i]? = some x) (ej : l[j]? = some y) (hij : i < j) : P x y := by
  obtain ⟨hi, rfl⟩ := List.getElem?_eq_some_iff.mp ei
  obtain ⟨hj, rfl⟩ := List.getElem?_eq_some_iff.mp ej
  exact List.pairwise_iff_getElem.mp h i j hi hj hij
theorem at_of_mem {X : Type} {l : List X} {x : X} (h : x ∈ l) : ∃ i : Nat, l[i]? = some x := by
  obtain ⟨i, hi, e⟩ := List.mem_iff_getElem.mp h
  exact ⟨i, by rw [List.getElem?_eq_getElem hi, e]⟩
/-- what is used of a lane's jobs -/
def JG (L : La) (R : List Jb) : Prop := R.length ≤ 66 ∧ (∀ x, x ∈ R → x.1 < 8 ∧ x.2.1 < x.2.2.1 ∧ x.2.2.1 < zn L ∧ ∃ n, x.2.2.2.1 = nI n ∧ n ≤ 13107200) ∧ R.Pairwise Jlt
theorem JG.at1 {L : La} {R : List Jb} (h : JG L R) {k l : Nat} {x : Jb} (ek : R[k]? = some x) (el : R[l]? = some x) : k = l := by
  rcases Nat.lt_trichotomy k l with q | q | q
  · have := (pw_at h.2.2 ek el q).1; omega
  · exact q
  · have := (pw_at h.2.2 el ek q).1; omega
theorem JG.uni {L : La} {R : List Jb} (h : JG L R) {x y : Jb} (hx : x ∈ R) (hy : y ∈ R) (e1 : x.1 = y.1) (e2 : x.2.1 = y.2.1) : x = y := by
  obtain ⟨k, ek⟩ := at_of_mem hx
  obtain ⟨l, el⟩ := at_of_mem hy
  rcases Nat.lt_trichotomy k l with q | q | q
  · have := (pw_at h.2.2 ek el q).2 e1; omega
  · subst q; rw [ek] at el; exact Option.some.inj el
  · have := (pw_at h.2.2 el ek q).2 e1.symm; omega
theorem JG_js {hm : Nat → Bool} {L : La} (hL : LV hm L) : JG L (js hm L (zn L)).2 := by
  have jv := JV_all hL (zn L) (by omega)
  have je := JE_all hL (zn L) (by omega)
  have hn := hL.1
  exact ⟨by have := jv.2.2.1; omega, fun x hx => ⟨(jv.2.1 x hx).1, (jv.2.1 x hx).2.2.1, (jv.2.1 x hx).2.2.2, je.2.1 x hx⟩, je.2.2⟩
