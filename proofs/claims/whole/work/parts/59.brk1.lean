/-! BREAKS: what is written down of them -/
abbrev Bk : Type := List Int32 × List Int32
def CB (μ : Mm) (B : Bk) : Prop := (μ.1 0 0 2 = nI B.1.length ∧ ∀ (i : Nat) (v : Int32), B.1[i]? = some v → μ.1 1 0 i = v) ∧ (μ.1 0 0 3 = nI B.2.length ∧ ∀ (i : Nat) (v : Int32), B.2[i]? = some v → μ.1 2 0 i = v)
def MB (μ : Mm) (B : Bk) : Prop := (μ.1 1000 0 41 = nI B.1.length ∧ ∀ (i : Nat) (v : Int32), B.1[i]? = some v → μ.1 1044 0 i = v) ∧ (μ.1 1000 0 42 = nI B.2.length ∧ ∀ (i : Nat) (v : Int32), B.2[i]? = some v → μ.1 1045 0 i = v)
theorem CB.kept {μ μ' : Mm} {B : Bk} (h : CB μ B) (q : ∀ k j, k ≤ 2 → μ'.1 k 0 j = μ.1 k 0 j) : CB μ' B := by
  obtain ⟨⟨a, b⟩, c, d⟩ := h
  exact ⟨⟨by rw [q _ _ (by omega)]; exact a, fun i v e => by rw [q _ _ (by omega)]; exact b i v e⟩, by rw [q _ _ (by omega)]; exact c, fun i v e => by rw [q _ _ (by omega)]; exact d i v e⟩
theorem MB.kept {μ μ' : Mm} {B : Bk} (h : MB μ B) (q : ∀ k j, (1044 ≤ k ∧ k ≤ 1045) ∨ (k = 1000 ∧ (j = 41 ∨ j = 42)) → μ'.1 k 0 j = μ.1 k 0 j) : MB μ' B := by
  obtain ⟨⟨a, b⟩, c, d⟩ := h
  exact ⟨⟨by rw [q _ _ (by omega)]; exact a, fun i v e => by rw [q _ _ (by omega)]; exact b i v e⟩, by rw [q _ _ (by omega)]; exact c, fun i v e => by rw [q _ _ (by omega)]; exact d i v e⟩
theorem MB.sm {μ μ' : Mm} {B : Bk} (h : MB μ B) (s : SM μ μ') : MB μ' B := h.kept (fun k j a => (s k 0 j (by unfold sc; omega)).1)
theorem CB.sw {μ μ' : Mm} {B : Bk} (h : CB μ B) (s : SW μ μ') : CB μ' B := h.kept (fun k j a => (s k 0 j (by unfold wc; omega)).1)
/-- one more at the end of a row -/
theorem app_at {f g : Nat → Int32} {R : List Int32} {v : Int32} (h : ∀ (i : Nat) (w : Int32), R[i]? = some w → f i = w) (hg : ∀ i, g i = if i = R.length then v else f i) : ∀ (i : Nat) (w : Int32), (R ++ [v])[i]? = some w → g i = w := fun i w e => by
  rw [hg]
  by_cases z : i = R.length
  · subst z
    rw [List.getElem?_append_right (by omega), Nat.sub_self] at e
    rw [if_pos rfl]; exact Option.some.inj e
  · have : i < (R ++ [v]).length := (List.getElem?_eq_some_iff.mp e).1
    rw [List.length_append, List.length_singleton] at this
    rw [List.getElem?_append_left (by omega)] at e
    rw [if_neg z]; exact h i w e
theorem addSure_ok {μ : Mm} {B : Bk} (h : CB μ B) (hl : B.1.length < 200) (v : Int32) : ∃ μ', f_X0_addSure μ v = some μ' ∧ CB μ' (B.1 ++ [v], B.2) ∧ ∀ k i j, 2 < k → μ'.1 k i j = μ.1 k i j := by
  obtain ⟨⟨a, b⟩, c, d⟩ := h
  unfold f_X0_addSure
  rw [a, if_neg (nN0 (by omega)), if_neg (by rw [show (200 : Int32) = nI 200 from rfl]; exact ngt (by omega) (by omega) hl), wa_in hl (by omega), obs, wi_at, if_neg (by omega), a, wf_eq, obs, s1]
  refine ⟨_, rfl, ⟨⟨?_, ?_⟩, ?_, ?_⟩, fun k i j hk => ?_⟩
  · rw [wi_at, if_pos ⟨rfl, rfl, rfl⟩, List.length_append, List.length_singleton]
  · refine app_at (f := μ.1 1 0) b (fun i => ?_)
    rw [wi_at, if_neg (by omega), wi_at]
    by_cases z : i = B.1.length
    · rw [if_pos ⟨rfl, rfl, z⟩, if_pos z]
    · rw [if_neg (fun q => z q.2.2), if_neg z]
  · rw [wi_at, if_neg (by omega), wi_at, if_neg (by omega)]; exact c
  · intro i w e
    rw [wi_at, if_neg (by omega), wi_at, if_neg (by omega)]; exact d i w e
  · rw [wi_at, if_neg (by omega), wi_at, if_neg (by omega)]
theorem addMaybe_ok {μ : Mm} {B : Bk} (h : CB μ B) (hl : B.2.length < 200) (v : Int32) : ∃ μ', f_X0_addMaybe μ v = some μ' ∧ CB μ' (B.1, B.2 ++ [v]) ∧ ∀ k i j, 2 < k → μ'.1 k i j = μ.1 k i j := by
  obtain ⟨⟨a, b⟩, c, d⟩ := h
  unfold f_X0_addMaybe
  rw [c, if_neg (nN0 (by omega)), if_neg (by rw [show (200 : Int32) = nI 200 from rfl]; exact ngt (by omega) (by omega) hl), wa_in hl (by omega), obs, wi_at, if_neg (by omega), c, wf_eq, obs, s1]
  refine ⟨_, rfl, ⟨⟨?_, ?_⟩, ?_, ?_⟩, fun k i j hk => ?_⟩
  · rw [wi_at, if_neg (by omega), wi_at, if_neg (by omega)]; exact a
  · intro i w e
    rw [wi_at, if_neg (by omega), wi_at, if_neg (by omega)]; exact b i w e
  · rw [wi_at, if_pos ⟨rfl, rfl, rfl⟩, List.length_append, List.length_singleton]
  · refine app_at (f := μ.1 2 0) d (fun i => ?_)
    rw [wi_at, if_neg (by omega), wi_at]
    by_cases z : i = B.2.length
    · rw [if_pos ⟨rfl, rfl, z⟩, if_pos z]
    · rw [if_neg (fun q => z q.2.2), if_neg z]
  · rw [wi_at, if_neg (by omega), wi_at, if_neg (by omega)]
theorem sureAt_ok {μ : Mm} {B : Bk} (h : CB μ B) (hl : B.1.length ≤ 200) (x : Int32) : f_X0_sureAt μ x = some (if x < 0 then -1 else (B.1[x.toNatClampNeg]?).getD (-1)) := by
  obtain ⟨⟨a, b⟩, -⟩ := h
  unfold f_X0_sureAt
  rcases ix x (n := B.1.length) (by omega) with q | q | ⟨j, hj, rfl⟩
  · rw [if_pos q, if_pos q]
  · rw [a, if_pos q]
    have hx : B.1.length ≤ x.toNatClampNeg := by rw [leT, nIT (by omega)] at q; rw [clT]; omega
    split
    · rfl
    · rw [List.getElem?_eq_none hx]; rfl
  · rw [if_neg (nN0 (by omega)), if_neg (nN0 (by omega)), a, if_neg (ngt (by omega) (by omega) hj), if_neg (by rw [show (200 : Int32) = nI 200 from rfl]; exact ngt (by omega) (by omega) (by omega)), ra_in (by omega) (by omega), obs, clN (by omega), b j _ (List.getElem?_eq_getElem hj), List.getElem?_eq_getElem hj]; rfl
theorem maybeAt_ok {μ : Mm} {B : Bk} (h : CB μ B) (hl : B.2.length ≤ 200) (x : Int32) : f_X0_maybeAt μ x = some (if x < 0 then -1 else (B.2[x.toNatClampNeg]?).getD (-1)) := by
  obtain ⟨-, a, b⟩ := h
  unfold f_X0_maybeAt
  rcases ix x (n := B.2.length) (by omega) with q | q | ⟨j, hj, rfl⟩
  · rw [if_pos q, if_pos q]
  · rw [a, if_pos q]
    have hx : B.2.length ≤ x.toNatClampNeg := by rw [leT, nIT (by omega)] at q; rw [clT]; omega
    split
    · rfl
    · rw [List.getElem?_eq_none hx]; rfl
  · rw [if_neg (nN0 (by omega)), if_neg (nN0 (by omega)), a, if_neg (ngt (by omega) (by omega) hj), if_neg (by rw [show (200 : Int32) = nI 200 from rfl]; exact ngt (by omega) (by omega) (by omega)), ra_in (by omega) (by omega), obs, clN (by omega), b j _ (List.getElem?_eq_getElem hj), List.getElem?_eq_getElem hj]; rfl
