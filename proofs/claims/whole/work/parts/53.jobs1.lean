/-! THE JOBS of a lane -/
abbrev Jo : Type := Nat × Int32 × Int32
abbrev Jb : Type := Nat × Nat × Nat × Int32 × Int32
abbrev Js : Type := (Nat → Option Jo) × List Jb
def ju (f : Nat → Option Jo) (u : Nat) (v : Option Jo) : Nat → Option Jo := fun w => if w = u then v else f w
/-- mark j is met -/
def jm (L : La) (j : Nat) (s : Js) : Js :=
  if zK L j = 0 then (ju s.1 (zT L j).toNatClampNeg (some (j, 0, 0)), s.2)
  else if zK L j = 2 then (match s.1 (zT L j).toNatClampNeg with
    | none => s
    | some o => (ju s.1 (zT L j).toNatClampNeg none, s.2 ++ [((zT L j).toNatClampNeg, o.1, j, o.2.1, o.2.2)]))
  else s
/-- the stretch behind mark j -/
def jx (hm : Nat → Bool) (L : La) (j v : Nat) (o : Jo) : Jo := (o.1, (if ca (sq hm L (j + 1)) (dk hm L j) v = 2 then o.2.1 + ln L j else o.2.1), (if ca (sq hm L (j + 1)) (dk hm L j) v = 3 then o.2.2 + ln L j else o.2.2))
def ja (hm : Nat → Bool) (L : La) (j : Nat) (s : Js) : Js := (if dk hm L j = true then fun _ => none else fun v => (s.1 v).map (jx hm L j v), s.2)
def js (hm : Nat → Bool) (L : La) : Nat → Js
  | 0 => (fun _ => none, [])
  | j + 1 => ja hm L j (jm L j (js hm L j))
def S8 (g : Nat → Nat) : Nat := g 0 + g 1 + g 2 + g 3 + g 4 + g 5 + g 6 + g 7
theorem S8_le {g g' : Nat → Nat} (h : ∀ v, v < 8 → g' v ≤ g v) : S8 g' ≤ S8 g := by
  unfold S8
  have h0 := h 0 (by omega); have h1 := h 1 (by omega); have h2 := h 2 (by omega); have h3 := h 3 (by omega); have h4 := h 4 (by omega); have h5 := h 5 (by omega); have h6 := h 6 (by omega); have h7 := h 7 (by omega)
  omega
theorem S8_up {g g' : Nat → Nat} {t a b : Nat} (ht : t < 8) (h : ∀ v, v < 8 → v = t ∨ g' v ≤ g v) (h2 : g' t + a ≤ g t + b) : S8 g' + a ≤ S8 g + b := by
  unfold S8
  have h0 := h 0 (by omega); have h1 := h 1 (by omega); have h2 := h 2 (by omega); have h3 := h 3 (by omega); have h4 := h 4 (by omega); have h5 := h 5 (by omega); have h6 := h 6 (by omega); have h7 := h 7 (by omega)
  have : t = 0 ∨ t = 1 ∨ t = 2 ∨ t = 3 ∨ t = 4 ∨ t = 5 ∨ t = 6 ∨ t = 7 := by omega
  rcases this with rfl | rfl | rfl | rfl | rfl | rfl | rfl | rfl <;> simp at h0 h1 h2 h3 h4 h5 h6 h7 <;> omega
/-- how far a job is: readied, run -/
def pf (f : Nat → Option Jo) (h : Nat → Int32) (v : Nat) : Nat := if (f v).isSome = true then (if h v = 2 then 2 else 1) else 0
theorem pf_le2 (f : Nat → Option Jo) (h : Nat → Int32) (v : Nat) : pf f h v ≤ 2 := by
  unfold pf; split
  · split <;> omega
  · omega
theorem pf_same {f f' : Nat → Option Jo} {h h' : Nat → Int32} {v : Nat} (e : (f' v).isSome = (f v).isSome) (q : h' v = 2 → h v = 2) : pf f' h' v ≤ pf f h v := by
  unfold pf; rw [e]; split
  · split
    · rename_i z; rw [if_pos (q z)]; omega
    · split <;> omega
  · omega
/-- who is changed by a mark, and how -/
theorem hw_ms (hm : Nat → Bool) (s : Ms) (k t x : Int32) (v : Nat) (h : hw (ms hm s k t x) v = 2) : hw s v = 2 ∨ (k = 1 ∧ v = t.toNatClampNeg) := by
  unfold ms at h
  split at h
  · simp only [hw, upd] at h; split at h
    · exact absurd h (by decide)
    · exact .inl h
  split at h
  · rename_i k1
    simp only [hw, upd] at h; split at h
    · rename_i e; exact .inr ⟨k1, e⟩
    · split at h
      · exact .inl h
      · unfold upd at h; split at h
        · exact absurd h (by decide)
        · exact .inl h
  split at h
  · simp only [hw, upd] at h; split at h
    · exact absurd h (by decide)
    · exact .inl h
  split at h
  · simp only [hw, upd] at h; split at h
    · exact absurd h (by decide)
    · exact .inl h
  split at h
  · simp only [hw, upd] at h; split at h
    · rename_i e
      have h : (if hw s t.toNatClampNeg = 3 then (1 : Int32) else hw s t.toNatClampNeg) = 2 := h
      by_cases z : hw s t.toNatClampNeg = 3
      · rw [if_pos z] at h; exact absurd h (by decide)
      · rw [if_neg z] at h; left; rw [e]; exact h
    · exact .inl h
  split at h
  · exact .inl h
  split at h
  · exact .inl h
  split at h
  · exact .inl h
  split at h
  · simp only [hw] at h; split at h
    · exact absurd h (by decide)
    · exact .inl h
  exact .inl h
theorem hw_ms4 (hm : Nat → Bool) (s : Ms) (k t x : Int32) (v : Nat) (h : hw (ms hm s k t x) v = 4) : (hw s v = 4 ∧ ¬ (k = 0 ∧ v = t.toNatClampNeg)) ∨ k = 8 := by
  unfold ms at h
  split at h
  · rename_i k0
    simp only [hw, upd] at h; split at h
    · exact absurd h (by decide)
    · rename_i e; exact .inl ⟨h, fun z => e z.2⟩
  rename_i k0
  have c : hw s v = 4 → (hw s v = 4 ∧ ¬ (k = 0 ∧ v = t.toNatClampNeg)) ∨ k = 8 := fun z => .inl ⟨z, fun y => k0 y.1⟩
  split at h
  · simp only [hw, upd] at h; split at h
    · exact absurd h (by decide)
    · split at h
      · exact c h
      · unfold upd at h; split at h
        · exact absurd h (by decide)
        · exact c h
  split at h
  · simp only [hw, upd] at h; split at h
    · exact absurd h (by decide)
    · exact c h
  split at h
  · simp only [hw, upd] at h; split at h
    · exact absurd h (by decide)
    · exact c h
  split at h
  · simp only [hw, upd] at h; split at h
    · rename_i e
      have h : (if hw s t.toNatClampNeg = 3 then (1 : Int32) else hw s t.toNatClampNeg) = 4 := h
      by_cases z : hw s t.toNatClampNeg = 3
      · rw [if_pos z] at h; exact absurd h (by decide)
      · rw [if_neg z] at h; apply c; rw [e]; exact h
    · exact c h
  split at h
  · exact c h
  split at h
  · exact c h
  split at h
  · exact c h
  split at h
  · rename_i e; exact .inr e
  exact c h
/-- what holds of the jobs behind j marks -/
def JV (hm : Nat → Bool) (L : La) (j : Nat) (s : Js) : Prop := (∀ v o, s.1 v = some o → v < 8 ∧ hm v = true ∧ o.1 < j) ∧ (∀ x, x ∈ s.2 → x.1 < 8 ∧ hm x.1 = true ∧ x.2.1 < x.2.2.1 ∧ x.2.2.1 < j) ∧ 3 * s.2.length + S8 (pf s.1 (hw (sq hm L j))) ≤ j ∧ ∀ v, (s.1 v).isSome = true → ¬ hw (sq hm L j) v = 4 ∧ ¬ (j < zn L ∧ zK L j = 8)

theorem js_rows (hm : Nat → Bool) (L : La) (j : Nat) : (js hm L (j + 1)).2 = (jm L j (js hm L j)).2 := rfl
theorem ja_some (hm : Nat → Bool) (L : La) (j v : Nat) (s : Js) (h : ((ja hm L j s).1 v).isSome = true) : ¬ dk hm L j = true ∧ (s.1 v).isSome = true := by
  unfold ja at h
  by_cases d : dk hm L j = true
  · simp only [if_pos d] at h; exact absurd h (by decide)
  · simp only [if_neg d] at h; rw [Option.isSome_map] at h; exact ⟨d, h⟩
theorem ja_o {hm : Nat → Bool} {L : La} {j v : Nat} {s : Js} {o : Jo} (h : (ja hm L j s).1 v = some o) : ∃ o', s.1 v = some o' ∧ o = jx hm L j v o' := by
  unfold ja at h
  by_cases d : dk hm L j = true
  · simp only [if_pos d] at h; exact absurd h (by simp)
  · simp only [if_neg d] at h
    cases e : s.1 v with
    | none => rw [e] at h; exact absurd h (by simp)
    | some o' => rw [e] at h; exact ⟨o', rfl, (Option.some.inj h).symm⟩
theorem JV_step {hm : Nat → Bool} {L : La} {j : Nat} {s : Js} (hL : LV hm L) (hj : j < zn L) (h : JV hm L j s) : JV hm L (j + 1) (ja hm L j (jm L j s)) := by
  obtain ⟨h1, h2, h3, h4⟩ := h
  obtain ⟨-, hg, -, -, hb, -, -⟩ := hL
  have hw' := (hg j hj).1
  -- behind the mark
  have key : (∀ v o, (jm L j s).1 v = some o → v < 8 ∧ hm v = true ∧ o.1 < j + 1) ∧ (∀ x, x ∈ (jm L j s).2 → x.1 < 8 ∧ hm x.1 = true ∧ x.2.1 < x.2.2.1 ∧ x.2.2.1 < j + 1) ∧ 3 * (jm L j s).2.length + S8 (pf (jm L j s).1 (hw (sq hm L (j + 1)))) ≤ j + 1 ∧ ∀ v, ((jm L j s).1 v).isSome = true → ¬ hw (sq hm L (j + 1)) v = 4 := by
    unfold jm
    by_cases k0 : zK L j = 0
    · obtain ⟨u, u1, u2, u3⟩ := hw' (by rw [k0]; decide)
      have hs : sq hm L (j + 1) = ms hm (sq hm L j) (zK L j) (zT L j) (zX L j) := rfl
      rw [if_pos k0, u3, clN (by omega)]
      refine ⟨fun v o e => ?_, fun x hx => ?_, ?_, fun v e => ?_⟩
      · simp only [ju] at e
        split at e
        · rename_i z; subst z; rw [← Option.some.inj e]; exact ⟨u1, u2, by omega⟩
        · have := h1 v o e; exact ⟨this.1, this.2.1, by omega⟩
      · have := h2 x hx; exact ⟨this.1, this.2.1, this.2.2.1, by omega⟩
      · have := S8_up (g := pf s.1 (hw (sq hm L j))) (g' := pf (ju s.1 u (some (j, 0, 0))) (hw (sq hm L (j + 1)))) (a := 0) (b := 1) u1 (fun v hv => by
          by_cases z : v = u
          · exact .inl z
          · refine .inr (pf_same (by simp only [ju]; rw [if_neg z]) (fun y => ?_))
            rcases hw_ms _ _ _ _ _ _ (hs ▸ y) with y | ⟨y, -⟩
            · exact y
            · rw [k0] at y; exact absurd y (by decide)) (by
          have e : pf (ju s.1 u (some (j, 0, 0))) (hw (sq hm L (j + 1))) u = 1 := by
            unfold pf
            rw [if_pos (by simp [ju]), if_neg]
            rw [hs]; unfold ms; rw [if_pos k0, u3, clN (by omega)]
            simp [hw, upd]
          omega)
        show 3 * s.2.length + S8 (pf (ju s.1 u (some (j, 0, 0))) (hw (sq hm L (j + 1)))) ≤ j + 1
        omega
      · simp only [ju] at e
        intro z
        rcases hw_ms4 _ _ _ _ _ _ (hs ▸ z) with ⟨y1, y2⟩ | y
        · split at e
          · rename_i z2; exact y2 ⟨k0, by rw [u3, clN (by omega)]; exact z2⟩
          · exact (h4 v e).1 y1
        · rw [k0] at y; exact absurd y (by decide)
    · rw [if_neg k0]
      have hs : sq hm L (j + 1) = ms hm (sq hm L j) (zK L j) (zT L j) (zX L j) := rfl
      by_cases k2 : zK L j = 2
      · obtain ⟨u, u1, u2, u3⟩ := hw' (by rw [k2]; decide)
        have hr := hb j hj k2
        rw [if_pos k2]
        rw [u3, clN (by omega)] at hr ⊢
        have c4 : ∀ v, (s.1 v).isSome = true → ¬ hw (sq hm L (j + 1)) v = 4 := fun v e z => by
          rcases hw_ms4 _ _ _ _ _ _ (hs ▸ z) with ⟨y1, y2⟩ | y
          · exact (h4 v e).1 y1
          · rw [k2] at y; exact absurd y (by decide)
        have q2 : ∀ v, hw (sq hm L (j + 1)) v = 2 → hw (sq hm L j) v = 2 := fun v y => by
          rcases hw_ms _ _ _ _ _ _ (hs ▸ y) with y | ⟨y, -⟩
          · exact y
          · rw [k2] at y; exact absurd y (by decide)
        cases e : s.1 u with
        | none =>
          refine ⟨fun v o e => ?_, fun x hx => ?_, ?_, c4⟩
          · have := h1 v o e; exact ⟨this.1, this.2.1, by omega⟩
          · have := h2 x hx; exact ⟨this.1, this.2.1, this.2.2.1, by omega⟩
          · have := S8_le (g := pf s.1 (hw (sq hm L j))) (g' := pf s.1 (hw (sq hm L (j + 1)))) (fun v hv => pf_same rfl (q2 v))
            show 3 * s.2.length + S8 (pf s.1 (hw (sq hm L (j + 1)))) ≤ j + 1
            omega
        | some o =>
          have ho := h1 u o e
          refine ⟨fun v o' e' => ?_, fun x hx => ?_, ?_, fun v e' => ?_⟩
          · simp only [ju] at e'
            split at e'
            · exact absurd e' (by simp)
            · have := h1 v o' e'; exact ⟨this.1, this.2.1, by omega⟩
          · rcases List.mem_append.mp hx with hx | hx
            · have := h2 x hx; exact ⟨this.1, this.2.1, this.2.2.1, by omega⟩
            · rw [List.mem_singleton] at hx; subst hx
              exact ⟨u1, u2, ho.2.2, by show j < j + 1; omega⟩
          · have := S8_up (g := pf s.1 (hw (sq hm L j))) (g' := pf (ju s.1 u none) (hw (sq hm L (j + 1)))) (a := 2) (b := 0) u1 (fun v hv => by
              by_cases z : v = u
              · exact .inl z
              · exact .inr (pf_same (by simp only [ju]; rw [if_neg z]) (q2 v))) (by
              have e1 : pf (ju s.1 u none) (hw (sq hm L (j + 1))) u = 0 := by
                unfold pf; rw [if_neg]; simp [ju]
              have e2 : pf s.1 (hw (sq hm L j)) u = 2 := by
                unfold pf; rw [if_pos (by rw [e]; rfl), if_pos hr]
              omega)
            show 3 * (s.2 ++ [_]).length + S8 (pf (ju s.1 u none) (hw (sq hm L (j + 1)))) ≤ j + 1
            rw [List.length_append, List.length_singleton]
            omega
          · simp only [ju] at e'
            split at e'
            · exact absurd e' (by decide)
            · exact c4 v e'
      · rw [if_neg k2]
        refine ⟨fun v o e => ?_, fun x hx => ?_, ?_, fun v e z => ?_⟩
        · have := h1 v o e; exact ⟨this.1, this.2.1, by omega⟩
        · have := h2 x hx; exact ⟨this.1, this.2.1, this.2.2.1, by omega⟩
        · by_cases k1 : zK L j = 1
          · obtain ⟨u, u1, u2, u3⟩ := hw' (by rw [k1]; decide)
            have := S8_up (g := pf s.1 (hw (sq hm L j))) (g' := pf s.1 (hw (sq hm L (j + 1)))) (a := 0) (b := 1) u1 (fun v hv => by
              by_cases z : v = u
              · exact .inl z
              · refine .inr (pf_same rfl (fun y => ?_))
                rcases hw_ms _ _ _ _ _ _ (hs ▸ y) with y | ⟨-, y⟩
                · exact y
                · rw [u3, clN (by omega)] at y; exact absurd y z) (by
              unfold pf; split
              · split <;> split <;> omega
              · omega)
            omega
          · have := S8_le (g := pf s.1 (hw (sq hm L j))) (g' := pf s.1 (hw (sq hm L (j + 1)))) (fun v hv => pf_same rfl (fun y => by
              rcases hw_ms _ _ _ _ _ _ (hs ▸ y) with y | ⟨y, -⟩
              · exact y
              · exact absurd y k1))
            omega
        · rcases hw_ms4 _ _ _ _ _ _ (hs ▸ z) with ⟨y1, y2⟩ | y
          · exact (h4 v e).1 y1
          · exact (h4 v e).2 ⟨hj, y⟩
  obtain ⟨g1, g2, g3, g4⟩ := key
  refine ⟨fun v o e => ?_, g2, ?_, fun v e => ?_⟩
  · obtain ⟨o', e', rfl⟩ := ja_o e
    exact g1 v o' e'
  · have := S8_le (g := pf (jm L j s).1 (hw (sq hm L (j + 1)))) (g' := pf (ja hm L j (jm L j s)).1 (hw (sq hm L (j + 1)))) (fun v hv => by
      cases q : ((ja hm L j (jm L j s)).1 v).isSome with
      | false => unfold pf; rw [q, if_neg (by decide)]; omega
      | true => exact pf_same (by rw [q, (ja_some _ _ _ _ _ q).2]) id)
    show 3 * (jm L j s).2.length + S8 (pf (ja hm L j (jm L j s)).1 (hw (sq hm L (j + 1)))) ≤ j + 1
    omega
  · obtain ⟨a, b⟩ := ja_some _ _ _ _ _ e
    refine ⟨g4 v b, fun z => a ?_⟩
    unfold dk; exact decide_eq_true (.inl z)
theorem JV_all {hm : Nat → Bool} {L : La} (hL : LV hm L) : ∀ j, j ≤ zn L → JV hm L j (js hm L j)
  | 0, _ => ⟨fun _ _ e => absurd e (by simp [js]), fun _ h => absurd h (by simp [js]), by
      have : S8 (pf (fun _ => none) (hw (sq hm L 0))) = 0 := by unfold S8 pf; rfl
      show 3 * 0 + S8 (pf (fun _ => none) (hw (sq hm L 0))) ≤ 0
      omega, fun v e => absurd e (by simp [js])⟩
  | j + 1, h => JV_step hL h (JV_all hL j (by omega))
