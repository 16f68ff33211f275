/-! THE CLASS's moments -/
def cz (v : Int32) : Int32 := if v = -1 then -2 else v
def cq (v : Int32) : Int32 := if v = -1 then -2 else if v = -2 then -3 else v
/-- the class's moment i is s, for the tasks hm of its lane -/
def RC5 (μ : Mm) (i : Nat) (s : Ms) (hm : Nat → Bool) : Prop := (∀ u, u < 8 → hm u = true → μ.1 401 i u = hw s u) ∧ (∀ u, u < 8 → hm u = false → ¬ μ.1 401 i u = 1) ∧ (∀ l, l < 4 → μ.1 403 i l = cz (hd s l)) ∧ μ.1 400 i 3 = cq (cu s) ∧ μ.1 400 i 4 = nn s
def RC (μ : Mm) (i : Nat) (s : Ms) (hm : Nat → Bool) : Prop := RC5 μ i s hm ∧ ∀ u, u < 8 → hm u = true → hw s u = 3 → μ.1 402 i u = wn s u
/-- what holds of every moment -/
def Si (hm : Nat → Bool) (s : Ms) : Prop := (cu s = -1 ∨ cu s = -2 ∨ ∃ u, u < 8 ∧ hm u = true ∧ cu s = nI u) ∧ (∀ u, u < 8 → hw s u = 3 → ∃ l, l < 4 ∧ wn s u = nI l) ∧ (∀ l, l < 4 → hd s l = -1 ∨ ∃ u, u < 8 ∧ hm u = true ∧ hd s l = nI u) ∧ (∀ u, u < 8 → hm u = false → hw s u = 0) ∧ (nn s = 0 ∨ nn s = 1)
def Wh (hm : Nat → Bool) (k t x : Int32) : Prop := ((0 ≤ k ∧ k ≤ 5) → ∃ u, u < 8 ∧ hm u = true ∧ t = nI u) ∧ ((3 ≤ k ∧ k ≤ 5) → ∃ l, l < 4 ∧ x = nI l)
theorem Wh.m {hm : Nat → Bool} {k t x : Int32} (h : Wh hm k t x) : Wm k t x := ⟨fun q => by obtain ⟨u, a, -, b⟩ := h.1 q; exact ⟨u, a, b⟩, h.2⟩
theorem nIneg {u : Nat} (h : u < 8) : ¬ nI u = -1 ∧ ¬ nI u = -2 ∧ ¬ nI u = -3 ∧ ¬ nI u < 0 := by
  rcases (show u = 0 ∨ u = 1 ∨ u = 2 ∨ u = 3 ∨ u = 4 ∨ u = 5 ∨ u = 6 ∨ u = 7 by omega) with rfl | rfl | rfl | rfl | rfl | rfl | rfl | rfl <;> decide
theorem Si.cw {hm : Nat → Bool} {s : Ms} (h : Si hm s) : Cw s := by
  rcases h.1 with q | q | ⟨u, a, -, b⟩
  · left; rw [q]; decide
  · left; rw [q]; decide
  · exact Or.inr ⟨u, a, b⟩
theorem Si_0 (hm : Nat → Bool) : Si hm ms0 := ⟨Or.inl rfl, fun u _ h => absurd h (show ¬ (0 : Int32) = 3 by decide), fun _ _ => Or.inl rfl, fun _ _ _ => rfl, Or.inl rfl⟩
theorem up_s (f : Nat → Int32) (k : Nat) (x : Int32) : upd f k x k = x := if_pos rfl
theorem up_n (f : Nat → Int32) {k j : Nat} (x : Int32) (h : ¬ j = k) : upd f k x j = f j := if_neg h
theorem Si_ms {hm : Nat → Bool} {s : Ms} {k t x : Int32} (h : Si hm s) (hw' : Wh hm k t x) : Si hm (ms hm s k t x) := by
  obtain ⟨h1, h2, h3, h4, h5⟩ := h
  unfold ms
  by_cases k0 : k = 0
  · subst k0
    obtain ⟨u, hu, hh, rfl⟩ := hw'.1 (by decide)
    rw [if_pos rfl, clN (by omega)]
    refine ⟨h1, fun w a b => ?_, h3, fun w a b => ?_, h5⟩
    · change upd (hw s) u 1 w = 3 at b
      by_cases q : w = u
      · subst q; rw [up_s] at b; exact absurd b (by decide)
      · rw [up_n _ _ q] at b; exact h2 w a b
    · show upd (hw s) u 1 w = 0
      rw [up_n _ _ (fun q => by subst q; rw [hh] at b; cases b)]; exact h4 w a b
  rw [if_neg k0]
  by_cases k1 : k = 1
  · subst k1
    obtain ⟨u, hu, hh, rfl⟩ := hw'.1 (by decide)
    rw [if_pos rfl, clN (by omega)]
    have hh2 : ∀ w, w < 8 → (if cu s < 0 then hw s else upd (hw s) (cu s).toNatClampNeg 1) w = 3 → hw s w = 3 := by
      intro w a b
      by_cases q : cu s < 0
      · rwa [if_pos q] at b
      · rw [if_neg q] at b
        by_cases q2 : w = (cu s).toNatClampNeg
        · rw [q2, up_s] at b; exact absurd b (by decide)
        · rwa [up_n _ _ q2] at b
    refine ⟨Or.inr (Or.inr ⟨u, hu, hh, rfl⟩), fun w a b => ?_, h3, fun w a b => ?_, h5⟩
    · change upd _ u 2 w = 3 at b
      by_cases q : w = u
      · subst q; rw [up_s] at b; exact absurd b (by decide)
      · rw [up_n _ _ q] at b; exact h2 w a (hh2 w a b)
    · show upd _ u 2 w = 0
      rw [up_n _ _ (fun q => by subst q; rw [hh] at b; cases b)]
      by_cases q : cu s < 0
      · rw [if_pos q]; exact h4 w a b
      · rw [if_neg q]
        rcases h1 with e | e | ⟨v, a1, a2, a3⟩
        · rw [e] at q; exact absurd (by decide) q
        · rw [e] at q; exact absurd (by decide) q
        · rw [a3, clN (by omega), up_n _ _ (fun z => by subst z; rw [a2] at b; cases b)]; exact h4 w a b
  rw [if_neg k1]
  by_cases k2 : k = 2
  · subst k2
    obtain ⟨u, hu, hh, rfl⟩ := hw'.1 (by decide)
    rw [if_pos rfl, clN (by omega)]
    refine ⟨Or.inl rfl, fun w a b => ?_, h3, fun w a b => ?_, h5⟩
    · change upd (hw s) u 0 w = 3 at b
      by_cases q : w = u
      · subst q; rw [up_s] at b; exact absurd b (by decide)
      · rw [up_n _ _ q] at b; exact h2 w a b
    · show upd (hw s) u 0 w = 0
      rw [up_n _ _ (fun q => by subst q; rw [hh] at b; cases b)]; exact h4 w a b
  rw [if_neg k2]
  by_cases k3 : k = 3
  · subst k3
    obtain ⟨u, hu, hh, rfl⟩ := hw'.1 (by decide)
    obtain ⟨l, hl, rfl⟩ := hw'.2 (by decide)
    rw [if_pos rfl, clN (by omega)]
    refine ⟨Or.inl rfl, fun w a b => ?_, h3, fun w a b => ?_, h5⟩
    · change upd (hw s) u 3 w = 3 at b
      show ∃ l', l' < 4 ∧ upd (wn s) u (nI l) w = nI l'
      by_cases q : w = u
      · subst q; exact ⟨l, hl, up_s _ _ _⟩
      · rw [up_n _ _ q] at b ⊢; exact h2 w a b
    · show upd (hw s) u 3 w = 0
      rw [up_n _ _ (fun q => by subst q; rw [hh] at b; cases b)]; exact h4 w a b
  rw [if_neg k3]
  by_cases k4 : k = 4
  · subst k4
    obtain ⟨u, hu, hh, rfl⟩ := hw'.1 (by decide)
    obtain ⟨l, hl, rfl⟩ := hw'.2 (by decide)
    rw [if_pos rfl, clN (by omega), clN (by omega)]
    refine ⟨h1, fun w a b => ?_, fun w a => ?_, fun w a b => ?_, h5⟩
    · change upd (hw s) u _ w = 3 at b
      by_cases q : w = u
      · subst q; rw [up_s] at b
        by_cases q3 : hw s w = 3
        · exact h2 w a q3
        · rw [if_neg q3] at b; exact absurd b q3
      · rw [up_n _ _ q] at b; exact h2 w a b
    · show upd (hd s) l (nI u) w = -1 ∨ ∃ u', u' < 8 ∧ hm u' = true ∧ upd (hd s) l (nI u) w = nI u'
      by_cases q : w = l
      · subst q; rw [up_s]; exact Or.inr ⟨u, hu, hh, rfl⟩
      · rw [up_n _ _ q]; exact h3 w a
    · show upd (hw s) u _ w = 0
      rw [up_n _ _ (fun q => by subst q; rw [hh] at b; cases b)]; exact h4 w a b
  rw [if_neg k4]
  by_cases k5 : k = 5
  · subst k5
    obtain ⟨l, hl, rfl⟩ := hw'.2 (by decide)
    rw [if_pos rfl, clN (by omega)]
    refine ⟨h1, h2, fun w a => ?_, h4, h5⟩
    show upd (hd s) l (-1) w = -1 ∨ ∃ u', u' < 8 ∧ hm u' = true ∧ upd (hd s) l (-1) w = nI u'
    by_cases q : w = l
    · subst q; rw [up_s]; exact Or.inl rfl
    · rw [up_n _ _ q]; exact h3 w a
  rw [if_neg k5]
  by_cases k6 : k = 6
  · rw [if_pos k6]; exact ⟨h1, h2, h3, h4, Or.inr rfl⟩
  rw [if_neg k6]
  by_cases k7 : k = 7
  · rw [if_pos k7]; exact ⟨h1, h2, h3, h4, Or.inl rfl⟩
  rw [if_neg k7]
  by_cases k8 : k = 8
  · rw [if_pos k8]
    refine ⟨Or.inr (Or.inl rfl), fun w a b => ?_, fun _ _ => Or.inl rfl, fun w a b => ?_, Or.inl rfl⟩
    · change (if hm w = true then (4 : Int32) else hw s w) = 3 at b
      by_cases q : hm w = true
      · rw [if_pos q] at b; exact absurd b (by decide)
      · rw [if_neg q] at b; exact h2 w a b
    · show (if hm w = true then (4 : Int32) else hw s w) = 0
      rw [if_neg (by rw [b]; decide)]; exact h4 w a b
  rw [if_neg k8]
  exact ⟨h1, h2, h3, h4, h5⟩
/-- a lane's marks are well formed -/
def WG (hm : Nat → Bool) (L : La) : Prop := ∀ j, j < zn L → Wh hm (zK L j) (zT L j) (zX L j)
theorem Si_sq {hm : Nat → Bool} {L : La} (h : WG hm L) : ∀ j, j ≤ zn L → Si hm (sq hm L j)
  | 0, _ => Si_0 hm
  | j + 1, hj => Si_ms (Si_sq h j (by omega)) (h j (by omega))
theorem WG.wf {hm : Nat → Bool} {L : La} (h : WG hm L) : WF hm L := fun j hj => ⟨(h j hj).m, (Si_sq h j (by omega)).cw⟩
/-! leaves -/
theorem n8 {u : Nat} (h : u < 8) : ¬ (8 : Int32) ≤ nI u := by rw [show (8 : Int32) = nI 8 from rfl, leN (by omega) (by omega)]; omega
theorem n4 {u : Nat} (h : u < 4) : ¬ (4 : Int32) ≤ nI u := by rw [show (4 : Int32) = nI 4 from rfl, leN (by omega) (by omega)]; omega
theorem setState_in {μ : Mm} {i u : Nat} {v : Int32} (h : u < 8) : f_X4_setState μ i (nI u) v = some (wi μ 401 i u v) := by
  unfold f_X4_setState; rw [if_neg (nN0 (by omega)), if_neg (n8 h), wa_in h (by omega), obs]
theorem setState_neg {μ : Mm} {i : Nat} {x v : Int32} (h : x < 0) : f_X4_setState μ i x v = some μ := by
  unfold f_X4_setState; rw [if_pos h]
theorem setHolder_in {μ : Mm} {i u : Nat} {v : Int32} (h : u < 4) : f_X4_setHolder μ i (nI u) v = some (wi μ 403 i u v) := by
  unfold f_X4_setHolder; rw [if_neg (nN0 (by omega)), if_neg (n4 h), wa_in h (by omega), obs]
theorem stateOf_in {μ : Mm} {i u : Nat} (h : u < 8) : f_X4_stateOf μ i (nI u) = some (μ.1 401 i u) := by
  unfold f_X4_stateOf; rw [if_neg (nN0 (by omega)), if_neg (n8 h), ra_in h (by omega), obs]
theorem stateOf_neg {μ : Mm} {i : Nat} {x : Int32} (h : x < 0) : f_X4_stateOf μ i x = some (-1) := by
  unfold f_X4_stateOf; rw [if_pos h]
theorem holderOf_in {μ : Mm} {i u : Nat} (h : u < 4) : f_X4_holderOf μ i (nI u) = some (μ.1 403 i u) := by
  unfold f_X4_holderOf; rw [if_neg (nN0 (by omega)), if_neg (n4 h), ra_in h (by omega), obs]
theorem startWanting_in {μ : Mm} {i u : Nat} {x : Int32} (h : u < 8) : f_X4_startWanting μ i (nI u) x = some (wi (wi (wi μ 401 i u 3) 402 i u x) 400 i 3 (-2)) := by
  unfold f_X4_startWanting; rw [setState_in h, obs, if_neg (nN0 (by omega)), if_neg (n8 h), wa_in h (by omega), obs, wf_eq, obs]
theorem fl_at (μ : Mm) (k i n : Nat) (v : Int32) (k' i' j' : Nat) : (fl μ k i n v n).1 k' i' j' = if k' = k ∧ i' = i ∧ j' < n then v else μ.1 k' i' j' := by
  unfold fl
  rw [sr_at]
  by_cases h : k' = k ∧ i' = i
  · obtain ⟨rfl, rfl⟩ := h
    rw [if_pos ⟨rfl, rfl⟩]
    by_cases h2 : j' < n
    · rw [if_pos h2, if_pos ⟨rfl, rfl, h2⟩]
    · rw [if_neg h2, if_neg (fun e => h2 e.2.2)]
  · rw [if_neg h, if_neg (fun e => h ⟨e.1, e.2.1⟩)]
theorem loseAll_eq (μ : Mm) (i : Nat) : f_X4_loseAll μ i = some (wi (wi (fl (fl μ 401 i 8 4 8) 403 i 4 (-2) 4) 400 i 3 (-3)) 400 i 4 0) := rfl
theorem reset_eq (μ : Mm) (i : Nat) : f_X4_reset μ i = some (wi (wi (fl (fl μ 401 i 8 0 8) 403 i 4 (-2) 4) 400 i 3 (-2)) 400 i 4 0) := rfl
/-- apply -/
theorem RC5_hw {μ : Mm} {i u : Nat} {s : Ms} {hm : Nat → Bool} (h : RC5 μ i s hm) (hu : hm u = true) (v : Int32) : RC5 (wi μ 401 i u v) i (upd (hw s) u v, wn s, hd s, cu s, nn s) hm := by
  obtain ⟨h1, h2, h3, h4, h5⟩ := h
  refine ⟨fun w a b => ?_, fun w a b => ?_, fun l a => ?_, ?_, ?_⟩
  · rw [wi_at]
    show _ = upd (hw s) u v w
    by_cases e : w = u
    · rw [if_pos ⟨rfl, rfl, e⟩, e, up_s]
    · rw [if_neg (fun z => e z.2.2), up_n _ _ e]; exact h1 w a b
  · rw [wi_at, if_neg (fun z => by rw [z.2.2, hu] at b; cases b)]; exact h2 w a b
  · rw [wi_at, if_neg (by omega)]; exact h3 l a
  · rw [wi_at, if_neg (by omega)]; exact h4
  · rw [wi_at, if_neg (by omega)]; exact h5
theorem RC5_hd {μ : Mm} {i l : Nat} {s : Ms} {hm : Nat → Bool} (h : RC5 μ i s hm) (v : Int32) : RC5 (wi μ 403 i l (cz v)) i (hw s, wn s, upd (hd s) l v, cu s, nn s) hm := by
  obtain ⟨h1, h2, h3, h4, h5⟩ := h
  refine ⟨fun w a b => ?_, fun w a b => ?_, fun w a => ?_, ?_, ?_⟩
  · rw [wi_at, if_neg (by omega)]; exact h1 w a b
  · rw [wi_at, if_neg (by omega)]; exact h2 w a b
  · rw [wi_at]
    show _ = cz (upd (hd s) l v w)
    by_cases e : w = l
    · rw [if_pos ⟨rfl, rfl, e⟩, e, up_s]
    · rw [if_neg (fun z => e z.2.2), up_n _ _ e]; exact h3 w a
  · rw [wi_at, if_neg (by omega)]; exact h4
  · rw [wi_at, if_neg (by omega)]; exact h5
theorem RC5_cu {μ : Mm} {i : Nat} {s : Ms} {hm : Nat → Bool} (h : RC5 μ i s hm) (v w : Int32) (hv : w = cq v) : RC5 (wi μ 400 i 3 w) i (hw s, wn s, hd s, v, nn s) hm := by
  obtain ⟨h1, h2, h3, h4, h5⟩ := h
  refine ⟨fun w a b => ?_, fun w a b => ?_, fun w a => ?_, ?_, ?_⟩
  · rw [wi_at, if_neg (by omega)]; exact h1 w a b
  · rw [wi_at, if_neg (by omega)]; exact h2 w a b
  · rw [wi_at, if_neg (by omega)]; exact h3 w a
  · rw [wi_at, if_pos ⟨rfl, rfl, rfl⟩]; exact hv
  · rw [wi_at, if_neg (by omega)]; exact h5
theorem RC5_nn {μ : Mm} {i : Nat} {s : Ms} {hm : Nat → Bool} (h : RC5 μ i s hm) (v : Int32) : RC5 (wi μ 400 i 4 v) i (hw s, wn s, hd s, cu s, v) hm := by
  obtain ⟨h1, h2, h3, h4, h5⟩ := h
  refine ⟨fun w a b => ?_, fun w a b => ?_, fun w a => ?_, ?_, ?_⟩
  · rw [wi_at, if_neg (by omega)]; exact h1 w a b
  · rw [wi_at, if_neg (by omega)]; exact h2 w a b
  · rw [wi_at, if_neg (by omega)]; exact h3 w a
  · rw [wi_at, if_neg (by omega)]; exact h4
  · rw [wi_at, if_pos ⟨rfl, rfl, rfl⟩]; rfl
theorem RC5_wn {μ : Mm} {i u : Nat} {s : Ms} {hm : Nat → Bool} (h : RC5 μ i s hm) (v : Int32) (f : Nat → Int32) : RC5 (wi μ 402 i u v) i (hw s, f, hd s, cu s, nn s) hm := by
  obtain ⟨h1, h2, h3, h4, h5⟩ := h
  refine ⟨fun w a b => ?_, fun w a b => ?_, fun w a => ?_, ?_, ?_⟩
  · rw [wi_at, if_neg (by omega)]; exact h1 w a b
  · rw [wi_at, if_neg (by omega)]; exact h2 w a b
  · rw [wi_at, if_neg (by omega)]; exact h3 w a
  · rw [wi_at, if_neg (by omega)]; exact h4
  · rw [wi_at, if_neg (by omega)]; exact h5
theorem cq_in {u : Nat} (h : u < 8) : cq (nI u) = nI u := by
  obtain ⟨a, b, -⟩ := nIneg h
  unfold cq; rw [if_neg a, if_neg b]
theorem cz_in {u : Nat} (h : u < 8) : cz (nI u) = nI u := by
  obtain ⟨a, b, -⟩ := nIneg h
  unfold cz; rw [if_neg a]
theorem apply_ok {μ : Mm} {i : Nat} {s : Ms} {hm : Nat → Bool} {k t x : Int32} (h : RC μ i s hm) (hs : Si hm s) (hw' : Wh hm k t x) : ∃ μ', f_X4_apply μ i k t x = some μ' ∧ RC μ' i (ms hm s k t x) hm := by
  obtain ⟨h0, h6⟩ := h
  unfold f_X4_apply ms
  by_cases k0 : k = 0
  · subst k0
    obtain ⟨u, hu, hh, rfl⟩ := hw'.1 (by decide)
    rw [if_pos rfl, if_pos rfl, setState_in hu, obs, clN (by omega)]
    refine ⟨_, rfl, RC5_hw h0 hh 1, fun w a b c => ?_⟩
    rw [wi_at, if_neg (by omega)]
    change upd (hw s) u 1 w = 3 at c
    by_cases e : w = u
    · rw [e, up_s] at c; exact absurd c (by decide)
    · rw [up_n _ _ e] at c; exact h6 w a b c
  rw [if_neg k0, if_neg k0]
  by_cases k1 : k = 1
  · subst k1
    obtain ⟨u, hu, hh, rfl⟩ := hw'.1 (by decide)
    rw [if_pos rfl, if_pos rfl, h0.2.2.2.1, clN (by omega)]
    rcases hs.1 with q | q | ⟨v, a1, a2, a3⟩
    · rw [setState_neg (by rw [q]; decide), obs, setState_in hu, obs, wf_eq, obs, if_pos (by rw [q]; decide)]
      refine ⟨_, rfl, RC5_cu (RC5_hw h0 hh 2) (nI u) (nI u) (cq_in hu).symm, fun w a b c => ?_⟩
      rw [wi_at, if_neg (by omega), wi_at, if_neg (by omega)]
      change upd (hw s) u 2 w = 3 at c
      by_cases e : w = u
      · rw [e, up_s] at c; exact absurd c (by decide)
      · rw [up_n _ _ e] at c; exact h6 w a b c
    · rw [setState_neg (by rw [q]; decide), obs, setState_in hu, obs, wf_eq, obs, if_pos (by rw [q]; decide)]
      refine ⟨_, rfl, RC5_cu (RC5_hw h0 hh 2) (nI u) (nI u) (cq_in hu).symm, fun w a b c => ?_⟩
      rw [wi_at, if_neg (by omega), wi_at, if_neg (by omega)]
      change upd (hw s) u 2 w = 3 at c
      by_cases e : w = u
      · rw [e, up_s] at c; exact absurd c (by decide)
      · rw [up_n _ _ e] at c; exact h6 w a b c
    · rw [a3, cq_in a1, setState_in a1, obs, setState_in hu, obs, wf_eq, obs, if_neg (nN0 (by omega)), clN (by omega)]
      refine ⟨_, rfl, RC5_cu (RC5_hw (RC5_hw h0 a2 1) hh 2) (nI u) (nI u) (cq_in hu).symm, fun w a b c => ?_⟩
      rw [wi_at, if_neg (by omega), wi_at, if_neg (by omega), wi_at, if_neg (by omega)]
      change upd (upd (hw s) v 1) u 2 w = 3 at c
      by_cases e : w = u
      · rw [e, up_s] at c; exact absurd c (by decide)
      · rw [up_n _ _ e] at c
        by_cases e2 : w = v
        · rw [e2, up_s] at c; exact absurd c (by decide)
        · rw [up_n _ _ e2] at c; exact h6 w a b c
  rw [if_neg k1, if_neg k1]
  by_cases k2 : k = 2
  · subst k2
    obtain ⟨u, hu, hh, rfl⟩ := hw'.1 (by decide)
    rw [if_pos rfl, if_pos rfl, setState_in hu, obs, wf_eq, obs, clN (by omega)]
    refine ⟨_, rfl, RC5_cu (RC5_hw h0 hh 0) (-1) (-2) rfl, fun w a b c => ?_⟩
    rw [wi_at, if_neg (by omega), wi_at, if_neg (by omega)]
    change upd (hw s) u 0 w = 3 at c
    by_cases e : w = u
    · rw [e, up_s] at c; exact absurd c (by decide)
    · rw [up_n _ _ e] at c; exact h6 w a b c
  rw [if_neg k2, if_neg k2]
  by_cases k3 : k = 3
  · subst k3
    obtain ⟨u, hu, hh, rfl⟩ := hw'.1 (by decide)
    rw [if_pos rfl, if_pos rfl, startWanting_in hu, obs, clN (by omega)]
    refine ⟨_, rfl, RC5_cu (RC5_wn (RC5_hw h0 hh 3) x (upd (wn s) u x)) (-1) (-2) rfl, fun w a b c => ?_⟩
    rw [wi_at, if_neg (by omega), wi_at]
    show _ = upd (wn s) u x w
    change upd (hw s) u 3 w = 3 at c
    by_cases e : w = u
    · rw [if_pos ⟨rfl, rfl, e⟩, e, up_s]
    · rw [if_neg (fun z => e z.2.2), wi_at, if_neg (by omega), up_n _ _ e]
      rw [up_n _ _ e] at c; exact h6 w a b c
  rw [if_neg k3, if_neg k3]
  by_cases k4 : k = 4
  · subst k4
    obtain ⟨u, hu, hh, rfl⟩ := hw'.1 (by decide)
    obtain ⟨l, hl, rfl⟩ := hw'.2 (by decide)
    have h9 := RC5_hd (l := l) h0 (nI u)
    rw [cz_in hu] at h9
    rw [if_pos rfl, if_pos rfl, setHolder_in hl, obs, stateOf_in hu, obs, h9.1 u hu hh, clN (by omega), clN (by omega)]
    show ∃ μ', (if hw s u = 3 then _ else _) = some μ' ∧ _
    by_cases q : hw s u = 3
    · rw [if_pos q, if_pos q, setState_in hu, obs]
      refine ⟨_, rfl, RC5_hw h9 hh 1, fun w a b c => ?_⟩
      rw [wi_at, if_neg (by omega), wi_at, if_neg (by omega)]
      change upd (hw s) u 1 w = 3 at c
      by_cases e : w = u
      · rw [e, up_s] at c; exact absurd c (by decide)
      · rw [up_n _ _ e] at c; exact h6 w a b c
    · rw [if_neg q, if_neg q]
      have e9 : upd (hw s) u (hw s u) = hw s := by
        funext w
        by_cases e : w = u
        · rw [e, up_s]
        · rw [up_n _ _ e]
      rw [e9]
      refine ⟨_, rfl, h9, fun w a b c => ?_⟩
      rw [wi_at, if_neg (by omega)]; exact h6 w a b c
  rw [if_neg k4, if_neg k4]
  by_cases k5 : k = 5
  · subst k5
    obtain ⟨l, hl, rfl⟩ := hw'.2 (by decide)
    rw [if_pos rfl, if_pos rfl, setHolder_in hl, obs, clN (by omega)]
    refine ⟨_, rfl, RC5_hd h0 (-1), fun w a b c => ?_⟩
    rw [wi_at, if_neg (by omega)]; exact h6 w a b c
  rw [if_neg k5, if_neg k5]
  by_cases k6 : k = 6
  · rw [if_pos k6, if_pos k6, wf_eq, obs]
    refine ⟨_, rfl, RC5_nn h0 1, fun w a b c => ?_⟩
    rw [wi_at, if_neg (by omega)]; exact h6 w a b c
  rw [if_neg k6, if_neg k6]
  by_cases k7 : k = 7
  · rw [if_pos k7, if_pos k7, wf_eq, obs]
    refine ⟨_, rfl, RC5_nn h0 0, fun w a b c => ?_⟩
    rw [wi_at, if_neg (by omega)]; exact h6 w a b c
  rw [if_neg k7, if_neg k7]
  by_cases k8 : k = 8
  · rw [if_pos k8, if_pos k8, loseAll_eq, obs]
    refine ⟨_, rfl, ⟨fun w a b => ?_, fun w a b => ?_, fun l a => ?_, ?_, ?_⟩, fun w a b c => ?_⟩
    · rw [wi_at, if_neg (by omega), wi_at, if_neg (by omega), fl_at, if_neg (by omega), fl_at, if_pos ⟨rfl, rfl, a⟩]
      exact (if_pos b).symm
    · rw [wi_at, if_neg (by omega), wi_at, if_neg (by omega), fl_at, if_neg (by omega), fl_at, if_pos ⟨rfl, rfl, a⟩]; decide
    · rw [wi_at, if_neg (by omega), wi_at, if_neg (by omega), fl_at, if_pos ⟨rfl, rfl, a⟩]; rfl
    · rw [wi_at, if_neg (by omega), wi_at, if_pos ⟨rfl, rfl, rfl⟩]; rfl
    · rw [wi_at, if_pos ⟨rfl, rfl, rfl⟩]; rfl
    · change (if hm w = true then (4 : Int32) else hw s w) = 3 at c
      rw [if_pos b] at c; exact absurd c (by decide)
  rw [if_neg k8, if_neg k8]
  exact ⟨_, rfl, h0, h6⟩
theorem reset_ok (μ : Mm) (i : Nat) (hm : Nat → Bool) : ∃ μ', f_X4_reset μ i = some μ' ∧ RC μ' i ms0 hm := by
  rw [reset_eq]
  refine ⟨_, rfl, ⟨fun w a b => ?_, fun w a b => ?_, fun l a => ?_, ?_, ?_⟩, fun w a b c => absurd c (show ¬ (0 : Int32) = 3 by decide)⟩
  · rw [wi_at, if_neg (by omega), wi_at, if_neg (by omega), fl_at, if_neg (by omega), fl_at, if_pos ⟨rfl, rfl, a⟩]; rfl
  · rw [wi_at, if_neg (by omega), wi_at, if_neg (by omega), fl_at, if_neg (by omega), fl_at, if_pos ⟨rfl, rfl, a⟩]; decide
  · rw [wi_at, if_neg (by omega), wi_at, if_neg (by omega), fl_at, if_pos ⟨rfl, rfl, a⟩]; rfl
  · rw [wi_at, if_neg (by omega), wi_at, if_pos ⟨rfl, rfl, rfl⟩]; rfl
  · rw [wi_at, if_pos ⟨rfl, rfl, rfl⟩]; rfl
