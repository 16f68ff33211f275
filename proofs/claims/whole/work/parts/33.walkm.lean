/-! the reference's walk over a lane -/
def sc (k j : Nat) : Prop := k = 1028 ∨ k = 1029 ∨ k = 1030 ∨ k = 1031 ∨ (k = 1000 ∧ 31 ≤ j ∧ j ≤ 35)
/-- all but the reference's moment is the same -/
def SM (μ μ' : Mm) : Prop := ∀ k i j, ¬ sc k j → sm μ μ' k i j
theorem SM.rf (μ : Mm) : SM μ μ := fun _ _ _ _ => ⟨rfl, rfl⟩
theorem SM.trans {a b c : Mm} (h : SM a b) (h2 : SM b c) : SM a c := fun k i j q => (h k i j q).trans (h2 k i j q)
theorem SM_startsNow {F : Nat} {μ z : Mm} {p : Int32} (e : f_X10_startsNow F μ p = some z) : SM μ z := fun k i j h => by
  unfold sc at h; exact (fr_X10_startsNow (by omega) (by omega) (by omega) (by omega) (by omega) (by omega) (by omega) (by omega) (by omega) e)
theorem SM_doesMark {F : Nat} {μ z : Mm} {p : Int32} (e : f_X10_doesMark F μ p = some z) : SM μ z := fun k i j h => by
  unfold sc at h; exact (fr_X10_doesMark (by omega) (by omega) (by omega) (by omega) (by omega) e)
theorem SM_starts {F : Nat} {μ z : Mm} {p q r : Int32} (e : f_X10_starts F μ p q r = some z) : SM μ z := fun k i j h => by
  unfold sc at h; exact (fr_X10_starts (by omega) (by omega) (by omega) (by omega) (by omega) (by omega) (by omega) (by omega) e)
theorem fr_does_hc {F : Nat} {μ z : Mm} {k t x : Int32} {hm : Nat → Bool} (e : f_X10_does F μ k t x = some z) (h : HC μ hm) : HC z hm := by
  obtain ⟨T, h1, h2, h3⟩ := h
  have q : ∀ k i j, ¬ (k = 1028 ∨ k = 1029 ∨ k = 1030 ∨ (k = 1000 ∧ (j = 31 ∨ j = 32))) → z.1 k i j = μ.1 k i j := fun k i j h => (show sm μ z k i j from (fr_X10_does (by omega) (by omega) (by omega) (by omega) (by omega) e)).1
  exact ⟨T, h1, by rw [q _ _ _ (by omega)]; exact h2, fun u hu => by rw [q _ _ _ (by omega), q _ _ _ (by omega)]; exact h3 u hu⟩
theorem fr_does_tr {F : Nat} {μ z : Mm} {k t x : Int32} (e : f_X10_does F μ k t x = some z) : z.1 1000 0 33 = μ.1 1000 0 33 :=
  (show sm μ z 1000 0 33 from (fr_X10_does (by omega) (by omega) (by omega) (by omega) (by omega) e)).1
/-- starts -/
theorem starts_ok {F : Nat} {μ : Mm} {p q r : Int32} (hF : 100 ≤ F) : ∃ μ', f_X10_starts F μ p q r = some μ' ∧ RM μ' ms0 ∧ μ'.1 1000 0 33 = p ∧ μ'.1 1000 0 34 = q ∧ μ'.1 1000 0 35 = r ∧ ∀ i j, μ'.1 1031 i j = μ.1 1031 i j := by
  unfold f_X10_starts
  simp only [wf_eq, obs]
  generalize e0 : wi (wi (wi (wi (wi μ 1000 0 33 p) 1000 0 34 q) 1000 0 35 r) 1000 0 31 (-1)) 1000 0 32 0 = m0
  obtain ⟨m, e1, i1, i2, i3⟩ := loop_inv (f_X10_starts_b28 F) (fun μ => f_X10_starts_b60 F F μ (0 : Int32)) 8 (fun j m => (∀ u, u < j → m.1 1028 0 u = 0) ∧ (∀ u, u < j → m.1 1029 0 u = -1) ∧ ∀ k i l, ¬ k = 1028 → ¬ k = 1029 → m.1 k i l = m0.1 k i l) (by
      intro N m j hj ⟨i1, i2, i3⟩
      rw [f_X10_starts_b28, if_neg (by rw [show (8 : Int32) = nI 8 from rfl, leN (by omega) (by omega)]; omega), wa_in hj (by omega), obs, wa_in hj (by omega), obs, s1]
      refine ⟨_, rfl, fun u hu => ?_, fun u hu => ?_, fun k i l h1 h2 => ?_⟩
      · rw [wi_at, if_neg (by omega), wi_at]
        by_cases e : u = j
        · rw [if_pos ⟨rfl, rfl, e⟩]
        · rw [if_neg (fun z => e z.2.2)]; exact i1 u (by omega)
      · rw [wi_at]
        by_cases e : u = j
        · rw [if_pos ⟨rfl, rfl, e⟩]
        · rw [if_neg (fun z => e z.2.2), wi_at, if_neg (by omega)]; exact i2 u (by omega)
      · rw [wi_at, if_neg (by omega), wi_at, if_neg (by omega)]; exact i3 k i l h1 h2) (by
      intro N m _
      rw [f_X10_starts_b28, if_pos (by rw [show (8 : Int32) = nI 8 from rfl, leN (by omega) (by omega)]; omega)]) F 0 m0 (by omega) (by omega) ⟨fun _ h => by omega, fun _ h => by omega, fun _ _ _ _ _ => rfl⟩
  rw [show (0 : Int32) = nI 0 from rfl, e1]
  obtain ⟨m', e2, j1, j2⟩ := loop_inv (f_X10_starts_b60 F) (fun μ => some μ) 4 (fun j m' => (∀ l, l < j → m'.1 1030 0 l = -1) ∧ ∀ k i l, ¬ k = 1030 → m'.1 k i l = m.1 k i l) (by
      intro N m' j hj ⟨i1, i2⟩
      rw [f_X10_starts_b60, if_neg (by rw [show (4 : Int32) = nI 4 from rfl, leN (by omega) (by omega)]; omega), wa_in (by omega) (by omega), obs, s1]
      refine ⟨_, rfl, fun l hl => ?_, fun k i l hk => ?_⟩
      · rw [wi_at]
        by_cases q : l = j
        · rw [if_pos ⟨rfl, rfl, q⟩]
        · rw [if_neg (fun z => q z.2.2)]; exact i1 l (by omega)
      · rw [wi_at, if_neg (fun z => hk z.1)]; exact i2 k i l hk) (by
      intro N m' _
      rw [f_X10_starts_b60, if_pos (by rw [show (4 : Int32) = nI 4 from rfl, leN (by omega) (by omega)]; omega)]) F 0 _ (by omega) (by omega) ⟨fun l hl => by omega, fun _ _ _ _ => rfl⟩
  refine ⟨m', e2, ⟨fun u hu => ?_, fun u hu => ?_, fun l hl => j1 l hl, ?_, ?_⟩, ?_, ?_, ?_, fun i j => ?_⟩
  · rw [j2 _ _ _ (by omega)]; exact i1 u hu
  · rw [j2 _ _ _ (by omega)]; exact i2 u hu
  all_goals rw [j2 _ _ _ (by omega), i3 _ _ _ (by omega) (by omega), ← e0]; simp [wi_at]; try rfl
def hmf (T : Nat) (home : Nat → Int32) (p : Int32) (u : Nat) : Bool := decide (u < T ∧ home u = p)
theorem startsNow_ok {F T : Nat} {μ : Mm} {p : Int32} (hF : 100 ≤ F) (hT : T ≤ 8) (ht : μ.1 1000 0 2 = nI T) : ∃ μ', f_X10_startsNow F μ p = some μ' ∧ SM μ μ' ∧ RM μ' ms0 ∧ μ'.1 1000 0 33 = p ∧ HC μ' (hmf T (μ.1 1005 0) p) := by
  have key : ∃ μ', f_X10_startsNow F μ p = some μ' ∧ RM μ' ms0 ∧ μ'.1 1000 0 33 = p ∧ HC μ' (hmf T (μ.1 1005 0) p) := by
    unfold f_X10_startsNow
    obtain ⟨m, e1, i1, i2⟩ := loop_inv (fun N m x => f_X10_startsNow_b2 F N m p x) (fun μ => (f_X10_starts F μ p p (μ.1 1000 0 2)).bind fun q7 => some q7) 8 (fun j m => (∀ u, u < j → m.1 1031 0 u = μ.1 1005 0 u) ∧ ∀ k i l, ¬ k = 1031 → m.1 k i l = μ.1 k i l) (by
        intro N m j hj ⟨i1, i2⟩
        show ∃ s', f_X10_startsNow_b2 F (N + 1) m p (nI j) = f_X10_startsNow_b2 F N s' p (nI (j + 1)) ∧ _
        rw [f_X10_startsNow_b2, if_neg (by rw [show (8 : Int32) = nI 8 from rfl, leN (by omega) (by omega)]; omega), ra_in hj (by omega), obs, wa_in hj (by omega), obs, s1]
        refine ⟨_, rfl, fun u hu => ?_, fun k i l hk => ?_⟩
        · rw [wi_at]
          by_cases e : u = j
          · rw [if_pos ⟨rfl, rfl, e⟩, i2 _ _ _ (by omega), e]
          · rw [if_neg (fun z => e z.2.2)]; exact i1 u (by omega)
        · rw [wi_at, if_neg (fun z => hk z.1)]; exact i2 k i l hk) (by
        intro N m _
        show f_X10_startsNow_b2 F (N + 1) m p (nI 8) = _
        rw [f_X10_startsNow_b2, if_pos (by rw [show (8 : Int32) = nI 8 from rfl, leN (by omega) (by omega)]; omega)]) F 0 μ (by omega) (by omega) ⟨fun _ h => by omega, fun _ _ _ _ => rfl⟩
    have e1 : f_X10_startsNow_b2 F F μ p (nI 0) = _ := e1
    rw [show (0 : Int32) = nI 0 from rfl, e1]
    obtain ⟨m', e2, r1, r2, r3, r4, r5⟩ := starts_ok (F := F) (μ := m) (p := p) (q := p) (r := m.1 1000 0 2) hF
    show ∃ μ', (f_X10_starts F m p p (m.1 1000 0 2)).bind _ = some μ' ∧ _
    rw [e2, obs]
    refine ⟨m', rfl, r1, r2, T, hT, by rw [r4, i2 _ _ _ (by omega)]; exact ht, fun u hu => ?_⟩
    rw [r5, r3, i1 u hu]
    unfold hmf
    exact decide_eq_true_iff
  obtain ⟨m, e, r⟩ := key
  exact ⟨m, e, SM_startsNow e, r⟩
/-! a lane: how many marks, their kinds, tasks, numbers, times -/
abbrev La : Type := Nat × (Nat → Int32) × (Nat → Int32) × (Nat → Int32) × (Nat → Int32)
def zn (L : La) : Nat := L.1
def zK (L : La) : Nat → Int32 := L.2.1
def zT (L : La) : Nat → Int32 := L.2.2.1
def zX (L : La) : Nat → Int32 := L.2.2.2.1
def zM (L : La) : Nat → Int32 := L.2.2.2.2
/-- the moment behind the first j marks -/
def sq (hm : Nat → Bool) (L : La) : Nat → Ms
  | 0 => ms0
  | j + 1 => ms hm (sq hm L j) (zK L j) (zT L j) (zX L j)
/-- the reference holds the lane at the trace g -/
def ML (μ : Mm) (g : Nat) (L : La) : Prop := g < 21 ∧ zn L ≤ 200 ∧ μ.1 1008 0 g = nI (zn L) ∧ ∀ j, j < zn L → μ.1 1009 0 (200 * g + j) = zK L j ∧ μ.1 1010 0 (200 * g + j) = zT L j ∧ μ.1 1011 0 (200 * g + j) = zX L j ∧ μ.1 1012 0 (200 * g + j) = zM L j
theorem ML.kept {μ μ' : Mm} {g : Nat} {L : La} (h : ML μ g L) (s : SM μ μ') : ML μ' g L := by
  obtain ⟨h1, h2, h3, h4⟩ := h
  have q : ∀ k j, 1008 ≤ k → k ≤ 1012 → μ'.1 k 0 j = μ.1 k 0 j := fun k j a b => (s k 0 j (by unfold sc; omega)).1
  refine ⟨h1, h2, by rw [q _ _ (by omega) (by omega)]; exact h3, fun j hj => ?_⟩
  rw [q _ _ (by omega) (by omega), q _ _ (by omega) (by omega), q _ _ (by omega) (by omega), q _ _ (by omega) (by omega)]
  exact h4 j hj
/-- each mark is well formed, and what the walk needs of the moments -/
def WF (hm : Nat → Bool) (L : La) : Prop := ∀ j, j < zn L → Wm (zK L j) (zT L j) (zX L j) ∧ Cw (sq hm L j)
theorem spot_in {μ : Mm} {g j : Nat} (h : μ.1 1000 0 33 = nI g) : f_X10_spot μ (nI j) = some (nI (200 * g + j)) := by
  unfold f_X10_spot
  rw [h, show (200 : Int32) = nI 200 from rfl, pk_mul, nI_add]
theorem doesMark_ok {F g j : Nat} {μ : Mm} {hm : Nat → Bool} {L : La} (hF : 100 ≤ F) (hM : ML μ g L) (hg : μ.1 1000 0 33 = nI g) (hc : HC μ hm) (hw : WF hm L) (hj : j < zn L) (h : RM μ (sq hm L j)) : ∃ μ', f_X10_doesMark F μ (nI j) = some μ' ∧ SM μ μ' ∧ RM μ' (sq hm L (j + 1)) ∧ HC μ' hm ∧ μ'.1 1000 0 33 = nI g := by
  have key : ∃ μ', f_X10_doesMark F μ (nI j) = some μ' ∧ RM μ' (sq hm L (j + 1)) ∧ HC μ' hm ∧ μ'.1 1000 0 33 = nI g := by
    obtain ⟨h1, h2, h3, h4⟩ := hM
    obtain ⟨a1, a2, a3, -⟩ := h4 j hj
    have hb : 200 * g + j < 4200 := by omega
    unfold f_X10_doesMark
    simp only [spot_in hg, obs]
    rw [ra_in hb (by omega), obs, ra_in hb (by omega), obs, ra_in hb (by omega), obs, a1, a2, a3]
    obtain ⟨m, e, r⟩ := does_ok hF h hc (hw j hj).1 (hw j hj).2
    rw [e, obs]
    exact ⟨m, rfl, r, fr_does_hc e hc, (fr_does_tr e).trans hg⟩
  obtain ⟨m, e, r⟩ := key
  exact ⟨m, e, SM_doesMark e, r⟩
/-- ends: the moment behind the last mark -/
theorem ends_ok {F g T : Nat} {μ : Mm} {L : La} (hF : 1000 ≤ F) (hT : T ≤ 8) (ht : μ.1 1000 0 2 = nI T) (hM : ML μ g L) (hw : WF (hmf T (μ.1 1005 0) (nI g)) L) : ∃ μ', f_X10_ends F μ (nI g) = some μ' ∧ SM μ μ' ∧ RM μ' (sq (hmf T (μ.1 1005 0) (nI g)) L (zn L)) := by
  obtain ⟨m, e, s0, r1, r2, r3⟩ := startsNow_ok (F := F) (μ := μ) (p := nI g) (by omega) hT ht
  unfold f_X10_ends
  rw [e, obs]
  have hn : zn L ≤ 200 := hM.2.1
  obtain ⟨m', e1, i1, i2, i3, i4⟩ := loop_inv (fun N m x => f_X10_ends_b7 F N m (nI g) x) (fun μ => some μ) (zn L) (fun j m' => SM μ m' ∧ RM m' (sq (hmf T (μ.1 1005 0) (nI g)) L j) ∧ HC m' (hmf T (μ.1 1005 0) (nI g)) ∧ m'.1 1000 0 33 = nI g) (by
      intro N m' j hj ⟨i1, i2, i3, i4⟩
      show ∃ s', f_X10_ends_b7 F (N + 1) m' (nI g) (nI j) = f_X10_ends_b7 F N s' (nI g) (nI (j + 1)) ∧ _
      have hM' := hM.kept i1
      rw [f_X10_ends_b7, ra_in hM'.1 (by omega), obs, hM'.2.2.1, if_neg (by rw [leN (by omega) (by omega)]; omega)]
      obtain ⟨m2, e2, a1, a2, a3, a4⟩ := doesMark_ok (F := F) (by omega) hM' i4 i3 hw hj i2
      rw [e2, obs, s1]
      exact ⟨m2, rfl, i1.trans a1, a2, a3, a4⟩) (by
      intro N m' ⟨i1, i2, i3, i4⟩
      show f_X10_ends_b7 F (N + 1) m' (nI g) (nI (zn L)) = _
      have hM' := hM.kept i1
      rw [f_X10_ends_b7, ra_in hM'.1 (by omega), obs, hM'.2.2.1, if_pos (by rw [leN (by omega) (by omega)]; omega)]) F 0 m (by omega) (by omega) ⟨s0, r1, r3, r2⟩
  have e1 : f_X10_ends_b7 F F m (nI g) (nI 0) = some m' := e1
  rw [show (0 : Int32) = nI 0 from rfl, e1]
  exact ⟨m', rfl, i1, i2⟩
