/-! THE MOMENTS of a lane, as the reference counts them -/
abbrev Ms : Type := (Nat → Int32) × (Nat → Int32) × (Nat → Int32) × Int32 × Int32
def hw (s : Ms) : Nat → Int32 := s.1
def wn (s : Ms) : Nat → Int32 := s.2.1
def hd (s : Ms) : Nat → Int32 := s.2.2.1
def cu (s : Ms) : Int32 := s.2.2.2.1
def nn (s : Ms) : Int32 := s.2.2.2.2
def ms0 : Ms := (fun _ => 0, fun _ => -1, fun _ => -1, -1, 0)
def ms (hm : Nat → Bool) (s : Ms) (k t x : Int32) : Ms :=
  if k = 0 then (upd (hw s) t.toNatClampNeg 1, wn s, hd s, cu s, nn s)
  else if k = 1 then (upd (if cu s < 0 then hw s else upd (hw s) (cu s).toNatClampNeg 1) t.toNatClampNeg 2, wn s, hd s, t, nn s)
  else if k = 2 then (upd (hw s) t.toNatClampNeg 0, wn s, hd s, -1, nn s)
  else if k = 3 then (upd (hw s) t.toNatClampNeg 3, upd (wn s) t.toNatClampNeg x, hd s, -1, nn s)
  else if k = 4 then (upd (hw s) t.toNatClampNeg (if hw s t.toNatClampNeg = 3 then 1 else hw s t.toNatClampNeg), wn s, upd (hd s) x.toNatClampNeg t, cu s, nn s)
  else if k = 5 then (hw s, wn s, upd (hd s) x.toNatClampNeg (-1), cu s, nn s)
  else if k = 6 then (hw s, wn s, hd s, cu s, 1)
  else if k = 7 then (hw s, wn s, hd s, cu s, 0)
  else if k = 8 then (fun u => if hm u then 4 else hw s u, wn s, fun _ => -1, -2, 0)
  else s
def RM (μ : Mm) (s : Ms) : Prop := (∀ u, u < 8 → μ.1 1028 0 u = hw s u) ∧ (∀ u, u < 8 → μ.1 1029 0 u = wn s u) ∧ (∀ l, l < 4 → μ.1 1030 0 l = hd s l) ∧ μ.1 1000 0 31 = cu s ∧ μ.1 1000 0 32 = nn s
theorem RM_hw {μ : Mm} {s : Ms} (h : RM μ s) (u : Nat) (v : Int32) : RM (wi μ 1028 0 u v) (upd (hw s) u v, wn s, hd s, cu s, nn s) := by
  obtain ⟨h1, h2, h3, h4, h5⟩ := h
  refine ⟨fun w hw' => ?_, fun w hw' => ?_, fun w hw' => ?_, ?_, ?_⟩
  · rw [wi_at]
    show _ = upd (hw s) u v w
    by_cases e : w = u
    · subst e; rw [if_pos ⟨rfl, rfl, rfl⟩]; exact (if_pos rfl).symm
    · rw [if_neg (fun q => e q.2.2), h1 w hw']; exact (if_neg e).symm
  · rw [wi_at, if_neg (by omega)]; exact h2 w hw'
  · rw [wi_at, if_neg (by omega)]; exact h3 w hw'
  · rw [wi_at, if_neg (by omega)]; exact h4
  · rw [wi_at, if_neg (by omega)]; exact h5
theorem RM_wn {μ : Mm} {s : Ms} (h : RM μ s) (u : Nat) (v : Int32) : RM (wi μ 1029 0 u v) (hw s, upd (wn s) u v, hd s, cu s, nn s) := by
  obtain ⟨h1, h2, h3, h4, h5⟩ := h
  refine ⟨fun w hw' => ?_, fun w hw' => ?_, fun w hw' => ?_, ?_, ?_⟩
  · rw [wi_at, if_neg (by omega)]; exact h1 w hw'
  · rw [wi_at]
    show _ = upd (wn s) u v w
    by_cases e : w = u
    · subst e; rw [if_pos ⟨rfl, rfl, rfl⟩]; exact (if_pos rfl).symm
    · rw [if_neg (fun q => e q.2.2), h2 w hw']; exact (if_neg e).symm
  · rw [wi_at, if_neg (by omega)]; exact h3 w hw'
  · rw [wi_at, if_neg (by omega)]; exact h4
  · rw [wi_at, if_neg (by omega)]; exact h5
theorem RM_hd {μ : Mm} {s : Ms} (h : RM μ s) (u : Nat) (v : Int32) : RM (wi μ 1030 0 u v) (hw s, wn s, upd (hd s) u v, cu s, nn s) := by
  obtain ⟨h1, h2, h3, h4, h5⟩ := h
  refine ⟨fun w hw' => ?_, fun w hw' => ?_, fun w hw' => ?_, ?_, ?_⟩
  · rw [wi_at, if_neg (by omega)]; exact h1 w hw'
  · rw [wi_at, if_neg (by omega)]; exact h2 w hw'
  · rw [wi_at]
    show _ = upd (hd s) u v w
    by_cases e : w = u
    · subst e; rw [if_pos ⟨rfl, rfl, rfl⟩]; exact (if_pos rfl).symm
    · rw [if_neg (fun q => e q.2.2), h3 w hw']; exact (if_neg e).symm
  · rw [wi_at, if_neg (by omega)]; exact h4
  · rw [wi_at, if_neg (by omega)]; exact h5
theorem RM_cu {μ : Mm} {s : Ms} (h : RM μ s) (v : Int32) : RM (wi μ 1000 0 31 v) (hw s, wn s, hd s, v, nn s) := by
  obtain ⟨h1, h2, h3, h4, h5⟩ := h
  refine ⟨fun w hw' => ?_, fun w hw' => ?_, fun w hw' => ?_, ?_, ?_⟩
  · rw [wi_at, if_neg (by omega)]; exact h1 w hw'
  · rw [wi_at, if_neg (by omega)]; exact h2 w hw'
  · rw [wi_at, if_neg (by omega)]; exact h3 w hw'
  · rw [wi_at, if_pos ⟨rfl, rfl, rfl⟩]; rfl
  · rw [wi_at, if_neg (by omega)]; exact h5
theorem RM_nn {μ : Mm} {s : Ms} (h : RM μ s) (v : Int32) : RM (wi μ 1000 0 32 v) (hw s, wn s, hd s, cu s, v) := by
  obtain ⟨h1, h2, h3, h4, h5⟩ := h
  refine ⟨fun w hw' => ?_, fun w hw' => ?_, fun w hw' => ?_, ?_, ?_⟩
  · rw [wi_at, if_neg (by omega)]; exact h1 w hw'
  · rw [wi_at, if_neg (by omega)]; exact h2 w hw'
  · rw [wi_at, if_neg (by omega)]; exact h3 w hw'
  · rw [wi_at, if_neg (by omega)]; exact h4
  · rw [wi_at, if_pos ⟨rfl, rfl, rfl⟩]; rfl
/-- which tasks the lane's LOST takes -/
def HC (μ : Mm) (hm : Nat → Bool) : Prop := ∃ T, T ≤ 8 ∧ μ.1 1000 0 35 = nI T ∧ ∀ u, u < 8 → (hm u = true ↔ u < T ∧ μ.1 1031 0 u = μ.1 1000 0 34)
theorem loses_ok {F : Nat} {μ : Mm} {s : Ms} {hm : Nat → Bool} (hF : 100 ≤ F) (h : RM μ s) (hc : HC μ hm) : ∃ μ', f_X10_loses F μ = some μ' ∧ RM μ' (fun u => if hm u then 4 else hw s u, wn s, fun _ => -1, -2, 0) := by
  obtain ⟨T, hT, c1, c2⟩ := hc
  obtain ⟨h1, h2, h3, h4, h5⟩ := h
  unfold f_X10_loses
  obtain ⟨m, e1, i1, i2⟩ := loop_inv (f_X10_loses_b2 F) (fun μ => (wf μ 1000 0 31 (-2 : Int32)).bind fun m15 => (wf m15 1000 0 32 (0 : Int32)).bind fun m17 => f_X10_loses_b58 F F m17 (0 : Int32)) T
    (fun j m => (∀ u, u < 8 → m.1 1028 0 u = if u < j ∧ hm u = true then 4 else hw s u) ∧ ∀ k i l, ¬ k = 1028 → m.1 k i l = μ.1 k i l) (by
      intro N m j hj ⟨i1, i2⟩
      rw [f_X10_loses_b2, i2 1000 0 35 (by omega), c1, if_neg (by rw [leN (by omega) (by omega)]; omega), ra_in (by omega) (by omega), obs, i2 1031 0 j (by omega), i2 1000 0 34 (by omega)]
      have hh := c2 j (by omega)
      by_cases e : μ.1 1031 0 j = μ.1 1000 0 34
      · rw [if_pos e, wa_in (by omega) (by omega), obs, s1]
        refine ⟨_, rfl, fun u hu => ?_, fun k i l hk => ?_⟩
        · rw [wi_at]
          by_cases q : u = j
          · subst q; rw [if_pos ⟨rfl, rfl, rfl⟩, if_pos ⟨by omega, hh.mpr ⟨by omega, e⟩⟩]
          · rw [if_neg (fun z => q z.2.2), i1 u hu]
            have : (u < j ∧ hm u = true) ↔ (u < j + 1 ∧ hm u = true) := ⟨fun z => ⟨by omega, z.2⟩, fun z => ⟨by omega, z.2⟩⟩
            simp only [this]
        · rw [wi_at, if_neg (fun z => hk z.1)]; exact i2 k i l hk
      · rw [if_neg e, ra_in (by omega) (by omega), obs, wa_in (by omega) (by omega), obs, s1]
        refine ⟨_, rfl, fun u hu => ?_, fun k i l hk => ?_⟩
        · rw [wi_at]
          by_cases q : u = j
          · subst q
            rw [if_pos ⟨rfl, rfl, rfl⟩, i1 u hu, if_neg (by omega), if_neg (fun z => e (hh.mp z.2).2)]
          · rw [if_neg (fun z => q z.2.2), i1 u hu]
            have : (u < j ∧ hm u = true) ↔ (u < j + 1 ∧ hm u = true) := ⟨fun z => ⟨by omega, z.2⟩, fun z => ⟨by omega, z.2⟩⟩
            simp only [this]
        · rw [wi_at, if_neg (fun z => hk z.1)]; exact i2 k i l hk)
    (by
      intro N m ⟨i1, i2⟩
      rw [f_X10_loses_b2, i2 1000 0 35 (by omega), c1, if_pos (by rw [leN (by omega) (by omega)]; omega)]) F 0 μ (by omega) (by omega) ⟨fun u hu => by rw [if_neg (by omega)]; exact h1 u hu, fun _ _ _ _ => rfl⟩
  rw [show (0 : Int32) = nI 0 from rfl, e1]
  simp only [wf_eq, obs]
  obtain ⟨m', e2, j1, j2⟩ := loop_inv (f_X10_loses_b58 F) (fun μ => some μ) 4 (fun j m' => (∀ l, l < j → m'.1 1030 0 l = -1) ∧ ∀ k i l, ¬ k = 1030 → m'.1 k i l = (wi (wi m 1000 0 31 (-2)) 1000 0 32 0).1 k i l) (by
      intro N m' j hj ⟨i1, i2⟩
      rw [f_X10_loses_b58, if_neg (by rw [show (4 : Int32) = nI 4 from rfl, leN (by omega) (by omega)]; omega), wa_in (by omega) (by omega), obs, s1]
      refine ⟨_, rfl, fun l hl => ?_, fun k i l hk => ?_⟩
      · rw [wi_at]
        by_cases q : l = j
        · subst q; rw [if_pos ⟨rfl, rfl, rfl⟩]
        · rw [if_neg (fun z => q z.2.2)]; exact i1 l (by omega)
      · rw [wi_at, if_neg (fun z => hk z.1)]; exact i2 k i l hk) (by
      intro N m' _
      rw [f_X10_loses_b58, if_pos (by rw [show (4 : Int32) = nI 4 from rfl, leN (by omega) (by omega)]; omega)]) F 0 _ (by omega) (by omega) ⟨fun l hl => by omega, fun _ _ _ _ => rfl⟩
  refine ⟨m', e2, fun u hu => ?_, fun u hu => ?_, fun l hl => j1 l hl, ?_, ?_⟩
  · rw [j2 _ _ _ (by omega), wi_at, if_neg (by omega), wi_at, if_neg (by omega), i1 u hu]
    show _ = if hm u = true then _ else _
    by_cases q : hm u = true
    · rw [if_pos q, if_pos ⟨((c2 u hu).mp q).1, q⟩]
    · rw [if_neg q, if_neg (fun z => q z.2)]
  · rw [j2 _ _ _ (by omega), wi_at, if_neg (by omega), wi_at, if_neg (by omega), i2 _ _ _ (by omega)]; exact h2 u hu
  · rw [j2 _ _ _ (by omega), wi_at, if_neg (by omega), wi_at, if_pos ⟨rfl, rfl, rfl⟩]; rfl
  · rw [j2 _ _ _ (by omega), wi_at, if_pos ⟨rfl, rfl, rfl⟩]; rfl
/-- a mark that is well formed -/
def Wm (k t x : Int32) : Prop := ((0 ≤ k ∧ k ≤ 5) → ∃ u, u < 8 ∧ t = nI u) ∧ ((3 ≤ k ∧ k ≤ 5) → ∃ l, l < 4 ∧ x = nI l)
def Cw (s : Ms) : Prop := cu s < 0 ∨ ∃ u, u < 8 ∧ cu s = nI u
theorem does_ok {F : Nat} {μ : Mm} {s : Ms} {hm : Nat → Bool} {k t x : Int32} (hF : 100 ≤ F) (h : RM μ s) (hc : HC μ hm) (hw' : Wm k t x) (hcu : Cw s) : ∃ μ', f_X10_does F μ k t x = some μ' ∧ RM μ' (ms hm s k t x) := by
  unfold f_X10_does ms
  by_cases k0 : k = 0
  · subst k0
    obtain ⟨u, hu, rfl⟩ := hw'.1 (by decide)
    rw [if_pos rfl, if_pos rfl, wa_in hu (by omega), obs, clN (by omega)]
    exact ⟨_, rfl, RM_hw h u 1⟩
  rw [if_neg k0, if_neg k0]
  by_cases k1 : k = 1
  · subst k1
    obtain ⟨u, hu, rfl⟩ := hw'.1 (by decide)
    rw [if_pos rfl, if_pos rfl, h.2.2.2.1, clN (by omega)]
    unfold f_X10_does_b79
    rcases hcu with q | ⟨w, hw2, q⟩
    · rw [if_pos q, if_pos q, wa_in hu (by omega), obs, wf_eq, obs]
      exact ⟨_, rfl, RM_cu (RM_hw h u 2) (nI u)⟩
    · rw [q, if_neg (nN0 (by omega)), if_neg (nN0 (by omega)), wa_in hw2 (by omega), obs, wa_in hu (by omega), obs, wf_eq, obs, clN (by omega)]
      exact ⟨_, rfl, RM_cu (RM_hw (RM_hw h w 1) u 2) (nI u)⟩
  rw [if_neg k1, if_neg k1]
  by_cases k2 : k = 2
  · subst k2
    obtain ⟨u, hu, rfl⟩ := hw'.1 (by decide)
    rw [if_pos rfl, if_pos rfl, wa_in hu (by omega), obs, wf_eq, obs, clN (by omega)]
    exact ⟨_, rfl, RM_cu (RM_hw h u 0) (-1)⟩
  rw [if_neg k2, if_neg k2]
  by_cases k3 : k = 3
  · subst k3
    obtain ⟨u, hu, rfl⟩ := hw'.1 (by decide)
    rw [if_pos rfl, if_pos rfl, wa_in hu (by omega), obs, wa_in hu (by omega), obs, wf_eq, obs, clN (by omega)]
    exact ⟨_, rfl, RM_cu (RM_wn (RM_hw h u 3) u x) (-1)⟩
  rw [if_neg k3, if_neg k3]
  by_cases k4 : k = 4
  · subst k4
    obtain ⟨u, hu, rfl⟩ := hw'.1 (by decide)
    obtain ⟨l, hl, rfl⟩ := hw'.2 (by decide)
    have h9 := RM_hd h l (nI u)
    rw [if_pos rfl, if_pos rfl, wa_in hl (by omega), obs, ra_in hu (by omega), obs, h9.1 u hu, clN (by omega), clN (by omega)]
    show ∃ μ', (if hw s u = 3 then _ else _) = some μ' ∧ _
    by_cases q : hw s u = 3
    · rw [if_pos q, if_pos q, wa_in hu (by omega), obs]
      exact ⟨_, rfl, RM_hw h9 u 1⟩
    · rw [if_neg q, if_neg q, obs, wa_in hu (by omega), obs]
      exact ⟨_, rfl, RM_hw h9 u _⟩
  rw [if_neg k4, if_neg k4]
  by_cases k5 : k = 5
  · subst k5
    obtain ⟨l, hl, rfl⟩ := hw'.2 (by decide)
    rw [if_pos rfl, if_pos rfl, wa_in hl (by omega), obs, clN (by omega)]
    exact ⟨_, rfl, RM_hd h l (-1)⟩
  rw [if_neg k5, if_neg k5]
  by_cases k6 : k = 6
  · rw [if_pos k6, if_pos k6, wf_eq, obs]; exact ⟨_, rfl, RM_nn h 1⟩
  rw [if_neg k6, if_neg k6]
  by_cases k7 : k = 7
  · rw [if_pos k7, if_pos k7, wf_eq, obs]; exact ⟨_, rfl, RM_nn h 0⟩
  rw [if_neg k7, if_neg k7]
  by_cases k8 : k = 8
  · rw [if_pos k8, if_pos k8]
    obtain ⟨m, e, r⟩ := loses_ok hF h hc
    rw [e, obs]; exact ⟨_, rfl, r⟩
  rw [if_neg k8, if_neg k8]
  exact ⟨_, rfl, h⟩
