/-! THE WHOLE STATE: what both hold -/
abbrev Tr : Type := Nat × Nat × Nat × (Nat → Int32) × (Nat → Int32) × (Nat → La)
def tP (D : Tr) : Nat := D.1
def tT (D : Tr) : Nat := D.2.1
def tW (D : Tr) : Nat := D.2.2.1
def tH (D : Tr) : Nat → Int32 := D.2.2.2.1
def tR (D : Tr) : Nat → Int32 := D.2.2.2.2.1
def tL (D : Tr) : Nat → La := D.2.2.2.2.2
def hmD (D : Tr) (p : Nat) : Nat → Bool := hmf (tT D) (tH D) (nI p)
def zm (L : La) (j : Nat) : Nat := (zM L j).toNatClampNeg
/-- a lane that was told mark by mark -/
def LV (hm : Nat → Bool) (L : La) : Prop := zn L ≤ 200 ∧ WG hm L ∧ (∀ j, j < zn L → ∃ k, k ≤ 12 ∧ zK L j = nI k) ∧ (∀ j, j < zn L → (zT L j = -1 ∨ ∃ u, u < 8 ∧ zT L j = nI u) ∧ (zX L j = -1 ∨ ∃ x, x < 64 ∧ zX L j = nI x))
  ∧ (∀ j, j < zn L → zK L j = 2 → hw (sq hm L j) (zT L j).toNatClampNeg = 2) ∧ (∀ j, j < zn L → zM L j = nI (zm L j) ∧ zm L j ≤ 65536 * (j + 1)) ∧ (∀ j, j + 1 < zn L → zm L j ≤ zm L (j + 1))
def TV (D : Tr) : Prop := (1 ≤ tP D ∧ tP D ≤ 3) ∧ (1 ≤ tT D ∧ tT D ≤ 8) ∧ (4 ≤ tW D ∧ tW D ≤ 16) ∧ (∀ u, u < 8 → ∃ h, h < tP D ∧ tH D u = nI h) ∧ (∀ u, u < 8 → ∃ r, r ≤ 15 ∧ tR D u = nI r) ∧ (∀ p, p < 3 → LV (hmD D p) (tL D p)) ∧ (∀ p, p < 3 → tP D ≤ p → zn (tL D p) = 0)
  ∧ ∀ p q i j c, p < 3 → q < 3 → i < zn (tL D p) → j < zn (tL D q) → c < 4 → zK (tL D p) i = nI (9 + c) → zK (tL D q) j = nI (9 + c) → zX (tL D p) i = zX (tL D q) j → p = q ∧ i = j
/-- the class's table of letters -/
def CT4 (μ : Mm) (t : Nat) (D : Tr) : Prop := ∀ c x, c < 4 → x < 64 → (μ.1 704 t (64 * c + x) = -1 ∧ ∀ p j, p < 3 → j < zn (tL D p) → zK (tL D p) j = nI (9 + c) → ¬ zX (tL D p) j = nI x) ∨ ∃ p j, p < 3 ∧ j < zn (tL D p) ∧ μ.1 704 t (64 * c + x) = nI (200 * p + j) ∧ zK (tL D p) j = nI (9 + c) ∧ zX (tL D p) j = nI x
def CT (μ : Mm) (t : Nat) (D : Tr) : Prop := (μ.1 700 t 4 = nI (tP D) ∧ μ.1 700 t 5 = nI (tT D) ∧ μ.1 700 t 6 = nI (tW D)) ∧ (∀ u, u < 8 → μ.1 701 t u = tH D u ∧ μ.1 702 t u = tR D u) ∧ (∀ p, p < 3 → CL μ (3 * t + p) (tL D p) ∧ RC μ (3 * t + p) (sq (hmD D p) (tL D p) (zn (tL D p))) (hmD D p)) ∧ CT4 μ t D ∧ ∀ p u, p < 3 → zn (tL D p) = 0 → u < 8 → μ.1 401 (3 * t + p) u = 0
def MT (μ : Mm) (D : Tr) : Prop := (μ.1 1000 0 1 = nI (tP D) ∧ μ.1 1000 0 2 = nI (tT D) ∧ μ.1 1000 0 3 = nI (tW D)) ∧ (∀ u, u < 8 → μ.1 1005 0 u = tH D u ∧ μ.1 1006 0 u = tR D u) ∧ ∀ p, p < 3 → ML μ p (tL D p)
def MC (μ : Mm) (d : Nat) (D : Tr) : Prop := (μ.1 1023 0 d = nI (tP D) ∧ μ.1 1024 0 d = nI (tT D) ∧ μ.1 1025 0 d = nI (tW D)) ∧ (∀ u, u < 8 → μ.1 1026 0 (8 * d + u) = tH D u ∧ μ.1 1027 0 (8 * d + u) = tR D u) ∧ ∀ p, p < 3 → ML μ (3 + 3 * d + p) (tL D p)
def OT (μ : Mm) : Prop := ∀ u, u < 8 → μ.1 902 0 u = μ.1 1007 0 u ∧ (μ.1 902 0 u = -1 ∨ ∃ r, r ≤ 15 ∧ μ.1 902 0 u = nI r)
def LW (μ : Mm) (D : Tr) : Prop := ∃ n, n ≤ 8 ∧ μ.1 300 0 4 = nI n ∧ μ.1 1000 0 12 = nI n ∧ ∀ l, l < n → (μ.1 301 0 l = μ.1 1014 0 l ∧ μ.1 302 0 l = μ.1 1015 0 l ∧ μ.1 303 0 l = μ.1 1016 0 l ∧ μ.1 304 0 l = μ.1 1017 0 l)
  ∧ ((μ.1 301 0 l = 0 ∧ ∃ u, u < tT D ∧ μ.1 302 0 l = nI u) ∨ (μ.1 301 0 l = 1 ∧ (∃ p, p < tP D ∧ μ.1 302 0 l = nI p) ∧ ∃ b, b < 4 ∧ μ.1 303 0 l = nI b) ∨ (μ.1 301 0 l = 2 ∧ ∃ u, u < tT D ∧ μ.1 302 0 l = nI u) ∨ (μ.1 301 0 l = 3 ∧ ∃ p, p < tP D ∧ μ.1 302 0 l = nI p)) ∧ ¬ μ.1 304 0 l < 0
def CN2 (μ : Mm) : Prop := μ.1 900 0 9 = μ.1 1000 0 17 ∧ μ.1 900 0 10 = μ.1 1000 0 18
def TP (μ : Mm) (d : Nat) (C : Tr) : Prop := ∃ s, s ≤ 5 ∧ μ.1 600 d 1 = nI s ∧ μ.1 1020 0 d = nI s ∧ (1 ≤ s → s ≤ 4 → ∃ n, n ≤ 100 ∧ μ.1 600 d 2 = nI n ∧ μ.1 1021 0 d = nI n ∧ ∀ j, j < 100 → μ.2 601 d j = μ.2 1022 0 (100 * d + j)) ∧ (s = 5 → ¬ μ.1 600 d 3 = 0 ∧ TV C ∧ CT μ (d + 1) C ∧ MC μ d C)
def Rl (μ : Mm) (D : Tr) (C : Nat → Tr) : Prop := TV D ∧ CT μ 0 D ∧ MT μ D ∧ OT μ ∧ LW μ D ∧ CN2 μ ∧ ∀ d, d < 6 → TP μ d (C d)
def Rel (μ : Mm) : Prop := ∃ D C, Rl μ D C
/-- cells that nobody reads before they are written -/
def scr (k i j : Nat) : Prop := k ≤ 2 ∨ (100 ≤ k ∧ k ≤ 111) ∨ (400 ≤ k ∧ k ≤ 403 ∧ i = 21) ∨ k = 501 ∨ k = 800 ∨ k = 903 ∨ (k = 1000 ∧ (j = 0 ∨ (31 ≤ j ∧ j ≤ 36) ∨ j = 41 ∨ j = 42 ∨ (46 ≤ j ∧ j ≤ 48))) ∨ (1028 ≤ k ∧ k ≤ 1031) ∨ (1038 ≤ k ∧ k ≤ 1041) ∨ (1044 ≤ k ∧ k ≤ 1046) ∨ 1050 ≤ k
def SR (μ μ' : Mm) : Prop := ∀ k i j, ¬ scr k i j → sm μ μ' k i j
theorem SR.rf (μ : Mm) : SR μ μ := fun _ _ _ _ => ⟨rfl, rfl⟩
theorem SR.trans {a b c : Mm} (h : SR a b) (h2 : SR b c) : SR a c := fun k i j q => (h k i j q).trans (h2 k i j q)
theorem SM.sr {a b : Mm} (h : SM a b) : SR a b := fun k i j q => h k i j (by unfold scr at q; unfold sc; omega)
theorem SW.sr {a b : Mm} (h : SW a b) : SR a b := fun k i j q => h k i j (by unfold scr at q; unfold wc; omega)
theorem RC.kept {μ μ' : Mm} {i : Nat} {s : Ms} {hm : Nat → Bool} (h : RC μ i s hm) (q : ∀ k j, 400 ≤ k → k ≤ 403 → μ'.1 k i j = μ.1 k i j) : RC μ' i s hm := by
  obtain ⟨⟨r1, r2, r3, r4, r5⟩, r6⟩ := h
  exact ⟨⟨fun u a b => by rw [q _ _ (by omega) (by omega)]; exact r1 u a b, fun u a b => by rw [q _ _ (by omega) (by omega)]; exact r2 u a b, fun l a => by rw [q _ _ (by omega) (by omega)]; exact r3 l a, by rw [q _ _ (by omega) (by omega)]; exact r4, by rw [q _ _ (by omega) (by omega)]; exact r5⟩, fun u a b c => by rw [q _ _ (by omega) (by omega)]; exact r6 u a b c⟩
theorem ML.kept2 {μ μ' : Mm} {g : Nat} {L : La} (h : ML μ g L) (q : ∀ k j, 1008 ≤ k → k ≤ 1012 → μ'.1 k 0 j = μ.1 k 0 j) : ML μ' g L := by
  obtain ⟨h1, h2, h3, h4⟩ := h
  refine ⟨h1, h2, by rw [q _ _ (by omega) (by omega)]; exact h3, fun j hj => ?_⟩
  rw [q _ _ (by omega) (by omega), q _ _ (by omega) (by omega), q _ _ (by omega) (by omega), q _ _ (by omega) (by omega)]
  exact h4 j hj
theorem CT.kept {μ μ' : Mm} {t : Nat} {D : Tr} (h : CT μ t D) (ht : t < 7) (q : ∀ k i j, (200 ≤ k ∧ k ≤ 204 ∧ 3 * t ≤ i ∧ i < 3 * t + 3) ∨ (400 ≤ k ∧ k ≤ 403 ∧ 3 * t ≤ i ∧ i < 3 * t + 3) ∨ (700 ≤ k ∧ k ≤ 704 ∧ i = t) → μ'.1 k i j = μ.1 k i j) : CT μ' t D := by
  obtain ⟨⟨a1, a2, a3⟩, b, c, d, f9⟩ := h
  refine ⟨⟨by rw [q _ _ _ (by omega)]; exact a1, by rw [q _ _ _ (by omega)]; exact a2, by rw [q _ _ _ (by omega)]; exact a3⟩, fun u hu => by rw [q _ _ _ (by omega), q _ _ _ (by omega)]; exact b u hu, fun p hp => ⟨(c p hp).1.kept (fun k j e f => q _ _ _ (by omega)), (c p hp).2.kept (fun k j e f => q _ _ _ (by omega))⟩, fun e x he hx => ?_, fun p u a b c => by rw [q _ _ _ (by omega)]; exact f9 p u a b c⟩
  rw [q _ _ _ (by omega)]; exact d e x he hx
theorem MT.kept {μ μ' : Mm} {D : Tr} (h : MT μ D) (q : ∀ k j, (1005 ≤ k ∧ k ≤ 1012 ∧ k ≠ 1007) ∨ (k = 1000 ∧ 1 ≤ j ∧ j ≤ 3) → μ'.1 k 0 j = μ.1 k 0 j) : MT μ' D := by
  obtain ⟨⟨a1, a2, a3⟩, b, c⟩ := h
  exact ⟨⟨by rw [q _ _ (by omega)]; exact a1, by rw [q _ _ (by omega)]; exact a2, by rw [q _ _ (by omega)]; exact a3⟩, fun u hu => by rw [q _ _ (by omega), q _ _ (by omega)]; exact b u hu, fun p hp => (c p hp).kept2 (fun k j e f => q _ _ (by omega))⟩
theorem MC.kept {μ μ' : Mm} {d : Nat} {D : Tr} (h : MC μ d D) (q : ∀ k j, (1008 ≤ k ∧ k ≤ 1012) ∨ (1023 ≤ k ∧ k ≤ 1027) → μ'.1 k 0 j = μ.1 k 0 j) : MC μ' d D := by
  obtain ⟨⟨a1, a2, a3⟩, b, c⟩ := h
  exact ⟨⟨by rw [q _ _ (by omega)]; exact a1, by rw [q _ _ (by omega)]; exact a2, by rw [q _ _ (by omega)]; exact a3⟩, fun u hu => by rw [q _ _ (by omega), q _ _ (by omega)]; exact b u hu, fun p hp => (c p hp).kept2 (fun k j e f => q _ _ (by omega))⟩
theorem OT.kept {μ μ' : Mm} (h : OT μ) (q : ∀ k j, k = 902 ∨ k = 1007 → μ'.1 k 0 j = μ.1 k 0 j) : OT μ' := fun u hu => by
  rw [q _ _ (by omega), q _ _ (by omega)]; exact h u hu
theorem LW.kept {μ μ' : Mm} {D : Tr} (h : LW μ D) (q : ∀ k j, (300 ≤ k ∧ k ≤ 304) ∨ (1014 ≤ k ∧ k ≤ 1017) ∨ (k = 1000 ∧ j = 12) → μ'.1 k 0 j = μ.1 k 0 j) : LW μ' D := by
  obtain ⟨n, h1, h2, h3, h4⟩ := h
  refine ⟨n, h1, by rw [q _ _ (by omega)]; exact h2, by rw [q _ _ (by omega)]; exact h3, fun l hl => ?_⟩
  rw [q 301 l (by omega), q 302 l (by omega), q 303 l (by omega), q 304 l (by omega), q 1014 l (by omega), q 1015 l (by omega), q 1016 l (by omega), q 1017 l (by omega)]
  exact h4 l hl
theorem CN2.kept {μ μ' : Mm} (h : CN2 μ) (q : ∀ k j, (k = 900 ∧ (j = 9 ∨ j = 10)) ∨ (k = 1000 ∧ (j = 17 ∨ j = 18)) → μ'.1 k 0 j = μ.1 k 0 j) : CN2 μ' := by
  obtain ⟨a, b⟩ := h
  exact ⟨by rw [q _ _ (by omega), q _ _ (by omega)]; exact a, by rw [q _ _ (by omega), q _ _ (by omega)]; exact b⟩
theorem TP.kept {μ μ' : Mm} {d : Nat} {C : Tr} (hd : d < 6) (h : TP μ d C) (q : ∀ k i j, (k = 600 ∧ i = d) ∨ (k = 1020 ∧ i = 0) ∨ (k = 1021 ∧ i = 0) ∨ (i = 0 ∧ 1008 ≤ k ∧ k ≤ 1012) ∨ (i = 0 ∧ 1023 ≤ k ∧ k ≤ 1027) ∨ (200 ≤ k ∧ k ≤ 204 ∧ 3 * d + 3 ≤ i ∧ i < 3 * d + 6) ∨ (400 ≤ k ∧ k ≤ 403 ∧ 3 * d + 3 ≤ i ∧ i < 3 * d + 6) ∨ (700 ≤ k ∧ k ≤ 704 ∧ i = d + 1) → μ'.1 k i j = μ.1 k i j) (q2 : ∀ k i j, (k = 601 ∧ i = d) ∨ (k = 1022 ∧ i = 0) → μ'.2 k i j = μ.2 k i j) : TP μ' d C := by
  obtain ⟨s, h1, h2, h3, h4, h5⟩ := h
  refine ⟨s, h1, by rw [q _ _ _ (by omega)]; exact h2, by rw [q _ _ _ (by omega)]; exact h3, fun a b => ?_, fun e => ?_⟩
  · obtain ⟨n, n1, n2, n3, n4⟩ := h4 a b
    exact ⟨n, n1, by rw [q _ _ _ (by omega)]; exact n2, by rw [q _ _ _ (by omega)]; exact n3, fun j hj => by rw [q2 _ _ _ (by omega), q2 _ _ _ (by omega)]; exact n4 j hj⟩
  · obtain ⟨e1, e2, e3, e4⟩ := h5 e
    exact ⟨by rw [q _ _ _ (by omega)]; exact e1, e2, e3.kept (by omega) (fun k i j z => q _ _ _ (by omega)), e4.kept (fun k j z => q _ _ _ (by omega))⟩
theorem Rl.kept {μ μ' : Mm} {D : Tr} {C : Nat → Tr} (h : Rl μ D C) (s : SR μ μ') : Rl μ' D C := by
  obtain ⟨h1, h2, h3, h4, h5, h6, h7⟩ := h
  have q : ∀ k i j, ¬ scr k i j → μ'.1 k i j = μ.1 k i j := fun k i j z => (s k i j z).1
  exact ⟨h1, h2.kept (by omega) (fun k i j z => q _ _ _ (by unfold scr; omega)), h3.kept (fun k j z => q _ _ _ (by unfold scr; omega)), h4.kept (fun k j z => q _ _ _ (by unfold scr; omega)), h5.kept (fun k j z => q _ _ _ (by unfold scr; omega)), h6.kept (fun k j z => q _ _ _ (by unfold scr; omega)), fun d hd => (h7 d hd).kept hd (fun k i j z => q _ _ _ (by unfold scr; omega)) (fun k i j z => (s k i j (by unfold scr; omega)).2)⟩
theorem Rel.kept {μ μ' : Mm} (h : Rel μ) (s : SR μ μ') : Rel μ' := by
  obtain ⟨D, C, h⟩ := h
  exact ⟨D, C, h.kept s⟩
/-! arguments -/
theorem ix (x : Int32) {n : Nat} (hn : n < 1000000) : x < 0 ∨ nI n ≤ x ∨ ∃ j : Nat, j < n ∧ x = nI j := pk_ix x (by omega)
theorem hasTask_in {μ : Mm} {t T u : Nat} (h : μ.1 700 t 5 = nI T) (hT : T ≤ 8) (hu : u < T) : f_X7_hasTask μ t (nI u) = some 1 := by
  unfold f_X7_hasTask; rw [if_neg (nN0 (by omega)), h, if_neg (ngt (by omega) (by omega) hu), if_neg (n8 (by omega))]
theorem hasTask_out {μ : Mm} {t T : Nat} {x : Int32} (h : μ.1 700 t 5 = nI T) (hx : x < 0 ∨ nI T ≤ x) : f_X7_hasTask μ t x = some 0 := by
  unfold f_X7_hasTask
  rcases hx with q | q
  · rw [if_pos q]
  · rw [h]; split
    · rfl
    · first | rfl | rw [if_pos q]
theorem hasP_in {μ : Mm} {t P u : Nat} (h : μ.1 700 t 4 = nI P) (hP : P ≤ 3) (hu : u < P) : f_X7_hasProcessor μ t (nI u) = some 1 := by
  unfold f_X7_hasProcessor; rw [if_neg (nN0 (by omega)), h, if_neg (ngt (by omega) (by omega) hu), if_neg (by rw [show (3 : Int32) = nI 3 from rfl]; exact ngt (by omega) (by omega) (by omega))]
theorem hasP_out {μ : Mm} {t P : Nat} {x : Int32} (h : μ.1 700 t 4 = nI P) (hx : x < 0 ∨ nI P ≤ x) : f_X7_hasProcessor μ t x = some 0 := by
  unfold f_X7_hasProcessor
  rcases hx with q | q
  · rw [if_pos q]
  · rw [h]; split
    · rfl
    · first | rfl | rw [if_pos q]
theorem in_eq (μ : Mm) (x a b : Int32) : f_X10_in μ x a b = some (if x < a then 0 else if b < x then 0 else 1) := by
  unfold f_X10_in; split
  · rfl
  · split <;> rfl
theorem nsub1 {n : Nat} (h : 1 ≤ n) : nI n - 1 = nI (n - 1) := by
  obtain ⟨m, rfl⟩ : ∃ m, n = m + 1 := ⟨n - 1, by omega⟩
  exact nI_pred m
theorem in_in {μ : Mm} {n u : Nat} (hn : n ≤ 1000) (hu : u < n) : f_X10_in μ (nI u) 0 (nI n - 1) = some 1 := by
  rw [in_eq, if_neg (nN0 (by omega)), nsub1 (by omega), if_neg (by rw [ltN (by omega) (by omega)]; omega)]
theorem in_out {μ : Mm} {n : Nat} {x : Int32} (hn : n ≤ 1000) (hx : x < 0 ∨ nI n ≤ x) : f_X10_in μ x 0 (nI n - 1) = some 0 := by
  rw [in_eq]
  rcases hx with q | q
  · rw [if_pos q]
  · by_cases h0 : x < 0
    · rw [if_pos h0]
    · rw [if_neg h0, if_pos]
      by_cases hz : n = 0
      · subst hz
        have : nI 0 - 1 = (-1 : Int32) := by decide
        rw [this]
        rw [ltT] at h0 ⊢
        have e1 : (-1 : Int32).toInt = -1 := by decide
        have e2 : (0 : Int32).toInt = 0 := by decide
        omega
      · rw [nsub1 (by omega)]
        rw [leT, nIT (by omega)] at q
        rw [ltT, nIT (by omega)]; omega
theorem isTask_in {μ : Mm} {T u : Nat} (h : μ.1 1000 0 2 = nI T) (hT : T ≤ 8) (hu : u < T) : f_X10_isTask μ (nI u) = some 1 := by
  unfold f_X10_isTask; rw [h, in_in (by omega) hu, obs]; rfl
theorem isTask_out {μ : Mm} {T : Nat} {x : Int32} (h : μ.1 1000 0 2 = nI T) (hT : T ≤ 8) (hx : x < 0 ∨ nI T ≤ x) : f_X10_isTask μ x = some 0 := by
  unfold f_X10_isTask; rw [h, in_out (by omega) hx, obs]; rfl
theorem isP_in {μ : Mm} {P u : Nat} (h : μ.1 1000 0 1 = nI P) (hP : P ≤ 3) (hu : u < P) : f_X10_isProcessor μ (nI u) = some 1 := by
  unfold f_X10_isProcessor; rw [h, in_in (by omega) hu, obs]; rfl
theorem isP_out {μ : Mm} {P : Nat} {x : Int32} (h : μ.1 1000 0 1 = nI P) (hP : P ≤ 3) (hx : x < 0 ∨ nI P ≤ x) : f_X10_isProcessor μ x = some 0 := by
  unfold f_X10_isProcessor; rw [h, in_out (by omega) hx, obs]; rfl
theorem laneOf_in {μ : Mm} {t p : Nat} (hp : p < 3) : f_X7_laneOf μ t (nI p) = some (3 * t + p) := by
  unfold f_X7_laneOf; rw [if_neg (nN0 (by omega)), if_neg (by rw [show (3 : Int32) = nI 3 from rfl]; exact ngt (by omega) (by omega) hp), rq_in hp (by omega), obs]
theorem homeOf_in {μ : Mm} {t u : Nat} (h : u < 8) : f_X7_homeOf μ t (nI u) = some (μ.1 701 t u) := by
  unfold f_X7_homeOf; rw [if_neg (nN0 (by omega)), if_neg (n8 h), ra_in h (by omega), obs]
theorem homeLane_in {μ : Mm} {t u p : Nat} (h : u < 8) (hh : μ.1 701 t u = nI p) (hp : p < 3) : f_X7_homeLane μ t (nI u) = some (3 * t + p) := by
  unfold f_X7_homeLane; rw [homeOf_in h, obs, hh, laneOf_in hp, obs]
theorem hmD_u {D : Tr} {u p : Nat} (hu : u < tT D) (h : tH D u = nI p) : hmD D p u = true := by
  unfold hmD hmf; exact decide_eq_true ⟨hu, h⟩
/-- what the two answer, one after the other, is one; what they hold still fits -/
def OK2 (fc fm : Mm → Option (Int32 × Mm)) (μ : Mm) : Prop := ∃ r μ1 μ2, fc μ = some (r, μ1) ∧ fm μ1 = some (r, μ2) ∧ Rel μ2
def OK1 (fc : Mm → Option Int32) (fm : Mm → Option (Int32 × Mm)) (μ : Mm) : Prop := ∃ r μ2, fc μ = some r ∧ fm μ = some (r, μ2) ∧ Rel μ2
def OK0 (fc fm : Mm → Option Int32) (μ : Mm) : Prop := ∃ r, fc μ = some r ∧ fm μ = some r
theorem OK2.both {fc fm : Mm → Option (Int32 × Mm)} {μ : Mm} (h : Rel μ) {r : Int32} (e1 : fc μ = some (r, μ)) (e2 : fm μ = some (r, μ)) : OK2 fc fm μ := ⟨r, μ, μ, e1, e2, h⟩
/-- the home of a task, and its lane on both sides -/
theorem Rl.task {μ : Mm} {D : Tr} {C : Nat → Tr} (h : Rl μ D C) {u : Nat} (hu : u < tT D) : ∃ p, p < tP D ∧ p < 3 ∧ u < 8 ∧ tH D u = nI p ∧ μ.1 701 0 u = nI p ∧ μ.1 1005 0 u = nI p ∧ hmD D p u = true := by
  obtain ⟨⟨v1, v2, v3, v4, v5⟩, hc, hm, -⟩ := h
  obtain ⟨p, hp, e⟩ := v4 u (by omega)
  exact ⟨p, hp, by omega, by omega, e, by rw [(hc.2.1 u (by omega)).1]; exact e, by rw [(hm.2.1 u (by omega)).1]; exact e, hmD_u hu e⟩
theorem MT.hm {μ : Mm} {D : Tr} (h : MT μ D) (p : Nat) : ∀ u, u < 8 → hmf (tT D) (μ.1 1005 0) (nI p) u = hmD D p u := fun u hu => by
  unfold hmD hmf; rw [(h.2.1 u hu).1]
theorem HC.congr {μ : Mm} {a b : Nat → Bool} (h : HC μ a) (e : ∀ u, u < 8 → a u = b u) : HC μ b := by
  obtain ⟨T, h1, h2, h3⟩ := h
  exact ⟨T, h1, h2, fun u hu => by rw [← e u hu]; exact h3 u hu⟩
/-- the reference stands at a lane's start -/
theorem Rl.startsNow {μ : Mm} {D : Tr} {C : Nat → Tr} {F p : Nat} (h : Rl μ D C) (hF : 1000 ≤ F) (hp : p < 3) : ∃ μ', f_X10_startsNow F μ (nI p) = some μ' ∧ SM μ μ' ∧ RM μ' ms0 ∧ μ'.1 1000 0 33 = nI p ∧ HC μ' (hmD D p) ∧ ML μ' p (tL D p) := by
  obtain ⟨hv, hc, hm, -⟩ := h
  obtain ⟨m, e, s, r1, r2, r3⟩ := startsNow_ok (F := F) (μ := μ) (p := nI p) (T := tT D) (by omega) (hv.2.1.2) hm.1.2.1
  exact ⟨m, e, s, r1, r2, r3.congr (fun u hu => hm.hm p u hu), (hm.2.2 p hp).kept s⟩
theorem Rl.lane {μ : Mm} {D : Tr} {C : Nat → Tr} {p : Nat} (h : Rl μ D C) (hp : p < 3) : LV (hmD D p) (tL D p) ∧ CL μ p (tL D p) ∧ ML μ p (tL D p) ∧ RC μ p (sq (hmD D p) (tL D p) (zn (tL D p))) (hmD D p) := by
  obtain ⟨hv, hc, hm, -⟩ := h
  have := hc.2.2.1 p hp
  rw [show 3 * 0 + p = p by omega] at this
  exact ⟨hv.2.2.2.2.2.1 p hp, this.1, hm.2.2 p hp, this.2⟩
