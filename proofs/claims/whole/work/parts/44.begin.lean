/-! CALL: begin -/
def em (μ : Mm) (i : Nat) : Mm := wi (wi (fl (fl (wi μ 200 i 5 0) 401 i 8 0 8) 403 i 4 (-2) 4) 400 i 3 (-2)) 400 i 4 0
theorem empty_eq (μ : Mm) (i : Nat) : f_X2_empty μ i = some (em μ i) := rfl
theorem em_n {μ : Mm} {i k i' j : Nat} (h : ¬ (i' = i ∧ (k = 200 ∨ k = 400 ∨ k = 401 ∨ k = 403))) : (em μ i).1 k i' j = μ.1 k i' j := by
  unfold em
  rw [wi_at, if_neg (by omega), wi_at, if_neg (by omega), fl_at, if_neg (by omega), fl_at, if_neg (by omega), wi_at, if_neg (by omega)]
theorem em_ok (μ : Mm) (i : Nat) (hm : Nat → Bool) : (em μ i).1 200 i 5 = 0 ∧ RC (em μ i) i ms0 hm ∧ ∀ u, u < 8 → (em μ i).1 401 i u = 0 := by
  unfold em
  refine ⟨?_, ⟨⟨fun w a b => ?_, fun w a b => ?_, fun l a => ?_, ?_, ?_⟩, fun w a b c => absurd c (show ¬ (0 : Int32) = 3 by decide)⟩, fun u hu => ?_⟩
  · rw [wi_at, if_neg (by omega), wi_at, if_neg (by omega), fl_at, if_neg (by omega), fl_at, if_neg (by omega), wi_at, if_pos ⟨rfl, rfl, rfl⟩]
  · rw [wi_at, if_neg (by omega), wi_at, if_neg (by omega), fl_at, if_neg (by omega), fl_at, if_pos ⟨rfl, rfl, a⟩]; rfl
  · rw [wi_at, if_neg (by omega), wi_at, if_neg (by omega), fl_at, if_neg (by omega), fl_at, if_pos ⟨rfl, rfl, a⟩]; decide
  · rw [wi_at, if_neg (by omega), wi_at, if_neg (by omega), fl_at, if_pos ⟨rfl, rfl, a⟩]; rfl
  · rw [wi_at, if_neg (by omega), wi_at, if_pos ⟨rfl, rfl, rfl⟩]; rfl
  · rw [wi_at, if_pos ⟨rfl, rfl, rfl⟩]; rfl
  · rw [wi_at, if_neg (by omega), wi_at, if_neg (by omega), fl_at, if_neg (by omega), fl_at, if_pos ⟨rfl, rfl, hu⟩]
def L0 : La := (0, fun _ => 0, fun _ => 0, fun _ => 0, fun _ => 0)
def D0 (P T W : Nat) : Tr := (P, T, W, fun _ => 0, fun _ => 0, fun _ => L0)
theorem CL_0 {μ : Mm} {i : Nat} (h : μ.1 200 i 5 = 0) : CL μ i L0 := ⟨Nat.zero_le _, h, fun j hj => absurd hj (Nat.not_lt_zero j)⟩
theorem TV_0 {P T W : Nat} (hP : 1 ≤ P ∧ P ≤ 3) (hT : 1 ≤ T ∧ T ≤ 8) (hW : 4 ≤ W ∧ W ≤ 16) : TV (D0 P T W) :=
  ⟨hP, hT, hW, fun _ _ => ⟨0, by show 0 < P; omega, rfl⟩, fun _ _ => ⟨0, by omega, rfl⟩, fun _ _ => LV.empty _ rfl, fun _ _ _ => rfl, fun p q i j c _ _ h => absurd h (Nat.not_lt_zero i)⟩
/-- the class's start of a trace -/
theorem restart_ok {F : Nat} {μ : Mm} {P T W : Nat} (hF : 1000 ≤ F) : ∃ μ', f_X7_restart F μ 0 (nI P) (nI T) (nI W) = some μ' ∧ CT μ' 0 (D0 P T W) ∧ (∀ k i j, ¬ (200 ≤ k ∧ k ≤ 403 ∧ i < 3) → ¬ (700 ≤ k ∧ k ≤ 704 ∧ i = 0) → μ'.1 k i j = μ.1 k i j) ∧ μ'.2 = μ.2 ∧ ∀ k i j, (300 ≤ k ∧ k ≤ 304) → μ'.1 k i j = μ.1 k i j := by
  obtain ⟨N, rfl⟩ : ∃ N, F = N + 4 := ⟨F - 4, by omega⟩
  generalize hm0 : fl (fl (fl (wi (wi (wi μ 700 0 4 (nI P)) 700 0 5 (nI T)) 700 0 6 (nI W)) 701 0 8 0 8) 702 0 8 0 8) 704 0 256 (-1) 256 = m0
  have e : f_X7_restart (N + 4) μ 0 (nI P) (nI T) (nI W) = f_X7_restart_b42 (N + 4) (N + 4) m0 0 0 := by rw [← hm0]; rfl
  have r1 : ∀ k i j, ¬ (700 ≤ k ∧ k ≤ 704 ∧ i = 0) → m0.1 k i j = μ.1 k i j := fun k i j h => by
    rw [← hm0, fl_at, if_neg (by omega), fl_at, if_neg (by omega), fl_at, if_neg (by omega), wi_at, if_neg (by omega), wi_at, if_neg (by omega), wi_at, if_neg (by omega)]
  have r2 : m0.1 700 0 4 = nI P := by
    rw [← hm0, fl_at, if_neg (by omega), fl_at, if_neg (by omega), fl_at, if_neg (by omega), wi_at, if_neg (by omega), wi_at, if_neg (by omega), wi_at, if_pos ⟨rfl, rfl, rfl⟩]
  have r3 : m0.1 700 0 5 = nI T := by
    rw [← hm0, fl_at, if_neg (by omega), fl_at, if_neg (by omega), fl_at, if_neg (by omega), wi_at, if_neg (by omega), wi_at, if_pos ⟨rfl, rfl, rfl⟩]
  have r4 : m0.1 700 0 6 = nI W := by
    rw [← hm0, fl_at, if_neg (by omega), fl_at, if_neg (by omega), fl_at, if_neg (by omega), wi_at, if_pos ⟨rfl, rfl, rfl⟩]
  have r5 : ∀ u, u < 8 → m0.1 701 0 u = 0 := fun u hu => by
    rw [← hm0, fl_at, if_neg (by omega), fl_at, if_neg (by omega), fl_at, if_pos ⟨rfl, rfl, hu⟩]
  have r6 : ∀ u, u < 8 → m0.1 702 0 u = 0 := fun u hu => by
    rw [← hm0, fl_at, if_neg (by omega), fl_at, if_pos ⟨rfl, rfl, hu⟩]
  have r7 : ∀ u, u < 256 → m0.1 704 0 u = -1 := fun u hu => by
    rw [← hm0, fl_at, if_pos ⟨rfl, rfl, hu⟩]
  have r8 : m0.2 = μ.2 := by rw [← hm0]; rfl
  clear hm0
  rw [e, show (0 : Int32) = nI 0 from rfl, f_X7_restart_b42, if_neg (by decide), rq_in (by omega) (by omega), obs, empty_eq, obs, s1, f_X7_restart_b42, if_neg (by decide), rq_in (by omega) (by omega), obs, empty_eq, obs, s1, f_X7_restart_b42, if_neg (by decide), rq_in (by omega) (by omega), obs, empty_eq, obs, s1, f_X7_restart_b42, if_pos (by decide)]
  show ∃ μ', some (em (em (em m0 0) 1) 2) = some μ' ∧ _
  have n3 : ∀ k i j, ¬ ((k = 200 ∨ k = 400 ∨ k = 401 ∨ k = 403) ∧ i < 3) → (em (em (em m0 0) 1) 2).1 k i j = m0.1 k i j := fun k i j h => by
    rw [em_n (by omega), em_n (by omega), em_n (by omega)]
  have lane : ∀ p, p < 3 → ∀ hm, (em (em (em m0 0) 1) 2).1 200 p 5 = 0 ∧ RC (em (em (em m0 0) 1) 2) p ms0 hm ∧ ∀ u, u < 8 → (em (em (em m0 0) 1) 2).1 401 p u = 0 := by
    intro p hp hm
    rcases (show p = 0 ∨ p = 1 ∨ p = 2 by omega) with rfl | rfl | rfl
    · obtain ⟨a, b, c⟩ := em_ok m0 0 hm
      have q : ∀ k j, (em (em (em m0 0) 1) 2).1 k 0 j = (em m0 0).1 k 0 j := fun k j => by rw [em_n (by omega), em_n (by omega)]
      exact ⟨by rw [q]; exact a, b.kept (fun k j _ _ => q k j), fun u hu => by rw [q]; exact c u hu⟩
    · obtain ⟨a, b, c⟩ := em_ok (em m0 0) 1 hm
      have q : ∀ k j, (em (em (em m0 0) 1) 2).1 k 1 j = (em (em m0 0) 1).1 k 1 j := fun k j => by rw [em_n (by omega)]
      exact ⟨by rw [q]; exact a, b.kept (fun k j _ _ => q k j), fun u hu => by rw [q]; exact c u hu⟩
    · exact em_ok (em (em m0 0) 1) 2 hm
  refine ⟨_, rfl, ⟨⟨?_, ?_, ?_⟩, fun u hu => ⟨?_, ?_⟩, fun p hp => ⟨?_, ?_⟩, fun c x hc hx => Or.inl ⟨?_, fun p j _ hj => absurd hj (Nat.not_lt_zero j)⟩, fun p u hp _ hu => ?_⟩, fun k i j h1 h2 => ?_, r8, fun k i j h1 => ?_⟩
  · rw [n3 _ _ _ (by omega)]; exact r2
  · rw [n3 _ _ _ (by omega)]; exact r3
  · rw [n3 _ _ _ (by omega)]; exact r4
  · rw [n3 _ _ _ (by omega)]; exact r5 u hu
  · rw [n3 _ _ _ (by omega)]; exact r6 u hu
  · rw [show 3 * 0 + p = p by omega]; exact CL_0 (lane p hp (fun _ => true)).1
  · rw [show 3 * 0 + p = p by omega]; exact (lane p hp _).2.1
  · rw [n3 _ _ _ (by omega)]; exact r7 _ (by omega)
  · rw [show 3 * 0 + p = p by omega]; exact (lane p hp (fun _ => true)).2.2 u hu
  · rw [n3 _ _ _ (by omega)]; exact r1 k i j h2
  · rw [n3 _ _ _ (by omega)]; exact r1 k i j (by omega)
theorem ML.kept3 {μ μ' : Mm} {g : Nat} {L : La} (h : ML μ g L) (q0 : μ'.1 1008 0 g = μ.1 1008 0 g) (q : ∀ k j, 1009 ≤ k → k ≤ 1012 → 200 * g ≤ j → j < 200 * g + 200 → μ'.1 k 0 j = μ.1 k 0 j) : ML μ' g L := by
  obtain ⟨h1, h2, h3, h4⟩ := h
  refine ⟨h1, h2, by rw [q0]; exact h3, fun j hj => ?_⟩
  rw [q _ _ (by omega) (by omega) (by omega) (by omega), q _ _ (by omega) (by omega) (by omega) (by omega), q _ _ (by omega) (by omega) (by omega) (by omega), q _ _ (by omega) (by omega) (by omega) (by omega)]
  exact h4 j hj
/-- only what a tape's copy itself lies in -/
theorem TP.kept3 {μ μ' : Mm} {d : Nat} {C : Tr} (hd : d < 6) (h : TP μ d C) (qa : ∀ j, μ'.1 600 d j = μ.1 600 d j) (qb : μ'.1 1020 0 d = μ.1 1020 0 d ∧ μ'.1 1021 0 d = μ.1 1021 0 d) (qm : ∀ j, 3 * d + 3 ≤ j → j < 3 * d + 6 → μ'.1 1008 0 j = μ.1 1008 0 j) (qr : ∀ k j, 1009 ≤ k → k ≤ 1012 → 600 * d + 600 ≤ j → j < 600 * d + 1200 → μ'.1 k 0 j = μ.1 k 0 j)
    (qc : ∀ k, 1023 ≤ k → k ≤ 1025 → μ'.1 k 0 d = μ.1 k 0 d) (qh : ∀ k j, 1026 ≤ k → k ≤ 1027 → 8 * d ≤ j → j < 8 * d + 8 → μ'.1 k 0 j = μ.1 k 0 j) (ql : ∀ k i j, (200 ≤ k ∧ k ≤ 204) ∨ (400 ≤ k ∧ k ≤ 403) → 3 * d + 3 ≤ i → i < 3 * d + 6 → μ'.1 k i j = μ.1 k i j) (qt : ∀ k j, 700 ≤ k → k ≤ 704 → μ'.1 k (d + 1) j = μ.1 k (d + 1) j)
    (q2 : ∀ j, j < 100 → μ'.2 601 d j = μ.2 601 d j ∧ μ'.2 1022 0 (100 * d + j) = μ.2 1022 0 (100 * d + j)) : TP μ' d C := by
  have mc : ∀ D, MC μ d D → MC μ' d D := fun D hM => by
    obtain ⟨⟨a1, a2, a3⟩, b, c⟩ := hM
    exact ⟨⟨by rw [qc _ (by omega) (by omega)]; exact a1, by rw [qc _ (by omega) (by omega)]; exact a2, by rw [qc _ (by omega) (by omega)]; exact a3⟩, fun u hu => by rw [qh _ _ (by omega) (by omega) (by omega) (by omega), qh _ _ (by omega) (by omega) (by omega) (by omega)]; exact b u hu, fun p hp => (c p hp).kept3 (qm _ (by omega) (by omega)) (fun k j e f x y => qr _ _ e f (by omega) (by omega))⟩
  have ct : ∀ D, CT μ (d + 1) D → CT μ' (d + 1) D := fun D hC => hC.kept (by omega) (fun k i j z => by
    rcases z with z | z | z
    · exact ql _ _ _ (.inl ⟨z.1, z.2.1⟩) (by omega) (by omega)
    · exact ql _ _ _ (.inr ⟨z.1, z.2.1⟩) (by omega) (by omega)
    · obtain ⟨z1, z2, rfl⟩ := z; exact qt _ _ z1 z2)
  obtain ⟨s, h1, h2, h3, h4, h5⟩ := h
  refine ⟨s, h1, by rw [qa]; exact h2, by rw [qb.1]; exact h3, fun a b => ?_, fun e => ?_⟩
  · obtain ⟨n, n1, n2, n3, n4⟩ := h4 a b
    exact ⟨n, n1, by rw [qa]; exact n2, by rw [qb.2]; exact n3, fun j hj => by rw [(q2 j hj).1, (q2 j hj).2]; exact n4 j hj⟩
  · obtain ⟨e1, e2, e3, e4⟩ := h5 e
    exact ⟨by rw [qa]; exact e1, e2, ct _ e3, mc _ e4⟩
theorem in_1 (x : Int32) (a b : Nat) (hab : a ≤ b) (hb : b ≤ 100) (c d : Int32) (hc : c = nI a) (hd : d = nI b) : (x < c ∨ d < x) ∨ (¬ x < c ∧ ¬ d < x ∧ ∃ n, a ≤ n ∧ n ≤ b ∧ x = nI n) := by
  subst hc; subst hd
  by_cases h1 : x < nI a
  · exact .inl (.inl h1)
  by_cases h2 : nI b < x
  · exact .inl (.inr h2)
  rw [ltT, nIT (by omega)] at h1 h2
  exact .inr ⟨by rw [ltT, nIT (by omega)]; exact h1, by rw [ltT, nIT (by omega)]; exact h2, x.toInt.toNat, by omega, by omega, toN x (by omega)⟩
theorem op_begin {F : Nat} {μ : Mm} (hF : 1000 ≤ F) (h : Rel μ) (x y z : Int32) : OK2 (fun μ => f_X9_begin F μ x y z) (fun μ => f_X10_begin F μ x y z) μ := by
  obtain ⟨D, C, h⟩ := id h
  have hR : Rel μ := ⟨D, C, h⟩
  have no : f_X9_begin F μ x y z = some (-1, μ) → f_X10_begin F μ x y z = some (-1, μ) → OK2 (fun μ => f_X9_begin F μ x y z) (fun μ => f_X10_begin F μ x y z) μ := fun a b => ⟨-1, μ, μ, a, b, hR⟩
  have in0 : ∀ (m : Mm) (x a b : Int32), (x < a ∨ b < x) → f_X10_in m x a b = some 0 := fun m x a b q => by
    rw [in_eq]
    rcases q with q | q
    · rw [if_pos q]
    · by_cases q0 : x < a
      · rw [if_pos q0]
      · rw [if_neg q0, if_pos q]
  rcases in_1 x 1 3 (by omega) (by omega) 1 3 rfl rfl with q | ⟨x1, x2, P, p1, p2, rfl⟩
  · refine no ?_ ?_
    · unfold f_X9_begin
      rcases q with q | q
      · rw [if_pos q]
      · by_cases q0 : x < 1
        · rw [if_pos q0]
        · rw [if_neg q0, if_pos q]
    · unfold f_X10_begin; rw [in0 _ _ _ _ q, obs, if_pos rfl]
  rcases in_1 y 1 8 (by omega) (by omega) 1 8 rfl rfl with q | ⟨y1, y2, T, t1, t2, rfl⟩
  · refine no ?_ ?_
    · unfold f_X9_begin
      rw [if_neg x1, if_neg x2]
      rcases q with q | q
      · rw [if_pos q]
      · by_cases q0 : y < 1
        · rw [if_pos q0]
        · rw [if_neg q0, if_pos q]
    · unfold f_X10_begin; rw [in_eq, if_neg x1, if_neg x2, obs, if_neg i10, in0 _ _ _ _ q, obs, if_pos rfl]
  rcases in_1 z 4 16 (by omega) (by omega) 4 16 rfl rfl with q | ⟨z1, z2, W, w1, w2, rfl⟩
  · refine no ?_ ?_
    · unfold f_X9_begin
      rw [if_neg x1, if_neg x2, if_neg y1, if_neg y2]
      rcases q with q | q
      · rw [if_pos q]
      · by_cases q0 : z < 4
        · rw [if_pos q0]
        · rw [if_neg q0, if_neg (by rw [leT]; rw [ltT] at q; omega)]
    · unfold f_X10_begin; rw [in_eq, if_neg x1, if_neg x2, obs, if_neg i10, in_eq, if_neg y1, if_neg y2, obs, if_neg i10, in0 _ _ _ _ q, obs, if_pos rfl]
  have z3 : nI W ≤ 16 := by rw [leT]; rw [ltT] at z2; omega
  obtain ⟨m1, e1, c1, c2, c3, c4⟩ := restart_ok (F := F) (μ := μ) (P := P) (T := T) (W := W) hF
  unfold OK2 f_X9_begin f_X10_begin
  dsimp only
  rw [if_neg x1, if_neg x2, if_neg y1, if_neg y2, if_neg z1, if_pos z3, e1, obs]
  have e2 : f_X9_forgetLawsAndOthers m1 = some (fl (wi m1 300 0 4 0) 902 0 8 (-1) 8) := rfl
  rw [e2, obs, wf_eq, obs, wf_eq, obs]
  generalize hm2 : wi (wi (fl (wi m1 300 0 4 0) 902 0 8 (-1) 8) 900 0 9 0) 900 0 10 0 = m2
  have d1 : ∀ k i j, ¬ (k = 300 ∧ j = 4) → ¬ k = 902 → ¬ (k = 900 ∧ (j = 9 ∨ j = 10)) → m2.1 k i j = m1.1 k i j := fun k i j a b c => by
    rw [← hm2, wi_at, if_neg (by omega), wi_at, if_neg (by omega), fl_at, if_neg (by omega), wi_at, if_neg (by omega)]
  have d2 : m2.1 300 0 4 = 0 := by rw [← hm2, wi_at, if_neg (by omega), wi_at, if_neg (by omega), fl_at, if_neg (by omega), wi_at, if_pos ⟨rfl, rfl, rfl⟩]
  have d3 : ∀ u, u < 8 → m2.1 902 0 u = -1 := fun u hu => by rw [← hm2, wi_at, if_neg (by omega), wi_at, if_neg (by omega), fl_at, if_pos ⟨rfl, rfl, hu⟩]
  have d4 : m2.1 900 0 9 = 0 := by rw [← hm2, wi_at, if_neg (by omega), wi_at, if_pos ⟨rfl, rfl, rfl⟩]
  have d5 : m2.1 900 0 10 = 0 := by rw [← hm2, wi_at, if_pos ⟨rfl, rfl, rfl⟩]
  have d6 : m2.2 = μ.2 := by rw [← hm2]; exact c3
  clear hm2
  -- the reference
  generalize hm3 : wi (wi (wi m2 1000 0 1 (nI P)) 1000 0 2 (nI T)) 1000 0 3 (nI W) = m3
  have f1 : ∀ k i j, ¬ (k = 1000 ∧ 1 ≤ j ∧ j ≤ 3) → m3.1 k i j = m2.1 k i j := fun k i j a => by
    rw [← hm3, wi_at, if_neg (by omega), wi_at, if_neg (by omega), wi_at, if_neg (by omega)]
  have f2 : m3.1 1000 0 1 = nI P := by rw [← hm3, wi_at, if_neg (by omega), wi_at, if_neg (by omega), wi_at, if_pos ⟨rfl, rfl, rfl⟩]
  have f3 : m3.1 1000 0 2 = nI T := by rw [← hm3, wi_at, if_neg (by omega), wi_at, if_pos ⟨rfl, rfl, rfl⟩]
  have f4 : m3.1 1000 0 3 = nI W := by rw [← hm3, wi_at, if_pos ⟨rfl, rfl, rfl⟩]
  have f5 : m3.2 = m2.2 := by rw [← hm3]; rfl
  obtain ⟨m4, g1, i1, i2, i3⟩ := loop_inv (fun N m x => f_X10_begin_b49 F N m (nI P) x) (fun m => f_X10_begin_b89 F F m (nI P) 0) 8 (fun l m => (∀ o, o < l → m.1 1005 0 o = 0 ∧ m.1 1006 0 o = 0 ∧ m.1 1007 0 o = -1) ∧ m.2 = m3.2 ∧ ∀ k z o, ¬ (1005 ≤ k ∧ k ≤ 1007) → m.1 k z o = m3.1 k z o) (by
      intro N m l hl ⟨i1, i2, i3⟩
      show ∃ s', f_X10_begin_b49 F (N + 1) m (nI P) (nI l) = f_X10_begin_b49 F N s' (nI P) (nI (l + 1)) ∧ _
      rw [f_X10_begin_b49, if_neg (n8 hl), wa_in hl (by omega), obs, wa_in hl (by omega), obs, wa_in hl (by omega), obs, s1]
      refine ⟨_, rfl, fun o ho => ?_, i2, fun k z o hk => ?_⟩
      · by_cases eo : o = l
        · refine ⟨?_, ?_, ?_⟩
          · rw [wi_at, if_neg (by omega), wi_at, if_neg (by omega), wi_at, if_pos ⟨rfl, rfl, eo⟩]
          · rw [wi_at, if_neg (by omega), wi_at, if_pos ⟨rfl, rfl, eo⟩]
          · rw [wi_at, if_pos ⟨rfl, rfl, eo⟩]
        · rw [wi_at, if_neg (by omega), wi_at, if_neg (by omega), wi_at, if_neg (by omega), wi_at, if_neg (by omega), wi_at, if_neg (by omega), wi_at, if_neg (by omega), wi_at, if_neg (by omega), wi_at, if_neg (by omega), wi_at, if_neg (by omega)]
          exact i1 o (by omega)
      · rw [wi_at, if_neg (by omega), wi_at, if_neg (by omega), wi_at, if_neg (by omega)]; exact i3 k z o hk) (by
      intro N m _
      show f_X10_begin_b49 F (N + 1) m (nI P) (nI 8) = _
      rw [f_X10_begin_b49, if_pos (by decide)]) F 0 m3 (by omega) (by omega) ⟨fun o ho => by omega, rfl, fun _ _ _ _ => rfl⟩
  have g1' : f_X10_begin_b49 F F m3 (nI P) 0 = f_X10_begin_b89 F F m4 (nI P) 0 := g1
  obtain ⟨m5, g2, j1, j2, j3⟩ := loop_inv (fun N m x => f_X10_begin_b89 F N m (nI P) x) (fun m => some (nI P, wi (wi (wi m 1000 0 12 0) 1000 0 17 0) 1000 0 18 0)) 3 (fun l m => (∀ o, o < l → m.1 1008 0 o = 0) ∧ m.2 = m3.2 ∧ ∀ k z o, ¬ (k = 1008 ∧ o < 3) → m.1 k z o = m4.1 k z o) (by
      intro N m l hl ⟨i1, i2, i3⟩
      show ∃ s', f_X10_begin_b89 F (N + 1) m (nI P) (nI l) = f_X10_begin_b89 F N s' (nI P) (nI (l + 1)) ∧ _
      rw [f_X10_begin_b89, if_neg (by rw [show (3 : Int32) = nI 3 from rfl]; exact ngt (by omega) (by omega) hl), wa_in (by omega) (by omega), obs, s1]
      refine ⟨_, rfl, fun o ho => ?_, i2, fun k z o hk => ?_⟩
      · rw [wi_at]
        by_cases eo : o = l
        · rw [if_pos ⟨rfl, rfl, eo⟩]
        · rw [if_neg (by omega)]; exact i1 o (by omega)
      · rw [wi_at, if_neg (by omega)]; exact i3 k z o hk) (by
      intro N m _
      show f_X10_begin_b89 F (N + 1) m (nI P) (nI 3) = _
      rw [f_X10_begin_b89, if_pos (by decide), wf_eq, obs, wf_eq, obs, wf_eq, obs]) F 0 m4 (by omega) (by omega) ⟨fun o ho => by omega, i2, fun _ _ _ _ => rfl⟩
  have g2' : f_X10_begin_b89 F F m4 (nI P) 0 = some (nI P, wi (wi (wi m5 1000 0 12 0) 1000 0 17 0) 1000 0 18 0) := g2
  generalize hm6 : wi (wi (wi m5 1000 0 12 0) 1000 0 17 0) 1000 0 18 0 = m6 at g2'
  have k1 : ∀ k i j, ¬ (k = 1000 ∧ (j = 12 ∨ j = 17 ∨ j = 18)) → m6.1 k i j = m5.1 k i j := fun k i j a => by
    rw [← hm6, wi_at, if_neg (by omega), wi_at, if_neg (by omega), wi_at, if_neg (by omega)]
  have k2 : m6.1 1000 0 12 = 0 := by rw [← hm6, wi_at, if_neg (by omega), wi_at, if_neg (by omega), wi_at, if_pos ⟨rfl, rfl, rfl⟩]
  have k3 : m6.1 1000 0 17 = 0 := by rw [← hm6, wi_at, if_neg (by omega), wi_at, if_pos ⟨rfl, rfl, rfl⟩]
  have k4 : m6.1 1000 0 18 = 0 := by rw [← hm6, wi_at, if_pos ⟨rfl, rfl, rfl⟩]
  have k5 : m6.2 = μ.2 := by rw [← hm6]; exact (j2.trans f5).trans d6
  clear hm6
  -- class cells behind it all
  have kc : ∀ k i j, k < 1000 → m6.1 k i j = m2.1 k i j := fun k i j hk => by
    rw [k1 _ _ _ (by omega), j3 _ _ _ (by omega), i3 _ _ _ (by omega), f1 _ _ _ (by omega)]
  have km : ∀ k i j, 1000 ≤ k → m2.1 k i j = μ.1 k i j := fun k i j hk => by
    rw [d1 _ _ _ (by omega) (by omega) (by omega), c2 _ _ _ (by omega) (by omega)]
  have ko : ∀ k i j, (1009 ≤ k ∧ k ≤ 1027) ∨ (k = 1008 ∧ 3 ≤ j) → m6.1 k i j = μ.1 k i j := fun k i j hk => by
    rw [k1 _ _ _ (by omega), j3 _ _ _ (by omega), i3 _ _ _ (by omega), f1 _ _ _ (by omega), km _ _ _ (by omega)]
  obtain ⟨-, -, -, -, -, -, h7⟩ := id h
  refine ⟨nI P, m2, m6, rfl, ?_, D0 P T W, C, TV_0 ⟨p1, p2⟩ ⟨t1, t2⟩ ⟨w1, w2⟩, c1.kept (by omega) (fun k i j q => by rw [kc _ _ _ (by omega), d1 _ _ _ (by omega) (by omega) (by omega)]), ⟨⟨?_, ?_, ?_⟩, fun u hu => ⟨?_, ?_⟩, fun p hp => ⟨by omega, Nat.zero_le _, ?_, fun j hj => absurd hj (Nat.not_lt_zero j)⟩⟩, fun u hu => ?_, ⟨0, by omega, ?_, k2, fun l hl => by omega⟩, ⟨?_, ?_⟩, fun d hd => ?_⟩
  · rw [in_eq, if_neg x1, if_neg x2, obs, if_neg i10, in_eq, if_neg y1, if_neg y2, obs, if_neg i10, in_eq, if_neg z1, if_neg z2, obs, if_neg i10, wf_eq, obs, wf_eq, obs, wf_eq, obs, hm3, g1', g2']
  · rw [k1 _ _ _ (by omega), j3 _ _ _ (by omega), i3 _ _ _ (by omega)]; exact f2
  · rw [k1 _ _ _ (by omega), j3 _ _ _ (by omega), i3 _ _ _ (by omega)]; exact f3
  · rw [k1 _ _ _ (by omega), j3 _ _ _ (by omega), i3 _ _ _ (by omega)]; exact f4
  · rw [k1 _ _ _ (by omega), j3 _ _ _ (by omega)]; exact (i1 u hu).1
  · rw [k1 _ _ _ (by omega), j3 _ _ _ (by omega)]; exact (i1 u hu).2.1
  · rw [k1 _ _ _ (by omega)]; exact j1 p hp
  · rw [kc _ _ _ (by omega), d3 u hu, k1 _ _ _ (by omega), j3 _ _ _ (by omega), (i1 u hu).2.2]; exact ⟨rfl, Or.inl rfl⟩
  · rw [kc _ _ _ (by omega)]; exact d2
  · rw [kc _ _ _ (by omega), d4, k3]
  · rw [kc _ _ _ (by omega), d5, k4]
  · have kd : ∀ k i j, k < 1000 → ¬ k = 300 → ¬ k = 902 → ¬ k = 900 → ¬ (200 ≤ k ∧ k ≤ 403 ∧ i < 3) → ¬ (700 ≤ k ∧ k ≤ 704 ∧ i = 0) → m6.1 k i j = μ.1 k i j := fun k i j a1 a2 a3 a4 a5 a6 => by
      rw [kc _ _ _ a1, d1 _ _ _ (by omega) (by omega) (by omega), c2 _ _ _ a5 a6]
    refine (h7 d hd).kept3 hd (fun j => kd _ _ _ (by omega) (by omega) (by omega) (by omega) (by omega) (by omega)) ⟨ko _ _ _ (by omega), ko _ _ _ (by omega)⟩ (fun j x y => ko _ _ _ (by omega)) (fun k j a1 a2 a3 a4 => ko _ _ _ (by omega)) (fun k a1 a2 => ko _ _ _ (by omega)) (fun k j a1 a2 a3 a4 => ko _ _ _ (by omega)) (fun k i j a1 a2 a3 => kd _ _ _ (by omega) (by omega) (by omega) (by omega) (by omega) (by omega)) (fun k j a1 a2 => kd _ _ _ (by omega) (by omega) (by omega) (by omega) (by omega) (by omega)) (fun j hj => by rw [k5]; exact ⟨rfl, rfl⟩)
