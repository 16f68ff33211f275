/-! CALLS: tape, clear, put, copy -/
theorem ltT64 (a b : Int64) : (a < b) = (a.toInt < b.toInt) := propext Int64.lt_iff_toInt_lt
theorem lgT (a b : Int64) : lg_cmp a b < 0 ↔ a.toInt < b.toInt := by
  unfold lg_cmp
  by_cases h : a > b
  · rw [if_pos h]; have h' : b < a := h; rw [ltT64] at h'; constructor
    · intro z; exact absurd z (by decide)
    · intro z; omega
  · rw [if_neg h]; have h' : ¬ b < a := h; rw [ltT64] at h'
    by_cases e : a = b
    · rw [if_pos e, e]; constructor
      · intro z; exact absurd z (by decide)
      · intro z; omega
    · rw [if_neg e]
      have : a.toInt ≠ b.toInt := fun z => e (Int64.toInt_inj.mp z)
      constructor
      · intro _; omega
      · intro _; decide
theorem lgG (a b : Int64) : 0 < lg_cmp a b ↔ b.toInt < a.toInt := by
  unfold lg_cmp
  by_cases h : a > b
  · rw [if_pos h]; have h' : b < a := h; rw [ltT64] at h'; exact ⟨fun _ => h', fun _ => by decide⟩
  · rw [if_neg h]; have h' : ¬ b < a := h; rw [ltT64] at h'
    by_cases e : a = b
    · rw [if_pos e]; exact ⟨fun z => absurd z (by decide), fun z => absurd z h'⟩
    · rw [if_neg e]; exact ⟨fun z => absurd z (by decide), fun z => absurd z h'⟩
theorem i32b (x : Int32) : -2147483648 ≤ x.toInt ∧ x.toInt < 2147483648 := ⟨Int32.le_toInt x, Int32.toInt_lt x⟩
theorem t64 (x : Int32) : x.toInt64.toInt = x.toInt := by simp
theorem add64 {a b : Int64} (ha : -1099511627776 < a.toInt ∧ a.toInt < 1099511627776) (hb : -1099511627776 < b.toInt ∧ b.toInt < 1099511627776) : (a + b).toInt = a.toInt + b.toInt := by
  rw [Int64.toInt_add]
  exact Int.bmod_eq_of_le (by omega) (by omega)
theorem hasPl {μ : Mm} {d : Nat} {P : Int64} {c : Int32} (hP : -1000000000000 < P.toInt ∧ P.toInt < 1000000000000) : f_X6_hasPlaces μ d P c = some (if 0 ≤ P.toInt ∧ 0 ≤ c.toInt ∧ P.toInt + c.toInt ≤ (μ.1 600 d 2).toInt ∧ P.toInt + c.toInt ≤ 100 then 1 else 0) := by
  have hb := i32b c
  have e : (P + c.toInt64).toInt = P.toInt + c.toInt := by rw [add64 (by omega) (by rw [t64]; omega), t64]
  unfold f_X6_hasPlaces
  simp only [lgT, lgG, e, t64, show (0 : Int64).toInt = 0 from by decide, show (100 : Int64).toInt = 100 from by decide]
  by_cases a1 : P.toInt < 0
  · rw [if_pos a1, if_neg (by omega)]
  rw [if_neg a1]
  by_cases a2 : c < 0
  · rw [if_pos a2]
    rw [ltT, show (0 : Int32).toInt = 0 from by decide] at a2
    rw [if_neg (by omega)]
  rw [if_neg a2]
  rw [ltT, show (0 : Int32).toInt = 0 from by decide] at a2
  by_cases a3 : (μ.1 600 d 2).toInt < P.toInt + c.toInt
  · rw [if_pos a3, if_neg (by omega)]
  rw [if_neg a3]
  by_cases a4 : 100 < P.toInt + c.toInt
  · rw [if_pos a4, if_neg (by omega)]
  rw [if_neg a4, if_pos (by omega)]
theorem isTape_c (μ : Mm) (x : Int32) : (f_X9_isTape μ x = some 0 ∧ ∀ m, f_X10_isTape m x = some 0) ∨ ∃ d, d < 6 ∧ x = nI d := by
  rcases ix2 x (n := 6) (by omega) with q | h
  · left
    refine ⟨?_, fun m => ?_⟩
    · unfold f_X9_isTape
      rcases q with q | q
      · rw [if_pos q]
      · by_cases q0 : x < 0
        · rw [if_pos q0]
        · rw [if_neg q0, if_pos (show (6 : Int32) ≤ x from q)]
    · unfold f_X10_isTape
      rw [show (5 : Int32) = nI 6 - 1 from by decide, in_out (by omega) q, obs]; rfl
  · exact .inr h
theorem isTape_in {μ : Mm} {d : Nat} (h : d < 6) : f_X9_isTape μ (nI d) = some 1 := by
  unfold f_X9_isTape; rw [if_neg (nN0 (by omega)), if_neg (by rw [show (6 : Int32) = nI 6 from rfl]; exact ngt (by omega) (by omega) h)]
theorem isTapeM_in {μ : Mm} {d : Nat} (h : d < 6) : f_X10_isTape μ (nI d) = some 1 := by
  unfold f_X10_isTape; rw [show (5 : Int32) = nI 6 - 1 from by decide, in_in (by omega) h, obs]; rfl
/-- only tapes' rows and the counters change -/
theorem Rl.tapes {μ μ' : Mm} {D : Tr} {C C' : Nat → Tr} (h : Rl μ D C) (hn : CN2 μ') (ht : ∀ d, d < 6 → TP μ' d (C' d)) (q : ∀ k i j, ¬ k = 600 → ¬ (k = 900 ∧ j = 10) → ¬ (k = 1000 ∧ j = 18) → ¬ k = 1020 → ¬ k = 1021 → ¬ 1050 ≤ k → μ'.1 k i j = μ.1 k i j) : Rl μ' D C' := by
  obtain ⟨h1, h2, h3, h4, h5, h6, h7⟩ := h
  exact ⟨h1, h2.kept (by omega) (fun k i j z => q _ _ _ (by omega) (by omega) (by omega) (by omega) (by omega) (by omega)), h3.kept (fun k j z => q _ _ _ (by omega) (by omega) (by omega) (by omega) (by omega) (by omega)), h4.kept (fun k j z => q _ _ _ (by omega) (by omega) (by omega) (by omega) (by omega) (by omega)), h5.kept (fun k j z => q _ _ _ (by omega) (by omega) (by omega) (by omega) (by omega) (by omega)), hn, ht⟩
theorem refuse_c (μ : Mm) (r : Int32) : f_X9_refuse μ r = some (r, wi μ 900 0 10 (μ.1 900 0 10 + 1)) := rfl
theorem refuse_m (μ : Mm) (r : Int32) : f_X10_refuse μ r = some (r, wi μ 1000 0 18 (μ.1 1000 0 18 + 1)) := rfl
/-- a refusal of the host's on both sides -/
theorem Rl.refuse {μ : Mm} {D : Tr} {C : Nat → Tr} (h : Rl μ D C) : Rl (wi (wi μ 900 0 10 (μ.1 900 0 10 + 1)) 1000 0 18 (μ.1 1000 0 18 + 1)) D C := by
  obtain ⟨-, -, -, -, -, h6, h7⟩ := id h
  refine h.tapes ⟨?_, ?_⟩ (fun d hd => (h7 d hd).kept hd (fun k i j z => by rw [wi_at, if_neg (by omega), wi_at, if_neg (by omega)]) (fun _ _ _ _ => rfl)) (fun k i j a b c d e f => by rw [wi_at, if_neg (by omega), wi_at, if_neg (by omega)])
  · rw [wi_at, if_neg (by omega), wi_at, if_neg (by omega), wi_at, if_neg (by omega), wi_at, if_neg (by omega)]; exact h6.1
  · rw [wi_at, if_neg (by omega), wi_at, if_pos ⟨rfl, rfl, rfl⟩, wi_at, if_pos ⟨rfl, rfl, rfl⟩, h6.2]
/-- behind the class's refusal the reference reads what it read before -/
theorem wi9 (μ : Mm) (v : Int32) (k i j : Nat) (h : 1000 ≤ k) : (wi μ 900 0 10 v).1 k i j = μ.1 k i j := by rw [wi_at, if_neg (by omega)]
theorem ra9 (μ : Mm) (v : Int32) (k i n : Nat) (x : Int32) (h : 1000 ≤ k) : ra (wi μ 900 0 10 v) k i n x = ra μ k i n x := by
  unfold ra; rw [wi9 _ _ _ _ _ h]
/-- the other tapes stay as they are -/
theorem TP.other {μ μ' : Mm} {e d : Nat} {C : Tr} (he : e < 6) (h : TP μ e C) (hne : ¬ e = d) (q : ∀ k i j, ¬ (k = 600 ∧ i = d) → ¬ (k = 900 ∧ j = 10) → ¬ (k = 1000 ∧ j = 18) → ¬ (k = 1020 ∧ j = d) → ¬ (k = 1021 ∧ j = d) → ¬ 1050 ≤ k → μ'.1 k i j = μ.1 k i j) (q2 : ∀ k i j, ¬ (k = 601 ∧ i = d) → ¬ (k = 1022 ∧ 100 * d ≤ j ∧ j < 100 * d + 100) → ¬ 1050 ≤ k → μ'.2 k i j = μ.2 k i j) : TP μ' e C := by
  have q' : ∀ k i j, (k = 600 ∧ i = e) ∨ ((k = 1020 ∨ k = 1021) ∧ j = e) ∨ (1008 ≤ k ∧ k ≤ 1012) ∨ (1023 ≤ k ∧ k ≤ 1027) ∨ (200 ≤ k ∧ k ≤ 403) ∨ (700 ≤ k ∧ k ≤ 704) → μ'.1 k i j = μ.1 k i j := fun k i j z => q _ _ _ (by omega) (by omega) (by omega) (by omega) (by omega) (by omega)
  obtain ⟨s', s0', t1', t2', t3', t4'⟩ := h
  refine ⟨s', s0', by rw [q' _ _ _ (by omega)]; exact t1', by rw [q' _ _ _ (by omega)]; exact t2', fun a b => ?_, fun a => ?_⟩
  · obtain ⟨n, n1, n2, n3, n4⟩ := t3' a b
    clear t3' t4'
    exact ⟨n, n1, by rw [q' _ _ _ (by omega)]; exact n2, by rw [q' _ _ _ (by omega)]; exact n3, fun j hj => by rw [q2 _ _ _ (by omega) (by omega) (by omega), q2 _ _ _ (by omega) (by omega) (by omega)]; exact n4 j hj⟩
  · obtain ⟨a1, a2, a3, a4⟩ := t4' a
    exact ⟨by rw [q' _ _ _ (by omega)]; exact a1, a2, a3.kept (by omega) (fun k i j z => q' _ _ _ (by omega)), a4.kept (fun k j z => q' _ _ _ (by omega))⟩
theorem op_clear {μ : Mm} (h : Rel μ) (x : Int32) : OK2 (fun μ => f_X9_clear μ x) (fun μ => f_X10_clear μ x) μ := by
  obtain ⟨D, C, h⟩ := id h
  have hR : Rel μ := ⟨D, C, h⟩
  unfold OK2 f_X9_clear f_X10_clear
  dsimp only
  rcases isTape_c μ x with ⟨q1, q2⟩ | ⟨d, hd, rfl⟩
  · exact ⟨-1, μ, μ, by rw [q1, obs, if_pos rfl], by rw [q2, obs, if_pos rfl], hR⟩
  · obtain ⟨-, -, -, -, -, h6, h7⟩ := id h
    obtain ⟨s, s0, t1, t2, -, -⟩ := h7 d hd
    rw [isTape_in hd, obs, if_neg i10, rq_in hd (by omega), obs, obs, wf_eq, obs, t1]
    refine ⟨nI s, wi μ 600 d 1 0, wi (wi μ 600 d 1 0) 1020 0 d 0, rfl, ?_, D, C, h.tapes ⟨?_, ?_⟩ (fun e he => ?_) (fun k i j a b c d e f => by rw [wi_at, if_neg (by omega), wi_at, if_neg (by omega)])⟩
    · rw [isTapeM_in hd, obs, if_neg i10, ra_in hd (by omega), obs, wa_in hd (by omega), obs, wi_at, if_neg (by omega), t2]
    · rw [wi_at, if_neg (by omega), wi_at, if_neg (by omega), wi_at, if_neg (by omega), wi_at, if_neg (by omega)]; exact h6.1
    · rw [wi_at, if_neg (by omega), wi_at, if_neg (by omega), wi_at, if_neg (by omega), wi_at, if_neg (by omega)]; exact h6.2
    · by_cases z : e = d
      · subst z
        exact ⟨0, by omega, by rw [wi_at, if_neg (by omega), wi_at, if_pos ⟨rfl, rfl, rfl⟩]; rfl, by rw [wi_at, if_pos ⟨rfl, rfl, rfl⟩]; rfl, fun a b => by omega, fun a => by omega⟩
      · exact (h7 e he).other he z (fun k i j a b c d' e' f => by rw [wi_at, if_neg (by omega), wi_at, if_neg (by omega)]) (fun _ _ _ _ _ _ => rfl)
theorem flL_at (μ : Mm) (k i n : Nat) (v : Int64) (k' i' j' : Nat) : (flL μ k i n v n).2 k' i' j' = if k' = k ∧ i' = i ∧ j' < n then v else μ.2 k' i' j' := by
  unfold flL
  rw [sl_at]
  by_cases h : k' = k ∧ i' = i
  · obtain ⟨rfl, rfl⟩ := h
    rw [if_pos ⟨rfl, rfl⟩]
    by_cases h2 : j' < n
    · rw [if_pos h2, if_pos ⟨rfl, rfl, h2⟩]
    · rw [if_neg h2, if_neg (fun e => h2 e.2.2)]
  · rw [if_neg h, if_neg (fun e => h ⟨e.1, e.2.1⟩)]
theorem op_tape {F : Nat} {μ : Mm} (hF : 1000 ≤ F) (h : Rel μ) (x y w : Int32) : OK2 (fun μ => f_X9_tape μ x y w) (fun μ => f_X10_tape F μ x y w) μ := by
  obtain ⟨D, C, h⟩ := id h
  have hR : Rel μ := ⟨D, C, h⟩
  unfold OK2 f_X9_tape f_X10_tape
  dsimp only
  rcases isTape_c μ x with ⟨q1, q2⟩ | ⟨d, hd, rfl⟩
  · exact ⟨-1, μ, μ, by rw [q1, obs, if_pos rfl], by rw [q2, obs, if_pos rfl], hR⟩
  rw [isTape_in hd, obs, if_neg i10]
  by_cases y1 : y < 1
  · rw [if_pos y1]; exact ⟨-1, μ, μ, rfl, by rw [isTapeM_in hd, obs, if_neg i10, in_eq, if_pos y1, obs, if_pos rfl], hR⟩
  rw [if_neg y1]
  by_cases y4 : 4 < y
  · rw [if_pos y4]; exact ⟨-1, μ, μ, rfl, by rw [isTapeM_in hd, obs, if_neg i10, in_eq, if_neg y1, if_pos y4, obs, if_pos rfl], hR⟩
  rw [if_neg y4]
  have inm : ∀ m, f_X10_in m y 1 4 = some 1 := fun m => by rw [in_eq, if_neg y1, if_neg y4]
  by_cases w1 : w ≤ 100
  · rw [if_pos w1]
    by_cases w0 : 0 ≤ w
    · obtain ⟨n, hn, rfl⟩ : ∃ n, n < 101 ∧ w = nI n := by
        rcases ix2 w (n := 101) (by omega) with q | q
        · exfalso
          rw [leT, show (100 : Int32).toInt = 100 from by decide] at w1
          rw [leT, show (0 : Int32).toInt = 0 from by decide] at w0
          rw [ltT, leT, show (nI 101).toInt = 101 from by decide, show (0 : Int32).toInt = 0 from by decide] at q
          omega
        · exact q
      obtain ⟨s, hs, rfl⟩ : ∃ s, s < 5 ∧ y = nI s := by
        rcases ix2 y (n := 5) (by omega) with q | q
        · exfalso
          rw [ltT, show (1 : Int32).toInt = 1 from by decide] at y1
          rw [ltT, show (4 : Int32).toInt = 4 from by decide] at y4
          rw [ltT, leT, show (nI 5).toInt = 5 from by decide, show (0 : Int32).toInt = 0 from by decide] at q
          omega
        · exact q
      have hs1 : 1 ≤ s := by
        rw [show (1 : Int32) = nI 1 from rfl, ltN (by omega) (by omega)] at y1; omega
      obtain ⟨-, -, -, -, -, h6, h7⟩ := id h
      rw [if_pos w0, rq_in hd (by omega), obs]
      have e1 : f_X6_layRow μ d (nI s) (nI n) = some (wi (wi (flL μ 601 d 100 0 100) 600 d 1 (nI s)) 600 d 2 (nI n)) := rfl
      rw [e1, obs]
      generalize hm1 : wi (wi (flL μ 601 d 100 0 100) 600 d 1 (nI s)) 600 d 2 (nI n) = m1
      have c1 : m1.1 600 d 1 = nI s := by rw [← hm1, wi_at, if_neg (by omega), wi_at, if_pos ⟨rfl, rfl, rfl⟩]
      have c2 : m1.1 600 d 2 = nI n := by rw [← hm1, wi_at, if_pos ⟨rfl, rfl, rfl⟩]
      have c3 : ∀ k i j, ¬ (k = 600 ∧ i = d) → m1.1 k i j = μ.1 k i j := fun k i j z => by rw [← hm1, wi_at, if_neg (by omega), wi_at, if_neg (by omega)]; rfl
      have c4 : ∀ k i j, m1.2 k i j = if k = 601 ∧ i = d ∧ j < 100 then 0 else μ.2 k i j := fun k i j => by rw [← hm1]; exact flL_at _ _ _ _ _ _ _ _
      clear hm1
      obtain ⟨m2, e2, i1, i2⟩ := loop_inv (fun N m x => f_X10_tape_b52 F N m (nI d) (nI n) x) (fun m => some (nI n, m)) 100 (fun j m => (∀ l, l < j → m.2 1022 0 (100 * d + l) = 0) ∧ (∀ k i l, m.1 k i l = (wi (wi m1 1020 0 d (nI s)) 1021 0 d (nI n)).1 k i l) ∧ ∀ k i l, ¬ (k = 1022 ∧ i = 0 ∧ 100 * d ≤ l ∧ l < 100 * d + 100) → m.2 k i l = m1.2 k i l) (by
          intro N m j hj ⟨i1, i2, i3⟩
          show ∃ s', f_X10_tape_b52 F (N + 1) m (nI d) (nI n) (nI j) = f_X10_tape_b52 F N s' (nI d) (nI n) (nI (j + 1)) ∧ _
          rw [f_X10_tape_b52, if_neg (by rw [show (100 : Int32) = nI 100 from rfl]; exact ngt (by omega) (by omega) hj), show (100 : Int32) = nI 100 from rfl, pk_mul, nI_add, wg_in (by omega) (by omega), obs, s1]
          refine ⟨_, rfl, fun l hl => ?_, fun k i l => i2 k i l, fun k i l z => ?_⟩
          · rw [wj_at]
            by_cases e : l = j
            · rw [if_pos ⟨rfl, rfl, by omega⟩]
            · rw [if_neg (by omega)]; exact i1 l (by omega)
          · rw [wj_at, if_neg (by omega)]; exact i3 k i l z) (by
          intro N m _
          show f_X10_tape_b52 F (N + 1) m (nI d) (nI n) (nI 100) = _
          rw [f_X10_tape_b52, if_pos (by decide)]) F 0 (wi (wi m1 1020 0 d (nI s)) 1021 0 d (nI n)) (by omega) (by omega) ⟨fun l hl => by omega, fun _ _ _ => rfl, fun _ _ _ _ => rfl⟩
      obtain ⟨i2, i3⟩ := i2
      have e2' : f_X10_tape_b52 F F (wi (wi m1 1020 0 d (nI s)) 1021 0 d (nI n)) (nI d) (nI n) 0 = some (nI n, m2) := e2
      have qq : ∀ k i j, ¬ (k = 600 ∧ i = d) → ¬ (k = 1020 ∧ j = d) → ¬ (k = 1021 ∧ j = d) → m2.1 k i j = μ.1 k i j := fun k i j a b c => by
        rw [i2, wi_at, if_neg (by omega), wi_at, if_neg (by omega)]; exact c3 _ _ _ a
      refine ⟨nI n, m1, m2, rfl, ?_, D, C, h.tapes ⟨?_, ?_⟩ (fun e he => ?_) (fun k i j a b c d e f => qq _ _ _ (by omega) (by omega) (by omega))⟩
      · rw [isTapeM_in hd, obs, if_neg i10, inm, obs, if_neg i10, if_pos w1, if_pos w0, wa_in hd (by omega), obs, wa_in hd (by omega), obs, e2']
      · rw [qq _ _ _ (by omega) (by omega) (by omega), qq _ _ _ (by omega) (by omega) (by omega)]; exact h6.1
      · rw [qq _ _ _ (by omega) (by omega) (by omega), qq _ _ _ (by omega) (by omega) (by omega)]; exact h6.2
      · by_cases z : e = d
        · subst z
          refine ⟨s, by omega, ?_, ?_, fun _ _ => ⟨n, by omega, ?_, ?_, fun j hj => ?_⟩, fun a => by omega⟩
          · rw [i2, wi_at, if_neg (by omega), wi_at, if_neg (by omega)]; exact c1
          · rw [i2, wi_at, if_neg (by omega), wi_at, if_pos ⟨rfl, rfl, rfl⟩]
          · rw [i2, wi_at, if_neg (by omega), wi_at, if_neg (by omega)]; exact c2
          · rw [i2, wi_at, if_pos ⟨rfl, rfl, rfl⟩]
          · rw [i1 j hj, i3 _ _ _ (by omega), c4, if_pos ⟨rfl, rfl, hj⟩]
        · exact (h7 e he).other he z (fun k i j a b c d' e' f => qq _ _ _ a d' e') (fun k i j a b c => by rw [i3 _ _ _ (by omega), c4, if_neg (by omega)])
    · rw [if_neg w0, refuse_c, obs]
      refine ⟨-14, _, _, rfl, ?_, D, C, h.refuse⟩
      rw [isTapeM_in hd, obs, if_neg i10, inm, obs, if_neg i10, if_pos w1, if_neg w0, refuse_m, obs, wi9 _ _ _ _ _ (by omega)]
  · rw [if_neg w1]
    exact ⟨-1, μ, μ, rfl, by rw [isTapeM_in hd, obs, if_neg i10, inm, obs, if_neg i10, if_neg w1], hR⟩
