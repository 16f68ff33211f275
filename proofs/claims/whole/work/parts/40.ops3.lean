/-! CALLS: rank, other, home, law; refusals of the host -/
theorem isRank_eq (μ : Mm) (x : Int32) : f_X9_isRank μ x = some (if x < 0 then 0 else if 15 < x then 0 else 1) := by
  unfold f_X9_isRank; split
  · rfl
  · split <;> rfl
theorem rk2 (x : Int32) : ((if x < 0 then (0 : Int32) else if 15 < x then 0 else 1) = 0) ∨ ((if x < 0 then (0 : Int32) else if 15 < x then 0 else 1) = 1 ∧ ∃ r, r ≤ 15 ∧ x = nI r) := by
  rcases ix2 x (n := 16) (by omega) with q | ⟨r, hr, rfl⟩
  · left
    rcases q with q | q
    · rw [if_pos q]
    · by_cases q0 : x < 0
      · rw [if_pos q0]
      · rw [if_neg q0, if_pos]
        rw [leT, show (nI 16).toInt = 16 from by decide] at q
        rw [ltT, show (15 : Int32).toInt = 15 from by decide]; omega
  · right
    refine ⟨?_, r, by omega, rfl⟩
    rw [if_neg (nN0 (by omega)), if_neg (by rw [show (15 : Int32) = nI 15 from rfl, ltN (by omega) (by omega)]; omega)]
theorem Rl.setR {μ μ' : Mm} {D : Tr} {C : Nat → Tr} {u r : Nat} (h : Rl μ D C) (hu : u < 8) (hr : r ≤ 15) (c : μ'.1 702 0 u = nI r) (m : μ'.1 1006 0 u = nI r) (q : ∀ k i j, ¬ (k = 702 ∧ i = 0 ∧ j = u) → ¬ (k = 1006 ∧ i = 0 ∧ j = u) → μ'.1 k i j = μ.1 k i j) (q2 : μ'.2 = μ.2) : Rl μ' (tP D, tT D, tW D, tH D, upd (tR D) u (nI r), tL D) C := by
  obtain ⟨⟨v1, v2, v3, v4, v5, v6, v7, v8⟩, ⟨⟨a1, a2, a3⟩, a4, a5, a6, a7⟩, ⟨⟨b1, b2, b3⟩, b4, b5⟩, h4, h5, h6, h7⟩ := h
  refine ⟨⟨v1, v2, v3, v4, fun w hw => ?_, v6, v7, v8⟩, ⟨⟨?_, ?_, ?_⟩, fun w hw => ?_, fun p hp => ⟨(a5 p hp).1.kept (fun k j e f => q _ _ _ (by omega) (by omega)), (a5 p hp).2.kept (fun k j e f => q _ _ _ (by omega) (by omega))⟩, fun e x he hx => ?_, fun p w x y z => ?_⟩, ⟨⟨?_, ?_, ?_⟩, fun w hw => ?_, fun p hp => (b5 p hp).kept2 (fun k j e f => q _ _ _ (by omega) (by omega))⟩, h4.kept (fun k j z => q _ _ _ (by omega) (by omega)), h5.kept (fun k j z => q _ _ _ (by omega) (by omega)), h6.kept (fun k j z => q _ _ _ (by omega) (by omega)), fun d hd => (h7 d hd).kept hd (fun k i j z => q _ _ _ (by omega) (by omega)) (fun k i j z => by rw [q2])⟩
  · show ∃ r', r' ≤ 15 ∧ upd (tR D) u (nI r) w = nI r'
    by_cases e : w = u
    · rw [e, up_s]; exact ⟨r, hr, rfl⟩
    · rw [up_n _ _ e]; exact v5 w hw
  · rw [q _ _ _ (by omega) (by omega)]; exact a1
  · rw [q _ _ _ (by omega) (by omega)]; exact a2
  · rw [q _ _ _ (by omega) (by omega)]; exact a3
  · refine ⟨by rw [q _ _ _ (by omega) (by omega)]; exact (a4 w hw).1, ?_⟩
    show _ = upd (tR D) u (nI r) w
    by_cases e : w = u
    · rw [e, up_s]; exact c
    · rw [up_n _ _ e, q _ _ _ (by omega) (by omega)]; exact (a4 w hw).2
  · rw [q _ _ _ (by omega) (by omega)]; exact a6 e x he hx
  · rw [q _ _ _ (by omega) (by omega)]; exact a7 p w x y z
  · rw [q _ _ _ (by omega) (by omega)]; exact b1
  · rw [q _ _ _ (by omega) (by omega)]; exact b2
  · rw [q _ _ _ (by omega) (by omega)]; exact b3
  · refine ⟨by rw [q _ _ _ (by omega) (by omega)]; exact (b4 w hw).1, ?_⟩
    show _ = upd (tR D) u (nI r) w
    by_cases e : w = u
    · rw [e, up_s]; exact m
    · rw [up_n _ _ e, q _ _ _ (by omega) (by omega)]; exact (b4 w hw).2
theorem wi2_at (μ : Mm) (k i j k' i' j' : Nat) (v w : Int32) (a b c : Nat) (h : ¬ (a = k ∧ b = i ∧ c = j)) (h2 : ¬ (a = k' ∧ b = i' ∧ c = j')) : (wi (wi μ k i j v) k' i' j' w).1 a b c = μ.1 a b c := by
  rw [wi_at, if_neg h2, wi_at, if_neg h]
theorem op_rank {μ : Mm} (h : Rel μ) (x y : Int32) : OK2 (fun μ => f_X9_rank μ x y) (fun μ => f_X10_rank μ x y) μ := by
  obtain ⟨D, C, h⟩ := id h
  have hR : Rel μ := ⟨D, C, h⟩
  obtain ⟨hv, hc, hm, -⟩ := id h
  have hT := hv.2.1
  unfold OK2 f_X9_rank f_X10_rank
  dsimp only
  rcases ix2 x (n := tT D) (by omega) with q | ⟨u, hu, rfl⟩
  · exact ⟨-1, μ, μ, by rw [hasTask_out hc.1.2.1 q, obs, if_pos rfl], by rw [isTask_out hm.1.2.1 hT.2 q, obs, if_pos rfl], hR⟩
  · have hu8 : u < 8 := by omega
    rw [hasTask_in hc.1.2.1 hT.2 hu, obs, if_neg i10, isRank_eq, obs]
    rcases rk2 y with q | ⟨q, r, hr, rfl⟩
    · rw [q, if_pos rfl]
      exact ⟨-1, μ, μ, rfl, by rw [isTask_in hm.1.2.1 hT.2 hu, obs, if_neg i10, in_eq, q, obs, if_pos rfl], hR⟩
    · rw [q, if_neg i10, rankOf_in hu8, obs, wa_in hu8 (by omega), obs, (hc.2.1 u hu8).2]
      refine ⟨_, _, wi (wi μ 702 0 u (nI r)) 1006 0 u (nI r), rfl, ?_, ?_⟩
      · have e2 : (wi μ 702 0 u (nI r)).1 1000 0 2 = nI (tT D) := by rw [wi_at, if_neg (by omega)]; exact hm.1.2.1
        rw [isTask_in e2 hT.2 hu, obs, if_neg i10, in_eq, q, obs, if_neg i10, ra_in hu8 (by omega), obs, wa_in hu8 (by omega), obs, wi_at, if_neg (by omega), (hm.2.1 u hu8).2]
      · exact ⟨_, C, h.setR hu8 hr (by rw [wi_at, if_neg (by omega), wi_at, if_pos ⟨rfl, rfl, rfl⟩]) (by rw [wi_at, if_pos ⟨rfl, rfl, rfl⟩]) (fun k i j a b => wi2_at μ _ _ _ _ _ _ _ _ _ _ _ a b) rfl⟩
theorem Rl.setO {μ μ' : Mm} {D : Tr} {C : Nat → Tr} {u r : Nat} (h : Rl μ D C) (hr : r ≤ 15) (c : μ'.1 902 0 u = nI r) (m : μ'.1 1007 0 u = nI r) (q : ∀ k i j, ¬ (k = 902 ∧ i = 0 ∧ j = u) → ¬ (k = 1007 ∧ i = 0 ∧ j = u) → μ'.1 k i j = μ.1 k i j) (q2 : μ'.2 = μ.2) : Rl μ' D C := by
  obtain ⟨h1, h2, h3, h4, h5, h6, h7⟩ := h
  refine ⟨h1, h2.kept (by omega) (fun k i j z => q _ _ _ (by omega) (by omega)), h3.kept (fun k j z => q _ _ _ (by omega) (by omega)), fun w hw => ?_, h5.kept (fun k j z => q _ _ _ (by omega) (by omega)), h6.kept (fun k j z => q _ _ _ (by omega) (by omega)), fun d hd => (h7 d hd).kept hd (fun k i j z => q _ _ _ (by omega) (by omega)) (fun k i j z => by rw [q2])⟩
  by_cases e : w = u
  · rw [e, c, m]; exact ⟨rfl, Or.inr ⟨r, hr, rfl⟩⟩
  · rw [q _ _ _ (by omega) (by omega), q _ _ _ (by omega) (by omega)]; exact h4 w hw
theorem otherRankOf_in {μ : Mm} {u : Nat} (hu : u < 8) : f_X9_otherRankOf μ (nI u) = some (if μ.1 902 0 u = -1 then μ.1 702 0 u else μ.1 902 0 u) := by
  unfold f_X9_otherRankOf
  rw [if_neg (nN0 (by omega)), if_pos (by rw [show (8 : Int32) = nI 8 from rfl, ltN (by omega) (by omega)]; exact hu), ra_in hu (by omega), obs, rankOf_in hu, obs, obs]
  split <;> rfl
theorem otherOf_in {μ : Mm} {u : Nat} (hu : u < 8) : f_X10_otherOf μ (nI u) = some (if μ.1 1007 0 u = -1 then μ.1 1006 0 u else μ.1 1007 0 u) := by
  unfold f_X10_otherOf
  rw [ra_in hu (by omega), obs, ra_in hu (by omega), obs, obs]
  split <;> rfl
theorem op_other {μ : Mm} (h : Rel μ) (x y : Int32) : OK2 (fun μ => f_X9_other μ x y) (fun μ => f_X10_other μ x y) μ := by
  obtain ⟨D, C, h⟩ := id h
  have hR : Rel μ := ⟨D, C, h⟩
  obtain ⟨hv, hc, hm, ho, -⟩ := id h
  have hT := hv.2.1
  unfold OK2 f_X9_other f_X10_other
  dsimp only
  rcases ix2 x (n := tT D) (by omega) with q | ⟨u, hu, rfl⟩
  · exact ⟨-1, μ, μ, by rw [hasTask_out hc.1.2.1 q, obs, if_pos rfl], by rw [isTask_out hm.1.2.1 hT.2 q, obs, if_pos rfl], hR⟩
  · have hu8 : u < 8 := by omega
    rw [hasTask_in hc.1.2.1 hT.2 hu, obs, if_neg i10, isRank_eq, obs]
    rcases rk2 y with q | ⟨q, r, hr, rfl⟩
    · rw [q, if_pos rfl]
      exact ⟨-1, μ, μ, rfl, by rw [isTask_in hm.1.2.1 hT.2 hu, obs, if_neg i10, in_eq, q, obs, if_pos rfl], hR⟩
    · rw [q, if_neg i10, otherRankOf_in hu8, obs, wa_in hu8 (by omega), obs, (hc.2.1 u hu8).2, (ho u hu8).1]
      refine ⟨_, _, wi (wi μ 902 0 u (nI r)) 1007 0 u (nI r), rfl, ?_, ?_⟩
      · have e2 : (wi μ 902 0 u (nI r)).1 1000 0 2 = nI (tT D) := by rw [wi_at, if_neg (by omega)]; exact hm.1.2.1
        rw [isTask_in e2 hT.2 hu, obs, if_neg i10, in_eq, q, obs, if_neg i10, otherOf_in hu8, obs, wa_in hu8 (by omega), obs, show (wi μ 902 0 u (nI r)).1 1007 0 u = μ.1 1007 0 u by rw [wi_at, if_neg (by omega)], show (wi μ 902 0 u (nI r)).1 1006 0 u = μ.1 1006 0 u by rw [wi_at, if_neg (by omega)], (hm.2.1 u hu8).2]
      · exact ⟨D, C, h.setO hr (by rw [wi_at, if_neg (by omega), wi_at, if_pos ⟨rfl, rfl, rfl⟩]) (by rw [wi_at, if_pos ⟨rfl, rfl, rfl⟩]) (fun k i j a b => wi2_at μ _ _ _ _ _ _ _ _ _ _ _ a b) rfl⟩
/-- an empty lane is as at first, whoever its tasks are -/
theorem RC.empty {μ : Mm} {i : Nat} {hm hm' : Nat → Bool} (h : RC μ i ms0 hm) (h0 : ∀ u, u < 8 → μ.1 401 i u = 0) : RC μ i ms0 hm' := by
  obtain ⟨⟨r1, r2, r3, r4, r5⟩, r6⟩ := h
  exact ⟨⟨fun u a _ => h0 u a, fun u a _ => by rw [h0 u a]; decide, r3, r4, r5⟩, fun u _ _ c => absurd c (show ¬ (0 : Int32) = 3 by decide)⟩
theorem LV.empty {L : La} (hm : Nat → Bool) (h : zn L = 0) : LV hm L := by
  refine ⟨by omega, fun j hj => ?_, fun j hj => ?_, fun j hj => ?_, fun j hj => ?_, fun j hj => ?_, fun j hj => ?_⟩ <;> omega
theorem Rl.setH {μ μ' : Mm} {D : Tr} {C : Nat → Tr} {u r : Nat} (h : Rl μ D C) (hr : r < tP D) (hz : ∀ p, p < 3 → zn (tL D p) = 0) (c : μ'.1 701 0 u = nI r) (m : μ'.1 1005 0 u = nI r) (q : ∀ k i j, ¬ (k = 701 ∧ i = 0 ∧ j = u) → ¬ (k = 1005 ∧ i = 0 ∧ j = u) → μ'.1 k i j = μ.1 k i j) (q2 : μ'.2 = μ.2) : Rl μ' (tP D, tT D, tW D, upd (tH D) u (nI r), tR D, tL D) C := by
  obtain ⟨⟨v1, v2, v3, v4, v5, v6, v7, v8⟩, ⟨⟨a1, a2, a3⟩, a4, a5, a6, a7⟩, ⟨⟨b1, b2, b3⟩, b4, b5⟩, h4, h5, h6, h7⟩ := h
  refine ⟨⟨v1, v2, v3, fun w hw => ?_, v5, fun p hp => LV.empty _ (hz p hp), v7, v8⟩, ⟨⟨?_, ?_, ?_⟩, fun w hw => ?_, fun p hp => ⟨(a5 p hp).1.kept (fun k j e f => q _ _ _ (by omega) (by omega)), ?_⟩, fun e x he hx => ?_, fun p w x y z => ?_⟩, ⟨⟨?_, ?_, ?_⟩, fun w hw => ?_, fun p hp => (b5 p hp).kept2 (fun k j e f => q _ _ _ (by omega) (by omega))⟩, h4.kept (fun k j z => q _ _ _ (by omega) (by omega)), h5.kept (fun k j z => q _ _ _ (by omega) (by omega)), h6.kept (fun k j z => q _ _ _ (by omega) (by omega)), fun d hd => (h7 d hd).kept hd (fun k i j z => q _ _ _ (by omega) (by omega)) (fun k i j z => by rw [q2])⟩
  · show ∃ r', r' < tP D ∧ upd (tH D) u (nI r) w = nI r'
    by_cases e : w = u
    · rw [e, up_s]; exact ⟨r, hr, rfl⟩
    · rw [up_n _ _ e]; exact v4 w hw
  · rw [q _ _ _ (by omega) (by omega)]; exact a1
  · rw [q _ _ _ (by omega) (by omega)]; exact a2
  · rw [q _ _ _ (by omega) (by omega)]; exact a3
  · refine ⟨?_, by rw [q _ _ _ (by omega) (by omega)]; exact (a4 w hw).2⟩
    show _ = upd (tH D) u (nI r) w
    by_cases e : w = u
    · rw [e, up_s]; exact c
    · rw [up_n _ _ e, q _ _ _ (by omega) (by omega)]; exact (a4 w hw).1
  · have h9 := (a5 p hp).2
    rw [hz p hp] at h9
    show RC μ' (3 * 0 + p) (sq _ (tL D p) (zn (tL D p))) _
    rw [hz p hp]
    exact RC.empty (h9.kept (fun k j e f => q _ _ _ (by omega) (by omega))) (fun w hw => by rw [q _ _ _ (by omega) (by omega)]; exact a7 p w hp (hz p hp) hw)
  · rw [q _ _ _ (by omega) (by omega)]; exact a6 e x he hx
  · rw [q _ _ _ (by omega) (by omega)]; exact a7 p w x y z
  · rw [q _ _ _ (by omega) (by omega)]; exact b1
  · rw [q _ _ _ (by omega) (by omega)]; exact b2
  · rw [q _ _ _ (by omega) (by omega)]; exact b3
  · refine ⟨?_, by rw [q _ _ _ (by omega) (by omega)]; exact (b4 w hw).2⟩
    show _ = upd (tH D) u (nI r) w
    by_cases e : w = u
    · rw [e, up_s]; exact m
    · rw [up_n _ _ e, q _ _ _ (by omega) (by omega)]; exact (b4 w hw).1
theorem op_home {F : Nat} {μ : Mm} (hF : 1000 ≤ F) (h : Rel μ) (x y : Int32) : OK2 (fun μ => f_X9_home F μ x y) (fun μ => f_X10_home μ x y) μ := by
  obtain ⟨D, C, h⟩ := id h
  have hR : Rel μ := ⟨D, C, h⟩
  obtain ⟨al, am⟩ := h.all hF
  obtain ⟨hv, hc, hm, ho, -⟩ := id h
  have hT := hv.2.1
  have hP := hv.1
  have n0 := (h.lane (p := 0) (by omega)).1.1
  have n1 := (h.lane (p := 1) (by omega)).1.1
  have n2 := (h.lane (p := 2) (by omega)).1.1
  unfold OK2 f_X9_home f_X10_home
  dsimp only
  rcases ix2 x (n := tT D) (by omega) with q | ⟨u, hu, rfl⟩
  · exact ⟨-1, μ, μ, by rw [hasTask_out hc.1.2.1 q, obs, if_pos rfl], by rw [isTask_out hm.1.2.1 hT.2 q, obs, if_pos rfl], hR⟩
  · have hu8 : u < 8 := by omega
    rw [hasTask_in hc.1.2.1 hT.2 hu, obs, if_neg i10]
    rcases ix2 y (n := tP D) (by omega) with q | ⟨r, hr, rfl⟩
    · exact ⟨-1, μ, μ, by rw [hasP_out hc.1.1 q, obs, if_pos rfl], by rw [isTask_in hm.1.2.1 hT.2 hu, obs, if_neg i10, isP_out hm.1.1 hP.2 q, obs, if_pos rfl], hR⟩
    · rw [hasP_in hc.1.1 hP.2 hr, obs, if_neg i10, al, obs]
      by_cases z : zn (tL D 0) + zn (tL D 1) + zn (tL D 2) = 0
      · rw [z, if_pos (by decide), homeOf_in hu8, obs, wa_in hu8 (by omega), obs, (hc.2.1 u hu8).1]
        refine ⟨_, _, wi (wi μ 701 0 u (nI r)) 1005 0 u (nI r), rfl, ?_, ?_⟩
        · have e2 : (wi μ 701 0 u (nI r)).1 1000 0 2 = nI (tT D) := by rw [wi_at, if_neg (by omega)]; exact hm.1.2.1
          have e3 : (wi μ 701 0 u (nI r)).1 1000 0 1 = nI (tP D) := by rw [wi_at, if_neg (by omega)]; exact hm.1.1
          have e4 : f_X10_all (wi μ 701 0 u (nI r)) = f_X10_all μ := by
            unfold f_X10_all ra
            simp only [wi_at, show ¬ (1008 = 701) by omega, false_and, if_false]
          rw [isTask_in e2 hT.2 hu, obs, if_neg i10, isP_in e3 hP.2 hr, obs, if_neg i10, e4, am, obs, z, if_pos (by decide), ra_in hu8 (by omega), obs, wa_in hu8 (by omega), obs, wi_at, if_neg (by omega), (hm.2.1 u hu8).1]
        · exact ⟨_, C, h.setH hr (fun p hp => by rcases (show p = 0 ∨ p = 1 ∨ p = 2 by omega) with rfl | rfl | rfl <;> omega) (by rw [wi_at, if_neg (by omega), wi_at, if_pos ⟨rfl, rfl, rfl⟩]) (by rw [wi_at, if_pos ⟨rfl, rfl, rfl⟩]) (fun k i j a b => wi2_at μ _ _ _ _ _ _ _ _ _ _ _ a b) rfl⟩
      · have nz : ¬ nI (zn (tL D 0) + zn (tL D 1) + zn (tL D 2)) ≤ 0 := by
          rw [show (0 : Int32) = nI 0 from rfl]; exact ngt (by omega) (by omega) (by omega)
        rw [if_neg nz]
        exact ⟨-2, μ, μ, rfl, by rw [isTask_in hm.1.2.1 hT.2 hu, obs, if_neg i10, isP_in hm.1.1 hP.2 hr, obs, if_neg i10, am, obs, if_neg nz], hR⟩
