/-! SUMS over the stretches of a lane: the class's and the reference's are one -/
def itf (g : Nat → Int32 → Int32) : Nat → Int32 → Int32
  | 0, a => a
  | n + 1, a => g n (itf g n a)
theorem walk_c {μ : Mm} {i : Nat} {hm : Nat → Bool} {L : La} (b : Nat → Mm × Int32 → Int32 → Option (Int32 × Mm)) (g : Nat → Int32 → Int32) (hL : CL μ i L) (hg : WG hm L) (r : RC μ 21 ms0 hm)
    (hb : ∀ (N : Nat) (m : Mm) (a : Int32) (j : Nat), j + 1 < zn L → CL m i L → ∀ m', f_X8_step m i (nI j) = some m' → WK m' hm L j → SW μ m' → b (N + 1) (m, a) (nI j) = b N (m', g j a) (nI (j + 1)))
    (he : ∀ (N : Nat) (m : Mm) (a : Int32) (j : Nat), zn L ≤ j + 1 → j ≤ 200 → CL m i L → b (N + 1) (m, a) (nI j) = some (a, m)) (a0 : Int32) {F : Nat} (hF : 1000 ≤ F) : ∃ μ', b F (μ, a0) (nI 0) = some (itf g (zn L - 1) a0, μ') ∧ SW μ μ' := by
  have hn := hL.1
  obtain ⟨⟨m', a'⟩, e1, i1, i2, i3⟩ := loop_inv b (fun s => some (s.2, s.1)) (zn L - 1) (fun j s => SW μ s.1 ∧ RC s.1 21 (sq hm L j) hm ∧ s.2 = itf g j a0) (by
      intro N ⟨m, a⟩ j hj ⟨i1, i2, i3⟩
      have hL' := hL.sw i1
      obtain ⟨m2, e2, q1, q2⟩ := step_ok hL' (by omega) hg i2
      exact ⟨(m2, g j a), hb N m a j (by omega) hL' m2 e2 q2 (i1.trans q1), i1.trans q1, q2.1, by show g j a = g j _; rw [show a = _ from i3]⟩)
    (by
      intro N ⟨m, a⟩ ⟨i1, i2, i3⟩
      exact he N m a _ (by omega) (by omega) (hL.sw i1)) F 0 (μ, a0) (by omega) (by omega) ⟨SW.rf μ, r, rfl⟩
  exact ⟨m', by rw [e1]; show some (a', m') = _; rw [show a' = _ from i3], i1⟩
theorem walk_m {F g : Nat} {μ : Mm} {hm : Nat → Bool} {L : La} (b : Nat → Mm × Int32 → Int32 → Option (Int32 × Mm)) (G : Nat → Int32 → Int32) (hM : ML μ g L) (hg : WG hm L) (r : RM μ ms0) (hc : HC μ hm) (ht : μ.1 1000 0 33 = nI g) (n : Nat) (hn : n ≤ zn L)
    (hb : ∀ (N : Nat) (m : Mm) (a : Int32) (j : Nat), j < n → ML m g L → m.1 1000 0 33 = nI g → ∀ m', f_X10_doesMark F m (nI j) = some m' → RM m' (sq hm L (j + 1)) → ML m' g L → m'.1 1000 0 33 = nI g → SM μ m' → b (N + 1) (m, a) (nI j) = b N (m', G j a) (nI (j + 1)))
    (he : ∀ (N : Nat) (m : Mm) (a : Int32), ML m g L → m.1 1000 0 33 = nI g → b (N + 1) (m, a) (nI n) = some (a, m)) (a0 : Int32) (hF : 1000 ≤ F) : ∃ μ', b F (μ, a0) (nI 0) = some (itf G n a0, μ') ∧ SM μ μ' := by
  have h200 := hM.2.1
  obtain ⟨⟨m', a'⟩, e1, i1, i2, i3, i4, i5⟩ := loop_inv b (fun s => some (s.2, s.1)) n (fun j s => SM μ s.1 ∧ RM s.1 (sq hm L j) ∧ HC s.1 hm ∧ s.1.1 1000 0 33 = nI g ∧ s.2 = itf G j a0) (by
      intro N ⟨m, a⟩ j hj ⟨i1, i2, i3, i4, i5⟩
      have hM' := hM.kept i1
      obtain ⟨m2, e2, q1, q2, q3, q4⟩ := doesMark_ok (F := F) (by omega) hM' i4 i3 hg.wf (by omega) i2
      exact ⟨(m2, G j a), hb N m a j hj hM' i4 m2 e2 q2 (hM'.kept q1) q4 (i1.trans q1), i1.trans q1, q2, q3, q4, by show G j a = G j _; rw [show a = _ from i5]⟩)
    (by
      intro N ⟨m, a⟩ ⟨i1, i2, i3, i4, i5⟩
      exact he N m a (hM.kept i1) i4) F 0 (μ, a0) (by omega) (by omega) ⟨SM.rf μ, r, hc, ht, rfl⟩
  exact ⟨m', by rw [e1]; show some (a', m') = _; rw [show a' = _ from i5], i1⟩
theorem nle {a b : Nat} (ha : a < 1000000) (hb : b < 1000000) (h : a ≤ b) : nI a ≤ nI b := (leN (by omega) (by omega)).mpr h
theorem ngt {a b : Nat} (ha : a < 1000000) (hb : b < 1000000) (h : b < a) : ¬ nI a ≤ nI b := fun z => by have := (leN (by omega) (by omega)).mp z; omega
def gsum (hm : Nat → Bool) (L : La) (u : Nat) (w : Int32) (j : Nat) (a : Int32) : Int32 := if ca (sq hm L (j + 1)) (dk hm L j) u = w then a + ln L j else a
def gbusy (hm : Nat → Bool) (L : La) (w : Int32) (j : Nat) (a : Int32) : Int32 := if dg (sq hm L (j + 1)) (dk hm L j) = w then a + ln L j else a
def gwait (hm : Nat → Bool) (L : La) (rk : Nat → Int32) (u : Nat) (w : Int32) (j : Nat) (a : Int32) : Int32 := if ca (sq hm L (j + 1)) (dk hm L j) u = 1 then (if wby (sq hm L (j + 1)) rk u = w then a + ln L j else a) else a
def gheld (hm : Nat → Bool) (L : La) (rk : Nat → Int32) (u : Nat) (w : Int32) (j : Nat) (a : Int32) : Int32 := if ca (sq hm L (j + 1)) (dk hm L j) u = 3 then (if hby (sq hm L (j + 1)) rk u = w then a + ln L j else a) else a
def gchn (hm : Nat → Bool) (L : La) (u : Nat) (j : Nat) (a : Int32) : Int32 := if ca (sq hm L (j + 1)) (dk hm L j) u = 3 then (if a < nI (chn (sq hm L (j + 1)) u) then nI (chn (sq hm L (j + 1)) u) else a) else a
section FoldC
variable {F i u : Nat} {μ : Mm} {hm : Nat → Bool} {L : La} {w : Int32} {rk : Nat → Int32}
theorem sum_c (hF : 1000 ≤ F) (hL : CL μ i L) (hg : WG hm L) (r : RC μ 21 ms0 hm) (hu : u < 8) (hh : hm u = true) : ∃ μ', f_X9_timeCountedAs_b31 F F μ (nI u) w i 0 (nI 0) = some (itf (gsum hm L u w) (zn L - 1) 0, μ') ∧ SW μ μ' :=
  walk_c (fun N s x => f_X9_timeCountedAs_b31 F N s.1 (nI u) w i s.2 x) (gsum hm L u w) hL hg r (by
    intro N m a j hj hL' m' e k s
    have := hL'.1
    show f_X9_timeCountedAs_b31 F (N + 1) m (nI u) w i a (nI j) = f_X9_timeCountedAs_b31 F N m' (nI u) w i (gsum hm L u w j a) (nI (j + 1))
    rw [f_X9_timeCountedAs_b31, hL'.2.1, s1, if_neg (ngt (by omega) (by omega) (by omega)), e, obs, countsAs_c k hu hh, obs, k.2.1]
    unfold gsum; split <;> rfl) (by
    intro N m a j hj hj2 hL'
    have := hL'.1
    show f_X9_timeCountedAs_b31 F (N + 1) m (nI u) w i a (nI j) = _
    rw [f_X9_timeCountedAs_b31, hL'.2.1, s1, if_pos (nle (by omega) (by omega) (by omega))]) 0 hF
theorem busy_c (hF : 1000 ≤ F) (hL : CL μ i L) (hg : WG hm L) (r : RC μ 21 ms0 hm) : ∃ μ', f_X9_busy_b44 F F μ w i 0 (nI 0) = some (itf (gbusy hm L w) (zn L - 1) 0, μ') ∧ SW μ μ' :=
  walk_c (fun N s x => f_X9_busy_b44 F N s.1 w i s.2 x) (gbusy hm L w) hL hg r (by
    intro N m a j hj hL' m' e k s
    have := hL'.1
    show f_X9_busy_b44 F (N + 1) m w i a (nI j) = f_X9_busy_b44 F N m' w i (gbusy hm L w j a) (nI (j + 1))
    rw [f_X9_busy_b44, hL'.2.1, s1, if_neg (ngt (by omega) (by omega) (by omega)), e, obs, doing_c k (Si_sq hg _ (by omega)), obs, k.2.1]
    unfold gbusy; split <;> rfl) (by
    intro N m a j hj hj2 hL'
    have := hL'.1
    show f_X9_busy_b44 F (N + 1) m w i a (nI j) = _
    rw [f_X9_busy_b44, hL'.2.1, s1, if_pos (nle (by omega) (by omega) (by omega))]) 0 hF
theorem wait_c (hF : 1000 ≤ F) (hL : CL μ i L) (hg : WG hm L) (r : RC μ 21 ms0 hm) (hu : u < 8) (hh : hm u = true) (hr : ∀ u, u < 8 → μ.1 702 0 u = rk u) : ∃ μ', f_X9_wait_b44 F F μ (nI u) w i 0 (nI 0) = some (itf (gwait hm L rk u w) (zn L - 1) 0, μ') ∧ SW μ μ' :=
  walk_c (fun N s x => f_X9_wait_b44 F N s.1 (nI u) w i s.2 x) (gwait hm L rk u w) hL hg r (by
    intro N m a j hj hL' m' e k s
    have := hL'.1
    show f_X9_wait_b44 F (N + 1) m (nI u) w i a (nI j) = f_X9_wait_b44 F N m' (nI u) w i (gwait hm L rk u w j a) (nI (j + 1))
    rw [f_X9_wait_b44, hL'.2.1, s1, if_neg (ngt (by omega) (by omega) (by omega)), e, obs, countsAs_c k hu hh, obs, k.2.1]
    unfold gwait
    by_cases q : ca (sq hm L (j + 1)) (dk hm L j) u = 1
    · rw [if_pos q, if_pos q, readyBy_c (rk := rk) k (Si_sq hg _ (by omega)) hu (fun v hv => by rw [(s 702 0 v (by unfold wc; omega)).1]; exact hr v hv), obs]
      split <;> rfl
    · rw [if_neg q, if_neg q]) (by
    intro N m a j hj hj2 hL'
    have := hL'.1
    show f_X9_wait_b44 F (N + 1) m (nI u) w i a (nI j) = _
    rw [f_X9_wait_b44, hL'.2.1, s1, if_pos (nle (by omega) (by omega) (by omega))]) 0 hF
theorem held_c (hF : 1000 ≤ F) (hL : CL μ i L) (hg : WG hm L) (r : RC μ 21 ms0 hm) (hu : u < 8) (hh : hm u = true) (hr : ∀ u, u < 8 → μ.1 702 0 u = rk u) : ∃ μ', f_X9_held_b45 F F μ (nI u) w i 0 (nI 0) = some (itf (gheld hm L rk u w) (zn L - 1) 0, μ') ∧ SW μ μ' :=
  walk_c (fun N s x => f_X9_held_b45 F N s.1 (nI u) w i s.2 x) (gheld hm L rk u w) hL hg r (by
    intro N m a j hj hL' m' e k s
    have := hL'.1
    show f_X9_held_b45 F (N + 1) m (nI u) w i a (nI j) = f_X9_held_b45 F N m' (nI u) w i (gheld hm L rk u w j a) (nI (j + 1))
    rw [f_X9_held_b45, hL'.2.1, s1, if_neg (ngt (by omega) (by omega) (by omega)), e, obs, countsAs_c k hu hh, obs, k.2.1]
    unfold gheld
    by_cases q : ca (sq hm L (j + 1)) (dk hm L j) u = 3
    · rw [if_pos q, if_pos q, wantingBy_c (rk := rk) k (Si_sq hg _ (by omega)) hu hh (ca_3 q) (fun v hv => by rw [(s 702 0 v (by unfold wc; omega)).1]; exact hr v hv), obs]
      split <;> rfl
    · rw [if_neg q, if_neg q]) (by
    intro N m a j hj hj2 hL'
    have := hL'.1
    show f_X9_held_b45 F (N + 1) m (nI u) w i a (nI j) = _
    rw [f_X9_held_b45, hL'.2.1, s1, if_pos (nle (by omega) (by omega) (by omega))]) 0 hF
theorem chn_c (hF : 1000 ≤ F) (hL : CL μ i L) (hg : WG hm L) (r : RC μ 21 ms0 hm) (hu : u < 8) (hh : hm u = true) : ∃ μ', f_X9_chain_b34 F F μ (nI u) i 0 (nI 0) = some (itf (gchn hm L u) (zn L - 1) 0, μ') ∧ SW μ μ' :=
  walk_c (fun N s x => f_X9_chain_b34 F N s.1 (nI u) i s.2 x) (gchn hm L u) hL hg r (by
    intro N m a j hj hL' m' e k s
    have := hL'.1
    show f_X9_chain_b34 F (N + 1) m (nI u) i a (nI j) = f_X9_chain_b34 F N m' (nI u) i (gchn hm L u j a) (nI (j + 1))
    rw [f_X9_chain_b34, hL'.2.1, s1, if_neg (ngt (by omega) (by omega) (by omega)), e, obs, countsAs_c k hu hh, obs]
    unfold gchn
    by_cases q : ca (sq hm L (j + 1)) (dk hm L j) u = 3
    · rw [if_pos q, if_pos q, chainOf_c (by omega) k.1 (Si_sq hg _ (by omega)) hu hh (ca_3 q), obs]
    · rw [if_neg q, if_neg q]) (by
    intro N m a j hj hj2 hL'
    have := hL'.1
    show f_X9_chain_b34 F (N + 1) m (nI u) i a (nI j) = _
    rw [f_X9_chain_b34, hL'.2.1, s1, if_pos (nle (by omega) (by omega) (by omega))]) 0 hF
end FoldC
theorem add0 (a : Int32) : a + 0 = a := Int32.add_zero a
section FoldM
variable {F g u : Nat} {μ : Mm} {hm : Nat → Bool} {L : La} {w : Int32} {rk : Nat → Int32}
theorem mk_m {m : Mm} (hM : ML m g L) : ra m 1008 0 21 (nI g) = some (nI (zn L)) := by rw [ra_in hM.1 (by omega), hM.2.2.1]
theorem busy_m (hF : 1000 ≤ F) (hM : ML μ g L) (hg : WG hm L) (r : RM μ ms0) (hc : HC μ hm) (ht : μ.1 1000 0 33 = nI g) : ∃ μ', f_X10_busy_b29 F F μ (nI g) w 0 (nI 0) = some (itf (gbusy hm L w) (zn L - 1) 0, μ') ∧ SM μ μ' :=
  walk_m (fun N s x => f_X10_busy_b29 F N s.1 (nI g) w s.2 x) (gbusy hm L w) hM hg r hc ht (zn L - 1) (by omega) (by
    intro N m a j hj hM' t' m' e q1 q2 q3 s
    have := hM'.2.1
    show f_X10_busy_b29 F (N + 1) m (nI g) w a (nI j) = f_X10_busy_b29 F N m' (nI g) w (gbusy hm L w j a) (nI (j + 1))
    rw [f_X10_busy_b29, mk_m hM', obs, s1, if_neg (ngt (by omega) (by omega) (by omega)), e, obs, busyWith_m q2 q3 q1 (by omega), obs, stretch_m q2 q3 (by omega), obs, add0]
    unfold gbusy; split <;> rfl) (by
    intro N m a hM' t'
    have := hM'.2.1
    show f_X10_busy_b29 F (N + 1) m (nI g) w a (nI (zn L - 1)) = _
    rw [f_X10_busy_b29, mk_m hM', obs, s1, if_pos (nle (by omega) (by omega) (by omega))]) 0 hF
theorem wait_m (hF : 1000 ≤ F) (hM : ML μ g L) (hg : WG hm L) (r : RM μ ms0) (hc : HC μ hm) (ht : μ.1 1000 0 33 = nI g) (hu : u < 8) (hr : ∀ u, u < 8 → μ.1 1006 0 u = rk u) : ∃ μ', f_X10_hung_b16 F F μ (nI u) w 1 0 (nI 0) = some (itf (gwait hm L rk u w) (zn L - 1) 0, μ') ∧ SM μ μ' :=
  walk_m (fun N s x => f_X10_hung_b16 F N s.1 (nI u) w 1 s.2 x) (gwait hm L rk u w) hM hg r hc ht (zn L - 1) (by omega) (by
    intro N m a j hj hM' t' m' e q1 q2 q3 s
    have := hM'.2.1
    show f_X10_hung_b16 F (N + 1) m (nI u) w 1 a (nI j) = f_X10_hung_b16 F N m' (nI u) w 1 (gwait hm L rk u w j a) (nI (j + 1))
    rw [f_X10_hung_b16, t', mk_m hM', obs, s1, if_neg (ngt (by omega) (by omega) (by omega)), e, obs, isDark_m q2 q3 q1 (by omega), obs, countsAs_m q1 hu, obs]
    unfold gwait
    by_cases q : ca (sq hm L (j + 1)) (dk hm L j) u = 1
    · rw [if_pos q, if_pos q, if_pos rfl, waitsBy_m (rk := rk) q1 (Si_sq hg _ (by omega)) hu (fun v hv => by rw [(s 1006 0 v (by unfold sc; omega)).1]; exact hr v hv), obs]
      unfold f_X10_hung_b71
      rw [stretch_m q2 q3 (by omega), obs, add0, s1]
      split <;> rfl
    · rw [if_neg q, if_neg q]) (by
    intro N m a hM' t'
    have := hM'.2.1
    show f_X10_hung_b16 F (N + 1) m (nI u) w 1 a (nI (zn L - 1)) = _
    rw [f_X10_hung_b16, t', mk_m hM', obs, s1, if_pos (nle (by omega) (by omega) (by omega))]) 0 hF
theorem held_m (hF : 1000 ≤ F) (hM : ML μ g L) (hg : WG hm L) (r : RM μ ms0) (hc : HC μ hm) (ht : μ.1 1000 0 33 = nI g) (hu : u < 8) (hr : ∀ u, u < 8 → μ.1 1006 0 u = rk u) : ∃ μ', f_X10_hung_b16 F F μ (nI u) w 3 0 (nI 0) = some (itf (gheld hm L rk u w) (zn L - 1) 0, μ') ∧ SM μ μ' :=
  walk_m (fun N s x => f_X10_hung_b16 F N s.1 (nI u) w 3 s.2 x) (gheld hm L rk u w) hM hg r hc ht (zn L - 1) (by omega) (by
    intro N m a j hj hM' t' m' e q1 q2 q3 s
    have := hM'.2.1
    show f_X10_hung_b16 F (N + 1) m (nI u) w 3 a (nI j) = f_X10_hung_b16 F N m' (nI u) w 3 (gheld hm L rk u w j a) (nI (j + 1))
    rw [f_X10_hung_b16, t', mk_m hM', obs, s1, if_neg (ngt (by omega) (by omega) (by omega)), e, obs, isDark_m q2 q3 q1 (by omega), obs, countsAs_m q1 hu, obs]
    unfold gheld
    by_cases q : ca (sq hm L (j + 1)) (dk hm L j) u = 3
    · rw [if_pos q, if_pos q, if_neg (by decide), heldBy_m (rk := rk) q1 (Si_sq hg _ (by omega)) hu (ca_3 q) (fun v hv => by rw [(s 1006 0 v (by unfold sc; omega)).1]; exact hr v hv), obs]
      unfold f_X10_hung_b71
      rw [stretch_m q2 q3 (by omega), obs, add0, s1]
      split <;> rfl
    · rw [if_neg q, if_neg q]) (by
    intro N m a hM' t'
    have := hM'.2.1
    show f_X10_hung_b16 F (N + 1) m (nI u) w 3 a (nI (zn L - 1)) = _
    rw [f_X10_hung_b16, t', mk_m hM', obs, s1, if_pos (nle (by omega) (by omega) (by omega))]) 0 hF
theorem chn_m (hF : 1000 ≤ F) (hM : ML μ g L) (hg : WG hm L) (r : RM μ ms0) (hc : HC μ hm) (ht : μ.1 1000 0 33 = nI g) (hu : u < 8) : ∃ μ', f_X10_chain_b24 F F μ (nI u) 0 (nI 0) = some (itf (gchn hm L u) (zn L - 1) 0, μ') ∧ SM μ μ' :=
  walk_m (fun N s x => f_X10_chain_b24 F N s.1 (nI u) s.2 x) (gchn hm L u) hM hg r hc ht (zn L - 1) (by omega) (by
    intro N m a j hj hM' t' m' e q1 q2 q3 s
    have := hM'.2.1
    show f_X10_chain_b24 F (N + 1) m (nI u) a (nI j) = f_X10_chain_b24 F N m' (nI u) (gchn hm L u j a) (nI (j + 1))
    rw [f_X10_chain_b24, t', mk_m hM', obs, s1, if_neg (ngt (by omega) (by omega) (by omega)), e, obs, isDark_m q2 q3 q1 (by omega), obs, countsAs_m q1 hu, obs]
    unfold gchn
    by_cases q : ca (sq hm L (j + 1)) (dk hm L j) u = 3
    · rw [if_pos q, if_pos q, chainOf_m (by omega) q1 (Si_sq hg _ (by omega)) hu (ca_3 q), obs]
      by_cases z : nI (chn (sq hm L (j + 1)) u) ≤ a
      · rw [if_pos z, if_neg (by rw [ltT]; rw [leT] at z; omega)]
      · rw [if_neg z, if_pos (by rw [ltT]; rw [leT] at z; omega)]
    · rw [if_neg q, if_neg q]) (by
    intro N m a hM' t'
    have := hM'.2.1
    show f_X10_chain_b24 F (N + 1) m (nI u) a (nI (zn L - 1)) = _
    rw [f_X10_chain_b24, t', mk_m hM', obs, s1, if_pos (nle (by omega) (by omega) (by omega))]) 0 hF
/-- summed goes over the last mark too -/
def gs1 (G : Nat → Int32 → Int32) (n : Nat) (j : Nat) (a : Int32) : Int32 := if j + 1 < n then G j a else a
theorem gs1_lt (G : Nat → Int32 → Int32) (n : Nat) (a : Int32) : ∀ j, j + 1 ≤ n → itf (gs1 G n) j a = itf G j a
  | 0, _ => rfl
  | j + 1, h => by
    show gs1 G n j (itf (gs1 G n) j a) = G j (itf G j a)
    rw [gs1_lt G n a j (by omega)]
    unfold gs1; rw [if_pos (by omega)]
theorem gs1_eq (G : Nat → Int32 → Int32) (n : Nat) (a : Int32) : itf (gs1 G n) n a = itf G (n - 1) a := by
  cases n with
  | zero => rfl
  | succ n =>
    show gs1 G (n + 1) n (itf (gs1 G (n + 1)) n a) = _
    unfold gs1 at *
    rw [if_neg (by omega)]
    exact gs1_lt G (n + 1) a n (by omega)
def gall (L : La) (j : Nat) (a : Int32) : Int32 := a + ln L j
theorem sum_m (hF : 1000 ≤ F) (hM : ML μ g L) (hg : WG hm L) (r : RM μ ms0) (hc : HC μ hm) (ht : μ.1 1000 0 33 = nI g) (hu : u < 8) (hw5 : ¬ w = 5) : ∃ μ', f_X10_summed F μ (nI u) w = some (itf (gsum hm L u w) (zn L - 1) 0, μ') ∧ SM μ μ' := by
  rw [← gs1_eq]
  exact walk_m (fun N s x => f_X10_summed_b5 F N s.1 (nI u) w s.2 x) (gs1 (gsum hm L u w) (zn L)) hM hg r hc ht (zn L) (by omega) (by
    intro N m a j hj hM' t' m' e q1 q2 q3 s
    have := hM'.2.1
    show f_X10_summed_b5 F (N + 1) m (nI u) w a (nI j) = f_X10_summed_b5 F N m' (nI u) w (gs1 (gsum hm L u w) (zn L) j a) (nI (j + 1))
    rw [f_X10_summed_b5, t', mk_m hM', obs, s1, if_neg (ngt (by omega) (by omega) (by omega)), e, obs, q3, mk_m q2, obs]
    unfold gs1
    by_cases z : j + 1 < zn L
    · rw [if_neg (ngt (by omega) (by omega) (by omega)), if_pos z, if_neg hw5, isDark_m q2 q3 q1 (by omega), obs, countsAs_m q1 hu, obs, add0]
      unfold f_X10_summed_b62 gsum
      rw [stretch_m q2 q3 (by omega), obs, s1]
      split <;> rfl
    · rw [if_pos (nle (by omega) (by omega) (by omega)), if_neg z]) (by
    intro N m a hM' t'
    have := hM'.2.1
    show f_X10_summed_b5 F (N + 1) m (nI u) w a (nI (zn L)) = _
    rw [f_X10_summed_b5, t', mk_m hM', obs, if_pos (nle (by omega) (by omega) (by omega))]) 0 hF
theorem sum5_m (hF : 1000 ≤ F) (hM : ML μ g L) (hg : WG hm L) (r : RM μ ms0) (hc : HC μ hm) (ht : μ.1 1000 0 33 = nI g) (hu : u < 8) : ∃ μ', f_X10_summed F μ (nI u) 5 = some (itf (gall L) (zn L - 1) 0, μ') ∧ SM μ μ' := by
  rw [← gs1_eq]
  exact walk_m (fun N s x => f_X10_summed_b5 F N s.1 (nI u) 5 s.2 x) (gs1 (gall L) (zn L)) hM hg r hc ht (zn L) (by omega) (by
    intro N m a j hj hM' t' m' e q1 q2 q3 s
    have := hM'.2.1
    show f_X10_summed_b5 F (N + 1) m (nI u) 5 a (nI j) = f_X10_summed_b5 F N m' (nI u) 5 (gs1 (gall L) (zn L) j a) (nI (j + 1))
    rw [f_X10_summed_b5, t', mk_m hM', obs, s1, if_neg (ngt (by omega) (by omega) (by omega)), e, obs, q3, mk_m q2, obs]
    unfold gs1
    by_cases z : j + 1 < zn L
    · rw [if_neg (ngt (by omega) (by omega) (by omega)), if_pos z, if_pos rfl]
      unfold f_X10_summed_b62 gall
      rw [stretch_m q2 q3 (by omega), obs, s1]
    · rw [if_pos (nle (by omega) (by omega) (by omega)), if_neg z]) (by
    intro N m a hM' t'
    have := hM'.2.1
    show f_X10_summed_b5 F (N + 1) m (nI u) 5 a (nI (zn L)) = _
    rw [f_X10_summed_b5, t', mk_m hM', obs, if_pos (nle (by omega) (by omega) (by omega))]) 0 hF
end FoldM
theorem gall_eq (L : La) : ∀ m, m < zn L → itf (gall L) m 0 = zM L m - zM L 0
  | 0, _ => (Int32.sub_self _).symm
  | m + 1, h => by
    show itf (gall L) m 0 + ln L m = _
    rw [gall_eq L m (by omega)]
    unfold ln; rw [if_pos h]; grind
theorem whole_c {μ : Mm} {i : Nat} {L : La} (hL : CL μ i L) : f_X2_wholeLength μ i = some (itf (gall L) (zn L - 1) 0) := by
  have := hL.1
  unfold f_X2_wholeLength
  rw [hL.2.1]
  by_cases q : zn L = 0
  · rw [q]
    have h1 : f_X2_timeOf μ i (nI 0 - 1) = some 0 := by
      unfold f_X2_timeOf f_X2_has
      rw [if_pos (by decide), obs, if_pos rfl]
    have h0 : f_X2_timeOf μ i 0 = some 0 := timeOf_out (j := 0) hL (by omega) (by omega)
    rw [h1, obs, h0, obs]; rfl
  · have e : nI (zn L) - 1 = nI (zn L - 1) := by
      obtain ⟨n, hn⟩ : ∃ n, zn L = n + 1 := ⟨zn L - 1, by omega⟩
      rw [hn]; exact nI_pred n
    have h0 : f_X2_timeOf μ i 0 = some (zM L 0) := timeOf_in (j := 0) hL (by omega)
    rw [e, timeOf_in hL (by omega), obs, h0, obs, gall_eq L _ (by omega)]
