/-! MARKS: one step, on both sides -/
def Fo (D : Tr) (p k t x c : Int32) : Prop := ∃ p' k', p' < tP D ∧ k' ≤ 12 ∧ p = nI p' ∧ k = nI k' ∧ ¬ c < 0 ∧ ¬ mkv (tW D) < c ∧ fmt (tT D) k' t x
theorem mask_c {μ : Mm} {W : Nat} (h : μ.1 700 0 6 = nI W) : f_X7_clockMask μ 0 = some (mkv W) := by
  unfold f_X7_clockMask mkv; rw [h]
theorem fault_no {μ : Mm} {D : Tr} {p k t x c : Int32} (hv : TV D) (hc : CT μ 0 D) (h : ¬ Fo D p k t x c) : f_X7_faultOf μ 0 p k t x c = some (-1) := by
  unfold f_X7_faultOf
  rcases ix2 p (n := tP D) (by have := hv.1; omega) with q | ⟨p', hp, rfl⟩
  · rw [hasP_out hc.1.1 q, obs, if_pos rfl]
  rw [hasP_in hc.1.1 hv.1.2 hp, obs, if_neg i10]
  by_cases c0 : c < 0
  · rw [if_pos c0]
  rw [if_neg c0, mask_c hc.1.2.2, obs]
  by_cases c1 : mkv (tW D) < c
  · rw [if_pos c1]
  rw [if_neg c1]
  rcases ix2 k (n := 13) (by omega) with q | ⟨k', hk, rfl⟩
  · have : f_X7_isFormed μ 0 k t x = some 0 := by
      unfold f_X7_isFormed
      rcases q with q | q
      · rw [if_pos q]
      · by_cases q0 : k < 0
        · rw [if_pos q0]
        · rw [if_neg q0, if_neg]
          rw [leT, show (nI 13).toInt = 13 from by decide] at q
          rw [leT, show (12 : Int32).toInt = 12 from by decide]; omega
    rw [this, obs, if_pos rfl]
  · rcases isFormed_c (t := t) (x := x) hc.1.2.1 hv.2.1.2 (show k' ≤ 12 by omega) with ⟨-, e⟩ | ⟨e, -⟩
    · exact absurd ⟨p', k', hp, by omega, rfl, rfl, c0, c1, e⟩ h
    · rw [e, obs, if_pos rfl]
theorem fault_yes {μ : Mm} {D : Tr} {p k : Nat} {t x c : Int32} (hv : TV D) (hc : CT μ 0 D) (hp : p < tP D) (hk : k ≤ 12) (c0 : ¬ c < 0) (c1 : ¬ mkv (tW D) < c) (hf : fmt (tT D) k t x) : f_X7_faultOf μ 0 (nI p) (nI k) t x c = if (5 : Int32) < nI k then f_X7_faultOf_b61 μ 0 (nI k) t x p 0 else (f_X7_homeOf μ 0 t).bind fun q31 => if q31 = nI p then f_X7_faultOf_b61 μ 0 (nI k) t x p 0 else f_X7_faultOf_b61 μ 0 (nI k) t x p 1 := by
  have hP := hv.1.2
  unfold f_X7_faultOf
  rw [hasP_in hc.1.1 hP hp, obs, if_neg i10, if_neg c0, mask_c hc.1.2.2, obs, if_neg c1]
  rcases isFormed_c (t := t) (x := x) hc.1.2.1 hv.2.1.2 hk with ⟨e, -⟩ | ⟨-, e⟩
  · rw [e, obs, if_neg i10, laneOf_in (show p < 3 by omega), obs, show 3 * 0 + p = p by omega]
  · exact absurd hf e
theorem inc_m {m : Mm} {W : Nat} {c : Int32} (h : m.1 1000 0 3 = nI W) : f_X10_in m c 0 (((1 : Int32) <<< ((m.1 1000 0 3) &&& 31)) - (1 : Int32)) = some (if c < 0 then 0 else if mkv W < c then 0 else 1) := by
  rw [in_eq, h]; rfl
theorem isMark_tail {m : Mm} {D : Tr} {p k : Nat} {t x c : Int32} (hv : TV D) (hm : MT m D) (hp : p < tP D) (hk : k ≤ 12) (c0 : ¬ c < 0) (c1 : ¬ mkv (tW D) < c) : (f_X10_isMark m (nI p) (nI k) t x c = some 1 ∧ fmt (tT D) k t x) ∨ (f_X10_isMark m (nI p) (nI k) t x c = some 0 ∧ ¬ fmt (tT D) k t x) := by
  unfold f_X10_isMark
  have a6 : (6 : Int32) ≤ nI k ↔ 6 ≤ k := leN (a := 6) (by omega) (by omega)
  rw [isP_in hm.1.1 hv.1.2 hp, obs, if_neg i10, show (12 : Int32) = nI 13 - 1 from by decide, in_in (by omega) (show k < 13 by omega), obs, if_neg i10, inc_m hm.1.2.2, if_neg c0, if_neg c1, obs, if_neg i10]
  simp only [a6]
  unfold fmt
  by_cases k5 : k ≤ 5
  · rw [if_neg (by omega), if_pos k5]
    rcases ix2 t (n := tT D) (by have := hv.2.1; omega) with q | ⟨u, hu, rfl⟩
    · right
      rw [isTask_out hm.1.2.1 hv.2.1.2 q, obs]
      refine ⟨?_, fun z => ?_⟩
      · rcases isMark61 (m := m) (x := x) (s := 0) hk (.inl rfl) with ⟨-, e, -⟩ | ⟨e, -⟩
        · exact absurd e (by decide)
        · exact e
      · obtain ⟨⟨u, hu, rfl⟩, -⟩ := z
        have := hv.2.1
        rcases q with q | q
        · exact nN0 (by omega) q
        · exact ngt (by omega) (by omega) hu q
    · rw [isTask_in hm.1.2.1 hv.2.1.2 hu, obs]
      rcases isMark61 (m := m) (x := x) (s := 1) hk (.inr rfl) with ⟨e, -, f⟩ | ⟨e, f⟩
      · exact .inl ⟨e, ⟨u, hu, rfl⟩, f⟩
      · exact .inr ⟨e, fun z => f ⟨rfl, z.2⟩⟩
  · rw [if_pos (by omega), if_neg k5]
    by_cases q : t = -1
    · rw [if_pos q]
      rcases isMark61 (m := m) (x := x) (s := 1) hk (.inr rfl) with ⟨e, -, f⟩ | ⟨e, f⟩
      · exact .inl ⟨e, q, f⟩
      · exact .inr ⟨e, fun z => f ⟨rfl, z.2⟩⟩
    · rw [if_neg q]
      right
      refine ⟨?_, fun z => q z.1⟩
      rcases isMark61 (m := m) (x := x) (s := 0) hk (.inl rfl) with ⟨-, e, -⟩ | ⟨e, -⟩
      · exact absurd e (by decide)
      · exact e
theorem isMark_no {m : Mm} {D : Tr} {p k t x c : Int32} (hv : TV D) (hm : MT m D) (h : ¬ Fo D p k t x c) : f_X10_isMark m p k t x c = some 0 := by
  rcases ix2 p (n := tP D) (by have := hv.1; omega) with q | ⟨p', hp, rfl⟩
  · unfold f_X10_isMark; rw [isP_out hm.1.1 hv.1.2 q, obs, if_pos rfl]
  rcases ix2 k (n := 13) (by omega) with q | ⟨k', hk, rfl⟩
  · unfold f_X10_isMark; rw [isP_in hm.1.1 hv.1.2 hp, obs, if_neg i10, show (12 : Int32) = nI 13 - 1 from by decide, in_out (by omega) q, obs, if_pos rfl]
  by_cases c0 : c < 0
  · unfold f_X10_isMark; rw [isP_in hm.1.1 hv.1.2 hp, obs, if_neg i10, show (12 : Int32) = nI 13 - 1 from by decide, in_in (by omega) hk, obs, if_neg i10, inc_m hm.1.2.2, if_pos c0, obs, if_pos rfl]
  by_cases c1 : mkv (tW D) < c
  · unfold f_X10_isMark; rw [isP_in hm.1.1 hv.1.2 hp, obs, if_neg i10, show (12 : Int32) = nI 13 - 1 from by decide, in_in (by omega) hk, obs, if_neg i10, inc_m hm.1.2.2, if_neg c0, if_pos c1, obs, if_pos rfl]
  rcases isMark_tail (t := t) (x := x) hv hm hp (show k' ≤ 12 by omega) c0 c1 with ⟨-, e⟩ | ⟨e, -⟩
  · exact absurd ⟨p', k', hp, by omega, rfl, rfl, c0, c1, e⟩ h
  · exact e
/-- what a class's mark leaves alone -/
def F1 (μ μ' : Mm) : Prop := (∀ k i j, ¬ (200 ≤ k ∧ k ≤ 403 ∧ i < 3) → ¬ (k = 704 ∧ i = 0) → ¬ (k = 900 ∧ j = 9) → μ'.1 k i j = μ.1 k i j) ∧ (∀ k i j, 300 ≤ k → k ≤ 304 → μ'.1 k i j = μ.1 k i j) ∧ ∀ k i j, k = 601 ∨ k = 1022 → μ'.2 k i j = μ.2 k i j
/-- what a reference's mark leaves alone -/
def F2 (m m' : Mm) : Prop := (∀ k i j, ¬ sc k j → ¬ (k = 1008 ∧ j < 3) → ¬ (1009 ≤ k ∧ k ≤ 1012 ∧ j < 600) → m'.1 k i j = m.1 k i j) ∧ ∀ k i j, k = 601 ∨ k = 1022 → m'.2 k i j = m.2 k i j
theorem F1.rf (μ : Mm) : F1 μ μ := ⟨fun _ _ _ _ _ _ => rfl, fun _ _ _ _ _ => rfl, fun _ _ _ _ => rfl⟩
theorem F2.rf (μ : Mm) : F2 μ μ := ⟨fun _ _ _ _ _ _ => rfl, fun _ _ _ _ => rfl⟩
theorem F1.trans {a b c : Mm} (h : F1 a b) (h2 : F1 b c) : F1 a c := ⟨fun k i j x y z => (h2.1 k i j x y z).trans (h.1 k i j x y z), fun k i j x y => (h2.2.1 k i j x y).trans (h.2.1 k i j x y), fun k i j x => (h2.2.2 k i j x).trans (h.2.2 k i j x)⟩
theorem F2.trans {a b c : Mm} (h : F2 a b) (h2 : F2 b c) : F2 a c := ⟨fun k i j x y z => (h2.1 k i j x y z).trans (h.1 k i j x y z), fun k i j x => (h2.2 k i j x).trans (h.2 k i j x)⟩
theorem SM.f2 {a b : Mm} (h : SM a b) : F2 a b := ⟨fun k i j q _ _ => (h k i j q).1, fun k i j q => (h k i j (by unfold sc; omega)).2⟩
theorem MT.sm {m m' : Mm} {D : Tr} (h : MT m D) (s : SM m m') : MT m' D := h.kept (fun k j z => (s k 0 j (by unfold sc; omega)).1)
theorem MT.ends {F : Nat} {m : Mm} {D : Tr} {p : Nat} (hF : 1000 ≤ F) (hv : TV D) (hm : MT m D) (hp : p < 3) : ∃ m', f_X10_ends F m (nI p) = some m' ∧ SM m m' ∧ RM m' (sq (hmD D p) (tL D p) (zn (tL D p))) := by
  have hL := hv.2.2.2.2.2.1 p hp
  have mL := hm.2.2 p hp
  have hn := mL.2.1
  obtain ⟨m0, e, s0, r1, r2, r3⟩ := startsNow_ok (F := F) (μ := m) (p := nI p) (T := tT D) (by omega) (hv.2.1.2) hm.1.2.1
  have r3 := r3.congr (fun u hu => hm.hm p u hu)
  unfold f_X10_ends
  rw [e, obs]
  obtain ⟨m', e1, i1, i2, i3, i4⟩ := loop_inv (fun N m x => f_X10_ends_b7 F N m (nI p) x) (fun μ => some μ) (zn (tL D p)) (fun j m' => SM m m' ∧ RM m' (sq (hmD D p) (tL D p) j) ∧ HC m' (hmD D p) ∧ m'.1 1000 0 33 = nI p) (by
      intro N m' j hj ⟨i1, i2, i3, i4⟩
      show ∃ s', f_X10_ends_b7 F (N + 1) m' (nI p) (nI j) = f_X10_ends_b7 F N s' (nI p) (nI (j + 1)) ∧ _
      have hM' := mL.kept i1
      rw [f_X10_ends_b7, ra_in hM'.1 (by omega), obs, hM'.2.2.1, if_neg (ngt (by omega) (by omega) hj)]
      obtain ⟨m2, e2, a1, a2, a3, a4⟩ := doesMark_ok (F := F) (by omega) hM' i4 i3 hL.2.1.wf hj i2
      rw [e2, obs, s1]
      exact ⟨m2, rfl, i1.trans a1, a2, a3, a4⟩) (by
      intro N m' ⟨i1, i2, i3, i4⟩
      show f_X10_ends_b7 F (N + 1) m' (nI p) (nI (zn (tL D p))) = _
      have hM' := mL.kept i1
      rw [f_X10_ends_b7, ra_in hM'.1 (by omega), obs, hM'.2.2.1, if_pos (nle (by omega) (by omega) (by omega))]) F 0 m0 (by omega) (by omega) ⟨s0, r1, r3, r2⟩
  have e1 : f_X10_ends_b7 F F m0 (nI p) 0 = some m' := e1
  rw [e1]
  exact ⟨m', rfl, i1, i2⟩
/-- a refusal, on the class's side -/
theorem tell_no {μ : Mm} {D : Tr} {p k t x c r : Int32} (hc : CT μ 0 D) (e : f_X7_faultOf μ 0 p k t x c = some r) (hr : r < 0) : ∃ μ1, f_X9_tellMark μ p k t x c = some (r, μ1) ∧ CT μ1 0 D ∧ F1 μ μ1 ∧ μ1.1 900 0 9 = if r < 0 then μ.1 900 0 9 + 1 else μ.1 900 0 9 := by
  have r0 : ¬ r = 0 := fun z => by subst z; exact absurd hr (by decide)
  refine ⟨wi μ 900 0 9 (μ.1 900 0 9 + 1), ?_, hc.kept (by omega) (fun k i j z => by rw [wi_at, if_neg (by omega)]), ⟨fun k i j x y z => by rw [wi_at, if_neg (by omega)], fun k i j x y => by rw [wi_at, if_neg (by omega)], fun _ _ _ _ => rfl⟩, by rw [wi_at, if_pos ⟨rfl, rfl, rfl⟩, if_pos hr]⟩
  unfold f_X9_tellMark
  rw [e, obs, if_neg r0, wf_eq, obs]
/-- one mark more: the trace -/
def dapp (D : Tr) (p : Nat) (L : La) : Tr := (tP D, tT D, tW D, tH D, tR D, fun q => if q = p then L else tL D q)
theorem dapp_s (D : Tr) (p : Nat) (L : La) : tL (dapp D p L) p = L := if_pos rfl
theorem dapp_n (D : Tr) {p q : Nat} (L : La) (h : ¬ q = p) : tL (dapp D p L) q = tL D q := if_neg h
theorem TV_app {D : Tr} {p k : Nat} {t x m : Int32} (hv : TV D) (hp : p < tP D) (hL : LV (hmD D p) (lapp (tL D p) (nI k) t x m)) (hk : k ≤ 12) (hu : 9 ≤ k → ∀ q i, q < 3 → i < zn (tL D q) → zK (tL D q) i = nI k → ¬ zX (tL D q) i = x) : TV (dapp D p (lapp (tL D p) (nI k) t x m)) := by
  obtain ⟨v1, v2, v3, v4, v5, v6, v7, v8⟩ := hv
  obtain ⟨n0, n1, n2, n3, -⟩ := lapp_n (tL D p) (nI k) t x m
  -- a mark of the longer trace is an old one, or the new one
  have cas : ∀ q i, i < zn (tL (dapp D p (lapp (tL D p) (nI k) t x m)) q) → (i < zn (tL D q) ∧ zK (tL (dapp D p (lapp (tL D p) (nI k) t x m)) q) i = zK (tL D q) i ∧ zX (tL (dapp D p (lapp (tL D p) (nI k) t x m)) q) i = zX (tL D q) i) ∨ (q = p ∧ i = zn (tL D p) ∧ zK (tL (dapp D p (lapp (tL D p) (nI k) t x m)) q) i = nI k ∧ zX (tL (dapp D p (lapp (tL D p) (nI k) t x m)) q) i = x) := fun q i hi => by
    by_cases e : q = p
    · subst e
      rw [dapp_s] at hi ⊢
      rw [n0] at hi
      rcases Nat.lt_or_ge i (zn (tL D q)) with w | w
      · exact .inl ⟨w, (lapp_lt w).1, (lapp_lt w).2.2.1⟩
      · obtain rfl : i = zn (tL D q) := by omega
        exact .inr ⟨rfl, rfl, n1, n3⟩
    · rw [dapp_n D _ e] at hi ⊢
      exact .inl ⟨hi, rfl, rfl⟩
  refine ⟨v1, v2, v3, v4, v5, fun q hq => ?_, fun q hq hq2 => ?_, fun q q' i j c hq hq' hi hj hc e1 e2 e3 => ?_⟩
  · by_cases e : q = p
    · subst e; rw [dapp_s]; exact hL
    · rw [dapp_n D _ e]; exact v6 q hq
  · have hq3 : tP D ≤ q := hq2
    rw [dapp_n D _ (by omega)]; exact v7 q hq hq3
  · have k9 : ∀ {y : Int32}, y = nI k → y = nI (9 + c) → k = 9 + c := fun a b => (eqN (by omega) (by omega)).mp (a.symm.trans b)
    rcases cas q i hi with ⟨a1, a2, a3⟩ | ⟨a1, a2, a3, a4⟩
    · rcases cas q' j hj with ⟨b1, b2', b3⟩ | ⟨b1, b2', b3, b4⟩
      · exact v8 q q' i j c hq hq' a1 b1 hc (a2 ▸ e1) (b2' ▸ e2) (by rw [← a3, ← b3]; exact e3)
      · have := k9 b3 e2
        exact absurd (by rw [← a3, e3, b4]) (hu (by omega) q i hq a1 (by rw [← a2, e1, this]))
    · rcases cas q' j hj with ⟨b1, b2', b3⟩ | ⟨b1, b2', b3, b4⟩
      · have := k9 a3 e1
        exact absurd (by rw [← b3, ← e3, a4]) (hu (by omega) q' j hq' b1 (by rw [← b2', e2, this]))
      · exact ⟨a1.trans b1.symm, a2.trans b2'.symm⟩
