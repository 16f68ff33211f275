/-- the reference's rows: what it writes beside them -/
def KB (m m' : Mm) : Prop := ∀ k i j, ¬ (k = 1044 ∨ k = 1045) → ¬ (k = 1000 ∧ (j = 41 ∨ j = 42)) → m'.1 k i j = m.1 k i j
theorem KB.ml {m m' : Mm} {g : Nat} {L : La} (h : KB m m') (hM : ML m g L) : ML m' g L := hM.kept2 (fun k j a b => h _ _ _ (by omega) (by omega))
theorem KB.tr {m m' : Mm} {g : Nat} (h : KB m m') (ht : m.1 1000 0 33 = nI g) : m'.1 1000 0 33 = nI g := by rw [h _ _ _ (by omega) (by omega)]; exact ht
theorem apart_m {F : Nat} {μ : Mm} {g u : Nat} {L : La} {d : Int32} (hF : 1000 ≤ F) (hM : ML μ g L) (ht : μ.1 1000 0 33 = nI g) (hu : u < 8) (hB : MB μ ([], [])) : ∃ μ', f_X10_follows F μ (nI u) d = some μ' ∧ MB μ' (apS L u d (zn L)).2.2 := by
  have hn := hM.2.1
  have hgl := hM.1
  unfold f_X10_follows
  obtain ⟨⟨m', a4, a5⟩, e, i1, i2, i3⟩ := loop_inv (fun N (s : Mm × Int32 × Int32) x => f_X10_follows_b8 F N s.1 (nI u) d s.2.1 s.2.2 x) (fun s => some s.1) (zn L) (fun j s => ML s.1 g L ∧ s.1.1 1000 0 33 = nI g ∧ MB s.1 (apS L u d j).2.2 ∧ s.2.1 = obi (apS L u d j).1 ∧ s.2.2 = b2 (apS L u d j).2.1) (by
    intro N ⟨m, a4, a5⟩ j hj ⟨i1, t1, i2, i3, i4⟩
    obtain ⟨w1, w2⟩ := apS_le L u d j
    have i1 : ML m g L := i1
    have t1 : m.1 1000 0 33 = nI g := t1
    have i2 : MB m (apS L u d j).2.2 := i2
    have i3 : a4 = obi (apS L u d j).1 := i3
    have i4 : a5 = b2 (apS L u d j).2.1 := i4
    show ∃ s' : Mm × Int32 × Int32, f_X10_follows_b8 F (N + 1) m (nI u) d a4 a5 (nI j) = f_X10_follows_b8 F N s'.1 (nI u) d s'.2.1 s'.2.2 (nI (j + 1)) ∧ _
    rw [f_X10_follows_b8, t1, mk_m i1, obs, if_neg (ngt (by omega) (by omega) hj), spot_in t1, obs, ra_in (by omega) (by omega), obs, (i1.2.2.2 j hj).1]
    have key : ∃ s' : Mm × Int32 × Int32, f_X10_follows_b48 F (fun μ a1 a2 a3 a4 a5 => f_X10_follows_b8 F N μ a1 a2 a3 a4 a5) m (nI u) d a4 (nI j) (b2 ((apS L u d j).2.1 || decide (zK L j = 8))) = f_X10_follows_b8 F N s'.1 (nI u) d s'.2.1 s'.2.2 (nI (j + 1)) ∧ ML s'.1 g L ∧ s'.1.1 1000 0 33 = nI g ∧ MB s'.1 (apS L u d (j + 1)).2.2 ∧ s'.2.1 = obi (apS L u d (j + 1)).1 ∧ s'.2.2 = b2 (apS L u d (j + 1)).2.1 := by
      unfold f_X10_follows_b48 f_X10_follows_b111 f_X10_follows_b136
      rw [is_in i1 t1 hj hu, obs, s1]
      show ∃ s' : Mm × Int32 × Int32, _ ∧ ML s'.1 g L ∧ s'.1.1 1000 0 33 = nI g ∧ MB s'.1 (apG L u d j (apS L u d j)).2.2 ∧ s'.2.1 = obi (apG L u d j (apS L u d j)).1 ∧ s'.2.2 = b2 (apG L u d j (apS L u d j)).2.1
      unfold apG
      by_cases q : zK L j = 0 ∧ zT L j = nI u
      · rw [if_pos q, if_pos q, if_neg (by decide), i3]
        cases e : (apS L u d j).1 with
        | none =>
          rw [if_pos (show obi none = -1 from rfl), if_pos (show obi none = -1 from rfl)]
          exact ⟨(m, nI j, 0), rfl, i1, t1, i2, rfl, rfl⟩
        | some k =>
          have hk := w2 k e
          have ne : ¬ obi (some k) = -1 := nn1 (show k < 1000000 by omega)
          rw [if_neg ne, if_neg ne, show obi (some k) = nI k from rfl]
          simp only [spot_in t1, obs, ra_in (show 200 * g + j < 4200 by omega) (show 4200 < 2147483648 by omega), ra_in (show 200 * g + k < 4200 by omega) (show 4200 < 2147483648 by omega), (i1.2.2.2 j hj).2.2.2, (i1.2.2.2 k (by omega)).2.2.2]
          unfold apP
          by_cases z : d ≤ zM L j - zM L k
          · rw [if_pos z, if_pos z]
            cases hl : ((apS L u d j).2.1 || decide (zK L j = 8)) with
            | false =>
              rw [if_pos (show b2 false = 0 from rfl), if_neg (by decide)]
              exact ⟨(m, nI j, 0), rfl, i1, t1, i2, rfl, rfl⟩
            | true =>
              rw [if_neg (show ¬ b2 true = 0 by decide), if_pos rfl]
              obtain ⟨m2, e2, b2', f2⟩ := maybeM_ok i2 (by omega) (zM L k)
              have kb : KB m m2 := fun k i j a b => f2 _ _ _ (by omega) (by omega)
              rw [e2, obs]
              exact ⟨(m2, nI j, 0), rfl, kb.ml i1, kb.tr t1, b2', rfl, rfl⟩
          · rw [if_neg z, if_neg z]
            obtain ⟨m2, e2, b2', f2⟩ := sureM_ok i2 (by omega) (zM L k)
            have kb : KB m m2 := fun k i j a b => f2 _ _ _ (by omega) (by omega)
            rw [e2, obs]
            exact ⟨(m2, nI j, 0), rfl, kb.ml i1, kb.tr t1, b2', rfl, rfl⟩
      · rw [if_neg q, if_neg q, if_pos rfl]
        exact ⟨(m, a4, _), rfl, i1, t1, i2, i3, rfl⟩
    rw [i4]
    cases hl : (apS L u d j).2.1 with
    | true =>
      rw [if_neg (show ¬ b2 true = 0 by decide)]
      rw [hl] at key; exact key
    | false =>
      rw [if_pos (show b2 false = 0 from rfl)]
      rw [hl, b2_or] at key
      by_cases k8 : zK L j = 8
      · rw [if_pos k8] at key ⊢; exact key
      · rw [if_neg k8] at key ⊢; exact key) (by
    intro N ⟨m, a4, a5⟩ ⟨i1, t1, _⟩
    have i1 : ML m g L := i1
    have t1 : m.1 1000 0 33 = nI g := t1
    show f_X10_follows_b8 F (N + 1) m (nI u) d a4 a5 (nI (zn L)) = _
    rw [f_X10_follows_b8, t1, mk_m i1, obs, if_pos (nle (by omega) (by omega) (by omega))]) F 0 (μ, -1, 0) (by omega) (by omega) ⟨hM, ht, hB, rfl, rfl⟩
  exact ⟨m', e, i3.1⟩
