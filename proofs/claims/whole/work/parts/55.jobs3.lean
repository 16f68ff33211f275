/-! THE REFERENCE seeks the jobs of one task -/
def jof (u : Nat) (R : List Jb) : List Jb := R.filter (fun x => decide (x.1 = u))
def MR (μ : Mm) (R : List Jb) : Prop := μ.1 1000 0 36 = nI R.length ∧ ∀ (i : Nat) (x : Jb), R[i]? = some x → μ.1 1038 0 i = nI x.2.1 ∧ μ.1 1039 0 i = nI x.2.2.1 ∧ μ.1 1040 0 i = x.2.2.2.1 ∧ μ.1 1041 0 i = x.2.2.2.2
def MO (a2 a3 a4 a5 : Int32) (o : Option Jo) : Prop := (o = none ∧ a2 = 0) ∨ ∃ x : Jo, o = some x ∧ a2 = 1 ∧ a3 = nI x.1 ∧ a4 = x.2.1 ∧ a5 = x.2.2
theorem MR.sm {μ μ' : Mm} {R : List Jb} (h : MR μ R) (s : SM μ μ') : MR μ' R := by
  have q : ∀ k j, (1038 ≤ k ∧ k ≤ 1041) ∨ (k = 1000 ∧ j = 36) → μ'.1 k 0 j = μ.1 k 0 j := fun k j a => (s k 0 j (by unfold sc; omega)).1
  refine ⟨by rw [q _ _ (by omega)]; exact h.1, fun i x e => ?_⟩
  rw [q 1038 _ (by omega), q 1039 _ (by omega), q 1040 _ (by omega), q 1041 _ (by omega)]
  exact h.2 i x e
theorem ca_4 {s : Ms} {d : Bool} {u : Nat} : ca s d u = 4 ↔ d = true ∨ hw s u = 4 := by
  unfold ca
  by_cases e : d = true
  · rw [if_pos e]; exact ⟨fun _ => .inl e, fun _ => rfl⟩
  · rw [if_neg e]
    by_cases q : hw s u = 2
    · rw [if_pos q, q]
      refine ⟨fun z => ?_, fun z => ?_⟩
      · split at z <;> exact absurd z (by decide)
      · rcases z with z | z
        · exact absurd z e
        · exact absurd z (by decide)
    · rw [if_neg q]; exact ⟨.inr, fun z => z.elim (fun z => absurd z e) id⟩
/-- the stretch behind a mark -/
theorem seek_179 {F g u j : Nat} {m : Mm} {hm : Nat → Bool} {L : La} {a2 a3 a4 a5 : Int32} {o : Option Jo} (K) (hM : ML m g L) (ht : m.1 1000 0 33 = nI g) (r : RM m (sq hm L (j + 1))) (hu : u < 8) (hj : j < zn L) (h : MO a2 a3 a4 a5 o) (h4 : o.isSome = true → ¬ dk hm L j = true → ¬ hw (sq hm L (j + 1)) u = 4) :
    ∃ b2 b3 b4 b5, f_X10_seeks_b179 F K m (nI u) a2 a3 a4 a5 (nI j) = K m (nI u) b2 b3 b4 b5 (nI (j + 1)) ∧ (j + 1 < zn L → MO b2 b3 b4 b5 (if dk hm L j = true then none else o.map (jx hm L j u))) := by
  have hn := hM.2.1
  unfold f_X10_seeks_b179
  rw [ht, mk_m hM, obs, s1]
  by_cases q : j + 1 < zn L
  · rw [if_neg (ngt (by omega) (by omega) q), isDark_m hM ht r q, obs, countsAs_m r hu, obs]
    have key : ∀ s0 : Int32, ∃ b4 b5, f_X10_seeks_b223 F K m (nI u) a3 a4 a5 (nI j) (ca (sq hm L (j + 1)) (dk hm L j) u) s0 = K m (nI u) s0 a3 b4 b5 (nI (j + 1)) ∧ b4 = (if ca (sq hm L (j + 1)) (dk hm L j) u = 2 then a4 + ln L j else a4) ∧ b5 = (if ca (sq hm L (j + 1)) (dk hm L j) u = 3 then a5 + ln L j else a5) := by
      intro s0
      unfold f_X10_seeks_b223 f_X10_seeks_b242
      by_cases q2 : ca (sq hm L (j + 1)) (dk hm L j) u = 2
      · simp only [q2, if_pos]
        rw [stretch_m hM ht q, obs, if_neg (by decide), s1, add0]
        exact ⟨_, _, rfl, rfl, by rw [if_neg (by decide)]⟩
      · rw [if_neg q2, if_neg q2]
        by_cases q3 : ca (sq hm L (j + 1)) (dk hm L j) u = 3
        · rw [if_pos q3, if_pos q3, stretch_m hM ht q, obs, s1, add0]
          exact ⟨_, _, rfl, rfl, rfl⟩
        · rw [if_neg q3, if_neg q3, s1, add0, add0]
          exact ⟨_, _, rfl, rfl, rfl⟩
    rcases h with ⟨e, rfl⟩ | ⟨x, e, rfl, rfl, rfl, rfl⟩
    · rw [if_pos rfl]
      obtain ⟨b4, b5, e1, -⟩ := key 0
      refine ⟨_, _, _, _, e1, fun _ => .inl ⟨?_, rfl⟩⟩
      rw [e]; split <;> rfl
    · rw [if_neg (by decide)]
      by_cases c4 : ca (sq hm L (j + 1)) (dk hm L j) u = 4
      · rw [if_pos c4]
        obtain ⟨b4, b5, e1, -⟩ := key 0
        refine ⟨_, _, _, _, e1, fun _ => .inl ⟨?_, rfl⟩⟩
        rcases ca_4.mp c4 with d | d
        · rw [if_pos d]
        · by_cases d' : dk hm L j = true
          · rw [if_pos d']
          · exact absurd d (h4 (by rw [e]; rfl) d')
      · rw [if_neg c4]
        obtain ⟨b4, b5, e1, e2, e3⟩ := key 1
        refine ⟨_, _, _, _, e1, fun _ => .inr ⟨jx hm L j u x, ?_, rfl, rfl, ?_, ?_⟩⟩
        · rw [if_neg (fun d => c4 (ca_4.mpr (.inl d))), e]; rfl
        · rw [e2]; rfl
        · rw [e3]; rfl
  · rw [if_pos (nle (by omega) (by omega) (by omega))]
    exact ⟨_, _, _, _, rfl, fun z => absurd z q⟩
/-- behind the block: the mark is done, a job may begin -/
theorem seek_143 {F g u j : Nat} {m : Mm} {hm : Nat → Bool} {L : La} {a2 a3 a4 a5 a7 : Int32} {o : Option Jo} (K) (hF : 1000 ≤ F) (hM : ML m g L) (ht : m.1 1000 0 33 = nI g) (hc : HC m hm) (hg : WG hm L) (r : RM m (sq hm L j)) (hu : u < 8) (hj : j < zn L) (h : MO a2 a3 a4 a5 o)
    (h4 : (if zK L j = 0 ∧ ¬ a7 = 0 then some (j, 0, 0) else o).isSome = true → ¬ dk hm L j = true → ¬ hw (sq hm L (j + 1)) u = 4) :
    ∃ m' b2 b3 b4 b5, f_X10_seeks_b143 F K m (nI u) a2 a3 a4 a5 (nI j) a7 = K m' (nI u) b2 b3 b4 b5 (nI (j + 1)) ∧ SM m m' ∧ RM m' (sq hm L (j + 1)) ∧ HC m' hm ∧ m'.1 1000 0 33 = nI g ∧ (j + 1 < zn L → MO b2 b3 b4 b5 (if dk hm L j = true then none else (if zK L j = 0 ∧ ¬ a7 = 0 then some (j, 0, 0) else o).map (jx hm L j u))) := by
  have hn := hM.2.1
  have hgl := hM.1
  obtain ⟨m', e, s, r', c', t'⟩ := doesMark_ok (F := F) (by omega) hM ht hc hg.wf hj r
  have hM' := hM.kept s
  unfold f_X10_seeks_b143
  rw [e, obs, spot_in t', obs, ra_in (by omega) (by omega), obs, (hM'.2.2.2 j hj).1]
  by_cases k0 : zK L j = 0
  · rw [if_pos k0]
    by_cases k7 : a7 = 0
    · rw [if_pos k7]
      have ez : (if zK L j = 0 ∧ ¬ a7 = 0 then some ((j, 0, 0) : Jo) else o) = o := if_neg (fun z => z.2 k7)
      rw [ez] at h4 ⊢
      obtain ⟨b2, b3, b4, b5, e1, e2⟩ := seek_179 (F := F) K hM' t' r' hu hj h h4
      exact ⟨m', b2, b3, b4, b5, e1, s, r', c', t', e2⟩
    · rw [if_neg k7]
      have ez : (if zK L j = 0 ∧ ¬ a7 = 0 then some ((j, 0, 0) : Jo) else o) = some (j, 0, 0) := if_pos ⟨k0, k7⟩
      rw [ez] at h4 ⊢
      obtain ⟨b2, b3, b4, b5, e1, e2⟩ := seek_179 (F := F) (a2 := 1) (a3 := nI j) (a4 := 0) (a5 := 0) K hM' t' r' hu hj (.inr ⟨(j, 0, 0), rfl, rfl, rfl, rfl, rfl⟩) h4
      exact ⟨m', b2, b3, b4, b5, e1, s, r', c', t', e2⟩
  · rw [if_neg k0]
    have ez : (if zK L j = 0 ∧ ¬ a7 = 0 then some ((j, 0, 0) : Jo) else o) = o := if_neg (fun z => k0 z.1)
    rw [ez] at h4 ⊢
    obtain ⟨b2, b3, b4, b5, e1, e2⟩ := seek_179 (F := F) K hM' t' r' hu hj h h4
    exact ⟨m', b2, b3, b4, b5, e1, s, r', c', t', e2⟩
/-- what a mark is to one task's jobs -/
theorem jm_no {L : La} {j u : Nat} {s : Js} (h : zT L j = nI u → ¬ zK L j = 0 ∧ ¬ zK L j = 2) (hw : zK L j = 0 ∨ zK L j = 2 → ∃ t, t < 8 ∧ zT L j = nI t) (hu : u < 8) : (jm L j s).1 u = s.1 u ∧ jof u (jm L j s).2 = jof u s.2 := by
  unfold jm
  by_cases k0 : zK L j = 0
  · obtain ⟨t, t1, t2⟩ := hw (.inl k0)
    have ne : ¬ u = t := fun z => (h (by rw [t2, z])).1 k0
    rw [if_pos k0, t2, clN (by omega)]
    refine ⟨?_, rfl⟩
    show ju s.1 t _ u = _
    unfold ju; rw [if_neg ne]
  · rw [if_neg k0]
    by_cases k2 : zK L j = 2
    · obtain ⟨t, t1, t2⟩ := hw (.inr k2)
      have ne : ¬ u = t := fun z => (h (by rw [t2, z])).2 k2
      rw [if_pos k2, t2, clN (by omega)]
      cases e : s.1 t with
      | none => exact ⟨rfl, rfl⟩
      | some o =>
        refine ⟨?_, ?_⟩
        · show ju s.1 t _ u = _
          unfold ju; rw [if_neg ne]
        · show jof u (s.2 ++ [_]) = _
          unfold jof
          rw [List.filter_append, List.filter_cons_of_neg (by simp; omega), List.filter_nil, List.append_nil]
    · rw [if_neg k2]; exact ⟨rfl, rfl⟩
theorem jm_0 {L : La} {j u : Nat} {s : Js} (h : zT L j = nI u) (hu : u < 8) (k : zK L j = 0) : (jm L j s).1 u = some (j, 0, 0) ∧ jof u (jm L j s).2 = jof u s.2 := by
  unfold jm
  rw [if_pos k, h, clN (by omega)]
  exact ⟨by show ju s.1 u _ u = _; unfold ju; rw [if_pos rfl], rfl⟩
theorem jm_2n {L : La} {j u : Nat} {s : Js} (h : zT L j = nI u) (hu : u < 8) (k : zK L j = 2) (e : s.1 u = none) : jm L j s = s := by
  unfold jm
  rw [if_neg (by rw [k]; decide), if_pos k, h, clN (by omega), e]
theorem jm_2s {L : La} {j u : Nat} {s : Js} {o : Jo} (h : zT L j = nI u) (hu : u < 8) (k : zK L j = 2) (e : s.1 u = some o) : (jm L j s).1 u = none ∧ jof u (jm L j s).2 = jof u s.2 ++ [(u, o.1, j, o.2.1, o.2.2)] := by
  unfold jm
  rw [if_neg (by rw [k]; decide), if_pos k, h, clN (by omega), e]
  refine ⟨by show ju s.1 u _ u = _; unfold ju; rw [if_pos rfl], ?_⟩
  show jof u (s.2 ++ [_]) = _
  unfold jof
  rw [List.filter_append, List.filter_cons_of_pos (by simp), List.filter_nil]
theorem jof_le (u : Nat) (R : List Jb) : (jof u R).length ≤ R.length := List.length_filter_le _ _
