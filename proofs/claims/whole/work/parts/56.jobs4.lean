theorem RM.kept {μ μ' : Mm} {s : Ms} (h : RM μ s) (q : ∀ k j, (1028 ≤ k ∧ k ≤ 1030) ∨ (k = 1000 ∧ (j = 31 ∨ j = 32)) → μ'.1 k 0 j = μ.1 k 0 j) : RM μ' s := by
  obtain ⟨h1, h2, h3, h4, h5⟩ := h
  exact ⟨fun u hu => by rw [q _ _ (by omega)]; exact h1 u hu, fun u hu => by rw [q _ _ (by omega)]; exact h2 u hu, fun u hu => by rw [q _ _ (by omega)]; exact h3 u hu, by rw [q _ _ (by omega)]; exact h4, by rw [q _ _ (by omega)]; exact h5⟩
theorem HC.kept {μ μ' : Mm} {hm : Nat → Bool} (h : HC μ hm) (q : ∀ k j, k = 1031 ∨ (k = 1000 ∧ 34 ≤ j ∧ j ≤ 35) → μ'.1 k 0 j = μ.1 k 0 j) : HC μ' hm := by
  obtain ⟨T, h1, h2, h3⟩ := h
  exact ⟨T, h1, by rw [q _ _ (by omega)]; exact h2, fun u hu => by rw [q _ _ (by omega), q _ _ (by omega)]; exact h3 u hu⟩
/-- the cells that seeking writes, the moment aside -/
def sj (k j : Nat) : Prop := (1038 ≤ k ∧ k ≤ 1041) ∨ (k = 1000 ∧ j = 36)
/-- a block mark of the task's own -/
theorem seek_62 {F g u j : Nat} {m : Mm} {hm : Nat → Bool} {L : La} {a2 a3 a4 a5 : Int32} {s : Js} (K) (hF : 1000 ≤ F) (hV : LV hm L) (hM : ML m g L) (ht : m.1 1000 0 33 = nI g) (hc : HC m hm) (r : RM m (sq hm L j)) (hu : u < 8) (hj : j < zn L) (h : MO a2 a3 a4 a5 (s.1 u)) (hR : MR m (jof u s.2)) (v : JV hm L j s) (v1 : JV hm L (j + 1) (ja hm L j (jm L j s))) :
    ∃ m' b2 b3 b4 b5, f_X10_seeks_b62 F K m (nI u) a2 a3 a4 a5 (nI j) (if zT L j = nI u then 1 else 0) = K m' (nI u) b2 b3 b4 b5 (nI (j + 1)) ∧ ML m' g L ∧ RM m' (sq hm L (j + 1)) ∧ HC m' hm ∧ m'.1 1000 0 33 = nI g ∧ MR m' (jof u (ja hm L j (jm L j s)).2) ∧ (j + 1 < zn L → MO b2 b3 b4 b5 ((ja hm L j (jm L j s)).1 u)) := by
  have hn := hM.2.1
  have hgl := hM.1
  have hg := hV.2.1
  have hw' : zK L j = 0 ∨ zK L j = 2 → ∃ t, t < 8 ∧ zT L j = nI t := fun z => by
    obtain ⟨t, t1, -, t2⟩ := (hg j hj).1 (by rcases z with z | z <;> rw [z] <;> decide)
    exact ⟨t, t1, t2⟩
  have h4 : ((jm L j s).1 u).isSome = true → ¬ dk hm L j = true → ¬ hw (sq hm L (j + 1)) u = 4 := fun a b => (v1.2.2.2 u (by unfold ja; rw [if_neg b]; show (Option.map _ _).isSome = true; rw [Option.isSome_map]; exact a)).1
  have eja : (ja hm L j (jm L j s)).1 u = if dk hm L j = true then none else ((jm L j s).1 u).map (jx hm L j u) := by
    unfold ja; split <;> rfl
  have fin : ∀ {a2 a3 a4 a5 : Int32} {o : Option Jo} {m : Mm} {a7 : Int32}, ML m g L → m.1 1000 0 33 = nI g → HC m hm → RM m (sq hm L j) → MO a2 a3 a4 a5 o → (if zK L j = 0 ∧ ¬ a7 = 0 then some (j, 0, 0) else o) = (jm L j s).1 u → MR m (jof u (jm L j s).2) →
      ∃ m' b2 b3 b4 b5, f_X10_seeks_b143 F K m (nI u) a2 a3 a4 a5 (nI j) a7 = K m' (nI u) b2 b3 b4 b5 (nI (j + 1)) ∧ ML m' g L ∧ RM m' (sq hm L (j + 1)) ∧ HC m' hm ∧ m'.1 1000 0 33 = nI g ∧ MR m' (jof u (ja hm L j (jm L j s)).2) ∧ (j + 1 < zn L → MO b2 b3 b4 b5 ((ja hm L j (jm L j s)).1 u)) := by
    intro a2 a3 a4 a5 o m a7 hM ht hc r h e hR
    obtain ⟨m', b2, b3, b4, b5, e1, s1', r1, c1, t1, o1⟩ := seek_143 (F := F) (a7 := a7) K hF hM ht hc hg r hu hj h (by rw [e]; exact h4)
    refine ⟨m', b2, b3, b4, b5, e1, hM.kept s1', r1, c1, t1, hR.sm s1', fun z => ?_⟩
    rw [eja, ← e]; exact o1 z
  unfold f_X10_seeks_b62
  rw [spot_in ht, obs, ra_in (by omega) (by omega), obs, (hM.2.2.2 j hj).1]
  by_cases mine : zT L j = nI u
  · rw [if_pos mine]
    by_cases k2 : zK L j = 2
    · rw [if_pos k2, if_neg (by decide)]
      have n0 : ¬ (zK L j = 0 ∧ ¬ (1 : Int32) = 0) := fun z => by rw [k2] at z; exact absurd z.1 (by decide)
      rcases h with ⟨e, rfl⟩ | ⟨o, e, rfl, rfl, rfl, rfl⟩
      · rw [if_pos rfl]
        have q := jm_2n mine hu k2 e
        exact fin (o := none) hM ht hc r (.inl ⟨rfl, rfl⟩) (by rw [if_neg n0, q, e]) (by rw [q]; exact hR)
      · rw [if_neg (by decide)]
        obtain ⟨q1, q2⟩ := jm_2s (s := s) mine hu k2 e
        have hl : (jof u s.2).length < 100 := by have := jof_le u s.2; have := v.2.2.1; omega
        have ho := v.1 u o e
        rw [hR.1, wa_in hl (by omega), obs, wi_at, if_neg (by omega), hR.1, wa_in hl (by omega), obs, wi_at, if_neg (by omega), wi_at, if_neg (by omega), hR.1, wa_in hl (by omega), obs, wi_at, if_neg (by omega), wi_at, if_neg (by omega), wi_at, if_neg (by omega), hR.1, wa_in hl (by omega), obs, wi_at, if_neg (by omega), wi_at, if_neg (by omega), wi_at, if_neg (by omega), wi_at, if_neg (by omega), hR.1, wf_eq, obs, s1]
        generalize hm2 : wi (wi (wi (wi (wi m 1038 0 (jof u s.2).length (nI o.1)) 1039 0 (jof u s.2).length (nI j)) 1040 0 (jof u s.2).length o.2.1) 1041 0 (jof u s.2).length o.2.2) 1000 0 36 (nI ((jof u s.2).length + 1)) = m2
        have g2 : ∀ k i' j', ¬ sj k j' → m2.1 k i' j' = m.1 k i' j' := fun k i' j' a => by
          unfold sj at a
          rw [← hm2, wi_at, if_neg (by omega), wi_at, if_neg (by omega), wi_at, if_neg (by omega), wi_at, if_neg (by omega), wi_at, if_neg (by omega)]
        refine fin (m := m2) (o := none) (hM.kept2 (fun k j a b => g2 _ _ _ (by unfold sj; omega))) (by rw [g2 _ _ _ (by unfold sj; omega)]; exact ht) (hc.kept (fun k j a => g2 _ _ _ (by unfold sj; omega))) (r.kept (fun k j a => g2 _ _ _ (by unfold sj; omega))) (.inl ⟨rfl, rfl⟩) (by rw [if_neg n0, q1]) ?_
        rw [q2]
        refine ⟨?_, fun l x hx => ?_⟩
        · rw [← hm2, wi_at, if_pos ⟨rfl, rfl, rfl⟩, List.length_append, List.length_singleton]
        · by_cases z : l = (jof u s.2).length
          · subst z
            rw [List.getElem?_append_right (by omega), Nat.sub_self] at hx
            have hx := Option.some.inj hx
            subst hx
            refine ⟨?_, ?_, ?_, ?_⟩
            · rw [← hm2, wi_at, if_neg (by omega), wi_at, if_neg (by omega), wi_at, if_neg (by omega), wi_at, if_neg (by omega), wi_at, if_pos ⟨rfl, rfl, rfl⟩]
            · rw [← hm2, wi_at, if_neg (by omega), wi_at, if_neg (by omega), wi_at, if_neg (by omega), wi_at, if_pos ⟨rfl, rfl, rfl⟩]
            · rw [← hm2, wi_at, if_neg (by omega), wi_at, if_neg (by omega), wi_at, if_pos ⟨rfl, rfl, rfl⟩]
            · rw [← hm2, wi_at, if_neg (by omega), wi_at, if_pos ⟨rfl, rfl, rfl⟩]
          · have hx' : (jof u s.2)[l]? = some x := by
              have : l < (jof u s.2 ++ [(u, o.1, j, o.2.1, o.2.2)]).length := (List.getElem?_eq_some_iff.mp hx).1
              rw [List.length_append, List.length_singleton] at this
              rw [List.getElem?_append_left (by omega)] at hx; exact hx
            have b : ∀ k, 1038 ≤ k → m2.1 k 0 l = m.1 k 0 l := fun k hk => by
              rw [← hm2, wi_at, if_neg (by omega), wi_at, if_neg (fun q => z q.2.2), wi_at, if_neg (fun q => z q.2.2), wi_at, if_neg (fun q => z q.2.2), wi_at, if_neg (fun q => z q.2.2)]
            rw [b _ (by omega), b _ (by omega), b _ (by omega), b _ (by omega)]
            exact hR.2 l x hx'
    · rw [if_neg k2]
      by_cases k0 : zK L j = 0
      · obtain ⟨q1, q2⟩ := jm_0 (s := s) mine hu k0
        exact fin hM ht hc r h (by rw [if_pos ⟨k0, by decide⟩, q1]) (by rw [q2]; exact hR)
      · obtain ⟨q1, q2⟩ := jm_no (s := s) (u := u) (fun _ => ⟨k0, k2⟩) hw' hu
        exact fin hM ht hc r h (by rw [if_neg (fun z => k0 z.1), q1]) (by rw [q2]; exact hR)
  · rw [if_neg mine]
    obtain ⟨q1, q2⟩ := jm_no (s := s) (u := u) (fun z => absurd z mine) hw' hu
    have := fin (a7 := 0) hM ht hc r h (by rw [if_neg (fun z => z.2 rfl), q1]) (by rw [q2]; exact hR)
    split
    · rw [if_pos rfl]; exact this
    · exact this
theorem seeks_sr {F : Nat} {m m' : Mm} {x : Int32} (e : f_X10_seeks F m x = some m') : SR m m' := fun k i j h => by unfold scr at h; exact (fr_X10_seeks (by omega) (by omega) (by omega) (by omega) (by omega) (by omega) (by omega) (by omega) (by omega) (by omega) (by omega) (by omega) (by omega) (by omega) e)
theorem seeks_ok {F u p : Nat} {μ : Mm} {D : Tr} {C : Nat → Tr} (hF : 1000 ≤ F) (h : Rl μ D C) (hu : u < tT D) (hp : p < 3) (hh : μ.1 1005 0 u = nI p) :
    ∃ μ', f_X10_seeks F μ (nI u) = some μ' ∧ SR μ μ' ∧ MR μ' (jof u (js (hmD D p) (tL D p) (zn (tL D p))).2) ∧ ML μ' p (tL D p) ∧ μ'.1 1000 0 33 = nI p := by
  have hv : TV D := h.1
  have hT := hv.2.1
  have hV : LV (hmD D p) (tL D p) := hv.2.2.2.2.2.1 p hp
  have hn := hV.1
  have key : ∃ μ', f_X10_seeks F μ (nI u) = some μ' ∧ MR μ' (jof u (js (hmD D p) (tL D p) (zn (tL D p))).2) ∧ ML μ' p (tL D p) ∧ μ'.1 1000 0 33 = nI p := by
    unfold f_X10_seeks
    obtain ⟨m, e, s0, r0, t0, c0, M0⟩ := h.startsNow hF hp
    rw [ra_in (by omega) (by omega), obs, hh, e, obs, wf_eq, obs]
    generalize hm2 : wi m 1000 0 36 0 = m2
    have g2 : ∀ k i' j', ¬ sj k j' → m2.1 k i' j' = m.1 k i' j' := fun k i' j' a => by
      unfold sj at a
      rw [← hm2, wi_at, if_neg (by omega)]
    obtain ⟨⟨m', a2, a3, a4, a5⟩, e1, i1, i2, i3, i4, i5, i6⟩ := loop_inv (fun N (s : Mm × Int32 × Int32 × Int32 × Int32) x => f_X10_seeks_b28 F N s.1 (nI u) s.2.1 s.2.2.1 s.2.2.2.1 s.2.2.2.2 x) (fun s => some s.1) (zn (tL D p)) (fun j s => ML s.1 p (tL D p) ∧ RM s.1 (sq (hmD D p) (tL D p) j) ∧ HC s.1 (hmD D p) ∧ s.1.1 1000 0 33 = nI p ∧ MR s.1 (jof u (js (hmD D p) (tL D p) j).2) ∧ (j < zn (tL D p) → MO s.2.1 s.2.2.1 s.2.2.2.1 s.2.2.2.2 ((js (hmD D p) (tL D p) j).1 u))) (by
      intro N ⟨m, a2, a3, a4, a5⟩ j hj ⟨i1, i2, i3, i4, i5, i6⟩
      have i1 : ML m p (tL D p) := i1
      have i4 : m.1 1000 0 33 = nI p := i4
      show ∃ s', f_X10_seeks_b28 F (N + 1) m (nI u) a2 a3 a4 a5 (nI j) = _ ∧ _
      rw [f_X10_seeks_b28, i4, mk_m i1, obs, if_neg (ngt (by omega) (by omega) hj), spot_in i4, obs, ra_in (by omega) (by omega), obs, (i1.2.2.2 j hj).2.1]
      obtain ⟨m', b2, b3, b4, b5, e1, q1, q2, q3, q4, q5, q6⟩ := seek_62 (F := F) (u := u) (fun μ a1 a2 a3 a4 a5 a6 => f_X10_seeks_b28 F N μ a1 a2 a3 a4 a5 a6) hF hV i1 i4 i3 i2 (by omega) hj (i6 hj) i5 (JV_all hV j (by omega)) (JV_all hV (j + 1) (by omega))
      refine ⟨(m', b2, b3, b4, b5), ?_, q1, q2, q3, q4, q5, q6⟩
      refine Eq.trans ?_ e1
      split <;> rfl) (by
      intro N ⟨m, a2, a3, a4, a5⟩ ⟨i1, i2, i3, i4, i5, i6⟩
      have i1 : ML m p (tL D p) := i1
      have i4 : m.1 1000 0 33 = nI p := i4
      show f_X10_seeks_b28 F (N + 1) m (nI u) a2 a3 a4 a5 (nI (zn (tL D p))) = _
      rw [f_X10_seeks_b28, i4, mk_m i1, obs, if_pos (nle (by omega) (by omega) (by omega))]) F 0 (m2, 0, 0, 0, 0) (by omega) (by omega) ⟨M0.kept2 (fun k j a b => g2 _ _ _ (by unfold sj; omega)), r0.kept (fun k j a => g2 _ _ _ (by unfold sj; omega)), c0.kept (fun k j a => g2 _ _ _ (by unfold sj; omega)), by
        show m2.1 1000 0 33 = nI p
        rw [g2 _ _ _ (by unfold sj; omega)]; exact t0, ⟨by
        show m2.1 1000 0 36 = _
        rw [← hm2, wi_at, if_pos ⟨rfl, rfl, rfl⟩]; rfl, fun i x e => absurd e (by simp [js, jof])⟩, fun _ => .inl ⟨rfl, rfl⟩⟩
    have e1 : f_X10_seeks_b28 F F m2 (nI u) 0 0 0 0 (nI 0) = some m' := e1
    exact ⟨m', e1, i5, i1, i4⟩
  obtain ⟨m, e, r⟩ := key
  exact ⟨m, e, seeks_sr e, r⟩
