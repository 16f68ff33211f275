/-! the reference gathers the jobs of a processor -/
def qs (R : List Jb) : Nat → List Jb
  | 0 => []
  | n + 1 => qs R n ++ jof n R
theorem qs_mem {R : List Jb} {x : Jb} : ∀ n, x ∈ qs R n ↔ x ∈ R ∧ x.1 < n
  | 0 => ⟨fun h => absurd h (by simp [qs]), fun h => by omega⟩
  | n + 1 => by
    unfold qs
    rw [List.mem_append, qs_mem n]
    constructor
    · rintro (h | h)
      · exact ⟨h.1, by omega⟩
      · have := jof_mem h; exact ⟨this.1, by omega⟩
    · intro h
      by_cases q : x.1 < n
      · exact .inl ⟨h.1, q⟩
      · right; unfold jof; rw [List.mem_filter, decide_eq_true_iff]; exact ⟨h.1, by omega⟩
theorem qs_len (R : List Jb) : ∀ n, (qs R n).length ≤ R.length := by
  induction R with
  | nil =>
    intro n
    induction n with
    | zero => exact Nat.le_refl _
    | succ n ih => unfold qs; rw [List.length_append]; show _ + 0 ≤ _; exact ih
  | cons x R ih =>
    intro n
    have key : ∀ n, (qs (x :: R) n).length = (qs R n).length + if x.1 < n then 1 else 0 := by
      intro n
      induction n with
      | zero => rfl
      | succ n ihn =>
        unfold qs
        rw [List.length_append, List.length_append, ihn]
        have : (jof n (x :: R)).length = (jof n R).length + if x.1 = n then 1 else 0 := by
          unfold jof
          by_cases q : x.1 = n
          · rw [List.filter_cons_of_pos (by simp [q]), List.length_cons, if_pos q]
          · rw [List.filter_cons_of_neg (by simp [q]), if_neg q]; rfl
        rw [this]
        split <;> split <;> split <;> omega
    have := ih n
    rw [key n, List.length_cons]
    split <;> omega
theorem qs_jof (R : List Jb) (u : Nat) : ∀ n, jof u (qs R n) = if u < n then jof u R else []
  | 0 => rfl
  | n + 1 => by
    unfold qs
    have e1 : jof u (qs R n ++ jof n R) = jof u (qs R n) ++ jof u (jof n R) := by
      conv => lhs; unfold jof
      rw [List.filter_append]; rfl
    rw [e1, qs_jof R u n]
    by_cases q : u = n
    · subst q
      rw [if_neg (by omega), if_pos (by omega), List.nil_append]
      unfold jof; rw [List.filter_filter]; congr 1; funext x; exact Bool.and_self _
    · have e2 : jof u (jof n R) = [] := by
        unfold jof
        rw [List.filter_filter, List.filter_eq_nil_iff]
        intro x _ h
        rw [Bool.and_eq_true, decide_eq_true_iff, decide_eq_true_iff] at h; omega
      rw [e2, List.append_nil]
      by_cases z : u < n
      · rw [if_pos z, if_pos (by omega)]
      · rw [if_neg z, if_neg (by omega)]
theorem jof_pw {L : La} {R : List Jb} (g : JG L R) (n : Nat) : (jof n R).Pairwise Qlt := by
  have h : (jof n R).Pairwise Jlt := List.Pairwise.filter _ g.2.2
  refine List.Pairwise.imp_of_mem (fun {a b} ha hb q => ?_) h
  have e1 := (jof_mem ha).2
  have e2 := (jof_mem hb).2
  exact .inr ⟨by omega, q.2 (by omega)⟩
theorem qs_pw {L : La} {R : List Jb} (g : JG L R) : ∀ n, (qs R n).Pairwise Qlt
  | 0 => List.Pairwise.nil
  | n + 1 => by
    unfold qs
    rw [List.pairwise_append]
    refine ⟨qs_pw g n, jof_pw g n, fun x hx y hy => .inl ?_⟩
    have h1 := ((qs_mem n).mp hx).2
    have h2 := (jof_mem hy).2
    omega
theorem QG_qs {L : La} {R : List Jb} (g : JG L R) {n : Nat} (h : ∀ x, x ∈ R → x.1 < n) : QG R (qs R n) :=
  ⟨Nat.le_trans (qs_len R n) g.1, fun x => by rw [qs_mem]; exact ⟨fun q => q.1, fun q => ⟨q, h x q⟩⟩, qs_pw g n⟩
/-- which job of its task each is -/
def MN (μ : Mm) (R Q : List Jb) : Prop := ∀ (w : Nat) (x : Jb), Q[w]? = some x → ∃ i, i < 1000 ∧ μ.1 1051 0 w = nI i ∧ (jof x.1 R)[i]? = some x
theorem MN.kept {μ μ' : Mm} {R Q : List Jb} (h : MN μ R Q) (q : ∀ j, μ'.1 1051 0 j = μ.1 1051 0 j) : MN μ' R Q := fun w x e => by
  rw [q]; exact h w x e
theorem MR.kept {μ μ' : Mm} {R : List Jb} (h : MR μ R) (q : ∀ k j, (1038 ≤ k ∧ k ≤ 1041) ∨ (k = 1000 ∧ j = 36) → μ'.1 k 0 j = μ.1 k 0 j) : MR μ' R := by
  refine ⟨by rw [q _ _ (by omega)]; exact h.1, fun i x e => ?_⟩
  rw [q 1038 _ (by omega), q 1039 _ (by omega), q 1040 _ (by omega), q 1041 _ (by omega)]
  exact h.2 i x e
/-- one job is written down -/
theorem gath_1 {F p t i : Nat} {m : Mm} {hm : Nat → Bool} {L : La} {R Q J : List Jb} {x : Jb} (K7 : Mm → Int32 → Int32 → Option Mm) (N : Nat) (hV : LV hm L) (g : JG L R) (hJ : J = jof t R) (hQ : Q.length + 1 ≤ 66) (hM : ML m p L) (ht : m.1 1000 0 33 = nI p) (hR : MR m J) (q : MWk m L Q (S0 L)) (n : MN m R Q) (e : J[i]? = some x) :
    ∃ m', f_X10_gathers_b32 F K7 (N + 1) m (nI p) (nI t) (nI i) = f_X10_gathers_b32 F K7 N m' (nI p) (nI t) (nI (i + 1)) ∧ MWk m' L (Q ++ [x]) (S0 L) ∧ MN m' R (Q ++ [x]) ∧ m'.2 = m.2 ∧ ∀ k i j, ¬ 1050 ≤ k → ¬ (k = 1000 ∧ j = 48) → m'.1 k i j = m.1 k i j := by
  have hx := jof_mem (hJ ▸ List.mem_of_getElem? e)
  obtain ⟨s1', s2, s3⟩ := S0_in hV g hx.1
  obtain ⟨-, g2, g3, -⟩ := g.2.1 x hx.1
  have hl : J.length ≤ 66 := by have := jof_le t R; have := g.1; rw [hJ]; omega
  have hi := ix_lt e
  have r := hR.2 i x e
  have hp := hM.1
  have hzn := hM.2.1
  have hq1 := q.1
  have hz := (hM.2.2.2 x.2.1 (by omega)).2.2.2
  rw [f_X10_gathers_b32, hR.1, if_neg (ngt (by omega) (by omega) hi), hq1, wa_in (show Q.length < 400 by omega) (by omega), obs]
  obtain ⟨m1, e1⟩ : ∃ m1, m1 = wi m 1050 0 Q.length (nI t) := ⟨_, rfl⟩
  have f1 : ∀ k i j, ¬ k = 1050 → m1.1 k i j = m.1 k i j := fun k i j a => by rw [e1, wi_at, if_neg (by omega)]
  rw [← e1, f1 _ _ _ (by omega), hq1, wa_in (show Q.length < 400 by omega) (by omega), obs]
  obtain ⟨m2, e2⟩ : ∃ m2, m2 = wi m1 1051 0 Q.length (nI i) := ⟨_, rfl⟩
  have f2 : ∀ k i j, ¬ (1050 ≤ k ∧ k ≤ 1051) → m2.1 k i j = m.1 k i j := fun k i j a => by rw [e2, wi_at, if_neg (by omega), f1 _ _ _ (by omega)]
  rw [← e2, ra_in (show i < 100 by omega) (by omega), obs, f2 1038 _ _ (by omega), r.1, spot_in (by rw [f2 _ _ _ (by omega)]; exact ht), obs, ra_in (show 200 * p + x.2.1 < 4200 by omega) (by omega), obs, f2 1012 _ _ (by omega), hz, f2 1000 _ _ (by omega), hq1, wa_in (show Q.length < 400 by omega) (by omega), obs]
  obtain ⟨m3, e3⟩ : ∃ m3, m3 = wi m2 1052 0 Q.length (zM L x.2.1) := ⟨_, rfl⟩
  have f3 : ∀ k i j, ¬ (1050 ≤ k ∧ k ≤ 1052) → m3.1 k i j = m.1 k i j := fun k i j a => by rw [e3, wi_at, if_neg (by omega), f2 _ _ _ (by omega)]
  rw [← e3, ra_in (show i < 100 by omega) (by omega), obs, f3 1040 _ _ (by omega), r.2.2.1, f3 1000 _ _ (by omega), hq1, wa_in (show Q.length < 400 by omega) (by omega), obs]
  obtain ⟨m4, e4⟩ : ∃ m4, m4 = wi m3 1053 0 Q.length x.2.2.2.1 := ⟨_, rfl⟩
  have f4 : ∀ k i j, ¬ (1050 ≤ k ∧ k ≤ 1053) → m4.1 k i j = m.1 k i j := fun k i j a => by rw [e4, wi_at, if_neg (by omega), f3 _ _ _ (by omega)]
  rw [← e4, ra_in (show i < 100 by omega) (by omega), obs, f4 1040 _ _ (by omega), r.2.2.1, ra_in (show i < 100 by omega) (by omega), obs, f4 1038 _ _ (by omega), r.1, spot_in (by rw [f4 _ _ _ (by omega)]; exact ht), obs, ra_in (show 200 * p + x.2.1 < 4200 by omega) (by omega), obs, f4 1012 _ _ (by omega), hz, f4 1000 _ _ (by omega), hq1]
  have key : ∀ v : Int32, v = (if (S0 L).1 x = 0 then nI ((S0 L).2 x) else -1) → ∃ m', f_X10_gathers_b135 F K7 (fun μ a1 a2 a3 => f_X10_gathers_b32 F K7 N μ a1 a2 a3) m4 (nI p) (nI t) (nI i) v (nI Q.length) = f_X10_gathers_b32 F K7 N m' (nI p) (nI t) (nI (i + 1)) ∧ MWk m' L (Q ++ [x]) (S0 L) ∧ MN m' R (Q ++ [x]) ∧ m'.2 = m.2 ∧ ∀ k i j, ¬ 1050 ≤ k → ¬ (k = 1000 ∧ j = 48) → m'.1 k i j = m.1 k i j := fun v hv => by
    unfold f_X10_gathers_b135
    rw [wa_in (show Q.length < 400 by omega) (by omega), obs]
    obtain ⟨m5, e5⟩ : ∃ m5, m5 = wi m4 1054 0 Q.length v := ⟨_, rfl⟩
    have f5 : ∀ k i j, ¬ (1050 ≤ k ∧ k ≤ 1054) → m5.1 k i j = m.1 k i j := fun k i j a => by rw [e5, wi_at, if_neg (by omega), f4 _ _ _ (by omega)]
    rw [← e5, f5 1000 _ _ (by omega), hq1, wf_eq, obs, s1, s1]
    obtain ⟨m6, e6⟩ : ∃ m6, m6 = wi m5 1000 0 48 (nI (Q.length + 1)) := ⟨_, rfl⟩
    rw [← e6]
    have f6 : ∀ k i j, ¬ k = 1000 → m6.1 k i j = m5.1 k i j := fun k i j a => by rw [e6, wi_at, if_neg (by omega)]
    have old : ∀ k l, ¬ k = 1000 → ¬ l = Q.length → m6.1 k 0 l = m.1 k 0 l := fun k l a b => by
      rw [f6 _ _ _ a, e5, wi_at, if_neg (fun w => b w.2.2), e4, wi_at, if_neg (fun w => b w.2.2), e3, wi_at, if_neg (fun w => b w.2.2), e2, wi_at, if_neg (fun w => b w.2.2), e1, wi_at, if_neg (fun w => b w.2.2)]
    have w0 : m6.1 1050 0 Q.length = nI t := by
      rw [f6 _ _ _ (by omega), e5, wi_at, if_neg (by omega), e4, wi_at, if_neg (by omega), e3, wi_at, if_neg (by omega), e2, wi_at, if_neg (by omega), e1, wi_at, if_pos ⟨rfl, rfl, rfl⟩]
    have w1 : m6.1 1051 0 Q.length = nI i := by
      rw [f6 _ _ _ (by omega), e5, wi_at, if_neg (by omega), e4, wi_at, if_neg (by omega), e3, wi_at, if_neg (by omega), e2, wi_at, if_pos ⟨rfl, rfl, rfl⟩]
    have w2 : m6.1 1052 0 Q.length = zM L x.2.1 := by
      rw [f6 _ _ _ (by omega), e5, wi_at, if_neg (by omega), e4, wi_at, if_neg (by omega), e3, wi_at, if_pos ⟨rfl, rfl, rfl⟩]
    have w3 : m6.1 1053 0 Q.length = x.2.2.2.1 := by
      rw [f6 _ _ _ (by omega), e5, wi_at, if_neg (by omega), e4, wi_at, if_pos ⟨rfl, rfl, rfl⟩]
    have w4 : m6.1 1054 0 Q.length = v := by
      rw [f6 _ _ _ (by omega), e5, wi_at, if_pos ⟨rfl, rfl, rfl⟩]
    have at_ : ∀ (l : Nat) (y : Jb), (Q ++ [x])[l]? = some y → (l = Q.length ∧ y = x) ∨ (¬ l = Q.length ∧ Q[l]? = some y) := fun l y ey => by
      by_cases z : l = Q.length
      · subst z
        rw [List.getElem?_append_right (by omega), Nat.sub_self] at ey
        exact .inl ⟨rfl, (Option.some.inj ey).symm⟩
      · have : l < (Q ++ [x]).length := ix_lt ey
        rw [List.length_append, List.length_singleton] at this
        rw [List.getElem?_append_left (by omega)] at ey
        exact .inr ⟨z, ey⟩
    refine ⟨m6, rfl, ⟨?_, fun l y ey => ?_⟩, fun l y ey => ?_, by rw [e6, wi_2, e5, wi_2, e4, wi_2, e3, wi_2, e2, wi_2, e1, wi_2], fun k i j a b => ?_⟩
    · rw [e6, wi_at, if_pos ⟨rfl, rfl, rfl⟩, List.length_append, List.length_singleton]
    · rcases at_ l y ey with ⟨rfl, rfl⟩ | ⟨z, ey⟩
      · rw [w0, w2, w3, w4]
        exact ⟨by rw [hx.2], by rw [s2, s3], s1', hv⟩
      · rw [old _ _ (by omega) z, old _ _ (by omega) z, old _ _ (by omega) z, old _ _ (by omega) z]; exact q.2 l y ey
    · rcases at_ l y ey with ⟨rfl, rfl⟩ | ⟨z, ey⟩
      · exact ⟨i, by omega, w1, by rw [hx.2, ← hJ]; exact e⟩
      · rw [old _ _ (by omega) z]; exact n l y ey
    · rw [e6, wi_at, if_neg (fun w => b ⟨w.1, w.2.2⟩), f5 _ _ _ (by omega)]
  have hb := (SB_0 L x).1
  by_cases z : (S0 L).1 x = 0
  · rw [if_pos (by rw [s1', z]; rfl)]
    exact key _ (by rw [if_pos z, s2])
  · rw [if_neg (by rw [s1', show (0 : Int32) = nI 0 from rfl, eqN (by omega) (by omega)]; exact z)]
    exact key _ (by rw [if_neg z])
theorem seeks_fr {F : Nat} {m m' : Mm} {x : Int32} (e : f_X10_seeks F m x = some m') : ∀ k i j, 1050 ≤ k ∨ (k = 1000 ∧ j = 48) → m'.1 k i j = m.1 k i j := fun k i j h => (show sm m m' k i j from (fr_X10_seeks (by omega) (by omega) (by omega) (by omega) (by omega) (by omega) (by omega) (by omega) (by omega) (by omega) (by omega) (by omega) (by omega) (by omega) e)).1
theorem gathers_sr {F : Nat} {m m' : Mm} {x : Int32} (e : f_X10_gathers F m x = some m') : SR m m' := fun k i j h => by unfold scr at h; exact (fr_X10_gathers (by omega) (by omega) (by omega) (by omega) (by omega) (by omega) (by omega) (by omega) (by omega) (by omega) (by omega) (by omega) (by omega) (by omega) (by omega) (by omega) (by omega) (by omega) (by omega) (by omega) e)
theorem gathers_ok {F p : Nat} {μ : Mm} {D : Tr} {C : Nat → Tr} {R : List Jb} (hF : 1000 ≤ F) (h : Rl μ D C) (hp : p < 3) (eR : R = (js (hmD D p) (tL D p) (zn (tL D p))).2) (g : JG (tL D p) R) : ∃ μ', f_X10_gathers F μ (nI p) = some μ' ∧ SR μ μ' ∧ MWk μ' (tL D p) (qs R (tT D)) (S0 (tL D p)) ∧ MN μ' R (qs R (tT D)) := by
  have hv : TV D := h.1
  have hT := hv.2.1
  have hV : LV (hmD D p) (tL D p) := hv.2.2.2.2.2.1 p hp
  have hmR : ∀ x, x ∈ R → hmD D p x.1 = true := fun x hx => by rw [eR] at hx; exact ((JV_all hV _ (Nat.le_refl _)).2.1 x hx).2.1
  have key : ∃ μ', f_X10_gathers F μ (nI p) = some μ' ∧ MWk μ' (tL D p) (qs R (tT D)) (S0 (tL D p)) ∧ MN μ' R (qs R (tT D)) := by
    unfold f_X10_gathers
    rw [wf_eq, obs]
    obtain ⟨m', e, i1, i2, i3⟩ := loop_inv (fun N m x => f_X10_gathers_b7 F N m (nI p) x) (fun m => some m) (tT D) (fun t m => SR μ m ∧ MWk m (tL D p) (qs R t) (S0 (tL D p)) ∧ MN m R (qs R t)) (by
      intro N m t htT ⟨i1, i2, i3⟩
      show ∃ s', f_X10_gathers_b7 F (N + 1) m (nI p) (nI t) = f_X10_gathers_b7 F N s' (nI p) (nI (t + 1)) ∧ _
      have r : Rl m D C := h.kept i1
      have hh : m.1 1005 0 t = tH D t := (r.2.2.1.2.1 t (by omega)).1
      rw [f_X10_gathers_b7, r.2.2.1.1.2.1, if_neg (ngt (by omega) (by omega) htT), ra_in (show t < 8 by omega) (by omega), obs, hh]
      by_cases z : tH D t = nI p
      · rw [if_pos z]
        obtain ⟨m2, e2, s2, r2, M2, t2⟩ := seeks_ok hF r htT hp (hh.trans z)
        rw [e2, obs]
        have f2 := seeks_fr e2
        have hql : ∀ i, i ≤ (jof t R).length → (qs R t ++ (jof t R).take i).length ≤ 66 := fun i hi => by
          have a := qs_len R (t + 1)
          unfold qs at a
          rw [List.length_append] at a ⊢
          rw [List.length_take]
          have := g.1
          omega
        rw [← eR] at r2
        obtain ⟨m3, e3, j1, j2, j3, j4, j5, j6⟩ := loop_inv (fun N' m x => f_X10_gathers_b32 F (fun μ a1 a2 => f_X10_gathers_b7 F N μ a1 a2) N' m (nI p) (nI t) x) (fun m => f_X10_gathers_b7 F N m (nI p) (nI t + 1)) (jof t R).length (fun i m => SR μ m ∧ MR m (jof t R) ∧ ML m p (tL D p) ∧ m.1 1000 0 33 = nI p ∧ MWk m (tL D p) (qs R t ++ (jof t R).take i) (S0 (tL D p)) ∧ MN m R (qs R t ++ (jof t R).take i)) (by
          intro N' m4 i hi ⟨j1, j2, j3, j4, j5, j6⟩
          have e : (jof t R)[i]? = some (jof t R)[i] := List.getElem?_eq_getElem hi
          generalize (jof t R)[i] = x at e
          have et : (jof t R).take (i + 1) = (jof t R).take i ++ [x] := by rw [List.take_succ, e]; rfl
          have hl1 := hql (i + 1) hi
          rw [et, ← List.append_assoc, List.length_append, List.length_singleton] at hl1
          obtain ⟨m5, e5, k1, k2, k4, k3⟩ := gath_1 (F := F) (fun μ a1 a2 => f_X10_gathers_b7 F N μ a1 a2) N' hV g rfl hl1 j3 j4 j2 j5 j6 e
          refine ⟨m5, e5, j1.trans (fun k i j a => ⟨k3 _ _ _ (by unfold scr at a; omega) (by unfold scr at a; omega), by rw [k4]⟩), j2.kept (fun k j a => k3 _ _ _ (by omega) (by omega)), j3.kept2 (fun k j a b => k3 _ _ _ (by omega) (by omega)), by rw [k3 _ _ _ (by omega) (by omega)]; exact j4, ?_, ?_⟩
          · rw [et, ← List.append_assoc]; exact k1
          · rw [et, ← List.append_assoc]; exact k2) (by
          intro N' m4 ⟨_, j2, _⟩
          show f_X10_gathers_b32 F _ (N' + 1) m4 (nI p) (nI t) (nI (jof t R).length) = _
          have := jof_le t R
          have := g.1
          rw [f_X10_gathers_b32, j2.1, if_pos (nle (by omega) (by omega) (by omega))]) F 0 m2 (by have := jof_le t R; have := g.1; omega) (by omega) ⟨i1.trans s2, r2, M2, t2, by rw [List.take_zero, List.append_nil]; exact i2.kept (fun k j a => f2 _ _ _ (by omega)), by rw [List.take_zero, List.append_nil]; exact i3.kept (fun j => f2 _ _ _ (by omega))⟩
        rw [List.take_length] at j5 j6
        refine ⟨m3, ?_, j1, j5, j6⟩
        rw [← s1]; exact e3
      · rw [if_neg z, s1]
        have e0 : jof t R = [] := by
          unfold jof
          rw [List.filter_eq_nil_iff]
          intro x hx hd
          rw [decide_eq_true_iff] at hd
          have := hmR x hx
          rw [hd] at this
          unfold hmD hmf at this
          rw [decide_eq_true_iff] at this
          exact z this.2
        refine ⟨m, rfl, i1, ?_, ?_⟩
        · unfold qs; rw [e0, List.append_nil]; exact i2
        · unfold qs; rw [e0, List.append_nil]; exact i3) (by
      intro N m ⟨i1, _⟩
      show f_X10_gathers_b7 F (N + 1) m (nI p) (nI (tT D)) = _
      rw [f_X10_gathers_b7, (h.kept i1).2.2.1.1.2.1, if_pos (nle (by omega) (by omega) (by omega))]) F 0 (wi μ 1000 0 48 0) (by omega) (by omega) ⟨fun k i j a => ⟨by unfold scr at a; rw [wi_at, if_neg (by omega)], rfl⟩, ⟨by rw [wi_at, if_pos ⟨rfl, rfl, rfl⟩]; rfl, fun w x e => absurd e (by simp [qs])⟩, fun w x e => absurd e (by simp [qs])⟩
    exact ⟨m', e, i2, i3⟩
  obtain ⟨m, e, a, b⟩ := key
  exact ⟨m, e, gathers_sr e, a, b⟩
