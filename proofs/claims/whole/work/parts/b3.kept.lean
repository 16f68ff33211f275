/-! no call but keep touches a tape's kept -/
def KP (μ z : Mm) : Prop := ∀ d : Nat, z.1 600 d 3 = μ.1 600 d 3
theorem KP.rf (μ : Mm) : KP μ μ := fun _ => rfl
theorem KP.tr {a b c : Mm} (h1 : KP a b) (h2 : KP b c) : KP a c := fun d => (h2 d).trans (h1 d)
theorem kp_X2_become_b93 {μ z : Mm} {a b : Nat} (hf : f_X2_become_b93 μ a b = some z) : KP μ z := by
  unfold f_X2_become_b93 at hf
  obtain ⟨q, e, hf⟩ := ob hf
  obtain rfl := Option.some.inj hf
  exact fun d => ((fr_X4_become (by omega) (by omega) (by omega) (by omega) (by omega) e)).1
theorem kp_cpI {μ z : Mm} {k a n k' a' n' : Nat} {x y v : Int32} (h : ¬ k' = 600) (e : cpI μ k a n k' a' n' x y v = some z) : KP μ z := fun d => (fr_cpI (k := 600) (i := d) (j := 3) (fun w => h w.1.symm) e).1
theorem kp_wf {μ z : Mm} {c a b : Nat} {v : Int32} (h : ¬ c = 600) (e : wf μ c a b v = some z) : KP μ z := fun d => (fr_wf (k := 600) (i := d) (j := 3) (fun w => h w.1.symm) e).1
theorem kp_wa {μ z : Mm} {c a n : Nat} {x v : Int32} (h : ¬ c = 600) (e : wa μ c a n x v = some z) : KP μ z := fun d => (fr_wa (k := 600) (i := d) (j := 3) (fun w => h w.1.symm) e).1
theorem kp_X2_become {μ z : Mm} {a b : Nat} (hf : f_X2_become μ a b = some z) : KP μ z := by
  unfold f_X2_become at hf
  obtain ⟨q, e, hf⟩ := ob hf
  refine (kp_wf (by decide) e).tr ?_
  rcases oi hf with hf | hf
  · exact kp_X2_become_b93 hf
  rcases oi hf with hf | hf
  · exact kp_X2_become_b93 hf
  obtain ⟨q1, e1, hf⟩ := ob hf
  obtain ⟨q2, e2, hf⟩ := ob hf
  obtain ⟨q3, e3, hf⟩ := ob hf
  obtain ⟨q4, e4, hf⟩ := ob hf
  exact (kp_cpI (by decide) e1).tr ((kp_cpI (by decide) e2).tr ((kp_cpI (by decide) e3).tr ((kp_cpI (by decide) e4).tr (kp_X2_become_b93 hf))))
theorem kp_b72 {F N : Nat} : ∀ {μ z : Mm} {a b : Nat} {x : Int32}, f_X7_become_b72 F N μ a b x = some z → KP μ z := by
  induction N with
  | zero => intro μ z a b x h; unfold f_X7_become_b72 at h; cases h
  | succ N ih =>
    intro μ z a b x h
    unfold f_X7_become_b72 at h
    rcases oi h with h | h
    · obtain rfl := Option.some.inj h; exact KP.rf _
    · obtain ⟨q1, e1, h⟩ := ob h
      obtain ⟨q2, e2, h⟩ := ob h
      obtain ⟨q3, e3, h⟩ := ob h
      exact (kp_X2_become e3).tr (ih h)
theorem kp_X7_become {F : Nat} {μ z : Mm} {a b : Nat} (hf : f_X7_become F μ a b = some z) : KP μ z := by
  unfold f_X7_become at hf
  obtain ⟨q1, e1, hf⟩ := ob hf
  obtain ⟨q2, e2, hf⟩ := ob hf
  obtain ⟨q3, e3, hf⟩ := ob hf
  obtain ⟨q4, e4, hf⟩ := ob hf
  obtain ⟨q5, e5, hf⟩ := ob hf
  obtain ⟨q6, e6, hf⟩ := ob hf
  exact (kp_wf (by decide) e1).tr ((kp_wf (by decide) e2).tr ((kp_wf (by decide) e3).tr ((kp_cpI (by decide) e4).tr ((kp_cpI (by decide) e5).tr ((kp_cpI (by decide) e6).tr (kp_b72 hf))))))
theorem kp_addMark_b48 {μ : Mm} {a0 a6 : Nat} {a1 a2 a3 a4 a7 s0 : Int32} {z : Int32 × Mm} (hf : f_X7_addMark_b48 μ a0 a1 a2 a3 a4 a6 a7 s0 = some z) : KP μ z.2 := by
  unfold f_X7_addMark_b48 at hf
  obtain ⟨q1, e1, hf⟩ := ob hf
  obtain ⟨q2, e2, hf⟩ := ob hf
  have k1 : KP μ q1 := fun d => ((fr_X2_add (by omega) (by omega) (by omega) (by omega) (by omega) (by omega) (by omega) (by omega) (by omega) (by omega) e1)).1
  rcases oi hf with hf | hf
  · obtain rfl := Option.some.inj hf; exact k1
  · obtain ⟨q3, e3, hf⟩ := ob hf
    obtain rfl := Option.some.inj hf
    exact k1.tr (kp_wa (by decide) e3)
theorem kp_addMark {μ : Mm} {a0 : Nat} {a1 a2 a3 a4 a5 : Int32} {z : Int32 × Mm} (hf : f_X7_addMark μ a0 a1 a2 a3 a4 a5 = some z) : KP μ z.2 := by
  unfold f_X7_addMark at hf
  obtain ⟨q1, e1, hf⟩ := ob hf
  obtain ⟨q2, e2, hf⟩ := ob hf
  rcases oi hf with hf | hf
  · exact kp_addMark_b48 hf
  · obtain ⟨q3, e3, hf⟩ := ob hf
    exact kp_addMark_b48 hf
theorem kp_tellMark {μ : Mm} {a1 a2 a3 a4 a5 : Int32} {z : Int32 × Mm} (hf : f_X9_tellMark μ a1 a2 a3 a4 a5 = some z) : KP μ z.2 := by
  unfold f_X9_tellMark at hf
  obtain ⟨q1, e1, hf⟩ := ob hf
  rcases oi hf with hf | hf
  · obtain ⟨q2, e2, hf⟩ := ob hf
    obtain rfl := Option.some.inj hf
    exact kp_addMark e2
  · obtain ⟨q2, e2, hf⟩ := ob hf
    obtain rfl := Option.some.inj hf
    exact kp_wf (by decide) e2
theorem kp_X9_mark {μ : Mm} {a1 a2 a3 a4 a5 : Int32} {z : Int32 × Mm} (hf : f_X9_mark μ a1 a2 a3 a4 a5 = some z) : KP μ z.2 := by
  unfold f_X9_mark at hf
  obtain ⟨q1, e1, hf⟩ := ob hf
  obtain rfl := Option.some.inj hf
  exact kp_tellMark e1
theorem kp_refuse {μ : Mm} {x : Int32} {z : Int32 × Mm} (hf : f_X9_refuse μ x = some z) : KP μ z.2 := fun d => ((fr_X9_refuse (by omega) hf)).1
theorem kp_b77 {F N : Nat} : ∀ {μ : Mm} {a3 a4 : Int32} {a5 : Nat} {a6 : Int64} {a8 : Int32} {z : Int32 × Mm}, f_X9_play_b77 F N μ a3 a4 a5 a6 a8 = some z → KP μ z.2 := by
  induction N with
  | zero => intro μ a3 a4 a5 a6 a8 z h; unfold f_X9_play_b77 at h; cases h
  | succ N ih =>
    intro μ a3 a4 a5 a6 a8 z h
    unfold f_X9_play_b77 at h
    rcases oi h with h | h
    · obtain rfl := Option.some.inj h; exact KP.rf _
    · obtain ⟨q1, e1, h⟩ := ob h
      rcases oi h with h | h
      · obtain ⟨q2, e2, h⟩ := ob h
        obtain rfl := Option.some.inj h
        exact kp_refuse e2
      · obtain ⟨q2, e2, h⟩ := ob h
        obtain ⟨q3, e3, h⟩ := ob h
        obtain ⟨q4, e4, h⟩ := ob h
        obtain ⟨q5, e5, h⟩ := ob h
        obtain ⟨q6, e6, h⟩ := ob h
        rcases oi h with h | h
        · exact (kp_tellMark e6).tr (ih h)
        · obtain rfl := Option.some.inj h
          have k6 := kp_tellMark e6
          exact k6
theorem kp_X9_play {F : Nat} {μ : Mm} {a1 a2 a3 a4 : Int32} {z : Int32 × Mm} (hf : f_X9_play F μ a1 a2 a3 a4 = some z) : KP μ z.2 := by
  unfold f_X9_play at hf
  obtain ⟨q1, e1, hf⟩ := ob hf
  rcases oi hf with hf | hf
  · obtain rfl := Option.some.inj hf; exact KP.rf _
  obtain ⟨q2, e2, hf⟩ := ob hf
  rcases oi hf with hf | hf
  · obtain rfl := Option.some.inj hf; exact KP.rf _
  rcases oi hf with hf | hf
  · obtain rfl := Option.some.inj hf; exact KP.rf _
  rcases oi hf with hf | hf
  · obtain ⟨q3, e3, hf⟩ := ob hf
    rcases oi hf with hf | hf
    · obtain ⟨q4, e4, hf⟩ := ob hf
      obtain rfl := Option.some.inj hf
      exact kp_refuse e4
    rcases oi hf with hf | hf
    · exact kp_b77 hf
    · obtain ⟨q4, e4, hf⟩ := ob hf
      obtain rfl := Option.some.inj hf
      exact kp_refuse e4
  · obtain rfl := Option.some.inj hf; exact KP.rf _
theorem kp_X9_gap {F : Nat} {μ : Mm} {a1 a2 a3 : Int32} {z : Int32 × Int32 × Mm} (hf : f_X9_gap F μ a1 a2 a3 = some z) : KP μ z.2.2 := by
  unfold f_X9_gap at hf
  obtain ⟨q1, e1, hf⟩ := ob hf
  rcases oi hf with hf | hf
  · obtain rfl := Option.some.inj hf; exact KP.rf _
  obtain ⟨q2, e2, hf⟩ := ob hf
  rcases oi hf with hf | hf
  · obtain rfl := Option.some.inj hf; exact KP.rf _
  rcases oi hf with hf | hf
  · obtain rfl := Option.some.inj hf; exact KP.rf _
  rcases oi hf with hf | hf
  · obtain ⟨q3, e3, hf⟩ := ob hf
    have k3 : KP μ q3 := fun d => ((fr_X5_join (by omega) e3)).1
    obtain ⟨q4, e4, hf⟩ := ob hf
    rcases oi hf with hf | hf
    · obtain rfl := Option.some.inj hf; exact k3
    · obtain ⟨q5, e5, hf⟩ := ob hf
      obtain rfl := Option.some.inj hf; exact k3
  · obtain rfl := Option.some.inj hf; exact KP.rf _
theorem kp_X9_answer {F : Nat} {μ : Mm} {a1 a2 : Int32} {z : Int32 × Int32 × Mm} (hf : f_X9_answer F μ a1 a2 = some z) : KP μ z.2.2 := by
  unfold f_X9_answer at hf
  rcases oi hf with hf | hf
  · obtain rfl := Option.some.inj hf; exact KP.rf _
  rcases oi hf with hf | hf
  · obtain rfl := Option.some.inj hf; exact KP.rf _
  rcases oi hf with hf | hf
  · obtain rfl := Option.some.inj hf; exact KP.rf _
  rcases oi hf with hf | hf
  · obtain ⟨q1, e1, hf⟩ := ob hf
    obtain ⟨q2, e2, hf⟩ := ob hf
    rcases oi hf with hf | hf
    · obtain rfl := Option.some.inj hf; exact KP.rf _
    rcases oi hf with hf | hf
    · obtain rfl := Option.some.inj hf; exact KP.rf _
    obtain ⟨q3, e3, hf⟩ := ob hf
    obtain ⟨q4, e4, hf⟩ := ob hf
    obtain ⟨q5, e5, hf⟩ := ob hf
    obtain ⟨q6, e6, hf⟩ := ob hf
    rcases oi hf with hf | hf
    · obtain rfl := Option.some.inj hf; exact KP.rf _
    obtain ⟨q7, e7, hf⟩ := ob hf
    have k3 : KP μ q7 := fun d => ((fr_X5_join (by omega) e7)).1
    obtain ⟨q8, e8, hf⟩ := ob hf
    rcases oi hf with hf | hf
    · obtain rfl := Option.some.inj hf; exact k3
    · obtain ⟨q9, e9, hf⟩ := ob hf
      obtain rfl := Option.some.inj hf; exact k3
  · obtain rfl := Option.some.inj hf; exact KP.rf _
theorem kp_X9_at {μ : Mm} {a1 a2 : Int32} {z : Int32 × Int64 × Mm} (hf : f_X9_at μ a1 a2 = some z) : KP μ z.2.2 := by
  unfold f_X9_at at hf
  obtain ⟨q1, e1, hf⟩ := ob hf
  rcases oi hf with hf | hf
  · obtain rfl := Option.some.inj hf; exact KP.rf _
  obtain ⟨q2, e2, hf⟩ := ob hf
  obtain ⟨q3, e3, hf⟩ := ob hf
  rcases oi hf with hf | hf
  · obtain rfl := Option.some.inj hf; exact KP.rf _
  obtain ⟨q4, e4, hf⟩ := ob hf
  rcases oi hf with hf | hf
  · obtain rfl := Option.some.inj hf; exact KP.rf _
  obtain ⟨q5, e5, hf⟩ := ob hf
  obtain rfl := Option.some.inj hf; exact KP.rf _
theorem kp_X9_differ {F : Nat} {μ : Mm} {a1 a2 a3 : Int32} {z : Int32 × Int32 × Mm} (hf : f_X9_differ F μ a1 a2 a3 = some z) : KP μ z.2.2 := by
  unfold f_X9_differ at hf
  obtain ⟨q1, e1, hf⟩ := ob hf
  rcases oi hf with hf | hf
  · obtain rfl := Option.some.inj hf; exact KP.rf _
  obtain ⟨q2, e2, hf⟩ := ob hf
  rcases oi hf with hf | hf
  · obtain rfl := Option.some.inj hf; exact KP.rf _
  obtain ⟨q3, e3, hf⟩ := ob hf
  rcases oi hf with hf | hf
  · obtain rfl := Option.some.inj hf; exact KP.rf _
  obtain ⟨q4, e4, hf⟩ := ob hf
  rcases oi hf with hf | hf
  · obtain ⟨q5, e5, hf⟩ := ob hf
    rcases oi hf with hf | hf
    · obtain rfl := Option.some.inj hf; exact KP.rf _
    · obtain rfl := Option.some.inj hf; exact KP.rf _
  obtain ⟨q5, e5, hf⟩ := ob hf
  rcases oi hf with hf | hf
  · obtain ⟨q6, e6, hf⟩ := ob hf
    rcases oi hf with hf | hf
    · obtain rfl := Option.some.inj hf; exact KP.rf _
    obtain ⟨q7, e7, hf⟩ := ob hf
    obtain ⟨q8, e8, hf⟩ := ob hf
    obtain rfl := Option.some.inj hf
    have k1 : KP μ q7.2 := fun d => ((fr_X9_timeCountedAs (by omega) (by omega) (by omega) (by omega) (by omega) (by omega) (by omega) e7)).1
    have k2 : KP q7.2 q8.2 := fun d => ((fr_X9_timeCountedAs (by omega) (by omega) (by omega) (by omega) (by omega) (by omega) (by omega) e8)).1
    exact k1.tr k2
  · obtain rfl := Option.some.inj hf; exact KP.rf _
theorem kp_X9_back {F : Nat} {μ : Mm} {a1 : Int32} {z : Int32 × Mm} (hf : f_X9_back F μ a1 = some z) : KP μ z.2 := by
  unfold f_X9_back at hf
  obtain ⟨q1, e1, hf⟩ := ob hf
  have k1 : KP μ q1.2 := fun d => ((fr_X9_copyFault (by omega) e1)).1
  rcases oi hf with hf | hf
  · obtain ⟨q2, e2, hf⟩ := ob hf
    rcases oi hf with hf | hf
    · obtain ⟨q3, e3, hf⟩ := ob hf
      obtain rfl := Option.some.inj hf
      exact k1.tr (kp_refuse e3)
    · obtain ⟨q3, e3, hf⟩ := ob hf
      obtain ⟨q4, e4, hf⟩ := ob hf
      obtain ⟨q5, e5, hf⟩ := ob hf
      obtain rfl := Option.some.inj hf
      have k4 : KP q3 q4 := fun d => ((fr_X9_forgetLawsAndOthers (by omega) (by omega) e4)).1
      exact k1.tr ((kp_X7_become e3).tr k4)
  · obtain rfl := Option.some.inj hf; exact k1
theorem kp_X9_toss {F : Nat} {μ : Mm} {a1 : Int32} {z : Int32 × Mm} (hf : f_X9_toss F μ a1 = some z) : KP μ z.2 := by
  unfold f_X9_toss at hf
  obtain ⟨q1, e1, hf⟩ := ob hf
  have k1 : KP μ q1.2 := fun d => ((fr_X9_copyFault (by omega) e1)).1
  rcases oi hf with hf | hf
  · obtain ⟨q2, e2, hf⟩ := ob hf
    rcases oi hf with hf | hf
    · obtain ⟨q3, e3, hf⟩ := ob hf
      obtain rfl := Option.some.inj hf
      exact k1.tr (kp_refuse e3)
    · obtain ⟨q3, e3, hf⟩ := ob hf
      rcases oi hf with hf | hf
      · obtain ⟨q4, e4, hf⟩ := ob hf
        obtain rfl := Option.some.inj hf
        exact k1.tr (kp_refuse e4)
      · obtain rfl := Option.some.inj hf; exact k1
  · obtain rfl := Option.some.inj hf; exact k1
