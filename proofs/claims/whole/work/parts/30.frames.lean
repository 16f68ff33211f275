/-! FRAMES: what a function leaves alone -/
def sm (μ μ' : Mm) (k i j : Nat) : Prop := μ'.1 k i j = μ.1 k i j ∧ μ'.2 k i j = μ.2 k i j
theorem sm.trans {μ m1 m2 : Mm} {k i j : Nat} (h : sm μ m1 k i j) (h2 : sm m1 m2 k i j) : sm μ m2 k i j := ⟨h2.1.trans h.1, h2.2.trans h.2⟩
theorem oi {α : Type} {c : Prop} [Decidable c] {x y : Option α} {z : α} (h : (if c then x else y) = some z) : x = some z ∨ y = some z := by
  by_cases hc : c
  · exact Or.inl (it h hc)
  · exact Or.inr (ie h hc)
theorem sm_sr {μ : Mm} {k i j c a : Nat} {f : Nat → Int32} (h : ¬ (k = c ∧ i = a)) : sm μ (sr μ c a f) k i j := ⟨congrFun (sr_n k i h).1 j, rfl⟩
theorem sm_sl {μ : Mm} {k i j c a : Nat} {f : Nat → Int64} (h : ¬ (k = c ∧ i = a)) : sm μ (sl μ c a f) k i j := ⟨rfl, congrFun (sl_n k i h).2 j⟩
theorem fr_wf {μ m : Mm} {k i j c a b : Nat} {v : Int32} (h : ¬ (k = c ∧ i = a ∧ j = b)) (e : wf μ c a b v = some m) : sm μ m k i j := by
  cases e
  by_cases h1 : k = c ∧ i = a
  · obtain ⟨rfl, rfl⟩ := h1
    refine ⟨?_, rfl⟩
    show (sr μ k i (upd (μ.1 k i) b v)).1 k i j = _
    rw [sr_s]
    exact if_neg (fun e => h ⟨rfl, rfl, e⟩)
  · exact sm_sr h1
theorem fr_wa {μ m : Mm} {k i j c a n : Nat} {x v : Int32} (h : ¬ (k = c ∧ i = a)) (e : wa μ c a n x v = some m) : sm μ m k i j := by
  unfold wa at e; split at e
  · cases e
  · cases e; exact sm_sr h
theorem fr_wb {μ m : Mm} {k i j c a n : Nat} {x v : Int32} (h : ¬ (k = c ∧ i = a)) (e : wb μ c a n x v = some m) : sm μ m k i j := by
  unfold wb at e; split at e
  · cases e
  · cases e; exact sm_sr h
theorem fr_wg {μ m : Mm} {k i j c a n : Nat} {x : Int32} {v : Int64} (h : ¬ (k = c ∧ i = a)) (e : wg μ c a n x v = some m) : sm μ m k i j := by
  unfold wg at e; split at e
  · cases e
  · cases e; exact sm_sl h
theorem fr_cpI {μ m : Mm} {k i j c a n c' a' n' : Nat} {x y v : Int32} (h : ¬ (k = c' ∧ i = a')) (e : cpI μ c a n c' a' n' x y v = some m) : sm μ m k i j := by
  unfold cpI at e; split at e
  · cases e
  · cases e; exact sm_sr h
theorem fr_cpL {μ m : Mm} {k i j c a n c' a' n' : Nat} {x y v : Int32} (h : ¬ (k = c' ∧ i = a')) (e : cpL μ c a n c' a' n' x y v = some m) : sm μ m k i j := by
  unfold cpL at e; split at e
  · cases e
  · cases e; exact sm_sl h
theorem fr_fill {μ m : Mm} {k i j c a n : Nat} {v : Int32} (h : ¬ (k = c ∧ i = a)) (e : f_J7_fill_53178 μ c a n v = some m) : sm μ m k i j := by
  cases e; exact sm_sr h
theorem fr_fillL {μ m : Mm} {k i j c a n : Nat} {v : Int64} (h : ¬ (k = c ∧ i = a)) (e : f_J7_fill_d0a16 μ c a n v = some m) : sm μ m k i j := by
  cases e; exact sm_sl h
theorem fr_X0_forget {μ : Mm} {z : Mm} {k i j : Nat} (m0_0s2 : ¬ (k = 0 ∧ i = 0 ∧ j = 2)) (m0_0s3 : ¬ (k = 0 ∧ i = 0 ∧ j = 3)) (hf : f_X0_forget μ = some z) : sm μ z k i j := by
  unfold f_X0_forget at hf
  have hs : sm μ μ k i j := ⟨rfl, rfl⟩
  obtain ⟨m9, e11, hf⟩ := ob hf
  replace hs := hs.trans (fr_wf m0_0s2 e11)
  obtain ⟨m12, e14, hf⟩ := ob hf
  replace hs := hs.trans (fr_wf m0_0s3 e14)
  obtain rfl := Option.some.inj hf
  exact hs

theorem fr_X0_addSure {μ : Mm} {p1 : Int32} {z : Mm} {k i j : Nat} (m1_0 : ¬ (k = 1 ∧ i = 0)) (m0_0s2 : ¬ (k = 0 ∧ i = 0 ∧ j = 2)) (hf : f_X0_addSure μ p1 = some z) : sm μ z k i j := by
  unfold f_X0_addSure at hf
  have hs : sm μ μ k i j := ⟨rfl, rfl⟩
  rcases oi hf with hf | hf
  · obtain rfl := Option.some.inj hf
    exact hs
  · rcases oi hf with hf | hf
    · obtain rfl := Option.some.inj hf
      exact hs
    · obtain ⟨m9, e11, hf⟩ := ob hf
      replace hs := hs.trans (fr_wa m1_0 e11)
      obtain ⟨m12, e14, hf⟩ := ob hf
      replace hs := hs.trans (fr_wf m0_0s2 e14)
      obtain rfl := Option.some.inj hf
      exact hs

theorem fr_X0_addMaybe {μ : Mm} {p1 : Int32} {z : Mm} {k i j : Nat} (m2_0 : ¬ (k = 2 ∧ i = 0)) (m0_0s3 : ¬ (k = 0 ∧ i = 0 ∧ j = 3)) (hf : f_X0_addMaybe μ p1 = some z) : sm μ z k i j := by
  unfold f_X0_addMaybe at hf
  have hs : sm μ μ k i j := ⟨rfl, rfl⟩
  rcases oi hf with hf | hf
  · obtain rfl := Option.some.inj hf
    exact hs
  · rcases oi hf with hf | hf
    · obtain rfl := Option.some.inj hf
      exact hs
    · obtain ⟨m9, e11, hf⟩ := ob hf
      replace hs := hs.trans (fr_wa m2_0 e11)
      obtain ⟨m12, e14, hf⟩ := ob hf
      replace hs := hs.trans (fr_wf m0_0s3 e14)
      obtain rfl := Option.some.inj hf
      exact hs

theorem fr_X0_judgePair {μ : Mm} {p1 : Int32} {p2 : Int32} {p3 : Int32} {p4 : Int32} {z : Mm} {k i j : Nat} (m2_0 : ¬ (k = 2 ∧ i = 0)) (m0_0s3 : ¬ (k = 0 ∧ i = 0 ∧ j = 3)) (m1_0 : ¬ (k = 1 ∧ i = 0)) (m0_0s2 : ¬ (k = 0 ∧ i = 0 ∧ j = 2)) (hf : f_X0_judgePair μ p1 p2 p3 p4 = some z) : sm μ z k i j := by
  unfold f_X0_judgePair at hf
  have hs : sm μ μ k i j := ⟨rfl, rfl⟩
  rcases oi hf with hf | hf
  · rcases oi hf with hf | hf
    · obtain rfl := Option.some.inj hf
      exact hs
    · obtain ⟨q9, e11, hf⟩ := ob hf
      replace hs := hs.trans (fr_X0_addMaybe m2_0 m0_0s3 e11)
      obtain rfl := Option.some.inj hf
      exact hs
  · obtain ⟨q12, e14, hf⟩ := ob hf
    replace hs := hs.trans (fr_X0_addSure m1_0 m0_0s2 e14)
    obtain rfl := Option.some.inj hf
    exact hs

theorem fr_X3_add {μ : Mm} {p1 : Int32} {p2 : Int32} {p3 : Int32} {p4 : Int32} {z : Int32 × Mm} {k i j : Nat} (m301_0 : ¬ (k = 301 ∧ i = 0)) (m302_0 : ¬ (k = 302 ∧ i = 0)) (m303_0 : ¬ (k = 303 ∧ i = 0)) (m304_0 : ¬ (k = 304 ∧ i = 0)) (m300_0s4 : ¬ (k = 300 ∧ i = 0 ∧ j = 4)) (hf : f_X3_add μ p1 p2 p3 p4 = some z) : sm μ z.2 k i j := by
  unfold f_X3_add at hf
  have hs : sm μ μ k i j := ⟨rfl, rfl⟩
  rcases oi hf with hf | hf
  · obtain rfl := Option.some.inj hf
    exact hs
  · rcases oi hf with hf | hf
    · obtain ⟨m21, e23, hf⟩ := ob hf
      replace hs := hs.trans (fr_wa m301_0 e23)
      obtain ⟨m24, e26, hf⟩ := ob hf
      replace hs := hs.trans (fr_wa m302_0 e26)
      obtain ⟨m27, e29, hf⟩ := ob hf
      replace hs := hs.trans (fr_wa m303_0 e29)
      obtain ⟨m30, e32, hf⟩ := ob hf
      replace hs := hs.trans (fr_wa m304_0 e32)
      obtain ⟨m33, e35, hf⟩ := ob hf
      replace hs := hs.trans (fr_wf m300_0s4 e35)
      obtain rfl := Option.some.inj hf
      exact hs
    · obtain rfl := Option.some.inj hf
      exact hs

theorem fr_X4_reset {μ : Mm} {i0 : Nat} {z : Mm} {k i j : Nat} (m401_i0 : ¬ (k = 401 ∧ i = i0)) (m403_i0 : ¬ (k = 403 ∧ i = i0)) (m400_i0s3 : ¬ (k = 400 ∧ i = i0 ∧ j = 3)) (m400_i0s4 : ¬ (k = 400 ∧ i = i0 ∧ j = 4)) (hf : f_X4_reset μ i0 = some z) : sm μ z k i j := by
  unfold f_X4_reset at hf
  have hs : sm μ μ k i j := ⟨rfl, rfl⟩
  obtain ⟨q17, e19, hf⟩ := ob hf
  replace hs := hs.trans (fr_fill m401_i0 e19)
  obtain ⟨q20, e22, hf⟩ := ob hf
  replace hs := hs.trans (fr_fill m403_i0 e22)
  obtain ⟨m23, e25, hf⟩ := ob hf
  replace hs := hs.trans (fr_wf m400_i0s3 e25)
  obtain ⟨m26, e28, hf⟩ := ob hf
  replace hs := hs.trans (fr_wf m400_i0s4 e28)
  obtain rfl := Option.some.inj hf
  exact hs

theorem fr_X4_become {μ : Mm} {i0 : Nat} {n1 : Nat} {z : Mm} {k i j : Nat} (m401_i0 : ¬ (k = 401 ∧ i = i0)) (m402_i0 : ¬ (k = 402 ∧ i = i0)) (m403_i0 : ¬ (k = 403 ∧ i = i0)) (m400_i0s3 : ¬ (k = 400 ∧ i = i0 ∧ j = 3)) (m400_i0s4 : ¬ (k = 400 ∧ i = i0 ∧ j = 4)) (hf : f_X4_become μ i0 n1 = some z) : sm μ z k i j := by
  unfold f_X4_become at hf
  have hs : sm μ μ k i j := ⟨rfl, rfl⟩
  obtain ⟨m25, e27, hf⟩ := ob hf
  replace hs := hs.trans (fr_cpI m401_i0 e27)
  obtain ⟨m28, e30, hf⟩ := ob hf
  replace hs := hs.trans (fr_cpI m402_i0 e30)
  obtain ⟨m31, e33, hf⟩ := ob hf
  replace hs := hs.trans (fr_cpI m403_i0 e33)
  obtain ⟨m34, e36, hf⟩ := ob hf
  replace hs := hs.trans (fr_wf m400_i0s3 e36)
  obtain ⟨z37, e41, hf⟩ := ob hf
  obtain ⟨m39, e42, hf⟩ := ob hf
  replace hs := hs.trans (fr_wf m400_i0s4 e42)
  obtain rfl := Option.some.inj hf
  exact hs

theorem fr_X4_setState {μ : Mm} {i0 : Nat} {p1 : Int32} {p2 : Int32} {z : Mm} {k i j : Nat} (m401_i0 : ¬ (k = 401 ∧ i = i0)) (hf : f_X4_setState μ i0 p1 p2 = some z) : sm μ z k i j := by
  unfold f_X4_setState at hf
  have hs : sm μ μ k i j := ⟨rfl, rfl⟩
  rcases oi hf with hf | hf
  · obtain rfl := Option.some.inj hf
    exact hs
  · rcases oi hf with hf | hf
    · obtain rfl := Option.some.inj hf
      exact hs
    · obtain ⟨m5, e7, hf⟩ := ob hf
      replace hs := hs.trans (fr_wa m401_i0 e7)
      obtain rfl := Option.some.inj hf
      exact hs

theorem fr_X4_startWanting {μ : Mm} {i0 : Nat} {p1 : Int32} {p2 : Int32} {z : Mm} {k i j : Nat} (m401_i0 : ¬ (k = 401 ∧ i = i0)) (m400_i0s3 : ¬ (k = 400 ∧ i = i0 ∧ j = 3)) (m402_i0 : ¬ (k = 402 ∧ i = i0)) (hf : f_X4_startWanting μ i0 p1 p2 = some z) : sm μ z k i j := by
  unfold f_X4_startWanting at hf
  have hs : sm μ μ k i j := ⟨rfl, rfl⟩
  obtain ⟨q17, e19, hf⟩ := ob hf
  replace hs := hs.trans (fr_X4_setState m401_i0 e19)
  rcases oi hf with hf | hf
  · obtain ⟨m20, e22, hf⟩ := ob hf
    replace hs := hs.trans (fr_wf m400_i0s3 e22)
    obtain rfl := Option.some.inj hf
    exact hs
  · rcases oi hf with hf | hf
    · obtain ⟨m23, e25, hf⟩ := ob hf
      replace hs := hs.trans (fr_wf m400_i0s3 e25)
      obtain rfl := Option.some.inj hf
      exact hs
    · obtain ⟨m26, e28, hf⟩ := ob hf
      replace hs := hs.trans (fr_wa m402_i0 e28)
      obtain ⟨m29, e31, hf⟩ := ob hf
      replace hs := hs.trans (fr_wf m400_i0s3 e31)
      obtain rfl := Option.some.inj hf
      exact hs

theorem fr_X4_setHolder {μ : Mm} {i0 : Nat} {p1 : Int32} {p2 : Int32} {z : Mm} {k i j : Nat} (m403_i0 : ¬ (k = 403 ∧ i = i0)) (hf : f_X4_setHolder μ i0 p1 p2 = some z) : sm μ z k i j := by
  unfold f_X4_setHolder at hf
  have hs : sm μ μ k i j := ⟨rfl, rfl⟩
  rcases oi hf with hf | hf
  · obtain rfl := Option.some.inj hf
    exact hs
  · rcases oi hf with hf | hf
    · obtain rfl := Option.some.inj hf
      exact hs
    · obtain ⟨m5, e7, hf⟩ := ob hf
      replace hs := hs.trans (fr_wa m403_i0 e7)
      obtain rfl := Option.some.inj hf
      exact hs

theorem fr_X4_loseAll {μ : Mm} {i0 : Nat} {z : Mm} {k i j : Nat} (m401_i0 : ¬ (k = 401 ∧ i = i0)) (m403_i0 : ¬ (k = 403 ∧ i = i0)) (m400_i0s3 : ¬ (k = 400 ∧ i = i0 ∧ j = 3)) (m400_i0s4 : ¬ (k = 400 ∧ i = i0 ∧ j = 4)) (hf : f_X4_loseAll μ i0 = some z) : sm μ z k i j := by
  unfold f_X4_loseAll at hf
  have hs : sm μ μ k i j := ⟨rfl, rfl⟩
  obtain ⟨q17, e19, hf⟩ := ob hf
  replace hs := hs.trans (fr_fill m401_i0 e19)
  obtain ⟨q20, e22, hf⟩ := ob hf
  replace hs := hs.trans (fr_fill m403_i0 e22)
  obtain ⟨m23, e25, hf⟩ := ob hf
  replace hs := hs.trans (fr_wf m400_i0s3 e25)
  obtain ⟨m26, e28, hf⟩ := ob hf
  replace hs := hs.trans (fr_wf m400_i0s4 e28)
  obtain rfl := Option.some.inj hf
  exact hs

theorem fr_X5_raise {μ : Mm} {p1 : Int32} {p2 : Int32} {p3 : Int64} {z : Mm} {k i j : Nat} (m501_0 : ¬ (k = 501 ∧ i = 0)) (hf : f_X5_raise μ p1 p2 p3 = some z) : sm μ z k i j := by
  unfold f_X5_raise at hf
  have hs : sm μ μ k i j := ⟨rfl, rfl⟩
  obtain ⟨q13, e15, hf⟩ := ob hf
  rcases oi hf with hf | hf
  · obtain rfl := Option.some.inj hf
    exact hs
  · obtain ⟨v16, e18, hf⟩ := ob hf
    obtain ⟨m19, e21, hf⟩ := ob hf
    replace hs := hs.trans (fr_wg m501_0 e21)
    obtain rfl := Option.some.inj hf
    exact hs

theorem fr_X6_layRow {μ : Mm} {i0 : Nat} {p1 : Int32} {p2 : Int32} {z : Mm} {k i j : Nat} (m601_i0 : ¬ (k = 601 ∧ i = i0)) (m600_i0s1 : ¬ (k = 600 ∧ i = i0 ∧ j = 1)) (m600_i0s2 : ¬ (k = 600 ∧ i = i0 ∧ j = 2)) (hf : f_X6_layRow μ i0 p1 p2 = some z) : sm μ z k i j := by
  unfold f_X6_layRow at hf
  have hs : sm μ μ k i j := ⟨rfl, rfl⟩
  obtain ⟨q13, e15, hf⟩ := ob hf
  replace hs := hs.trans (fr_fillL m601_i0 e15)
  obtain ⟨m16, e18, hf⟩ := ob hf
  replace hs := hs.trans (fr_wf m600_i0s1 e18)
  obtain ⟨m19, e21, hf⟩ := ob hf
  replace hs := hs.trans (fr_wf m600_i0s2 e21)
  obtain rfl := Option.some.inj hf
  exact hs

theorem fr_X8_start {μ : Mm} {z : Mm} {k i j : Nat} (m401_21 : ¬ (k = 401 ∧ i = 21)) (m403_21 : ¬ (k = 403 ∧ i = 21)) (m400_21s3 : ¬ (k = 400 ∧ i = 21 ∧ j = 3)) (m400_21s4 : ¬ (k = 400 ∧ i = 21 ∧ j = 4)) (m800_0s1 : ¬ (k = 800 ∧ i = 0 ∧ j = 1)) (m800_0s2 : ¬ (k = 800 ∧ i = 0 ∧ j = 2)) (hf : f_X8_start μ = some z) : sm μ z k i j := by
  unfold f_X8_start at hf
  have hs : sm μ μ k i j := ⟨rfl, rfl⟩
  obtain ⟨q13, e15, hf⟩ := ob hf
  replace hs := hs.trans (fr_X4_reset m401_21 m403_21 m400_21s3 m400_21s4 e15)
  obtain ⟨m16, e18, hf⟩ := ob hf
  replace hs := hs.trans (fr_wf m800_0s1 e18)
  obtain ⟨m19, e21, hf⟩ := ob hf
  replace hs := hs.trans (fr_wf m800_0s2 e21)
  obtain rfl := Option.some.inj hf
  exact hs

theorem fr_X9_home {F : Nat} {μ : Mm} {p1 : Int32} {p2 : Int32} {z : Int32 × Mm} {k i j : Nat} (m701_0 : ¬ (k = 701 ∧ i = 0)) (hf : f_X9_home F μ p1 p2 = some z) : sm μ z.2 k i j := by
  unfold f_X9_home at hf
  have hs : sm μ μ k i j := ⟨rfl, rfl⟩
  obtain ⟨q21, e23, hf⟩ := ob hf
  rcases oi hf with hf | hf
  · obtain rfl := Option.some.inj hf
    exact hs
  · obtain ⟨q24, e26, hf⟩ := ob hf
    rcases oi hf with hf | hf
    · obtain rfl := Option.some.inj hf
      exact hs
    · obtain ⟨q27, e29, hf⟩ := ob hf
      rcases oi hf with hf | hf
      · obtain ⟨q30, e32, hf⟩ := ob hf
        obtain ⟨m33, e35, hf⟩ := ob hf
        replace hs := hs.trans (fr_wa m701_0 e35)
        obtain rfl := Option.some.inj hf
        exact hs
      · obtain rfl := Option.some.inj hf
        exact hs

theorem fr_X9_forgetLawsAndOthers {μ : Mm} {z : Mm} {k i j : Nat} (m300_0s4 : ¬ (k = 300 ∧ i = 0 ∧ j = 4)) (m902_0 : ¬ (k = 902 ∧ i = 0)) (hf : f_X9_forgetLawsAndOthers μ = some z) : sm μ z k i j := by
  unfold f_X9_forgetLawsAndOthers at hf
  have hs : sm μ μ k i j := ⟨rfl, rfl⟩
  obtain ⟨m9, e11, hf⟩ := ob hf
  replace hs := hs.trans (fr_wf m300_0s4 e11)
  obtain ⟨q12, e14, hf⟩ := ob hf
  replace hs := hs.trans (fr_fill m902_0 e14)
  obtain rfl := Option.some.inj hf
  exact hs

theorem fr_X9_refuse {μ : Mm} {p1 : Int32} {z : Int32 × Mm} {k i j : Nat} (m900_0s10 : ¬ (k = 900 ∧ i = 0 ∧ j = 10)) (hf : f_X9_refuse μ p1 = some z) : sm μ z.2 k i j := by
  unfold f_X9_refuse at hf
  have hs : sm μ μ k i j := ⟨rfl, rfl⟩
  obtain ⟨m5, e7, hf⟩ := ob hf
  replace hs := hs.trans (fr_wf m900_0s10 e7)
  obtain rfl := Option.some.inj hf
  exact hs

theorem fr_X9_copyFault {μ : Mm} {p1 : Int32} {z : Int32 × Mm} {k i j : Nat} (m900_0s10 : ¬ (k = 900 ∧ i = 0 ∧ j = 10)) (hf : f_X9_copyFault μ p1 = some z) : sm μ z.2 k i j := by
  unfold f_X9_copyFault at hf
  have hs : sm μ μ k i j := ⟨rfl, rfl⟩
  obtain ⟨q21, e23, hf⟩ := ob hf
  rcases oi hf with hf | hf
  · obtain rfl := Option.some.inj hf
    exact hs
  · obtain ⟨j24, e26, hf⟩ := ob hf
    rcases oi hf with hf | hf
    · obtain ⟨q33, e35, hf⟩ := ob hf
      replace hs := hs.trans (fr_X9_refuse m900_0s10 e35)
      obtain rfl := Option.some.inj hf
      exact hs
    · obtain ⟨j27, e29, hf⟩ := ob hf
      rcases oi hf with hf | hf
      · obtain rfl := Option.some.inj hf
        exact hs
      · obtain ⟨q30, e32, hf⟩ := ob hf
        replace hs := hs.trans (fr_X9_refuse m900_0s10 e32)
        obtain rfl := Option.some.inj hf
        exact hs

theorem fr_X10_refuse {μ : Mm} {p1 : Int32} {z : Int32 × Mm} {k i j : Nat} (m1000_0s18 : ¬ (k = 1000 ∧ i = 0 ∧ j = 18)) (hf : f_X10_refuse μ p1 = some z) : sm μ z.2 k i j := by
  unfold f_X10_refuse at hf
  have hs : sm μ μ k i j := ⟨rfl, rfl⟩
  obtain ⟨m5, e7, hf⟩ := ob hf
  replace hs := hs.trans (fr_wf m1000_0s18 e7)
  obtain rfl := Option.some.inj hf
  exact hs

theorem frb_X10_begin_89 {F : Nat} {z : Int32 × Mm} {k i j : Nat} (m1000_0s12 : ¬ (k = 1000 ∧ i = 0 ∧ j = 12)) (m1000_0s17 : ¬ (k = 1000 ∧ i = 0 ∧ j = 17)) (m1000_0s18 : ¬ (k = 1000 ∧ i = 0 ∧ j = 18)) (m1008_0 : ¬ (k = 1008 ∧ i = 0)) : ∀ (N : Nat) (μ : Mm) (a1 : Int32) (a4 : Int32), f_X10_begin_b89 F N μ a1 a4 = some z → sm μ z.2 k i j := by
  intro N
  induction N with
  | zero => intro μ a1 a4 hf; cases hf
  | succ N ih =>
    intro μ a1 a4 hf
    rw [f_X10_begin_b89] at hf
    have hs : sm μ μ k i j := ⟨rfl, rfl⟩
    rcases oi hf with hf | hf
    · obtain ⟨m35, e37, hf⟩ := ob hf
      replace hs := hs.trans (fr_wf m1000_0s12 e37)
      obtain ⟨m38, e40, hf⟩ := ob hf
      replace hs := hs.trans (fr_wf m1000_0s17 e40)
      obtain ⟨m41, e43, hf⟩ := ob hf
      replace hs := hs.trans (fr_wf m1000_0s18 e43)
      obtain rfl := Option.some.inj hf
      exact hs
    · obtain ⟨m44, e46, hf⟩ := ob hf
      replace hs := hs.trans (fr_wa m1008_0 e46)
      exact hs.trans (ih _ _ _ hf)
theorem frb_X10_begin_49 {F : Nat} {z : Int32 × Mm} {k i j : Nat} (m1000_0s12 : ¬ (k = 1000 ∧ i = 0 ∧ j = 12)) (m1000_0s17 : ¬ (k = 1000 ∧ i = 0 ∧ j = 17)) (m1000_0s18 : ¬ (k = 1000 ∧ i = 0 ∧ j = 18)) (m1008_0 : ¬ (k = 1008 ∧ i = 0)) (m1005_0 : ¬ (k = 1005 ∧ i = 0)) (m1006_0 : ¬ (k = 1006 ∧ i = 0)) (m1007_0 : ¬ (k = 1007 ∧ i = 0)) : ∀ (N : Nat) (μ : Mm) (a1 : Int32) (a4 : Int32), f_X10_begin_b49 F N μ a1 a4 = some z → sm μ z.2 k i j := by
  intro N
  induction N with
  | zero => intro μ a1 a4 hf; cases hf
  | succ N ih =>
    intro μ a1 a4 hf
    rw [f_X10_begin_b49] at hf
    have hs : sm μ μ k i j := ⟨rfl, rfl⟩
    rcases oi hf with hf | hf
    · exact hs.trans (frb_X10_begin_89 m1000_0s12 m1000_0s17 m1000_0s18 m1008_0 _ _ _ _ hf)
    · obtain ⟨m53, e55, hf⟩ := ob hf
      replace hs := hs.trans (fr_wa m1005_0 e55)
      obtain ⟨m56, e58, hf⟩ := ob hf
      replace hs := hs.trans (fr_wa m1006_0 e58)
      obtain ⟨m59, e61, hf⟩ := ob hf
      replace hs := hs.trans (fr_wa m1007_0 e61)
      exact hs.trans (ih _ _ _ hf)
theorem fr_X10_begin {F : Nat} {μ : Mm} {p1 : Int32} {p2 : Int32} {p3 : Int32} {z : Int32 × Mm} {k i j : Nat} (m1000_0s1 : ¬ (k = 1000 ∧ i = 0 ∧ j = 1)) (m1000_0s2 : ¬ (k = 1000 ∧ i = 0 ∧ j = 2)) (m1000_0s3 : ¬ (k = 1000 ∧ i = 0 ∧ j = 3)) (m1000_0s12 : ¬ (k = 1000 ∧ i = 0 ∧ j = 12)) (m1000_0s17 : ¬ (k = 1000 ∧ i = 0 ∧ j = 17)) (m1000_0s18 : ¬ (k = 1000 ∧ i = 0 ∧ j = 18)) (m1008_0 : ¬ (k = 1008 ∧ i = 0)) (m1005_0 : ¬ (k = 1005 ∧ i = 0)) (m1006_0 : ¬ (k = 1006 ∧ i = 0)) (m1007_0 : ¬ (k = 1007 ∧ i = 0)) (hf : f_X10_begin F μ p1 p2 p3 = some z) : sm μ z.2 k i j := by
  unfold f_X10_begin at hf
  have hs : sm μ μ k i j := ⟨rfl, rfl⟩
  obtain ⟨q74, e76, hf⟩ := ob hf
  rcases oi hf with hf | hf
  · obtain rfl := Option.some.inj hf
    exact hs
  · obtain ⟨q77, e79, hf⟩ := ob hf
    rcases oi hf with hf | hf
    · obtain rfl := Option.some.inj hf
      exact hs
    · obtain ⟨q80, e82, hf⟩ := ob hf
      rcases oi hf with hf | hf
      · obtain rfl := Option.some.inj hf
        exact hs
      · obtain ⟨m83, e85, hf⟩ := ob hf
        replace hs := hs.trans (fr_wf m1000_0s1 e85)
        obtain ⟨m86, e88, hf⟩ := ob hf
        replace hs := hs.trans (fr_wf m1000_0s2 e88)
        obtain ⟨m89, e91, hf⟩ := ob hf
        replace hs := hs.trans (fr_wf m1000_0s3 e91)
        exact hs.trans (frb_X10_begin_49 m1000_0s12 m1000_0s17 m1000_0s18 m1008_0 m1005_0 m1006_0 m1007_0 _ _ _ _ hf)

theorem fr_X10_home {μ : Mm} {p1 : Int32} {p2 : Int32} {z : Int32 × Mm} {k i j : Nat} (m1005_0 : ¬ (k = 1005 ∧ i = 0)) (hf : f_X10_home μ p1 p2 = some z) : sm μ z.2 k i j := by
  unfold f_X10_home at hf
  have hs : sm μ μ k i j := ⟨rfl, rfl⟩
  obtain ⟨q21, e23, hf⟩ := ob hf
  rcases oi hf with hf | hf
  · obtain rfl := Option.some.inj hf
    exact hs
  · obtain ⟨q24, e26, hf⟩ := ob hf
    rcases oi hf with hf | hf
    · obtain rfl := Option.some.inj hf
      exact hs
    · obtain ⟨q27, e29, hf⟩ := ob hf
      rcases oi hf with hf | hf
      · obtain ⟨v30, e32, hf⟩ := ob hf
        obtain ⟨m33, e35, hf⟩ := ob hf
        replace hs := hs.trans (fr_wa m1005_0 e35)
        obtain rfl := Option.some.inj hf
        exact hs
      · obtain rfl := Option.some.inj hf
        exact hs

theorem fr_X10_rank {μ : Mm} {p1 : Int32} {p2 : Int32} {z : Int32 × Mm} {k i j : Nat} (m1006_0 : ¬ (k = 1006 ∧ i = 0)) (hf : f_X10_rank μ p1 p2 = some z) : sm μ z.2 k i j := by
  unfold f_X10_rank at hf
  have hs : sm μ μ k i j := ⟨rfl, rfl⟩
  obtain ⟨q17, e19, hf⟩ := ob hf
  rcases oi hf with hf | hf
  · obtain rfl := Option.some.inj hf
    exact hs
  · obtain ⟨q20, e22, hf⟩ := ob hf
    rcases oi hf with hf | hf
    · obtain rfl := Option.some.inj hf
      exact hs
    · obtain ⟨v23, e25, hf⟩ := ob hf
      obtain ⟨m26, e28, hf⟩ := ob hf
      replace hs := hs.trans (fr_wa m1006_0 e28)
      obtain rfl := Option.some.inj hf
      exact hs

theorem fr_X10_other {μ : Mm} {p1 : Int32} {p2 : Int32} {z : Int32 × Mm} {k i j : Nat} (m1007_0 : ¬ (k = 1007 ∧ i = 0)) (hf : f_X10_other μ p1 p2 = some z) : sm μ z.2 k i j := by
  unfold f_X10_other at hf
  have hs : sm μ μ k i j := ⟨rfl, rfl⟩
  obtain ⟨q17, e19, hf⟩ := ob hf
  rcases oi hf with hf | hf
  · obtain rfl := Option.some.inj hf
    exact hs
  · obtain ⟨q20, e22, hf⟩ := ob hf
    rcases oi hf with hf | hf
    · obtain rfl := Option.some.inj hf
      exact hs
    · obtain ⟨q23, e25, hf⟩ := ob hf
      obtain ⟨m26, e28, hf⟩ := ob hf
      replace hs := hs.trans (fr_wa m1007_0 e28)
      obtain rfl := Option.some.inj hf
      exact hs

theorem frb_X10_starts_60 {F : Nat} {z : Mm} {k i j : Nat} (m1030_0 : ¬ (k = 1030 ∧ i = 0)) : ∀ (N : Nat) (μ : Mm) (a4 : Int32), f_X10_starts_b60 F N μ a4 = some z → sm μ z k i j := by
  intro N
  induction N with
  | zero => intro μ a4 hf; cases hf
  | succ N ih =>
    intro μ a4 hf
    rw [f_X10_starts_b60] at hf
    have hs : sm μ μ k i j := ⟨rfl, rfl⟩
    rcases oi hf with hf | hf
    · obtain rfl := Option.some.inj hf
      exact hs
    · obtain ⟨m19, e21, hf⟩ := ob hf
      replace hs := hs.trans (fr_wa m1030_0 e21)
      exact hs.trans (ih _ _ hf)
theorem frb_X10_starts_28 {F : Nat} {z : Mm} {k i j : Nat} (m1030_0 : ¬ (k = 1030 ∧ i = 0)) (m1028_0 : ¬ (k = 1028 ∧ i = 0)) (m1029_0 : ¬ (k = 1029 ∧ i = 0)) : ∀ (N : Nat) (μ : Mm) (a4 : Int32), f_X10_starts_b28 F N μ a4 = some z → sm μ z k i j := by
  intro N
  induction N with
  | zero => intro μ a4 hf; cases hf
  | succ N ih =>
    intro μ a4 hf
    rw [f_X10_starts_b28] at hf
    have hs : sm μ μ k i j := ⟨rfl, rfl⟩
    rcases oi hf with hf | hf
    · exact hs.trans (frb_X10_starts_60 m1030_0 _ _ _ hf)
    · obtain ⟨m26, e28, hf⟩ := ob hf
      replace hs := hs.trans (fr_wa m1028_0 e28)
      obtain ⟨m29, e31, hf⟩ := ob hf
      replace hs := hs.trans (fr_wa m1029_0 e31)
      exact hs.trans (ih _ _ hf)
theorem fr_X10_starts {F : Nat} {μ : Mm} {p1 : Int32} {p2 : Int32} {p3 : Int32} {z : Mm} {k i j : Nat} (m1000_0s33 : ¬ (k = 1000 ∧ i = 0 ∧ j = 33)) (m1000_0s34 : ¬ (k = 1000 ∧ i = 0 ∧ j = 34)) (m1000_0s35 : ¬ (k = 1000 ∧ i = 0 ∧ j = 35)) (m1000_0s31 : ¬ (k = 1000 ∧ i = 0 ∧ j = 31)) (m1000_0s32 : ¬ (k = 1000 ∧ i = 0 ∧ j = 32)) (m1030_0 : ¬ (k = 1030 ∧ i = 0)) (m1028_0 : ¬ (k = 1028 ∧ i = 0)) (m1029_0 : ¬ (k = 1029 ∧ i = 0)) (hf : f_X10_starts F μ p1 p2 p3 = some z) : sm μ z k i j := by
  unfold f_X10_starts at hf
  have hs : sm μ μ k i j := ⟨rfl, rfl⟩
  obtain ⟨m42, e44, hf⟩ := ob hf
  replace hs := hs.trans (fr_wf m1000_0s33 e44)
  obtain ⟨m45, e47, hf⟩ := ob hf
  replace hs := hs.trans (fr_wf m1000_0s34 e47)
  obtain ⟨m48, e50, hf⟩ := ob hf
  replace hs := hs.trans (fr_wf m1000_0s35 e50)
  obtain ⟨m51, e53, hf⟩ := ob hf
  replace hs := hs.trans (fr_wf m1000_0s31 e53)
  obtain ⟨m54, e56, hf⟩ := ob hf
  replace hs := hs.trans (fr_wf m1000_0s32 e56)
  exact hs.trans (frb_X10_starts_28 m1030_0 m1028_0 m1029_0 _ _ _ hf)

theorem frb_X10_startsNow_2 {F : Nat} {z : Mm} {k i j : Nat} (m1000_0s33 : ¬ (k = 1000 ∧ i = 0 ∧ j = 33)) (m1000_0s34 : ¬ (k = 1000 ∧ i = 0 ∧ j = 34)) (m1000_0s35 : ¬ (k = 1000 ∧ i = 0 ∧ j = 35)) (m1000_0s31 : ¬ (k = 1000 ∧ i = 0 ∧ j = 31)) (m1000_0s32 : ¬ (k = 1000 ∧ i = 0 ∧ j = 32)) (m1030_0 : ¬ (k = 1030 ∧ i = 0)) (m1028_0 : ¬ (k = 1028 ∧ i = 0)) (m1029_0 : ¬ (k = 1029 ∧ i = 0)) (m1031_0 : ¬ (k = 1031 ∧ i = 0)) : ∀ (N : Nat) (μ : Mm) (a1 : Int32) (a2 : Int32), f_X10_startsNow_b2 F N μ a1 a2 = some z → sm μ z k i j := by
  intro N
  induction N with
  | zero => intro μ a1 a2 hf; cases hf
  | succ N ih =>
    intro μ a1 a2 hf
    rw [f_X10_startsNow_b2] at hf
    have hs : sm μ μ k i j := ⟨rfl, rfl⟩
    rcases oi hf with hf | hf
    · obtain ⟨q13, e15, hf⟩ := ob hf
      replace hs := hs.trans (fr_X10_starts m1000_0s33 m1000_0s34 m1000_0s35 m1000_0s31 m1000_0s32 m1030_0 m1028_0 m1029_0 e15)
      obtain rfl := Option.some.inj hf
      exact hs
    · obtain ⟨v16, e18, hf⟩ := ob hf
      obtain ⟨m19, e21, hf⟩ := ob hf
      replace hs := hs.trans (fr_wa m1031_0 e21)
      exact hs.trans (ih _ _ _ hf)
theorem fr_X10_startsNow {F : Nat} {μ : Mm} {p1 : Int32} {z : Mm} {k i j : Nat} (m1000_0s33 : ¬ (k = 1000 ∧ i = 0 ∧ j = 33)) (m1000_0s34 : ¬ (k = 1000 ∧ i = 0 ∧ j = 34)) (m1000_0s35 : ¬ (k = 1000 ∧ i = 0 ∧ j = 35)) (m1000_0s31 : ¬ (k = 1000 ∧ i = 0 ∧ j = 31)) (m1000_0s32 : ¬ (k = 1000 ∧ i = 0 ∧ j = 32)) (m1030_0 : ¬ (k = 1030 ∧ i = 0)) (m1028_0 : ¬ (k = 1028 ∧ i = 0)) (m1029_0 : ¬ (k = 1029 ∧ i = 0)) (m1031_0 : ¬ (k = 1031 ∧ i = 0)) (hf : f_X10_startsNow F μ p1 = some z) : sm μ z k i j := by
  unfold f_X10_startsNow at hf
  have hs : sm μ μ k i j := ⟨rfl, rfl⟩
  exact hs.trans (frb_X10_startsNow_2 m1000_0s33 m1000_0s34 m1000_0s35 m1000_0s31 m1000_0s32 m1030_0 m1028_0 m1029_0 m1031_0 _ _ _ _ hf)

theorem frb_X10_loses_58 {F : Nat} {z : Mm} {k i j : Nat} (m1030_0 : ¬ (k = 1030 ∧ i = 0)) : ∀ (N : Nat) (μ : Mm) (a1 : Int32), f_X10_loses_b58 F N μ a1 = some z → sm μ z k i j := by
  intro N
  induction N with
  | zero => intro μ a1 hf; cases hf
  | succ N ih =>
    intro μ a1 hf
    rw [f_X10_loses_b58] at hf
    have hs : sm μ μ k i j := ⟨rfl, rfl⟩
    rcases oi hf with hf | hf
    · obtain rfl := Option.some.inj hf
      exact hs
    · obtain ⟨m15, e17, hf⟩ := ob hf
      replace hs := hs.trans (fr_wa m1030_0 e17)
      exact hs.trans (ih _ _ hf)
theorem frb_X10_loses_2 {F : Nat} {z : Mm} {k i j : Nat} (m1000_0s31 : ¬ (k = 1000 ∧ i = 0 ∧ j = 31)) (m1000_0s32 : ¬ (k = 1000 ∧ i = 0 ∧ j = 32)) (m1030_0 : ¬ (k = 1030 ∧ i = 0)) (m1028_0 : ¬ (k = 1028 ∧ i = 0)) : ∀ (N : Nat) (μ : Mm) (a1 : Int32), f_X10_loses_b2 F N μ a1 = some z → sm μ z k i j := by
  intro N
  induction N with
  | zero => intro μ a1 hf; cases hf
  | succ N ih =>
    intro μ a1 hf
    rw [f_X10_loses_b2] at hf
    have hs : sm μ μ k i j := ⟨rfl, rfl⟩
    rcases oi hf with hf | hf
    · obtain ⟨m30, e32, hf⟩ := ob hf
      replace hs := hs.trans (fr_wf m1000_0s31 e32)
      obtain ⟨m33, e35, hf⟩ := ob hf
      replace hs := hs.trans (fr_wf m1000_0s32 e35)
      exact hs.trans (frb_X10_loses_58 m1030_0 _ _ _ hf)
    · obtain ⟨v36, e38, hf⟩ := ob hf
      rcases oi hf with hf | hf
      · obtain ⟨m45, e47, hf⟩ := ob hf
        replace hs := hs.trans (fr_wa m1028_0 e47)
        exact hs.trans (ih _ _ hf)
      · obtain ⟨v39, e41, hf⟩ := ob hf
        obtain ⟨m42, e44, hf⟩ := ob hf
        replace hs := hs.trans (fr_wa m1028_0 e44)
        exact hs.trans (ih _ _ hf)
theorem fr_X10_loses {F : Nat} {μ : Mm} {z : Mm} {k i j : Nat} (m1000_0s31 : ¬ (k = 1000 ∧ i = 0 ∧ j = 31)) (m1000_0s32 : ¬ (k = 1000 ∧ i = 0 ∧ j = 32)) (m1030_0 : ¬ (k = 1030 ∧ i = 0)) (m1028_0 : ¬ (k = 1028 ∧ i = 0)) (hf : f_X10_loses F μ = some z) : sm μ z k i j := by
  unfold f_X10_loses at hf
  have hs : sm μ μ k i j := ⟨rfl, rfl⟩
  exact hs.trans (frb_X10_loses_2 m1000_0s31 m1000_0s32 m1030_0 m1028_0 _ _ _ hf)

theorem frb_X10_law_84 {z : Int32 × Mm} {k i j : Nat} (m1014_0 : ¬ (k = 1014 ∧ i = 0)) (m1015_0 : ¬ (k = 1015 ∧ i = 0)) (m1016_0 : ¬ (k = 1016 ∧ i = 0)) (m1017_0 : ¬ (k = 1017 ∧ i = 0)) (m1000_0s12 : ¬ (k = 1000 ∧ i = 0 ∧ j = 12)) : ∀ (μ : Mm) (a1 : Int32) (a2 : Int32) (a3 : Int32) (a4 : Int32), f_X10_law_b84 μ a1 a2 a3 a4 = some z → sm μ z.2 k i j := by
  intro μ a1 a2 a3 a4 hf
  unfold f_X10_law_b84 at hf
  have hs : sm μ μ k i j := ⟨rfl, rfl⟩
  rcases oi hf with hf | hf
  · obtain rfl := Option.some.inj hf
    exact hs
  · obtain ⟨m29, e31, hf⟩ := ob hf
    replace hs := hs.trans (fr_wa m1014_0 e31)
    obtain ⟨m32, e34, hf⟩ := ob hf
    replace hs := hs.trans (fr_wa m1015_0 e34)
    obtain ⟨m35, e37, hf⟩ := ob hf
    replace hs := hs.trans (fr_wa m1016_0 e37)
    obtain ⟨m38, e40, hf⟩ := ob hf
    replace hs := hs.trans (fr_wa m1017_0 e40)
    obtain ⟨m41, e43, hf⟩ := ob hf
    replace hs := hs.trans (fr_wf m1000_0s12 e43)
    obtain rfl := Option.some.inj hf
    exact hs
theorem frb_X10_law_60 {z : Int32 × Mm} {k i j : Nat} (m1014_0 : ¬ (k = 1014 ∧ i = 0)) (m1015_0 : ¬ (k = 1015 ∧ i = 0)) (m1016_0 : ¬ (k = 1016 ∧ i = 0)) (m1017_0 : ¬ (k = 1017 ∧ i = 0)) (m1000_0s12 : ¬ (k = 1000 ∧ i = 0 ∧ j = 12)) : ∀ (μ : Mm) (a1 : Int32) (a2 : Int32) (a3 : Int32) (a4 : Int32) (s0 : Int32), f_X10_law_b60 μ a1 a2 a3 a4 s0 = some z → sm μ z.2 k i j := by
  intro μ a1 a2 a3 a4 s0 hf
  unfold f_X10_law_b60 at hf
  have hs : sm μ μ k i j := ⟨rfl, rfl⟩
  rcases oi hf with hf | hf
  · obtain rfl := Option.some.inj hf
    exact hs
  · rcases oi hf with hf | hf
    · obtain rfl := Option.some.inj hf
      exact hs
    · rcases oi hf with hf | hf
      · rcases oi hf with hf | hf
        · exact hs.trans (frb_X10_law_84 m1014_0 m1015_0 m1016_0 m1017_0 m1000_0s12 _ _ _ _ _ hf)
        · obtain rfl := Option.some.inj hf
          exact hs
      · exact hs.trans (frb_X10_law_84 m1014_0 m1015_0 m1016_0 m1017_0 m1000_0s12 _ _ _ _ _ hf)
theorem frb_X10_law_34 {z : Int32 × Mm} {k i j : Nat} (m1014_0 : ¬ (k = 1014 ∧ i = 0)) (m1015_0 : ¬ (k = 1015 ∧ i = 0)) (m1016_0 : ¬ (k = 1016 ∧ i = 0)) (m1017_0 : ¬ (k = 1017 ∧ i = 0)) (m1000_0s12 : ¬ (k = 1000 ∧ i = 0 ∧ j = 12)) : ∀ (μ : Mm) (a1 : Int32) (a2 : Int32) (a3 : Int32) (a4 : Int32), f_X10_law_b34 μ a1 a2 a3 a4 = some z → sm μ z.2 k i j := by
  intro μ a1 a2 a3 a4 hf
  unfold f_X10_law_b34 at hf
  have hs : sm μ μ k i j := ⟨rfl, rfl⟩
  rcases oi hf with hf | hf
  · obtain ⟨q46, e48, hf⟩ := ob hf
    rcases oi hf with hf | hf
    · exact hs.trans (frb_X10_law_60 m1014_0 m1015_0 m1016_0 m1017_0 m1000_0s12 _ _ _ _ _ _ hf)
    · exact hs.trans (frb_X10_law_60 m1014_0 m1015_0 m1016_0 m1017_0 m1000_0s12 _ _ _ _ _ _ hf)
  · rcases oi hf with hf | hf
    · exact hs.trans (frb_X10_law_60 m1014_0 m1015_0 m1016_0 m1017_0 m1000_0s12 _ _ _ _ _ _ hf)
    · exact hs.trans (frb_X10_law_60 m1014_0 m1015_0 m1016_0 m1017_0 m1000_0s12 _ _ _ _ _ _ hf)
theorem fr_X10_law {μ : Mm} {p1 : Int32} {p2 : Int32} {p3 : Int32} {p4 : Int32} {z : Int32 × Mm} {k i j : Nat} (m1014_0 : ¬ (k = 1014 ∧ i = 0)) (m1015_0 : ¬ (k = 1015 ∧ i = 0)) (m1016_0 : ¬ (k = 1016 ∧ i = 0)) (m1017_0 : ¬ (k = 1017 ∧ i = 0)) (m1000_0s12 : ¬ (k = 1000 ∧ i = 0 ∧ j = 12)) (hf : f_X10_law μ p1 p2 p3 p4 = some z) : sm μ z.2 k i j := by
  unfold f_X10_law at hf
  have hs : sm μ μ k i j := ⟨rfl, rfl⟩
  obtain ⟨q55, e57, hf⟩ := ob hf
  rcases oi hf with hf | hf
  · exact hs.trans (frb_X10_law_60 m1014_0 m1015_0 m1016_0 m1017_0 m1000_0s12 _ _ _ _ _ _ hf)
  · rcases oi hf with hf | hf
    · obtain ⟨q61, e63, hf⟩ := ob hf
      rcases oi hf with hf | hf
      · exact hs.trans (frb_X10_law_60 m1014_0 m1015_0 m1016_0 m1017_0 m1000_0s12 _ _ _ _ _ _ hf)
      · exact hs.trans (frb_X10_law_34 m1014_0 m1015_0 m1016_0 m1017_0 m1000_0s12 _ _ _ _ _ hf)
    · obtain ⟨q58, e60, hf⟩ := ob hf
      rcases oi hf with hf | hf
      · exact hs.trans (frb_X10_law_60 m1014_0 m1015_0 m1016_0 m1017_0 m1000_0s12 _ _ _ _ _ _ hf)
      · exact hs.trans (frb_X10_law_34 m1014_0 m1015_0 m1016_0 m1017_0 m1000_0s12 _ _ _ _ _ hf)

theorem fr_X10_breaksAt {μ : Mm} {p1 : Int32} {p2 : Int32} {z : Mm} {k i j : Nat} (m1045_0 : ¬ (k = 1045 ∧ i = 0)) (m1000_0s42 : ¬ (k = 1000 ∧ i = 0 ∧ j = 42)) (m1044_0 : ¬ (k = 1044 ∧ i = 0)) (m1000_0s41 : ¬ (k = 1000 ∧ i = 0 ∧ j = 41)) (hf : f_X10_breaksAt μ p1 p2 = some z) : sm μ z k i j := by
  unfold f_X10_breaksAt at hf
  have hs : sm μ μ k i j := ⟨rfl, rfl⟩
  rcases oi hf with hf | hf
  · obtain ⟨m17, e19, hf⟩ := ob hf
    replace hs := hs.trans (fr_wa m1045_0 e19)
    obtain ⟨m20, e22, hf⟩ := ob hf
    replace hs := hs.trans (fr_wf m1000_0s42 e22)
    obtain rfl := Option.some.inj hf
    exact hs
  · obtain ⟨m23, e25, hf⟩ := ob hf
    replace hs := hs.trans (fr_wa m1044_0 e25)
    obtain ⟨m26, e28, hf⟩ := ob hf
    replace hs := hs.trans (fr_wf m1000_0s41 e28)
    obtain rfl := Option.some.inj hf
    exact hs

theorem frb_X10_spans_119 {F : Nat} {z : Mm} {k i j : Nat} (m1045_0 : ¬ (k = 1045 ∧ i = 0)) (m1000_0s42 : ¬ (k = 1000 ∧ i = 0 ∧ j = 42)) (m1044_0 : ¬ (k = 1044 ∧ i = 0)) (m1000_0s41 : ¬ (k = 1000 ∧ i = 0 ∧ j = 41)) : ∀ (μ : Mm) (a5 : Int32) (a6 : Int32) (s0 : Int32), f_X10_spans_b119 F μ a5 a6 s0 = some z → sm μ z k i j := by
  intro μ a5 a6 s0 hf
  unfold f_X10_spans_b119 at hf
  have hs : sm μ μ k i j := ⟨rfl, rfl⟩
  obtain ⟨q53, e55, hf⟩ := ob hf
  obtain ⟨v56, e58, hf⟩ := ob hf
  rcases oi hf with hf | hf
  · obtain rfl := Option.some.inj hf
    exact hs
  · obtain ⟨q59, e61, hf⟩ := ob hf
    replace hs := hs.trans (fr_X10_breaksAt m1045_0 m1000_0s42 m1044_0 m1000_0s41 e61)
    obtain rfl := Option.some.inj hf
    exact hs
theorem frb_X10_spans_96 {F : Nat} {z : Mm} {k i j : Nat} (m1045_0 : ¬ (k = 1045 ∧ i = 0)) (m1000_0s42 : ¬ (k = 1000 ∧ i = 0 ∧ j = 42)) (m1044_0 : ¬ (k = 1044 ∧ i = 0)) (m1000_0s41 : ¬ (k = 1000 ∧ i = 0 ∧ j = 41)) : ∀ (μ : Mm) (a5 : Int32) (a6 : Int32) (a7 : Int32), f_X10_spans_b96 F μ a5 a6 a7 = some z → sm μ z k i j := by
  intro μ a5 a6 a7 hf
  unfold f_X10_spans_b96 at hf
  have hs : sm μ μ k i j := ⟨rfl, rfl⟩
  obtain ⟨v64, e66, hf⟩ := ob hf
  rcases oi hf with hf | hf
  · exact hs.trans (frb_X10_spans_119 m1045_0 m1000_0s42 m1044_0 m1000_0s41 _ _ _ _ hf)
  · exact hs.trans (frb_X10_spans_119 m1045_0 m1000_0s42 m1044_0 m1000_0s41 _ _ _ _ hf)
theorem frb_X10_spans_261 {F : Nat} {z : Mm} {k i j : Nat} (m1045_0 : ¬ (k = 1045 ∧ i = 0)) (m1000_0s42 : ¬ (k = 1000 ∧ i = 0 ∧ j = 42)) (m1044_0 : ¬ (k = 1044 ∧ i = 0)) (m1000_0s41 : ¬ (k = 1000 ∧ i = 0 ∧ j = 41)) : ∀ (μ : Mm) (a5 : Int32) (a6 : Int32) (a8 : Int32), f_X10_spans_b261 F μ a5 a6 a8 = some z → sm μ z k i j := by
  intro μ a5 a6 a8 hf
  unfold f_X10_spans_b261 at hf
  have hs : sm μ μ k i j := ⟨rfl, rfl⟩
  obtain ⟨q73, e75, hf⟩ := ob hf
  obtain ⟨v76, e78, hf⟩ := ob hf
  rcases oi hf with hf | hf
  · obtain rfl := Option.some.inj hf
    exact hs
  · obtain ⟨q79, e81, hf⟩ := ob hf
    replace hs := hs.trans (fr_X10_breaksAt m1045_0 m1000_0s42 m1044_0 m1000_0s41 e81)
    obtain rfl := Option.some.inj hf
    exact hs
theorem frb_X10_spans_236 {F : Nat} {z : Mm} {k i j : Nat} (m1045_0 : ¬ (k = 1045 ∧ i = 0)) (m1000_0s42 : ¬ (k = 1000 ∧ i = 0 ∧ j = 42)) (m1044_0 : ¬ (k = 1044 ∧ i = 0)) (m1000_0s41 : ¬ (k = 1000 ∧ i = 0 ∧ j = 41)) : ∀ (μ : Mm) (a5 : Int32) (a6 : Int32) (a8 : Int32), f_X10_spans_b236 F μ a5 a6 a8 = some z → sm μ z k i j := by
  intro μ a5 a6 a8 hf
  unfold f_X10_spans_b236 at hf
  have hs : sm μ μ k i j := ⟨rfl, rfl⟩
  obtain ⟨v84, e86, hf⟩ := ob hf
  rcases oi hf with hf | hf
  · exact hs.trans (frb_X10_spans_261 m1045_0 m1000_0s42 m1044_0 m1000_0s41 _ _ _ _ hf)
  · exact hs.trans (frb_X10_spans_261 m1045_0 m1000_0s42 m1044_0 m1000_0s41 _ _ _ _ hf)
theorem frb_X10_spans_192 {F : Nat} {z : Mm} {k i j : Nat} (m1045_0 : ¬ (k = 1045 ∧ i = 0)) (m1000_0s42 : ¬ (k = 1000 ∧ i = 0 ∧ j = 42)) (m1044_0 : ¬ (k = 1044 ∧ i = 0)) (m1000_0s41 : ¬ (k = 1000 ∧ i = 0 ∧ j = 41)) : ∀ (N : Nat) (μ : Mm) (a3 : Int32) (a5 : Int32) (a6 : Int32) (a8 : Int32), f_X10_spans_b192 F N μ a3 a5 a6 a8 = some z → sm μ z k i j := by
  intro N
  induction N with
  | zero => intro μ a3 a5 a6 a8 hf; cases hf
  | succ N ih =>
    intro μ a3 a5 a6 a8 hf
    rw [f_X10_spans_b192] at hf
    have hs : sm μ μ k i j := ⟨rfl, rfl⟩
    obtain ⟨v93, e95, hf⟩ := ob hf
    rcases oi hf with hf | hf
    · exact hs.trans (frb_X10_spans_236 m1045_0 m1000_0s42 m1044_0 m1000_0s41 _ _ _ _ hf)
    · obtain ⟨q96, e98, hf⟩ := ob hf
      rcases oi hf with hf | hf
      · obtain ⟨q99, e101, hf⟩ := ob hf
        rcases oi hf with hf | hf
        · exact hs.trans (ih _ _ _ _ _ hf)
        · exact hs.trans (frb_X10_spans_236 m1045_0 m1000_0s42 m1044_0 m1000_0s41 _ _ _ _ hf)
      · exact hs.trans (frb_X10_spans_236 m1045_0 m1000_0s42 m1044_0 m1000_0s41 _ _ _ _ hf)
theorem frb_X10_spans_66 {F : Nat} {z : Mm} {k i j : Nat} (m1045_0 : ¬ (k = 1045 ∧ i = 0)) (m1000_0s42 : ¬ (k = 1000 ∧ i = 0 ∧ j = 42)) (m1044_0 : ¬ (k = 1044 ∧ i = 0)) (m1000_0s41 : ¬ (k = 1000 ∧ i = 0 ∧ j = 41)) : ∀ (μ : Mm) (a2 : Int32) (a3 : Int32) (a5 : Int32) (a6 : Int32) (a7 : Int32), f_X10_spans_b66 F μ a2 a3 a5 a6 a7 = some z → sm μ z k i j := by
  intro μ a2 a3 a5 a6 a7 hf
  unfold f_X10_spans_b66 at hf
  have hs : sm μ μ k i j := ⟨rfl, rfl⟩
  obtain ⟨v114, e116, hf⟩ := ob hf
  rcases oi hf with hf | hf
  · exact hs.trans (frb_X10_spans_96 m1045_0 m1000_0s42 m1044_0 m1000_0s41 _ _ _ _ hf)
  · obtain ⟨q117, e119, hf⟩ := ob hf
    obtain ⟨v120, e122, hf⟩ := ob hf
    rcases oi hf with hf | hf
    · obtain ⟨q123, e125, hf⟩ := ob hf
      obtain ⟨v126, e128, hf⟩ := ob hf
      rcases oi hf with hf | hf
      · rcases oi hf with hf | hf
        · exact hs.trans (frb_X10_spans_192 m1045_0 m1000_0s42 m1044_0 m1000_0s41 _ _ _ _ _ _ hf)
        · exact hs.trans (frb_X10_spans_261 m1045_0 m1000_0s42 m1044_0 m1000_0s41 _ _ _ _ hf)
      · obtain ⟨q129, e131, hf⟩ := ob hf
        replace hs := hs.trans (fr_X10_breaksAt m1045_0 m1000_0s42 m1044_0 m1000_0s41 e131)
        obtain rfl := Option.some.inj hf
        exact hs
    · exact hs.trans (frb_X10_spans_96 m1045_0 m1000_0s42 m1044_0 m1000_0s41 _ _ _ _ hf)
theorem frb_X10_spans_17 {F : Nat} {z : Mm} {k i j : Nat} (m1045_0 : ¬ (k = 1045 ∧ i = 0)) (m1000_0s42 : ¬ (k = 1000 ∧ i = 0 ∧ j = 42)) (m1044_0 : ¬ (k = 1044 ∧ i = 0)) (m1000_0s41 : ¬ (k = 1000 ∧ i = 0 ∧ j = 41)) : ∀ (N : Nat) (μ : Mm) (a2 : Int32) (a3 : Int32) (a4 : Int32) (a5 : Int32) (a6 : Int32) (a7 : Int32), f_X10_spans_b17 F N μ a2 a3 a4 a5 a6 a7 = some z → sm μ z k i j := by
  intro N
  induction N with
  | zero => intro μ a2 a3 a4 a5 a6 a7 hf; cases hf
  | succ N ih =>
    intro μ a2 a3 a4 a5 a6 a7 hf
    rw [f_X10_spans_b17] at hf
    have hs : sm μ μ k i j := ⟨rfl, rfl⟩
    obtain ⟨v140, e142, hf⟩ := ob hf
    rcases oi hf with hf | hf
    · exact hs.trans (frb_X10_spans_66 m1045_0 m1000_0s42 m1044_0 m1000_0s41 _ _ _ _ _ _ hf)
    · obtain ⟨q143, e145, hf⟩ := ob hf
      rcases oi hf with hf | hf
      · obtain ⟨q146, e148, hf⟩ := ob hf
        obtain ⟨v149, e151, hf⟩ := ob hf
        rcases oi hf with hf | hf
        · exact hs.trans (frb_X10_spans_66 m1045_0 m1000_0s42 m1044_0 m1000_0s41 _ _ _ _ _ _ hf)
        · exact hs.trans (ih _ _ _ _ _ _ _ hf)
      · exact hs.trans (frb_X10_spans_66 m1045_0 m1000_0s42 m1044_0 m1000_0s41 _ _ _ _ _ _ hf)
theorem fr_X10_spans {F : Nat} {μ : Mm} {p1 : Int32} {p2 : Int32} {p3 : Int32} {p4 : Int32} {p5 : Int32} {z : Mm} {k i j : Nat} (m1045_0 : ¬ (k = 1045 ∧ i = 0)) (m1000_0s42 : ¬ (k = 1000 ∧ i = 0 ∧ j = 42)) (m1044_0 : ¬ (k = 1044 ∧ i = 0)) (m1000_0s41 : ¬ (k = 1000 ∧ i = 0 ∧ j = 41)) (hf : f_X10_spans F μ p1 p2 p3 p4 p5 = some z) : sm μ z k i j := by
  unfold f_X10_spans at hf
  have hs : sm μ μ k i j := ⟨rfl, rfl⟩
  obtain ⟨q156, e158, hf⟩ := ob hf
  obtain ⟨v159, e161, hf⟩ := ob hf
  exact hs.trans (frb_X10_spans_17 m1045_0 m1000_0s42 m1044_0 m1000_0s41 _ _ _ _ _ _ _ _ hf)

theorem frb_X10_follows_136 {F : Nat} {K8 : Mm → Int32 → Int32 → Int32 → Int32 → Int32 → Option Mm} {z : Mm} {k i j : Nat} (hK8 : ∀ (μ : Mm) (a1 : Int32) (a2 : Int32) (a3 : Int32) (a4 : Int32) (a5 : Int32), K8 μ a1 a2 a3 a4 a5 = some z → sm μ z k i j) : ∀ (μ : Mm) (a1 : Int32) (a2 : Int32) (a5 : Int32), f_X10_follows_b136 F K8 μ a1 a2 a5 = some z → sm μ z k i j := by
  intro μ a1 a2 a5 hf
  unfold f_X10_follows_b136 at hf
  have hs : sm μ μ k i j := ⟨rfl, rfl⟩
  exact hs.trans (hK8 _ _ _ _ _ _ hf)
theorem frb_X10_follows_111 {F : Nat} {K8 : Mm → Int32 → Int32 → Int32 → Int32 → Int32 → Option Mm} {z : Mm} {k i j : Nat} (m1045_0 : ¬ (k = 1045 ∧ i = 0)) (m1000_0s42 : ¬ (k = 1000 ∧ i = 0 ∧ j = 42)) (m1044_0 : ¬ (k = 1044 ∧ i = 0)) (m1000_0s41 : ¬ (k = 1000 ∧ i = 0 ∧ j = 41)) (hK8 : ∀ (μ : Mm) (a1 : Int32) (a2 : Int32) (a3 : Int32) (a4 : Int32) (a5 : Int32), K8 μ a1 a2 a3 a4 a5 = some z → sm μ z k i j) : ∀ (μ : Mm) (a1 : Int32) (a2 : Int32) (a3 : Int32) (a4 : Int32) (a5 : Int32), f_X10_follows_b111 F K8 μ a1 a2 a3 a4 a5 = some z → sm μ z k i j := by
  intro μ a1 a2 a3 a4 a5 hf
  unfold f_X10_follows_b111 at hf
  have hs : sm μ μ k i j := ⟨rfl, rfl⟩
  rcases oi hf with hf | hf
  · exact hs.trans (frb_X10_follows_136 hK8 _ _ _ _ hf)
  · rcases oi hf with hf | hf
    · exact hs.trans (frb_X10_follows_136 hK8 _ _ _ _ hf)
    · obtain ⟨q35, e37, hf⟩ := ob hf
      obtain ⟨v38, e40, hf⟩ := ob hf
      obtain ⟨q41, e43, hf⟩ := ob hf
      replace hs := hs.trans (fr_X10_breaksAt m1045_0 m1000_0s42 m1044_0 m1000_0s41 e43)
      exact hs.trans (frb_X10_follows_136 hK8 _ _ _ _ hf)
theorem frb_X10_follows_48 {F : Nat} {K8 : Mm → Int32 → Int32 → Int32 → Int32 → Int32 → Option Mm} {z : Mm} {k i j : Nat} (m1045_0 : ¬ (k = 1045 ∧ i = 0)) (m1000_0s42 : ¬ (k = 1000 ∧ i = 0 ∧ j = 42)) (m1044_0 : ¬ (k = 1044 ∧ i = 0)) (m1000_0s41 : ¬ (k = 1000 ∧ i = 0 ∧ j = 41)) (hK8 : ∀ (μ : Mm) (a1 : Int32) (a2 : Int32) (a3 : Int32) (a4 : Int32) (a5 : Int32), K8 μ a1 a2 a3 a4 a5 = some z → sm μ z k i j) : ∀ (μ : Mm) (a1 : Int32) (a2 : Int32) (a3 : Int32) (a5 : Int32) (s0 : Int32), f_X10_follows_b48 F K8 μ a1 a2 a3 a5 s0 = some z → sm μ z k i j := by
  intro μ a1 a2 a3 a5 s0 hf
  unfold f_X10_follows_b48 at hf
  have hs : sm μ μ k i j := ⟨rfl, rfl⟩
  obtain ⟨q60, e62, hf⟩ := ob hf
  rcases oi hf with hf | hf
  · exact hs.trans (hK8 _ _ _ _ _ _ hf)
  · rcases oi hf with hf | hf
    · exact hs.trans (frb_X10_follows_111 m1045_0 m1000_0s42 m1044_0 m1000_0s41 hK8 _ _ _ _ _ _ hf)
    · obtain ⟨q63, e65, hf⟩ := ob hf
      obtain ⟨v66, e68, hf⟩ := ob hf
      obtain ⟨q69, e71, hf⟩ := ob hf
      obtain ⟨v72, e74, hf⟩ := ob hf
      rcases oi hf with hf | hf
      · exact hs.trans (frb_X10_follows_111 m1045_0 m1000_0s42 m1044_0 m1000_0s41 hK8 _ _ _ _ _ _ hf)
      · obtain ⟨q75, e77, hf⟩ := ob hf
        obtain ⟨v78, e80, hf⟩ := ob hf
        obtain ⟨q81, e83, hf⟩ := ob hf
        replace hs := hs.trans (fr_X10_breaksAt m1045_0 m1000_0s42 m1044_0 m1000_0s41 e83)
        exact hs.trans (frb_X10_follows_136 hK8 _ _ _ _ hf)
theorem frb_X10_follows_8 {F : Nat} {z : Mm} {k i j : Nat} (m1045_0 : ¬ (k = 1045 ∧ i = 0)) (m1000_0s42 : ¬ (k = 1000 ∧ i = 0 ∧ j = 42)) (m1044_0 : ¬ (k = 1044 ∧ i = 0)) (m1000_0s41 : ¬ (k = 1000 ∧ i = 0 ∧ j = 41)) : ∀ (N : Nat) (μ : Mm) (a1 : Int32) (a2 : Int32) (a3 : Int32) (a4 : Int32) (a5 : Int32), f_X10_follows_b8 F N μ a1 a2 a3 a4 a5 = some z → sm μ z k i j := by
  intro N
  induction N with
  | zero => intro μ a1 a2 a3 a4 a5 hf; cases hf
  | succ N ih =>
    intro μ a1 a2 a3 a4 a5 hf
    rw [f_X10_follows_b8] at hf
    have hs : sm μ μ k i j := ⟨rfl, rfl⟩
    obtain ⟨v90, e92, hf⟩ := ob hf
    rcases oi hf with hf | hf
    · obtain rfl := Option.some.inj hf
      exact hs
    · rcases oi hf with hf | hf
      · obtain ⟨q93, e95, hf⟩ := ob hf
        obtain ⟨v96, e98, hf⟩ := ob hf
        rcases oi hf with hf | hf
        · exact hs.trans (frb_X10_follows_48 m1045_0 m1000_0s42 m1044_0 m1000_0s41 ih _ _ _ _ _ _ hf)
        · exact hs.trans (frb_X10_follows_48 m1045_0 m1000_0s42 m1044_0 m1000_0s41 ih _ _ _ _ _ _ hf)
      · exact hs.trans (frb_X10_follows_48 m1045_0 m1000_0s42 m1044_0 m1000_0s41 ih _ _ _ _ _ _ hf)
theorem fr_X10_follows {F : Nat} {μ : Mm} {p1 : Int32} {p2 : Int32} {z : Mm} {k i j : Nat} (m1045_0 : ¬ (k = 1045 ∧ i = 0)) (m1000_0s42 : ¬ (k = 1000 ∧ i = 0 ∧ j = 42)) (m1044_0 : ¬ (k = 1044 ∧ i = 0)) (m1000_0s41 : ¬ (k = 1000 ∧ i = 0 ∧ j = 41)) (hf : f_X10_follows F μ p1 p2 = some z) : sm μ z k i j := by
  unfold f_X10_follows at hf
  have hs : sm μ μ k i j := ⟨rfl, rfl⟩
  exact hs.trans (frb_X10_follows_8 m1045_0 m1000_0s42 m1044_0 m1000_0s41 _ _ _ _ _ _ _ hf)

theorem frb_X10_seeksMark_13 {F : Nat} {K2 : Mm → Int32 → Int32 → Int32 → Option (Int32 × Mm)} {z : Int32 × Mm} {k i j : Nat} (m1000_0s46 : ¬ (k = 1000 ∧ i = 0 ∧ j = 46)) (m1000_0s47 : ¬ (k = 1000 ∧ i = 0 ∧ j = 47)) (hK2 : ∀ (μ : Mm) (a1 : Int32) (a2 : Int32) (a3 : Int32), K2 μ a1 a2 a3 = some z → sm μ z.2 k i j) : ∀ (N : Nat) (μ : Mm) (a1 : Int32) (a2 : Int32) (a3 : Int32) (a4 : Int32), f_X10_seeksMark_b13 F K2 N μ a1 a2 a3 a4 = some z → sm μ z.2 k i j := by
  intro N
  induction N with
  | zero => intro μ a1 a2 a3 a4 hf; cases hf
  | succ N ih =>
    intro μ a1 a2 a3 a4 hf
    rw [f_X10_seeksMark_b13] at hf
    have hs : sm μ μ k i j := ⟨rfl, rfl⟩
    obtain ⟨v25, e27, hf⟩ := ob hf
    rcases oi hf with hf | hf
    · exact hs.trans (hK2 _ _ _ _ hf)
    · obtain ⟨v28, e30, hf⟩ := ob hf
      rcases oi hf with hf | hf
      · obtain ⟨v31, e33, hf⟩ := ob hf
        rcases oi hf with hf | hf
        · obtain ⟨m34, e36, hf⟩ := ob hf
          replace hs := hs.trans (fr_wf m1000_0s46 e36)
          obtain ⟨v37, e39, hf⟩ := ob hf
          obtain ⟨m40, e42, hf⟩ := ob hf
          replace hs := hs.trans (fr_wf m1000_0s47 e42)
          obtain rfl := Option.some.inj hf
          exact hs
        · exact hs.trans (ih _ _ _ _ _ hf)
      · exact hs.trans (ih _ _ _ _ _ hf)
theorem frb_X10_seeksMark_2 {F : Nat} {z : Int32 × Mm} {k i j : Nat} (m1000_0s46 : ¬ (k = 1000 ∧ i = 0 ∧ j = 46)) (m1000_0s47 : ¬ (k = 1000 ∧ i = 0 ∧ j = 47)) : ∀ (N : Nat) (μ : Mm) (a1 : Int32) (a2 : Int32) (a3 : Int32), f_X10_seeksMark_b2 F N μ a1 a2 a3 = some z → sm μ z.2 k i j := by
  intro N
  induction N with
  | zero => intro μ a1 a2 a3 hf; cases hf
  | succ N ih =>
    intro μ a1 a2 a3 hf
    rw [f_X10_seeksMark_b2] at hf
    have hs : sm μ μ k i j := ⟨rfl, rfl⟩
    rcases oi hf with hf | hf
    · obtain rfl := Option.some.inj hf
      exact hs
    · exact hs.trans (frb_X10_seeksMark_13 m1000_0s46 m1000_0s47 ih _ _ _ _ _ _ hf)
theorem fr_X10_seeksMark {F : Nat} {μ : Mm} {p1 : Int32} {p2 : Int32} {z : Int32 × Mm} {k i j : Nat} (m1000_0s46 : ¬ (k = 1000 ∧ i = 0 ∧ j = 46)) (m1000_0s47 : ¬ (k = 1000 ∧ i = 0 ∧ j = 47)) (hf : f_X10_seeksMark F μ p1 p2 = some z) : sm μ z.2 k i j := by
  unfold f_X10_seeksMark at hf
  have hs : sm μ μ k i j := ⟨rfl, rfl⟩
  exact hs.trans (frb_X10_seeksMark_2 m1000_0s46 m1000_0s47 _ _ _ _ _ hf)

theorem frb_X10_joins_218 {F : Nat} {K138 : Mm → Int32 → Option (Int32 × Mm)} {K145 : Mm → Int32 → Int32 → Option (Int32 × Mm)} {K152 : Mm → Int32 → Int32 → Int32 → Option (Int32 × Mm)} {z : Int32 × Mm} {k i j : Nat} (m1046_0 : ¬ (k = 1046 ∧ i = 0)) (hK138 : ∀ (μ : Mm) (a1 : Int32), K138 μ a1 = some z → sm μ z.2 k i j) (hK145 : ∀ (μ : Mm) (a1 : Int32) (a2 : Int32), K145 μ a1 a2 = some z → sm μ z.2 k i j) (hK152 : ∀ (μ : Mm) (a1 : Int32) (a2 : Int32) (a3 : Int32), K152 μ a1 a2 a3 = some z → sm μ z.2 k i j) : ∀ (μ : Mm) (a1 : Int32) (a2 : Int32) (a3 : Int32) (s0 : Int64), f_X10_joins_b218 F K138 K145 K152 μ a1 a2 a3 s0 = some z → sm μ z.2 k i j := by
  intro μ a1 a2 a3 s0 hf
  unfold f_X10_joins_b218 at hf
  have hs : sm μ μ k i j := ⟨rfl, rfl⟩
  obtain ⟨v41, e43, hf⟩ := ob hf
  rcases oi hf with hf | hf
  · obtain ⟨v44, e46, hf⟩ := ob hf
    obtain ⟨m47, e49, hf⟩ := ob hf
    replace hs := hs.trans (fr_wg m1046_0 e49)
    exact hs.trans (hK152 _ _ _ _ hf)
  · obtain ⟨m50, e52, hf⟩ := ob hf
    replace hs := hs.trans (fr_wg m1046_0 e52)
    exact hs.trans (hK152 _ _ _ _ hf)
theorem frb_X10_joins_152 {F : Nat} {K138 : Mm → Int32 → Option (Int32 × Mm)} {K145 : Mm → Int32 → Int32 → Option (Int32 × Mm)} {z : Int32 × Mm} {k i j : Nat} (m1046_0 : ¬ (k = 1046 ∧ i = 0)) (hK138 : ∀ (μ : Mm) (a1 : Int32), K138 μ a1 = some z → sm μ z.2 k i j) (hK145 : ∀ (μ : Mm) (a1 : Int32) (a2 : Int32), K145 μ a1 a2 = some z → sm μ z.2 k i j) : ∀ (N : Nat) (μ : Mm) (a1 : Int32) (a2 : Int32) (a3 : Int32), f_X10_joins_b152 F K138 K145 N μ a1 a2 a3 = some z → sm μ z.2 k i j := by
  intro N
  induction N with
  | zero => intro μ a1 a2 a3 hf; cases hf
  | succ N ih =>
    intro μ a1 a2 a3 hf
    rw [f_X10_joins_b152] at hf
    have hs : sm μ μ k i j := ⟨rfl, rfl⟩
    rcases oi hf with hf | hf
    · exact hs.trans (hK145 _ _ _ hf)
    · obtain ⟨v61, e63, hf⟩ := ob hf
      rcases oi hf with hf | hf
      · exact hs.trans (frb_X10_joins_218 m1046_0 hK138 hK145 ih _ _ _ _ _ hf)
      · obtain ⟨v64, e66, hf⟩ := ob hf
        rcases oi hf with hf | hf
        · exact hs.trans (frb_X10_joins_218 m1046_0 hK138 hK145 ih _ _ _ _ _ hf)
        · obtain ⟨v67, e69, hf⟩ := ob hf
          obtain ⟨v70, e72, hf⟩ := ob hf
          exact hs.trans (frb_X10_joins_218 m1046_0 hK138 hK145 ih _ _ _ _ _ hf)
theorem frb_X10_joins_145 {F : Nat} {K138 : Mm → Int32 → Option (Int32 × Mm)} {z : Int32 × Mm} {k i j : Nat} (m1046_0 : ¬ (k = 1046 ∧ i = 0)) (hK138 : ∀ (μ : Mm) (a1 : Int32), K138 μ a1 = some z → sm μ z.2 k i j) : ∀ (N : Nat) (μ : Mm) (a1 : Int32) (a2 : Int32), f_X10_joins_b145 F K138 N μ a1 a2 = some z → sm μ z.2 k i j := by
  intro N
  induction N with
  | zero => intro μ a1 a2 hf; cases hf
  | succ N ih =>
    intro μ a1 a2 hf
    rw [f_X10_joins_b145] at hf
    have hs : sm μ μ k i j := ⟨rfl, rfl⟩
    rcases oi hf with hf | hf
    · exact hs.trans (hK138 _ _ hf)
    · exact hs.trans (frb_X10_joins_152 m1046_0 hK138 ih _ _ _ _ _ hf)
theorem frb_X10_joins_138 {F : Nat} {z : Int32 × Mm} {k i j : Nat} (m1046_0 : ¬ (k = 1046 ∧ i = 0)) : ∀ (N : Nat) (μ : Mm) (a1 : Int32), f_X10_joins_b138 F N μ a1 = some z → sm μ z.2 k i j := by
  intro N
  induction N with
  | zero => intro μ a1 hf; cases hf
  | succ N ih =>
    intro μ a1 hf
    rw [f_X10_joins_b138] at hf
    have hs : sm μ μ k i j := ⟨rfl, rfl⟩
    rcases oi hf with hf | hf
    · obtain ⟨v79, e81, hf⟩ := ob hf
      rcases oi hf with hf | hf
      · obtain rfl := Option.some.inj hf
        exact hs
      · obtain ⟨v82, e84, hf⟩ := ob hf
        rcases oi hf with hf | hf
        · obtain rfl := Option.some.inj hf
          exact hs
        · obtain ⟨v85, e87, hf⟩ := ob hf
          rcases oi hf with hf | hf
          · obtain rfl := Option.some.inj hf
            exact hs
          · obtain rfl := Option.some.inj hf
            exact hs
    · exact hs.trans (frb_X10_joins_145 m1046_0 ih _ _ _ _ hf)
theorem frb_X10_joins_35 {F : Nat} {z : Int32 × Mm} {k i j : Nat} (m1046_0 : ¬ (k = 1046 ∧ i = 0)) (m1000_0s46 : ¬ (k = 1000 ∧ i = 0 ∧ j = 46)) (m1000_0s47 : ¬ (k = 1000 ∧ i = 0 ∧ j = 47)) : ∀ (N : Nat) (μ : Mm) (a1 : Int32), f_X10_joins_b35 F N μ a1 = some z → sm μ z.2 k i j := by
  intro N
  induction N with
  | zero => intro μ a1 hf; cases hf
  | succ N ih =>
    intro μ a1 hf
    rw [f_X10_joins_b35] at hf
    have hs : sm μ μ k i j := ⟨rfl, rfl⟩
    rcases oi hf with hf | hf
    · exact hs.trans (frb_X10_joins_138 m1046_0 _ _ _ hf)
    · obtain ⟨q100, e102, hf⟩ := ob hf
      replace hs := hs.trans (fr_X10_seeksMark m1000_0s46 m1000_0s47 e102)
      rcases oi hf with hf | hf
      · exact hs.trans (ih _ _ hf)
      · obtain ⟨q103, e105, hf⟩ := ob hf
        replace hs := hs.trans (fr_X10_seeksMark m1000_0s46 m1000_0s47 e105)
        rcases oi hf with hf | hf
        · exact hs.trans (ih _ _ hf)
        · obtain ⟨v106, e108, hf⟩ := ob hf
          rcases oi hf with hf | hf
          · obtain ⟨v109, e111, hf⟩ := ob hf
            obtain ⟨m112, e114, hf⟩ := ob hf
            replace hs := hs.trans (fr_wg m1046_0 e114)
            exact hs.trans (ih _ _ hf)
          · obtain ⟨m115, e117, hf⟩ := ob hf
            replace hs := hs.trans (fr_wg m1046_0 e117)
            exact hs.trans (ih _ _ hf)
theorem frb_X10_joins_2 {F : Nat} {z : Int32 × Mm} {k i j : Nat} (m1046_0 : ¬ (k = 1046 ∧ i = 0)) (m1000_0s46 : ¬ (k = 1000 ∧ i = 0 ∧ j = 46)) (m1000_0s47 : ¬ (k = 1000 ∧ i = 0 ∧ j = 47)) : ∀ (N : Nat) (μ : Mm) (a1 : Int32), f_X10_joins_b2 F N μ a1 = some z → sm μ z.2 k i j := by
  intro N
  induction N with
  | zero => intro μ a1 hf; cases hf
  | succ N ih =>
    intro μ a1 hf
    rw [f_X10_joins_b2] at hf
    have hs : sm μ μ k i j := ⟨rfl, rfl⟩
    rcases oi hf with hf | hf
    · exact hs.trans (frb_X10_joins_35 m1046_0 m1000_0s46 m1000_0s47 _ _ _ hf)
    · rcases oi hf with hf | hf
      · obtain ⟨m125, e127, hf⟩ := ob hf
        replace hs := hs.trans (fr_wg m1046_0 e127)
        exact hs.trans (ih _ _ hf)
      · obtain ⟨m122, e124, hf⟩ := ob hf
        replace hs := hs.trans (fr_wg m1046_0 e124)
        exact hs.trans (ih _ _ hf)
theorem fr_X10_joins {F : Nat} {μ : Mm} {z : Int32 × Mm} {k i j : Nat} (m1046_0 : ¬ (k = 1046 ∧ i = 0)) (m1000_0s46 : ¬ (k = 1000 ∧ i = 0 ∧ j = 46)) (m1000_0s47 : ¬ (k = 1000 ∧ i = 0 ∧ j = 47)) (hf : f_X10_joins F μ = some z) : sm μ z.2 k i j := by
  unfold f_X10_joins at hf
  have hs : sm μ μ k i j := ⟨rfl, rfl⟩
  exact hs.trans (frb_X10_joins_2 m1046_0 m1000_0s46 m1000_0s47 _ _ _ hf)

theorem fr_X10_agree {F : Nat} {μ : Mm} {z : Int32 × Mm} {k i j : Nat} (m1046_0 : ¬ (k = 1046 ∧ i = 0)) (m1000_0s46 : ¬ (k = 1000 ∧ i = 0 ∧ j = 46)) (m1000_0s47 : ¬ (k = 1000 ∧ i = 0 ∧ j = 47)) (hf : f_X10_agree F μ = some z) : sm μ z.2 k i j := by
  unfold f_X10_agree at hf
  have hs : sm μ μ k i j := ⟨rfl, rfl⟩
  obtain ⟨q5, e7, hf⟩ := ob hf
  replace hs := hs.trans (fr_X10_joins m1046_0 m1000_0s46 m1000_0s47 e7)
  rcases oi hf with hf | hf
  · obtain rfl := Option.some.inj hf
    exact hs
  · obtain rfl := Option.some.inj hf
    exact hs

theorem frb_X10_gapOf_56 {F : Nat} {z : Int32 × Mm} {k i j : Nat} (m1000_0s0 : ¬ (k = 1000 ∧ i = 0 ∧ j = 0)) : ∀ (μ : Mm) (a3 : Int32) (a5 : Int64) (s0 : Int32), f_X10_gapOf_b56 F μ a3 a5 s0 = some z → sm μ z.2 k i j := by
  intro μ a3 a5 s0 hf
  unfold f_X10_gapOf_b56 at hf
  have hs : sm μ μ k i j := ⟨rfl, rfl⟩
  obtain ⟨m11, e13, hf⟩ := ob hf
  replace hs := hs.trans (fr_wf m1000_0s0 e13)
  rcases oi hf with hf | hf
  · rcases oi hf with hf | hf
    · obtain rfl := Option.some.inj hf
      exact hs
    · obtain rfl := Option.some.inj hf
      exact hs
  · obtain rfl := Option.some.inj hf
    exact hs
theorem frb_X10_gapOf_34 {F : Nat} {z : Int32 × Mm} {k i j : Nat} (m1000_0s0 : ¬ (k = 1000 ∧ i = 0 ∧ j = 0)) : ∀ (μ : Mm) (a3 : Int32) (a4 : Int32) (s0 : Int64), f_X10_gapOf_b34 F μ a3 a4 s0 = some z → sm μ z.2 k i j := by
  intro μ a3 a4 s0 hf
  unfold f_X10_gapOf_b34 at hf
  have hs : sm μ μ k i j := ⟨rfl, rfl⟩
  rcases oi hf with hf | hf
  · exact hs.trans (frb_X10_gapOf_56 m1000_0s0 _ _ _ _ hf)
  · rcases oi hf with hf | hf
    · exact hs.trans (frb_X10_gapOf_56 m1000_0s0 _ _ _ _ hf)
    · exact hs.trans (frb_X10_gapOf_56 m1000_0s0 _ _ _ _ hf)
theorem fr_X10_gapOf {F : Nat} {μ : Mm} {p1 : Int32} {p2 : Int32} {p3 : Int32} {z : Int32 × Mm} {k i j : Nat} (m1046_0 : ¬ (k = 1046 ∧ i = 0)) (m1000_0s46 : ¬ (k = 1000 ∧ i = 0 ∧ j = 46)) (m1000_0s47 : ¬ (k = 1000 ∧ i = 0 ∧ j = 47)) (m1000_0s0 : ¬ (k = 1000 ∧ i = 0 ∧ j = 0)) (hf : f_X10_gapOf F μ p1 p2 p3 = some z) : sm μ z.2 k i j := by
  unfold f_X10_gapOf at hf
  have hs : sm μ μ k i j := ⟨rfl, rfl⟩
  obtain ⟨q20, e22, hf⟩ := ob hf
  replace hs := hs.trans (fr_X10_joins m1046_0 m1000_0s46 m1000_0s47 e22)
  rcases oi hf with hf | hf
  · obtain ⟨v26, e28, hf⟩ := ob hf
    exact hs.trans (frb_X10_gapOf_34 m1000_0s0 _ _ _ _ hf)
  · obtain ⟨v23, e25, hf⟩ := ob hf
    exact hs.trans (frb_X10_gapOf_34 m1000_0s0 _ _ _ _ hf)

theorem frb_X10_gap_25 {F : Nat} {z : Int32 × Mm} {k i j : Nat} (m1000_0s0 : ¬ (k = 1000 ∧ i = 0 ∧ j = 0)) : ∀ (μ : Mm), f_X10_gap_b25 F μ = some z → sm μ z.2 k i j := by
  intro μ hf
  unfold f_X10_gap_b25 at hf
  have hs : sm μ μ k i j := ⟨rfl, rfl⟩
  obtain ⟨m13, e15, hf⟩ := ob hf
  replace hs := hs.trans (fr_wf m1000_0s0 e15)
  obtain rfl := Option.some.inj hf
  exact hs
theorem fr_X10_gap {F : Nat} {μ : Mm} {p1 : Int32} {p2 : Int32} {p3 : Int32} {z : Int32 × Mm} {k i j : Nat} (m1000_0s0 : ¬ (k = 1000 ∧ i = 0 ∧ j = 0)) (m1046_0 : ¬ (k = 1046 ∧ i = 0)) (m1000_0s46 : ¬ (k = 1000 ∧ i = 0 ∧ j = 46)) (m1000_0s47 : ¬ (k = 1000 ∧ i = 0 ∧ j = 47)) (hf : f_X10_gap F μ p1 p2 p3 = some z) : sm μ z.2 k i j := by
  unfold f_X10_gap at hf
  have hs : sm μ μ k i j := ⟨rfl, rfl⟩
  obtain ⟨q24, e26, hf⟩ := ob hf
  rcases oi hf with hf | hf
  · exact hs.trans (frb_X10_gap_25 m1000_0s0 _ hf)
  · obtain ⟨q27, e29, hf⟩ := ob hf
    rcases oi hf with hf | hf
    · exact hs.trans (frb_X10_gap_25 m1000_0s0 _ hf)
    · obtain ⟨q30, e32, hf⟩ := ob hf
      rcases oi hf with hf | hf
      · exact hs.trans (frb_X10_gap_25 m1000_0s0 _ hf)
      · obtain ⟨q33, e35, hf⟩ := ob hf
        replace hs := hs.trans (fr_X10_gapOf m1046_0 m1000_0s46 m1000_0s47 m1000_0s0 e35)
        obtain rfl := Option.some.inj hf
        exact hs

theorem fr_X10_answer {F : Nat} {μ : Mm} {p1 : Int32} {p2 : Int32} {z : Int32 × Mm} {k i j : Nat} (m1000_0s0 : ¬ (k = 1000 ∧ i = 0 ∧ j = 0)) (m1000_0s46 : ¬ (k = 1000 ∧ i = 0 ∧ j = 46)) (m1000_0s47 : ¬ (k = 1000 ∧ i = 0 ∧ j = 47)) (m1046_0 : ¬ (k = 1046 ∧ i = 0)) (hf : f_X10_answer F μ p1 p2 = some z) : sm μ z.2 k i j := by
  unfold f_X10_answer at hf
  have hs : sm μ μ k i j := ⟨rfl, rfl⟩
  obtain ⟨q35, e37, hf⟩ := ob hf
  rcases oi hf with hf | hf
  · obtain ⟨m38, e40, hf⟩ := ob hf
    replace hs := hs.trans (fr_wf m1000_0s0 e40)
    obtain rfl := Option.some.inj hf
    exact hs
  · obtain ⟨q41, e43, hf⟩ := ob hf
    rcases oi hf with hf | hf
    · obtain ⟨m59, e61, hf⟩ := ob hf
      replace hs := hs.trans (fr_wf m1000_0s0 e61)
      obtain rfl := Option.some.inj hf
      exact hs
    · obtain ⟨m44, e46, hf⟩ := ob hf
      replace hs := hs.trans (fr_wf m1000_0s0 e46)
      obtain ⟨q47, e49, hf⟩ := ob hf
      replace hs := hs.trans (fr_X10_seeksMark m1000_0s46 m1000_0s47 e49)
      rcases oi hf with hf | hf
      · obtain rfl := Option.some.inj hf
        exact hs
      · obtain ⟨q50, e52, hf⟩ := ob hf
        replace hs := hs.trans (fr_X10_seeksMark m1000_0s46 m1000_0s47 e52)
        rcases oi hf with hf | hf
        · obtain rfl := Option.some.inj hf
          exact hs
        · obtain ⟨m53, e55, hf⟩ := ob hf
          replace hs := hs.trans (fr_wf m1000_0s0 e55)
          rcases oi hf with hf | hf
          · obtain rfl := Option.some.inj hf
            exact hs
          · obtain ⟨q56, e58, hf⟩ := ob hf
            replace hs := hs.trans (fr_X10_gapOf m1046_0 m1000_0s46 m1000_0s47 m1000_0s0 e58)
            rcases oi hf with hf | hf
            · obtain rfl := Option.some.inj hf
              exact hs
            · obtain rfl := Option.some.inj hf
              exact hs

theorem frb_X10_runs_55 {F : Nat} {K2 : Mm → Int32 → Int32 → Option Mm} {z : Mm} {k i j : Nat} (m1053_0 : ¬ (k = 1053 ∧ i = 0)) (m1054_0 : ¬ (k = 1054 ∧ i = 0)) (hK2 : ∀ (μ : Mm) (a2 : Int32) (a3 : Int32), K2 μ a2 a3 = some z → sm μ z k i j) : ∀ (μ : Mm) (a2 : Int32) (a3 : Int32) (a4 : Int32) (s0 : Int32), f_X10_runs_b55 F K2 μ a2 a3 a4 s0 = some z → sm μ z k i j := by
  intro μ a2 a3 a4 s0 hf
  unfold f_X10_runs_b55 at hf
  have hs : sm μ μ k i j := ⟨rfl, rfl⟩
  obtain ⟨v25, e27, hf⟩ := ob hf
  obtain ⟨m28, e30, hf⟩ := ob hf
  replace hs := hs.trans (fr_wa m1053_0 e30)
  obtain ⟨v31, e33, hf⟩ := ob hf
  rcases oi hf with hf | hf
  · obtain ⟨m37, e39, hf⟩ := ob hf
    replace hs := hs.trans (fr_wa m1054_0 e39)
    exact hs.trans (hK2 _ _ _ hf)
  · obtain ⟨m34, e36, hf⟩ := ob hf
    replace hs := hs.trans (fr_wa m1054_0 e36)
    exact hs.trans (hK2 _ _ _ hf)
theorem frb_X10_runs_2 {F : Nat} {z : Mm} {k i j : Nat} (m1053_0 : ¬ (k = 1053 ∧ i = 0)) (m1054_0 : ¬ (k = 1054 ∧ i = 0)) : ∀ (N : Nat) (μ : Mm) (a2 : Int32) (a3 : Int32), f_X10_runs_b2 F N μ a2 a3 = some z → sm μ z k i j := by
  intro N
  induction N with
  | zero => intro μ a2 a3 hf; cases hf
  | succ N ih =>
    intro μ a2 a3 hf
    rw [f_X10_runs_b2] at hf
    have hs : sm μ μ k i j := ⟨rfl, rfl⟩
    rcases oi hf with hf | hf
    · obtain rfl := Option.some.inj hf
      exact hs
    · obtain ⟨q46, e48, hf⟩ := ob hf
      obtain ⟨q49, e51, hf⟩ := ob hf
      rcases oi hf with hf | hf
      · exact hs.trans (ih _ _ _ hf)
      · obtain ⟨v52, e54, hf⟩ := ob hf
        rcases oi hf with hf | hf
        · exact hs.trans (frb_X10_runs_55 m1053_0 m1054_0 ih _ _ _ _ _ hf)
        · exact hs.trans (frb_X10_runs_55 m1053_0 m1054_0 ih _ _ _ _ _ hf)
theorem fr_X10_runs {F : Nat} {μ : Mm} {p1 : Int32} {p2 : Int32} {z : Mm} {k i j : Nat} (m1053_0 : ¬ (k = 1053 ∧ i = 0)) (m1054_0 : ¬ (k = 1054 ∧ i = 0)) (hf : f_X10_runs F μ p1 p2 = some z) : sm μ z k i j := by
  unfold f_X10_runs at hf
  have hs : sm μ μ k i j := ⟨rfl, rfl⟩
  exact hs.trans (frb_X10_runs_2 m1053_0 m1054_0 _ _ _ _ hf)

theorem frb_X10_tape_52 {F : Nat} {z : Int32 × Mm} {k i j : Nat} (m1022_0 : ¬ (k = 1022 ∧ i = 0)) : ∀ (N : Nat) (μ : Mm) (a1 : Int32) (a3 : Int32) (a4 : Int32), f_X10_tape_b52 F N μ a1 a3 a4 = some z → sm μ z.2 k i j := by
  intro N
  induction N with
  | zero => intro μ a1 a3 a4 hf; cases hf
  | succ N ih =>
    intro μ a1 a3 a4 hf
    rw [f_X10_tape_b52] at hf
    have hs : sm μ μ k i j := ⟨rfl, rfl⟩
    rcases oi hf with hf | hf
    · obtain rfl := Option.some.inj hf
      exact hs
    · obtain ⟨m15, e17, hf⟩ := ob hf
      replace hs := hs.trans (fr_wg m1022_0 e17)
      exact hs.trans (ih _ _ _ _ hf)
theorem fr_X10_tape {F : Nat} {μ : Mm} {p1 : Int32} {p2 : Int32} {p3 : Int32} {z : Int32 × Mm} {k i j : Nat} (m1020_0 : ¬ (k = 1020 ∧ i = 0)) (m1021_0 : ¬ (k = 1021 ∧ i = 0)) (m1022_0 : ¬ (k = 1022 ∧ i = 0)) (m1000_0s18 : ¬ (k = 1000 ∧ i = 0 ∧ j = 18)) (hf : f_X10_tape F μ p1 p2 p3 = some z) : sm μ z.2 k i j := by
  unfold f_X10_tape at hf
  have hs : sm μ μ k i j := ⟨rfl, rfl⟩
  obtain ⟨q28, e30, hf⟩ := ob hf
  rcases oi hf with hf | hf
  · obtain rfl := Option.some.inj hf
    exact hs
  · obtain ⟨q31, e33, hf⟩ := ob hf
    rcases oi hf with hf | hf
    · obtain rfl := Option.some.inj hf
      exact hs
    · rcases oi hf with hf | hf
      · rcases oi hf with hf | hf
        · obtain ⟨m34, e36, hf⟩ := ob hf
          replace hs := hs.trans (fr_wa m1020_0 e36)
          obtain ⟨m37, e39, hf⟩ := ob hf
          replace hs := hs.trans (fr_wa m1021_0 e39)
          exact hs.trans (frb_X10_tape_52 m1022_0 _ _ _ _ _ hf)
        · obtain ⟨q40, e42, hf⟩ := ob hf
          replace hs := hs.trans (fr_X10_refuse m1000_0s18 e42)
          obtain rfl := Option.some.inj hf
          exact hs
      · obtain rfl := Option.some.inj hf
        exact hs

theorem frb_X10_moves_14 {F : Nat} {z : Mm} {k i j : Nat} (m1009_0 : ¬ (k = 1009 ∧ i = 0)) (m1010_0 : ¬ (k = 1010 ∧ i = 0)) (m1011_0 : ¬ (k = 1011 ∧ i = 0)) (m1012_0 : ¬ (k = 1012 ∧ i = 0)) : ∀ (N : Nat) (μ : Mm) (a1 : Int32) (a2 : Int32) (a3 : Int32), f_X10_moves_b14 F N μ a1 a2 a3 = some z → sm μ z k i j := by
  intro N
  induction N with
  | zero => intro μ a1 a2 a3 hf; cases hf
  | succ N ih =>
    intro μ a1 a2 a3 hf
    rw [f_X10_moves_b14] at hf
    have hs : sm μ μ k i j := ⟨rfl, rfl⟩
    obtain ⟨v41, e43, hf⟩ := ob hf
    rcases oi hf with hf | hf
    · obtain rfl := Option.some.inj hf
      exact hs
    · obtain ⟨v44, e46, hf⟩ := ob hf
      obtain ⟨m47, e49, hf⟩ := ob hf
      replace hs := hs.trans (fr_wb m1009_0 e49)
      obtain ⟨v50, e52, hf⟩ := ob hf
      obtain ⟨m53, e55, hf⟩ := ob hf
      replace hs := hs.trans (fr_wb m1010_0 e55)
      obtain ⟨v56, e58, hf⟩ := ob hf
      obtain ⟨m59, e61, hf⟩ := ob hf
      replace hs := hs.trans (fr_wb m1011_0 e61)
      obtain ⟨v62, e64, hf⟩ := ob hf
      obtain ⟨m65, e67, hf⟩ := ob hf
      replace hs := hs.trans (fr_wa m1012_0 e67)
      exact hs.trans (ih _ _ _ _ hf)
theorem fr_X10_moves {F : Nat} {μ : Mm} {p1 : Int32} {p2 : Int32} {z : Mm} {k i j : Nat} (m1008_0 : ¬ (k = 1008 ∧ i = 0)) (m1009_0 : ¬ (k = 1009 ∧ i = 0)) (m1010_0 : ¬ (k = 1010 ∧ i = 0)) (m1011_0 : ¬ (k = 1011 ∧ i = 0)) (m1012_0 : ¬ (k = 1012 ∧ i = 0)) (hf : f_X10_moves F μ p1 p2 = some z) : sm μ z k i j := by
  unfold f_X10_moves at hf
  have hs : sm μ μ k i j := ⟨rfl, rfl⟩
  obtain ⟨v72, e74, hf⟩ := ob hf
  obtain ⟨m75, e77, hf⟩ := ob hf
  replace hs := hs.trans (fr_wa m1008_0 e77)
  exact hs.trans (frb_X10_moves_14 m1009_0 m1010_0 m1011_0 m1012_0 _ _ _ _ _ hf)

theorem frb_X10_keep_96 {F : Nat} {z : Int32 × Mm} {k i j : Nat} (m1008_0 : ¬ (k = 1008 ∧ i = 0)) (m1009_0 : ¬ (k = 1009 ∧ i = 0)) (m1010_0 : ¬ (k = 1010 ∧ i = 0)) (m1011_0 : ¬ (k = 1011 ∧ i = 0)) (m1012_0 : ¬ (k = 1012 ∧ i = 0)) : ∀ (N : Nat) (μ : Mm) (a1 : Int32) (a2 : Int32), f_X10_keep_b96 F N μ a1 a2 = some z → sm μ z.2 k i j := by
  intro N
  induction N with
  | zero => intro μ a1 a2 hf; cases hf
  | succ N ih =>
    intro μ a1 a2 hf
    rw [f_X10_keep_b96] at hf
    have hs : sm μ μ k i j := ⟨rfl, rfl⟩
    rcases oi hf with hf | hf
    · obtain ⟨q27, e29, hf⟩ := ob hf
      obtain rfl := Option.some.inj hf
      exact hs
    · obtain ⟨q30, e32, hf⟩ := ob hf
      replace hs := hs.trans (fr_X10_moves m1008_0 m1009_0 m1010_0 m1011_0 m1012_0 e32)
      exact hs.trans (ih _ _ _ hf)
theorem frb_X10_keep_48 {F : Nat} {z : Int32 × Mm} {k i j : Nat} (m1008_0 : ¬ (k = 1008 ∧ i = 0)) (m1009_0 : ¬ (k = 1009 ∧ i = 0)) (m1010_0 : ¬ (k = 1010 ∧ i = 0)) (m1011_0 : ¬ (k = 1011 ∧ i = 0)) (m1012_0 : ¬ (k = 1012 ∧ i = 0)) (m1026_0 : ¬ (k = 1026 ∧ i = 0)) (m1027_0 : ¬ (k = 1027 ∧ i = 0)) : ∀ (N : Nat) (μ : Mm) (a1 : Int32) (a2 : Int32), f_X10_keep_b48 F N μ a1 a2 = some z → sm μ z.2 k i j := by
  intro N
  induction N with
  | zero => intro μ a1 a2 hf; cases hf
  | succ N ih =>
    intro μ a1 a2 hf
    rw [f_X10_keep_b48] at hf
    have hs : sm μ μ k i j := ⟨rfl, rfl⟩
    rcases oi hf with hf | hf
    · exact hs.trans (frb_X10_keep_96 m1008_0 m1009_0 m1010_0 m1011_0 m1012_0 _ _ _ _ hf)
    · obtain ⟨v41, e43, hf⟩ := ob hf
      obtain ⟨m44, e46, hf⟩ := ob hf
      replace hs := hs.trans (fr_wa m1026_0 e46)
      obtain ⟨v47, e49, hf⟩ := ob hf
      obtain ⟨m50, e52, hf⟩ := ob hf
      replace hs := hs.trans (fr_wa m1027_0 e52)
      exact hs.trans (ih _ _ _ hf)
theorem fr_X10_keep {F : Nat} {μ : Mm} {p1 : Int32} {z : Int32 × Mm} {k i j : Nat} (m1020_0 : ¬ (k = 1020 ∧ i = 0)) (m1023_0 : ¬ (k = 1023 ∧ i = 0)) (m1024_0 : ¬ (k = 1024 ∧ i = 0)) (m1025_0 : ¬ (k = 1025 ∧ i = 0)) (m1008_0 : ¬ (k = 1008 ∧ i = 0)) (m1009_0 : ¬ (k = 1009 ∧ i = 0)) (m1010_0 : ¬ (k = 1010 ∧ i = 0)) (m1011_0 : ¬ (k = 1011 ∧ i = 0)) (m1012_0 : ¬ (k = 1012 ∧ i = 0)) (m1026_0 : ¬ (k = 1026 ∧ i = 0)) (m1027_0 : ¬ (k = 1027 ∧ i = 0)) (hf : f_X10_keep F μ p1 = some z) : sm μ z.2 k i j := by
  unfold f_X10_keep at hf
  have hs : sm μ μ k i j := ⟨rfl, rfl⟩
  obtain ⟨q63, e65, hf⟩ := ob hf
  rcases oi hf with hf | hf
  · obtain rfl := Option.some.inj hf
    exact hs
  · obtain ⟨m66, e68, hf⟩ := ob hf
    replace hs := hs.trans (fr_wa m1020_0 e68)
    obtain ⟨m69, e71, hf⟩ := ob hf
    replace hs := hs.trans (fr_wa m1023_0 e71)
    obtain ⟨m72, e74, hf⟩ := ob hf
    replace hs := hs.trans (fr_wa m1024_0 e74)
    obtain ⟨m75, e77, hf⟩ := ob hf
    replace hs := hs.trans (fr_wa m1025_0 e77)
    exact hs.trans (frb_X10_keep_48 m1008_0 m1009_0 m1010_0 m1011_0 m1012_0 m1026_0 m1027_0 _ _ _ _ hf)

theorem fr_X10_lacks {μ : Mm} {p1 : Int32} {z : Int32 × Mm} {k i j : Nat} (m1000_0s18 : ¬ (k = 1000 ∧ i = 0 ∧ j = 18)) (hf : f_X10_lacks μ p1 = some z) : sm μ z.2 k i j := by
  unfold f_X10_lacks at hf
  have hs : sm μ μ k i j := ⟨rfl, rfl⟩
  obtain ⟨q21, e23, hf⟩ := ob hf
  rcases oi hf with hf | hf
  · obtain rfl := Option.some.inj hf
    exact hs
  · obtain ⟨v24, e26, hf⟩ := ob hf
    rcases oi hf with hf | hf
    · obtain ⟨q33, e35, hf⟩ := ob hf
      replace hs := hs.trans (fr_X10_refuse m1000_0s18 e35)
      obtain rfl := Option.some.inj hf
      exact hs
    · obtain ⟨v27, e29, hf⟩ := ob hf
      rcases oi hf with hf | hf
      · obtain rfl := Option.some.inj hf
        exact hs
      · obtain ⟨q30, e32, hf⟩ := ob hf
        replace hs := hs.trans (fr_X10_refuse m1000_0s18 e32)
        obtain rfl := Option.some.inj hf
        exact hs

theorem frb_X10_back_99 {F : Nat} {z : Int32 × Mm} {k i j : Nat} (m1000_0s12 : ¬ (k = 1000 ∧ i = 0 ∧ j = 12)) (m1008_0 : ¬ (k = 1008 ∧ i = 0)) (m1009_0 : ¬ (k = 1009 ∧ i = 0)) (m1010_0 : ¬ (k = 1010 ∧ i = 0)) (m1011_0 : ¬ (k = 1011 ∧ i = 0)) (m1012_0 : ¬ (k = 1012 ∧ i = 0)) : ∀ (N : Nat) (μ : Mm) (a1 : Int32) (a3 : Int32), f_X10_back_b99 F N μ a1 a3 = some z → sm μ z.2 k i j := by
  intro N
  induction N with
  | zero => intro μ a1 a3 hf; cases hf
  | succ N ih =>
    intro μ a1 a3 hf
    rw [f_X10_back_b99] at hf
    have hs : sm μ μ k i j := ⟨rfl, rfl⟩
    rcases oi hf with hf | hf
    · obtain ⟨m37, e39, hf⟩ := ob hf
      replace hs := hs.trans (fr_wf m1000_0s12 e39)
      obtain ⟨q40, e42, hf⟩ := ob hf
      obtain rfl := Option.some.inj hf
      exact hs
    · obtain ⟨q43, e45, hf⟩ := ob hf
      replace hs := hs.trans (fr_X10_moves m1008_0 m1009_0 m1010_0 m1011_0 m1012_0 e45)
      exact hs.trans (ih _ _ _ hf)
theorem frb_X10_back_44 {F : Nat} {z : Int32 × Mm} {k i j : Nat} (m1000_0s12 : ¬ (k = 1000 ∧ i = 0 ∧ j = 12)) (m1008_0 : ¬ (k = 1008 ∧ i = 0)) (m1009_0 : ¬ (k = 1009 ∧ i = 0)) (m1010_0 : ¬ (k = 1010 ∧ i = 0)) (m1011_0 : ¬ (k = 1011 ∧ i = 0)) (m1012_0 : ¬ (k = 1012 ∧ i = 0)) (m1005_0 : ¬ (k = 1005 ∧ i = 0)) (m1006_0 : ¬ (k = 1006 ∧ i = 0)) (m1007_0 : ¬ (k = 1007 ∧ i = 0)) : ∀ (N : Nat) (μ : Mm) (a1 : Int32) (a3 : Int32), f_X10_back_b44 F N μ a1 a3 = some z → sm μ z.2 k i j := by
  intro N
  induction N with
  | zero => intro μ a1 a3 hf; cases hf
  | succ N ih =>
    intro μ a1 a3 hf
    rw [f_X10_back_b44] at hf
    have hs : sm μ μ k i j := ⟨rfl, rfl⟩
    rcases oi hf with hf | hf
    · exact hs.trans (frb_X10_back_99 m1000_0s12 m1008_0 m1009_0 m1010_0 m1011_0 m1012_0 _ _ _ _ hf)
    · obtain ⟨v56, e58, hf⟩ := ob hf
      obtain ⟨m59, e61, hf⟩ := ob hf
      replace hs := hs.trans (fr_wa m1005_0 e61)
      obtain ⟨v62, e64, hf⟩ := ob hf
      obtain ⟨m65, e67, hf⟩ := ob hf
      replace hs := hs.trans (fr_wa m1006_0 e67)
      obtain ⟨m68, e70, hf⟩ := ob hf
      replace hs := hs.trans (fr_wa m1007_0 e70)
      exact hs.trans (ih _ _ _ hf)
theorem fr_X10_back {F : Nat} {μ : Mm} {p1 : Int32} {z : Int32 × Mm} {k i j : Nat} (m1000_0s18 : ¬ (k = 1000 ∧ i = 0 ∧ j = 18)) (m1000_0s1 : ¬ (k = 1000 ∧ i = 0 ∧ j = 1)) (m1000_0s2 : ¬ (k = 1000 ∧ i = 0 ∧ j = 2)) (m1000_0s3 : ¬ (k = 1000 ∧ i = 0 ∧ j = 3)) (m1000_0s12 : ¬ (k = 1000 ∧ i = 0 ∧ j = 12)) (m1008_0 : ¬ (k = 1008 ∧ i = 0)) (m1009_0 : ¬ (k = 1009 ∧ i = 0)) (m1010_0 : ¬ (k = 1010 ∧ i = 0)) (m1011_0 : ¬ (k = 1011 ∧ i = 0)) (m1012_0 : ¬ (k = 1012 ∧ i = 0)) (m1005_0 : ¬ (k = 1005 ∧ i = 0)) (m1006_0 : ¬ (k = 1006 ∧ i = 0)) (m1007_0 : ¬ (k = 1007 ∧ i = 0)) (hf : f_X10_back F μ p1 = some z) : sm μ z.2 k i j := by
  unfold f_X10_back at hf
  have hs : sm μ μ k i j := ⟨rfl, rfl⟩
  obtain ⟨q85, e87, hf⟩ := ob hf
  replace hs := hs.trans (fr_X10_lacks m1000_0s18 e87)
  rcases oi hf with hf | hf
  · obtain ⟨v88, e90, hf⟩ := ob hf
    obtain ⟨m91, e93, hf⟩ := ob hf
    replace hs := hs.trans (fr_wf m1000_0s1 e93)
    obtain ⟨v94, e96, hf⟩ := ob hf
    obtain ⟨m97, e99, hf⟩ := ob hf
    replace hs := hs.trans (fr_wf m1000_0s2 e99)
    obtain ⟨v100, e102, hf⟩ := ob hf
    obtain ⟨m103, e105, hf⟩ := ob hf
    replace hs := hs.trans (fr_wf m1000_0s3 e105)
    exact hs.trans (frb_X10_back_44 m1000_0s12 m1008_0 m1009_0 m1010_0 m1011_0 m1012_0 m1005_0 m1006_0 m1007_0 _ _ _ _ hf)
  · obtain rfl := Option.some.inj hf
    exact hs

theorem fr_X10_toss {μ : Mm} {p1 : Int32} {z : Int32 × Mm} {k i j : Nat} (m1000_0s18 : ¬ (k = 1000 ∧ i = 0 ∧ j = 18)) (hf : f_X10_toss μ p1 = some z) : sm μ z.2 k i j := by
  unfold f_X10_toss at hf
  have hs : sm μ μ k i j := ⟨rfl, rfl⟩
  obtain ⟨q17, e19, hf⟩ := ob hf
  replace hs := hs.trans (fr_X10_lacks m1000_0s18 e19)
  rcases oi hf with hf | hf
  · obtain ⟨q20, e22, hf⟩ := ob hf
    rcases oi hf with hf | hf
    · obtain ⟨q26, e28, hf⟩ := ob hf
      replace hs := hs.trans (fr_X10_refuse m1000_0s18 e28)
      obtain rfl := Option.some.inj hf
      exact hs
    · obtain ⟨q23, e25, hf⟩ := ob hf
      obtain rfl := Option.some.inj hf
      exact hs
  · obtain rfl := Option.some.inj hf
    exact hs

theorem fr_X10_clear {μ : Mm} {p1 : Int32} {z : Int32 × Mm} {k i j : Nat} (m1020_0 : ¬ (k = 1020 ∧ i = 0)) (hf : f_X10_clear μ p1 = some z) : sm μ z.2 k i j := by
  unfold f_X10_clear at hf
  have hs : sm μ μ k i j := ⟨rfl, rfl⟩
  obtain ⟨q13, e15, hf⟩ := ob hf
  rcases oi hf with hf | hf
  · obtain rfl := Option.some.inj hf
    exact hs
  · obtain ⟨v16, e18, hf⟩ := ob hf
    obtain ⟨m19, e21, hf⟩ := ob hf
    replace hs := hs.trans (fr_wa m1020_0 e21)
    obtain rfl := Option.some.inj hf
    exact hs

theorem fr_X10_put {μ : Mm} {p1 : Int32} {p2 : Int32} {p3 : Int64} {z : Int32 × Mm} {k i j : Nat} (m1022_0 : ¬ (k = 1022 ∧ i = 0)) (m1000_0s18 : ¬ (k = 1000 ∧ i = 0 ∧ j = 18)) (hf : f_X10_put μ p1 p2 p3 = some z) : sm μ z.2 k i j := by
  unfold f_X10_put at hf
  have hs : sm μ μ k i j := ⟨rfl, rfl⟩
  obtain ⟨q41, e43, hf⟩ := ob hf
  rcases oi hf with hf | hf
  · obtain rfl := Option.some.inj hf
    exact hs
  · obtain ⟨v44, e46, hf⟩ := ob hf
    rcases oi hf with hf | hf
    · obtain ⟨q68, e70, hf⟩ := ob hf
      replace hs := hs.trans (fr_X10_refuse m1000_0s18 e70)
      obtain rfl := Option.some.inj hf
      exact hs
    · obtain ⟨v47, e49, hf⟩ := ob hf
      rcases oi hf with hf | hf
      · obtain ⟨q65, e67, hf⟩ := ob hf
        replace hs := hs.trans (fr_X10_refuse m1000_0s18 e67)
        obtain rfl := Option.some.inj hf
        exact hs
      · obtain ⟨q50, e52, hf⟩ := ob hf
        rcases oi hf with hf | hf
        · obtain ⟨q62, e64, hf⟩ := ob hf
          replace hs := hs.trans (fr_X10_refuse m1000_0s18 e64)
          obtain rfl := Option.some.inj hf
          exact hs
        · obtain ⟨v53, e55, hf⟩ := ob hf
          obtain ⟨q56, e58, hf⟩ := ob hf
          obtain ⟨m59, e61, hf⟩ := ob hf
          replace hs := hs.trans (fr_wg m1022_0 e61)
          obtain rfl := Option.some.inj hf
          exact hs

theorem frb_X10_at_45 {z : Int64 × Mm} {k i j : Nat} (m1000_0s0 : ¬ (k = 1000 ∧ i = 0 ∧ j = 0)) : ∀ (μ : Mm) (a1 : Int32) (a2 : Int32) (s0 : Int32), f_X10_at_b45 μ a1 a2 s0 = some z → sm μ z.2 k i j := by
  intro μ a1 a2 s0 hf
  unfold f_X10_at_b45 at hf
  have hs : sm μ μ k i j := ⟨rfl, rfl⟩
  obtain ⟨m17, e19, hf⟩ := ob hf
  replace hs := hs.trans (fr_wf m1000_0s0 e19)
  rcases oi hf with hf | hf
  · obtain ⟨v20, e22, hf⟩ := ob hf
    obtain rfl := Option.some.inj hf
    exact hs
  · obtain rfl := Option.some.inj hf
    exact hs
theorem fr_X10_at {μ : Mm} {p1 : Int32} {p2 : Int32} {z : Int64 × Mm} {k i j : Nat} (m1000_0s0 : ¬ (k = 1000 ∧ i = 0 ∧ j = 0)) (hf : f_X10_at μ p1 p2 = some z) : sm μ z.2 k i j := by
  unfold f_X10_at at hf
  have hs : sm μ μ k i j := ⟨rfl, rfl⟩
  obtain ⟨q31, e33, hf⟩ := ob hf
  rcases oi hf with hf | hf
  · exact hs.trans (frb_X10_at_45 m1000_0s0 _ _ _ _ hf)
  · obtain ⟨v34, e36, hf⟩ := ob hf
    rcases oi hf with hf | hf
    · exact hs.trans (frb_X10_at_45 m1000_0s0 _ _ _ _ hf)
    · obtain ⟨v37, e39, hf⟩ := ob hf
      rcases oi hf with hf | hf
      · exact hs.trans (frb_X10_at_45 m1000_0s0 _ _ _ _ hf)
      · obtain ⟨q40, e42, hf⟩ := ob hf
        rcases oi hf with hf | hf
        · exact hs.trans (frb_X10_at_45 m1000_0s0 _ _ _ _ hf)
        · exact hs.trans (frb_X10_at_45 m1000_0s0 _ _ _ _ hf)

theorem frb_X10_copy_114 {F : Nat} {z : Int32 × Mm} {k i j : Nat} (m1000_0s18 : ¬ (k = 1000 ∧ i = 0 ∧ j = 18)) : ∀ (μ : Mm), f_X10_copy_b114 F μ = some z → sm μ z.2 k i j := by
  intro μ hf
  unfold f_X10_copy_b114 at hf
  have hs : sm μ μ k i j := ⟨rfl, rfl⟩
  obtain ⟨q35, e37, hf⟩ := ob hf
  replace hs := hs.trans (fr_X10_refuse m1000_0s18 e37)
  obtain rfl := Option.some.inj hf
  exact hs
theorem frb_X10_copy_161 {F : Nat} {z : Int32 × Mm} {k i j : Nat} (m1022_0 : ¬ (k = 1022 ∧ i = 0)) : ∀ (N : Nat) (μ : Mm) (a3 : Int32) (a4 : Int32) (a5 : Int32) (a6 : Int32), f_X10_copy_b161 F N μ a3 a4 a5 a6 = some z → sm μ z.2 k i j := by
  intro N
  induction N with
  | zero => intro μ a3 a4 a5 a6 hf; cases hf
  | succ N ih =>
    intro μ a3 a4 a5 a6 hf
    rw [f_X10_copy_b161] at hf
    have hs : sm μ μ k i j := ⟨rfl, rfl⟩
    rcases oi hf with hf | hf
    · obtain rfl := Option.some.inj hf
      exact hs
    · obtain ⟨v42, e44, hf⟩ := ob hf
      obtain ⟨m45, e47, hf⟩ := ob hf
      replace hs := hs.trans (fr_wg m1022_0 e47)
      exact hs.trans (ih _ _ _ _ _ hf)
theorem frb_X10_copy_124 {F : Nat} {z : Int32 × Mm} {k i j : Nat} (m1022_0 : ¬ (k = 1022 ∧ i = 0)) (m1055_0 : ¬ (k = 1055 ∧ i = 0)) : ∀ (N : Nat) (μ : Mm) (a1 : Int32) (a2 : Int32) (a3 : Int32) (a4 : Int32) (a5 : Int32) (a6 : Int32), f_X10_copy_b124 F N μ a1 a2 a3 a4 a5 a6 = some z → sm μ z.2 k i j := by
  intro N
  induction N with
  | zero => intro μ a1 a2 a3 a4 a5 a6 hf; cases hf
  | succ N ih =>
    intro μ a1 a2 a3 a4 a5 a6 hf
    rw [f_X10_copy_b124] at hf
    have hs : sm μ μ k i j := ⟨rfl, rfl⟩
    rcases oi hf with hf | hf
    · exact hs.trans (frb_X10_copy_161 m1022_0 _ _ _ _ _ _ hf)
    · obtain ⟨v52, e54, hf⟩ := ob hf
      obtain ⟨m55, e57, hf⟩ := ob hf
      replace hs := hs.trans (fr_wg m1055_0 e57)
      exact hs.trans (ih _ _ _ _ _ _ _ hf)
theorem fr_X10_copy {F : Nat} {μ : Mm} {p1 : Int32} {p2 : Int32} {p3 : Int32} {p4 : Int32} {p5 : Int32} {z : Int32 × Mm} {k i j : Nat} (m1000_0s18 : ¬ (k = 1000 ∧ i = 0 ∧ j = 18)) (m1022_0 : ¬ (k = 1022 ∧ i = 0)) (m1055_0 : ¬ (k = 1055 ∧ i = 0)) (hf : f_X10_copy F μ p1 p2 p3 p4 p5 = some z) : sm μ z.2 k i j := by
  unfold f_X10_copy at hf
  have hs : sm μ μ k i j := ⟨rfl, rfl⟩
  obtain ⟨q84, e86, hf⟩ := ob hf
  rcases oi hf with hf | hf
  · obtain rfl := Option.some.inj hf
    exact hs
  · obtain ⟨q87, e89, hf⟩ := ob hf
    rcases oi hf with hf | hf
    · obtain rfl := Option.some.inj hf
      exact hs
    · obtain ⟨v90, e92, hf⟩ := ob hf
      rcases oi hf with hf | hf
      · obtain ⟨q93, e95, hf⟩ := ob hf
        replace hs := hs.trans (fr_X10_refuse m1000_0s18 e95)
        obtain rfl := Option.some.inj hf
        exact hs
      · obtain ⟨v96, e98, hf⟩ := ob hf
        rcases oi hf with hf | hf
        · obtain ⟨q120, e122, hf⟩ := ob hf
          replace hs := hs.trans (fr_X10_refuse m1000_0s18 e122)
          obtain rfl := Option.some.inj hf
          exact hs
        · obtain ⟨v99, e101, hf⟩ := ob hf
          rcases oi hf with hf | hf
          · obtain ⟨q102, e104, hf⟩ := ob hf
            replace hs := hs.trans (fr_X10_refuse m1000_0s18 e104)
            obtain rfl := Option.some.inj hf
            exact hs
          · obtain ⟨v105, e107, hf⟩ := ob hf
            obtain ⟨v108, e110, hf⟩ := ob hf
            rcases oi hf with hf | hf
            · rcases oi hf with hf | hf
              · exact hs.trans (frb_X10_copy_114 m1000_0s18 _ hf)
              · rcases oi hf with hf | hf
                · exact hs.trans (frb_X10_copy_114 m1000_0s18 _ hf)
                · rcases oi hf with hf | hf
                  · exact hs.trans (frb_X10_copy_114 m1000_0s18 _ hf)
                  · obtain ⟨v111, e113, hf⟩ := ob hf
                    rcases oi hf with hf | hf
                    · exact hs.trans (frb_X10_copy_114 m1000_0s18 _ hf)
                    · obtain ⟨v114, e116, hf⟩ := ob hf
                      rcases oi hf with hf | hf
                      · exact hs.trans (frb_X10_copy_124 m1022_0 m1055_0 _ _ _ _ _ _ _ _ hf)
                      · exact hs.trans (frb_X10_copy_114 m1000_0s18 _ hf)
            · obtain ⟨q117, e119, hf⟩ := ob hf
              replace hs := hs.trans (fr_X10_refuse m1000_0s18 e119)
              obtain rfl := Option.some.inj hf
              exact hs

theorem frb_X0_judgeSpan_37 {z : Mm} {k i j : Nat} (m2_0 : ¬ (k = 2 ∧ i = 0)) (m0_0s3 : ¬ (k = 0 ∧ i = 0 ∧ j = 3)) (m1_0 : ¬ (k = 1 ∧ i = 0)) (m0_0s2 : ¬ (k = 0 ∧ i = 0 ∧ j = 2)) : ∀ (μ : Mm) (a1 : Nat) (a4 : Int32) (a5 : Int32) (a6 : Int32) (a7 : Int32) (s0 : Int32) (s1 : Nat), f_X0_judgeSpan_b37 μ a1 a4 a5 a6 a7 s0 s1 = some z → sm μ z k i j := by
  intro μ a1 a4 a5 a6 a7 s0 s1 hf
  unfold f_X0_judgeSpan_b37 at hf
  have hs : sm μ μ k i j := ⟨rfl, rfl⟩
  obtain ⟨q21, e23, hf⟩ := ob hf
  rcases oi hf with hf | hf
  · rcases oi hf with hf | hf
    · obtain rfl := Option.some.inj hf
      exact hs
    · obtain ⟨q24, e26, hf⟩ := ob hf
      rcases oi hf with hf | hf
      · obtain rfl := Option.some.inj hf
        exact hs
      · obtain ⟨q27, e29, hf⟩ := ob hf
        replace hs := hs.trans (fr_X0_addMaybe m2_0 m0_0s3 e29)
        obtain rfl := Option.some.inj hf
        exact hs
  · obtain ⟨q30, e32, hf⟩ := ob hf
    replace hs := hs.trans (fr_X0_addSure m1_0 m0_0s2 e32)
    obtain rfl := Option.some.inj hf
    exact hs
theorem frb_X0_judgeSpan_22 {z : Mm} {k i j : Nat} (m2_0 : ¬ (k = 2 ∧ i = 0)) (m0_0s3 : ¬ (k = 0 ∧ i = 0 ∧ j = 3)) (m1_0 : ¬ (k = 1 ∧ i = 0)) (m0_0s2 : ¬ (k = 0 ∧ i = 0 ∧ j = 2)) : ∀ (μ : Mm) (a1 : Nat) (a3 : Int32) (a4 : Int32) (a5 : Int32) (a6 : Int32) (s0 : Int32), f_X0_judgeSpan_b22 μ a1 a3 a4 a5 a6 s0 = some z → sm μ z k i j := by
  intro μ a1 a3 a4 a5 a6 s0 hf
  unfold f_X0_judgeSpan_b22 at hf
  have hs : sm μ μ k i j := ⟨rfl, rfl⟩
  rcases oi hf with hf | hf
  · exact hs.trans (frb_X0_judgeSpan_37 m2_0 m0_0s3 m1_0 m0_0s2 _ _ _ _ _ _ _ _ hf)
  · exact hs.trans (frb_X0_judgeSpan_37 m2_0 m0_0s3 m1_0 m0_0s2 _ _ _ _ _ _ _ _ hf)
theorem fr_X0_judgeSpan {μ : Mm} {n1 : Nat} {p2 : Int32} {p3 : Int32} {p4 : Int32} {p5 : Int32} {z : Mm} {k i j : Nat} (m2_0 : ¬ (k = 2 ∧ i = 0)) (m0_0s3 : ¬ (k = 0 ∧ i = 0 ∧ j = 3)) (m1_0 : ¬ (k = 1 ∧ i = 0)) (m0_0s2 : ¬ (k = 0 ∧ i = 0 ∧ j = 2)) (hf : f_X0_judgeSpan μ n1 p2 p3 p4 p5 = some z) : sm μ z k i j := by
  unfold f_X0_judgeSpan at hf
  have hs : sm μ μ k i j := ⟨rfl, rfl⟩
  obtain ⟨q37, e39, hf⟩ := ob hf
  obtain ⟨q40, e42, hf⟩ := ob hf
  rcases oi hf with hf | hf
  · exact hs.trans (frb_X0_judgeSpan_22 m2_0 m0_0s3 m1_0 m0_0s2 _ _ _ _ _ _ _ hf)
  · exact hs.trans (frb_X0_judgeSpan_22 m2_0 m0_0s3 m1_0 m0_0s2 _ _ _ _ _ _ _ hf)

theorem frb_X0_judgeApart_32 {F : Nat} {K9 : Mm → Nat → Int32 → Int32 → Int32 → Int32 → Int32 → Option Mm} {z : Mm} {k i j : Nat} (m2_0 : ¬ (k = 2 ∧ i = 0)) (m0_0s3 : ¬ (k = 0 ∧ i = 0 ∧ j = 3)) (m1_0 : ¬ (k = 1 ∧ i = 0)) (m0_0s2 : ¬ (k = 0 ∧ i = 0 ∧ j = 2)) (hK9 : ∀ (μ : Mm) (a1 : Nat) (a2 : Int32) (a3 : Int32) (a4 : Int32) (a5 : Int32) (a6 : Int32), K9 μ a1 a2 a3 a4 a5 a6 = some z → sm μ z k i j) : ∀ (μ : Mm) (a1 : Nat) (a2 : Int32) (a3 : Int32) (a4 : Int32) (a5 : Int32) (a6 : Int32), f_X0_judgeApart_b32 F K9 μ a1 a2 a3 a4 a5 a6 = some z → sm μ z k i j := by
  intro μ a1 a2 a3 a4 a5 a6 hf
  unfold f_X0_judgeApart_b32 at hf
  have hs : sm μ μ k i j := ⟨rfl, rfl⟩
  obtain ⟨q19, e21, hf⟩ := ob hf
  rcases oi hf with hf | hf
  · exact hs.trans (hK9 _ _ _ _ _ _ _ hf)
  · rcases oi hf with hf | hf
    · exact hs.trans (hK9 _ _ _ _ _ _ _ hf)
    · obtain ⟨q22, e24, hf⟩ := ob hf
      obtain ⟨q25, e27, hf⟩ := ob hf
      obtain ⟨q28, e30, hf⟩ := ob hf
      replace hs := hs.trans (fr_X0_judgePair m2_0 m0_0s3 m1_0 m0_0s2 e30)
      exact hs.trans (hK9 _ _ _ _ _ _ _ hf)
theorem frb_X0_judgeApart_9 {F : Nat} {z : Mm} {k i j : Nat} (m2_0 : ¬ (k = 2 ∧ i = 0)) (m0_0s3 : ¬ (k = 0 ∧ i = 0 ∧ j = 3)) (m1_0 : ¬ (k = 1 ∧ i = 0)) (m0_0s2 : ¬ (k = 0 ∧ i = 0 ∧ j = 2)) : ∀ (N : Nat) (μ : Mm) (a1 : Nat) (a2 : Int32) (a3 : Int32) (a4 : Int32) (a5 : Int32) (a6 : Int32), f_X0_judgeApart_b9 F N μ a1 a2 a3 a4 a5 a6 = some z → sm μ z k i j := by
  intro N
  induction N with
  | zero => intro μ a1 a2 a3 a4 a5 a6 hf; cases hf
  | succ N ih =>
    intro μ a1 a2 a3 a4 a5 a6 hf
    rw [f_X0_judgeApart_b9] at hf
    have hs : sm μ μ k i j := ⟨rfl, rfl⟩
    rcases oi hf with hf | hf
    · obtain rfl := Option.some.inj hf
      exact hs
    · obtain ⟨q33, e35, hf⟩ := ob hf
      rcases oi hf with hf | hf
      · exact hs.trans (frb_X0_judgeApart_32 m2_0 m0_0s3 m1_0 m0_0s2 ih _ _ _ _ _ _ _ hf)
      · exact hs.trans (frb_X0_judgeApart_32 m2_0 m0_0s3 m1_0 m0_0s2 ih _ _ _ _ _ _ _ hf)
theorem fr_X0_judgeApart {F : Nat} {μ : Mm} {n1 : Nat} {p2 : Int32} {p3 : Int32} {z : Mm} {k i j : Nat} (m2_0 : ¬ (k = 2 ∧ i = 0)) (m0_0s3 : ¬ (k = 0 ∧ i = 0 ∧ j = 3)) (m1_0 : ¬ (k = 1 ∧ i = 0)) (m0_0s2 : ¬ (k = 0 ∧ i = 0 ∧ j = 2)) (hf : f_X0_judgeApart F μ n1 p2 p3 = some z) : sm μ z k i j := by
  unfold f_X0_judgeApart at hf
  have hs : sm μ μ k i j := ⟨rfl, rfl⟩
  exact hs.trans (frb_X0_judgeApart_9 m2_0 m0_0s3 m1_0 m0_0s2 _ _ _ _ _ _ _ _ hf)

theorem fr_X1_close {μ : Mm} {n1 : Nat} {p2 : Int32} {p3 : Int32} {z : Mm} {k i j : Nat} (m101_0 : ¬ (k = 101 ∧ i = 0)) (m102_0 : ¬ (k = 102 ∧ i = 0)) (m103_0 : ¬ (k = 103 ∧ i = 0)) (m104_0 : ¬ (k = 104 ∧ i = 0)) (m105_0 : ¬ (k = 105 ∧ i = 0)) (m106_0 : ¬ (k = 106 ∧ i = 0)) (m100_0s11 : ¬ (k = 100 ∧ i = 0 ∧ j = 11)) (m109_0 : ¬ (k = 109 ∧ i = 0)) (hf : f_X1_close μ n1 p2 p3 = some z) : sm μ z k i j := by
  unfold f_X1_close at hf
  have hs : sm μ μ k i j := ⟨rfl, rfl⟩
  rcases oi hf with hf | hf
  · obtain rfl := Option.some.inj hf
    exact hs
  · rcases oi hf with hf | hf
    · obtain rfl := Option.some.inj hf
      exact hs
    · rcases oi hf with hf | hf
      · obtain rfl := Option.some.inj hf
        exact hs
      · rcases oi hf with hf | hf
        · obtain ⟨m57, e59, hf⟩ := ob hf
          replace hs := hs.trans (fr_wa m101_0 e59)
          obtain ⟨v60, e62, hf⟩ := ob hf
          obtain ⟨m63, e65, hf⟩ := ob hf
          replace hs := hs.trans (fr_wa m102_0 e65)
          obtain ⟨v66, e68, hf⟩ := ob hf
          obtain ⟨q69, e71, hf⟩ := ob hf
          obtain ⟨m72, e74, hf⟩ := ob hf
          replace hs := hs.trans (fr_wa m103_0 e74)
          obtain ⟨q75, e77, hf⟩ := ob hf
          obtain ⟨m78, e80, hf⟩ := ob hf
          replace hs := hs.trans (fr_wa m104_0 e80)
          obtain ⟨v81, e83, hf⟩ := ob hf
          obtain ⟨m84, e86, hf⟩ := ob hf
          replace hs := hs.trans (fr_wa m105_0 e86)
          obtain ⟨v87, e89, hf⟩ := ob hf
          obtain ⟨m90, e92, hf⟩ := ob hf
          replace hs := hs.trans (fr_wa m106_0 e92)
          obtain ⟨m93, e95, hf⟩ := ob hf
          replace hs := hs.trans (fr_wf m100_0s11 e95)
          obtain ⟨m96, e98, hf⟩ := ob hf
          replace hs := hs.trans (fr_wa m109_0 e98)
          obtain rfl := Option.some.inj hf
          exact hs
        · obtain rfl := Option.some.inj hf
          exact hs

theorem frb_X1_addStretch_44 {F : Nat} {K2 : Mm → Int32 → Option Mm} {z : Mm} {k i j : Nat} (m110_0 : ¬ (k = 110 ∧ i = 0)) (m111_0 : ¬ (k = 111 ∧ i = 0)) (hK2 : ∀ (μ : Mm) (a2 : Int32), K2 μ a2 = some z → sm μ z k i j) : ∀ (μ : Mm) (a2 : Int32) (a3 : Int32) (s0 : Int32) (s1 : Int32) (s2 : Int32), f_X1_addStretch_b44 F K2 μ a2 a3 s0 s1 s2 = some z → sm μ z k i j := by
  intro μ a2 a3 s0 s1 s2 hf
  unfold f_X1_addStretch_b44 at hf
  have hs : sm μ μ k i j := ⟨rfl, rfl⟩
  obtain ⟨m21, e23, hf⟩ := ob hf
  replace hs := hs.trans (fr_wa m110_0 e23)
  obtain ⟨v24, e26, hf⟩ := ob hf
  rcases oi hf with hf | hf
  · obtain ⟨m30, e32, hf⟩ := ob hf
    replace hs := hs.trans (fr_wa m111_0 e32)
    exact hs.trans (hK2 _ _ hf)
  · obtain ⟨m27, e29, hf⟩ := ob hf
    replace hs := hs.trans (fr_wa m111_0 e29)
    exact hs.trans (hK2 _ _ hf)
theorem frb_X1_addStretch_2 {F : Nat} {z : Mm} {k i j : Nat} (m110_0 : ¬ (k = 110 ∧ i = 0)) (m111_0 : ¬ (k = 111 ∧ i = 0)) : ∀ (N : Nat) (μ : Mm) (a2 : Int32), f_X1_addStretch_b2 F N μ a2 = some z → sm μ z k i j := by
  intro N
  induction N with
  | zero => intro μ a2 hf; cases hf
  | succ N ih =>
    intro μ a2 hf
    rw [f_X1_addStretch_b2] at hf
    have hs : sm μ μ k i j := ⟨rfl, rfl⟩
    rcases oi hf with hf | hf
    · obtain rfl := Option.some.inj hf
      exact hs
    · obtain ⟨v39, e41, hf⟩ := ob hf
      rcases oi hf with hf | hf
      · exact hs.trans (ih _ _ hf)
      · obtain ⟨q42, e44, hf⟩ := ob hf
        obtain ⟨v45, e47, hf⟩ := ob hf
        rcases oi hf with hf | hf
        · exact hs.trans (frb_X1_addStretch_44 m110_0 m111_0 ih _ _ _ _ _ _ hf)
        · exact hs.trans (frb_X1_addStretch_44 m110_0 m111_0 ih _ _ _ _ _ _ hf)
theorem fr_X1_addStretch {F : Nat} {μ : Mm} {z : Mm} {k i j : Nat} (m110_0 : ¬ (k = 110 ∧ i = 0)) (m111_0 : ¬ (k = 111 ∧ i = 0)) (hf : f_X1_addStretch F μ = some z) : sm μ z k i j := by
  unfold f_X1_addStretch at hf
  have hs : sm μ μ k i j := ⟨rfl, rfl⟩
  exact hs.trans (frb_X1_addStretch_2 m110_0 m111_0 _ _ _ hf)

theorem fr_X2_empty {μ : Mm} {i0 : Nat} {z : Mm} {k i j : Nat} (m200_i0s5 : ¬ (k = 200 ∧ i = i0 ∧ j = 5)) (m401_i0 : ¬ (k = 401 ∧ i = i0)) (m403_i0 : ¬ (k = 403 ∧ i = i0)) (m400_i0s3 : ¬ (k = 400 ∧ i = i0 ∧ j = 3)) (m400_i0s4 : ¬ (k = 400 ∧ i = i0 ∧ j = 4)) (hf : f_X2_empty μ i0 = some z) : sm μ z k i j := by
  unfold f_X2_empty at hf
  have hs : sm μ μ k i j := ⟨rfl, rfl⟩
  obtain ⟨m9, e11, hf⟩ := ob hf
  replace hs := hs.trans (fr_wf m200_i0s5 e11)
  obtain ⟨q12, e14, hf⟩ := ob hf
  replace hs := hs.trans (fr_X4_reset m401_i0 m403_i0 m400_i0s3 m400_i0s4 e14)
  obtain rfl := Option.some.inj hf
  exact hs

theorem fr_X4_apply {μ : Mm} {i0 : Nat} {p1 : Int32} {p2 : Int32} {p3 : Int32} {z : Mm} {k i j : Nat} (m401_i0 : ¬ (k = 401 ∧ i = i0)) (m400_i0s3 : ¬ (k = 400 ∧ i = i0 ∧ j = 3)) (m402_i0 : ¬ (k = 402 ∧ i = i0)) (m403_i0 : ¬ (k = 403 ∧ i = i0)) (m400_i0s4 : ¬ (k = 400 ∧ i = i0 ∧ j = 4)) (hf : f_X4_apply μ i0 p1 p2 p3 = some z) : sm μ z k i j := by
  unfold f_X4_apply at hf
  have hs : sm μ μ k i j := ⟨rfl, rfl⟩
  rcases oi hf with hf | hf
  · obtain ⟨q57, e59, hf⟩ := ob hf
    replace hs := hs.trans (fr_X4_setState m401_i0 e59)
    obtain rfl := Option.some.inj hf
    exact hs
  · rcases oi hf with hf | hf
    · obtain ⟨q60, e62, hf⟩ := ob hf
      replace hs := hs.trans (fr_X4_setState m401_i0 e62)
      obtain ⟨q63, e65, hf⟩ := ob hf
      replace hs := hs.trans (fr_X4_setState m401_i0 e65)
      obtain ⟨m66, e68, hf⟩ := ob hf
      replace hs := hs.trans (fr_wf m400_i0s3 e68)
      obtain rfl := Option.some.inj hf
      exact hs
    · rcases oi hf with hf | hf
      · obtain ⟨q69, e71, hf⟩ := ob hf
        replace hs := hs.trans (fr_X4_setState m401_i0 e71)
        obtain ⟨m72, e74, hf⟩ := ob hf
        replace hs := hs.trans (fr_wf m400_i0s3 e74)
        obtain rfl := Option.some.inj hf
        exact hs
      · rcases oi hf with hf | hf
        · obtain ⟨q75, e77, hf⟩ := ob hf
          replace hs := hs.trans (fr_X4_startWanting m401_i0 m400_i0s3 m402_i0 e77)
          obtain rfl := Option.some.inj hf
          exact hs
        · rcases oi hf with hf | hf
          · obtain ⟨q78, e80, hf⟩ := ob hf
            replace hs := hs.trans (fr_X4_setHolder m403_i0 e80)
            obtain ⟨q81, e83, hf⟩ := ob hf
            rcases oi hf with hf | hf
            · obtain ⟨q84, e86, hf⟩ := ob hf
              replace hs := hs.trans (fr_X4_setState m401_i0 e86)
              obtain rfl := Option.some.inj hf
              exact hs
            · obtain rfl := Option.some.inj hf
              exact hs
          · rcases oi hf with hf | hf
            · obtain ⟨q87, e89, hf⟩ := ob hf
              replace hs := hs.trans (fr_X4_setHolder m403_i0 e89)
              obtain rfl := Option.some.inj hf
              exact hs
            · rcases oi hf with hf | hf
              · obtain ⟨m90, e92, hf⟩ := ob hf
                replace hs := hs.trans (fr_wf m400_i0s4 e92)
                obtain rfl := Option.some.inj hf
                exact hs
              · rcases oi hf with hf | hf
                · obtain ⟨m93, e95, hf⟩ := ob hf
                  replace hs := hs.trans (fr_wf m400_i0s4 e95)
                  obtain rfl := Option.some.inj hf
                  exact hs
                · rcases oi hf with hf | hf
                  · obtain ⟨q96, e98, hf⟩ := ob hf
                    replace hs := hs.trans (fr_X4_loseAll m401_i0 m403_i0 m400_i0s3 m400_i0s4 e98)
                    obtain rfl := Option.some.inj hf
                    exact hs
                  · obtain rfl := Option.some.inj hf
                    exact hs

theorem frb_X5_joinThrough_9 {F : Nat} {K2 : Mm → Int32 → Int32 → Option Mm} {z : Mm} {k i j : Nat} (m501_0 : ¬ (k = 501 ∧ i = 0)) (hK2 : ∀ (μ : Mm) (a1 : Int32) (a2 : Int32), K2 μ a1 a2 = some z → sm μ z k i j) : ∀ (N : Nat) (μ : Mm) (a1 : Int32) (a2 : Int32) (a3 : Int32), f_X5_joinThrough_b9 F K2 N μ a1 a2 a3 = some z → sm μ z k i j := by
  intro N
  induction N with
  | zero => intro μ a1 a2 a3 hf; cases hf
  | succ N ih =>
    intro μ a1 a2 a3 hf
    rw [f_X5_joinThrough_b9] at hf
    have hs : sm μ μ k i j := ⟨rfl, rfl⟩
    rcases oi hf with hf | hf
    · exact hs.trans (hK2 _ _ _ hf)
    · obtain ⟨q13, e15, hf⟩ := ob hf
      obtain ⟨q16, e18, hf⟩ := ob hf
      rcases oi hf with hf | hf
      · exact hs.trans (ih _ _ _ _ hf)
      · rcases oi hf with hf | hf
        · exact hs.trans (ih _ _ _ _ hf)
        · obtain ⟨q19, e21, hf⟩ := ob hf
          replace hs := hs.trans (fr_X5_raise m501_0 e21)
          exact hs.trans (ih _ _ _ _ hf)
theorem frb_X5_joinThrough_2 {F : Nat} {z : Mm} {k i j : Nat} (m501_0 : ¬ (k = 501 ∧ i = 0)) : ∀ (N : Nat) (μ : Mm) (a1 : Int32) (a2 : Int32), f_X5_joinThrough_b2 F N μ a1 a2 = some z → sm μ z k i j := by
  intro N
  induction N with
  | zero => intro μ a1 a2 hf; cases hf
  | succ N ih =>
    intro μ a1 a2 hf
    rw [f_X5_joinThrough_b2] at hf
    have hs : sm μ μ k i j := ⟨rfl, rfl⟩
    rcases oi hf with hf | hf
    · obtain rfl := Option.some.inj hf
      exact hs
    · exact hs.trans (frb_X5_joinThrough_9 m501_0 ih _ _ _ _ _ hf)
theorem fr_X5_joinThrough {F : Nat} {μ : Mm} {p1 : Int32} {z : Mm} {k i j : Nat} (m501_0 : ¬ (k = 501 ∧ i = 0)) (hf : f_X5_joinThrough F μ p1 = some z) : sm μ z k i j := by
  unfold f_X5_joinThrough at hf
  have hs : sm μ μ k i j := ⟨rfl, rfl⟩
  exact hs.trans (frb_X5_joinThrough_2 m501_0 _ _ _ _ hf)

theorem frb_X7_restart_42 {F : Nat} {z : Mm} {k i j : Nat} (m200s5 : ¬ (k = 200 ∧ j = 5)) (m401 : ¬ (k = 401)) (m403 : ¬ (k = 403)) (m400s3 : ¬ (k = 400 ∧ j = 3)) (m400s4 : ¬ (k = 400 ∧ j = 4)) : ∀ (N : Nat) (μ : Mm) (a0 : Nat) (a4 : Int32), f_X7_restart_b42 F N μ a0 a4 = some z → sm μ z k i j := by
  intro N
  induction N with
  | zero => intro μ a0 a4 hf; cases hf
  | succ N ih =>
    intro μ a0 a4 hf
    rw [f_X7_restart_b42] at hf
    have hs : sm μ μ k i j := ⟨rfl, rfl⟩
    rcases oi hf with hf | hf
    · obtain rfl := Option.some.inj hf
      exact hs
    · obtain ⟨j21, e23, hf⟩ := ob hf
      obtain ⟨q24, e26, hf⟩ := ob hf
      replace hs := hs.trans (fr_X2_empty (fun h => m200s5 ⟨h.1, h.2.2⟩) (fun h => m401 h.1) (fun h => m403 h.1) (fun h => m400s3 ⟨h.1, h.2.2⟩) (fun h => m400s4 ⟨h.1, h.2.2⟩) e26)
      exact hs.trans (ih _ _ _ hf)
theorem fr_X7_restart {F : Nat} {μ : Mm} {i0 : Nat} {p1 : Int32} {p2 : Int32} {p3 : Int32} {z : Mm} {k i j : Nat} (m700_i0s4 : ¬ (k = 700 ∧ i = i0 ∧ j = 4)) (m700_i0s5 : ¬ (k = 700 ∧ i = i0 ∧ j = 5)) (m700_i0s6 : ¬ (k = 700 ∧ i = i0 ∧ j = 6)) (m701_i0 : ¬ (k = 701 ∧ i = i0)) (m702_i0 : ¬ (k = 702 ∧ i = i0)) (m704_i0 : ¬ (k = 704 ∧ i = i0)) (m200s5 : ¬ (k = 200 ∧ j = 5)) (m401 : ¬ (k = 401)) (m403 : ¬ (k = 403)) (m400s3 : ¬ (k = 400 ∧ j = 3)) (m400s4 : ¬ (k = 400 ∧ j = 4)) (hf : f_X7_restart F μ i0 p1 p2 p3 = some z) : sm μ z k i j := by
  unfold f_X7_restart at hf
  have hs : sm μ μ k i j := ⟨rfl, rfl⟩
  obtain ⟨m39, e41, hf⟩ := ob hf
  replace hs := hs.trans (fr_wf m700_i0s4 e41)
  obtain ⟨m42, e44, hf⟩ := ob hf
  replace hs := hs.trans (fr_wf m700_i0s5 e44)
  obtain ⟨m45, e47, hf⟩ := ob hf
  replace hs := hs.trans (fr_wf m700_i0s6 e47)
  obtain ⟨q48, e50, hf⟩ := ob hf
  replace hs := hs.trans (fr_fill m701_i0 e50)
  obtain ⟨q51, e53, hf⟩ := ob hf
  replace hs := hs.trans (fr_fill m702_i0 e53)
  obtain ⟨q54, e56, hf⟩ := ob hf
  replace hs := hs.trans (fr_fill m704_i0 e56)
  exact hs.trans (frb_X7_restart_42 m200s5 m401 m403 m400s3 m400s4 _ _ _ _ hf)

theorem frb_X8_step_50 {z : Mm} {k i j : Nat} (m800_0s1 : ¬ (k = 800 ∧ i = 0 ∧ j = 1)) (m800_0s2 : ¬ (k = 800 ∧ i = 0 ∧ j = 2)) : ∀ (μ : Mm) (a1 : Nat) (a2 : Int32) (s0 : Int32), f_X8_step_b50 μ a1 a2 s0 = some z → sm μ z k i j := by
  intro μ a1 a2 s0 hf
  unfold f_X8_step_b50 at hf
  have hs : sm μ μ k i j := ⟨rfl, rfl⟩
  obtain ⟨m31, e33, hf⟩ := ob hf
  replace hs := hs.trans (fr_wf m800_0s1 e33)
  obtain ⟨q34, e36, hf⟩ := ob hf
  rcases oi hf with hf | hf
  · obtain ⟨m37, e39, hf⟩ := ob hf
    replace hs := hs.trans (fr_wf m800_0s2 e39)
    obtain rfl := Option.some.inj hf
    exact hs
  · rcases oi hf with hf | hf
    · obtain ⟨m43, e45, hf⟩ := ob hf
      replace hs := hs.trans (fr_wf m800_0s2 e45)
      obtain rfl := Option.some.inj hf
      exact hs
    · obtain ⟨m40, e42, hf⟩ := ob hf
      replace hs := hs.trans (fr_wf m800_0s2 e42)
      obtain rfl := Option.some.inj hf
      exact hs
theorem fr_X8_step {μ : Mm} {n1 : Nat} {p2 : Int32} {z : Mm} {k i j : Nat} (m401_21 : ¬ (k = 401 ∧ i = 21)) (m400_21s3 : ¬ (k = 400 ∧ i = 21 ∧ j = 3)) (m402_21 : ¬ (k = 402 ∧ i = 21)) (m403_21 : ¬ (k = 403 ∧ i = 21)) (m400_21s4 : ¬ (k = 400 ∧ i = 21 ∧ j = 4)) (m800_0s1 : ¬ (k = 800 ∧ i = 0 ∧ j = 1)) (m800_0s2 : ¬ (k = 800 ∧ i = 0 ∧ j = 2)) (hf : f_X8_step μ n1 p2 = some z) : sm μ z k i j := by
  unfold f_X8_step at hf
  have hs : sm μ μ k i j := ⟨rfl, rfl⟩
  obtain ⟨q60, e62, hf⟩ := ob hf
  obtain ⟨q63, e65, hf⟩ := ob hf
  obtain ⟨q66, e68, hf⟩ := ob hf
  obtain ⟨q69, e71, hf⟩ := ob hf
  replace hs := hs.trans (fr_X4_apply m401_21 m400_21s3 m402_21 m403_21 m400_21s4 e71)
  obtain ⟨q72, e74, hf⟩ := ob hf
  rcases oi hf with hf | hf
  · exact hs.trans (frb_X8_step_50 m800_0s1 m800_0s2 _ _ _ _ hf)
  · obtain ⟨q75, e77, hf⟩ := ob hf
    obtain ⟨q78, e80, hf⟩ := ob hf
    exact hs.trans (frb_X8_step_50 m800_0s1 m800_0s2 _ _ _ _ hf)

theorem fr_X9_begin {F : Nat} {μ : Mm} {p1 : Int32} {p2 : Int32} {p3 : Int32} {z : Int32 × Mm} {k i j : Nat} (m700_0s4 : ¬ (k = 700 ∧ i = 0 ∧ j = 4)) (m700_0s5 : ¬ (k = 700 ∧ i = 0 ∧ j = 5)) (m700_0s6 : ¬ (k = 700 ∧ i = 0 ∧ j = 6)) (m701_0 : ¬ (k = 701 ∧ i = 0)) (m702_0 : ¬ (k = 702 ∧ i = 0)) (m704_0 : ¬ (k = 704 ∧ i = 0)) (m200s5 : ¬ (k = 200 ∧ j = 5)) (m401 : ¬ (k = 401)) (m403 : ¬ (k = 403)) (m400s3 : ¬ (k = 400 ∧ j = 3)) (m400s4 : ¬ (k = 400 ∧ j = 4)) (m300_0s4 : ¬ (k = 300 ∧ i = 0 ∧ j = 4)) (m902_0 : ¬ (k = 902 ∧ i = 0)) (m900_0s9 : ¬ (k = 900 ∧ i = 0 ∧ j = 9)) (m900_0s10 : ¬ (k = 900 ∧ i = 0 ∧ j = 10)) (hf : f_X9_begin F μ p1 p2 p3 = some z) : sm μ z.2 k i j := by
  unfold f_X9_begin at hf
  have hs : sm μ μ k i j := ⟨rfl, rfl⟩
  rcases oi hf with hf | hf
  · obtain rfl := Option.some.inj hf
    exact hs
  · rcases oi hf with hf | hf
    · obtain rfl := Option.some.inj hf
      exact hs
    · rcases oi hf with hf | hf
      · obtain rfl := Option.some.inj hf
        exact hs
      · rcases oi hf with hf | hf
        · obtain rfl := Option.some.inj hf
          exact hs
        · rcases oi hf with hf | hf
          · obtain rfl := Option.some.inj hf
            exact hs
          · rcases oi hf with hf | hf
            · obtain ⟨q17, e19, hf⟩ := ob hf
              replace hs := hs.trans (fr_X7_restart m700_0s4 m700_0s5 m700_0s6 m701_0 m702_0 m704_0 m200s5 m401 m403 m400s3 m400s4 e19)
              obtain ⟨q20, e22, hf⟩ := ob hf
              replace hs := hs.trans (fr_X9_forgetLawsAndOthers m300_0s4 m902_0 e22)
              obtain ⟨m23, e25, hf⟩ := ob hf
              replace hs := hs.trans (fr_wf m900_0s9 e25)
              obtain ⟨m26, e28, hf⟩ := ob hf
              replace hs := hs.trans (fr_wf m900_0s10 e28)
              obtain rfl := Option.some.inj hf
              exact hs
            · obtain rfl := Option.some.inj hf
              exact hs

theorem fr_X9_rank {μ : Mm} {p1 : Int32} {p2 : Int32} {z : Int32 × Mm} {k i j : Nat} (m702_0 : ¬ (k = 702 ∧ i = 0)) (hf : f_X9_rank μ p1 p2 = some z) : sm μ z.2 k i j := by
  unfold f_X9_rank at hf
  have hs : sm μ μ k i j := ⟨rfl, rfl⟩
  obtain ⟨q17, e19, hf⟩ := ob hf
  rcases oi hf with hf | hf
  · obtain rfl := Option.some.inj hf
    exact hs
  · obtain ⟨q20, e22, hf⟩ := ob hf
    rcases oi hf with hf | hf
    · obtain rfl := Option.some.inj hf
      exact hs
    · obtain ⟨q23, e25, hf⟩ := ob hf
      obtain ⟨m26, e28, hf⟩ := ob hf
      replace hs := hs.trans (fr_wa m702_0 e28)
      obtain rfl := Option.some.inj hf
      exact hs

theorem fr_X9_other {μ : Mm} {p1 : Int32} {p2 : Int32} {z : Int32 × Mm} {k i j : Nat} (m902_0 : ¬ (k = 902 ∧ i = 0)) (hf : f_X9_other μ p1 p2 = some z) : sm μ z.2 k i j := by
  unfold f_X9_other at hf
  have hs : sm μ μ k i j := ⟨rfl, rfl⟩
  obtain ⟨q17, e19, hf⟩ := ob hf
  rcases oi hf with hf | hf
  · obtain rfl := Option.some.inj hf
    exact hs
  · obtain ⟨q20, e22, hf⟩ := ob hf
    rcases oi hf with hf | hf
    · obtain rfl := Option.some.inj hf
      exact hs
    · obtain ⟨q23, e25, hf⟩ := ob hf
      obtain ⟨m26, e28, hf⟩ := ob hf
      replace hs := hs.trans (fr_wa m902_0 e28)
      obtain rfl := Option.some.inj hf
      exact hs

theorem frb_X9_busy_44 {F : Nat} {z : Int32 × Mm} {k i j : Nat} (m401_21 : ¬ (k = 401 ∧ i = 21)) (m400_21s3 : ¬ (k = 400 ∧ i = 21 ∧ j = 3)) (m402_21 : ¬ (k = 402 ∧ i = 21)) (m403_21 : ¬ (k = 403 ∧ i = 21)) (m400_21s4 : ¬ (k = 400 ∧ i = 21 ∧ j = 4)) (m800_0s1 : ¬ (k = 800 ∧ i = 0 ∧ j = 1)) (m800_0s2 : ¬ (k = 800 ∧ i = 0 ∧ j = 2)) : ∀ (N : Nat) (μ : Mm) (a2 : Int32) (a3 : Nat) (a4 : Int32) (a5 : Int32), f_X9_busy_b44 F N μ a2 a3 a4 a5 = some z → sm μ z.2 k i j := by
  intro N
  induction N with
  | zero => intro μ a2 a3 a4 a5 hf; cases hf
  | succ N ih =>
    intro μ a2 a3 a4 a5 hf
    rw [f_X9_busy_b44] at hf
    have hs : sm μ μ k i j := ⟨rfl, rfl⟩
    rcases oi hf with hf | hf
    · obtain rfl := Option.some.inj hf
      exact hs
    · obtain ⟨q15, e17, hf⟩ := ob hf
      replace hs := hs.trans (fr_X8_step m401_21 m400_21s3 m402_21 m403_21 m400_21s4 m800_0s1 m800_0s2 e17)
      obtain ⟨q18, e20, hf⟩ := ob hf
      rcases oi hf with hf | hf
      · exact hs.trans (ih _ _ _ _ _ hf)
      · exact hs.trans (ih _ _ _ _ _ hf)
theorem fr_X9_busy {F : Nat} {μ : Mm} {p1 : Int32} {p2 : Int32} {z : Int32 × Mm} {k i j : Nat} (m401_21 : ¬ (k = 401 ∧ i = 21)) (m403_21 : ¬ (k = 403 ∧ i = 21)) (m400_21s3 : ¬ (k = 400 ∧ i = 21 ∧ j = 3)) (m400_21s4 : ¬ (k = 400 ∧ i = 21 ∧ j = 4)) (m800_0s1 : ¬ (k = 800 ∧ i = 0 ∧ j = 1)) (m800_0s2 : ¬ (k = 800 ∧ i = 0 ∧ j = 2)) (m402_21 : ¬ (k = 402 ∧ i = 21)) (hf : f_X9_busy F μ p1 p2 = some z) : sm μ z.2 k i j := by
  unfold f_X9_busy at hf
  have hs : sm μ μ k i j := ⟨rfl, rfl⟩
  obtain ⟨q27, e29, hf⟩ := ob hf
  rcases oi hf with hf | hf
  · obtain rfl := Option.some.inj hf
    exact hs
  · rcases oi hf with hf | hf
    · obtain rfl := Option.some.inj hf
      exact hs
    · rcases oi hf with hf | hf
      · obtain ⟨q30, e32, hf⟩ := ob hf
        obtain ⟨q33, e35, hf⟩ := ob hf
        replace hs := hs.trans (fr_X8_start m401_21 m403_21 m400_21s3 m400_21s4 m800_0s1 m800_0s2 e35)
        exact hs.trans (frb_X9_busy_44 m401_21 m400_21s3 m402_21 m403_21 m400_21s4 m800_0s1 m800_0s2 _ _ _ _ _ _ hf)
      · obtain rfl := Option.some.inj hf
        exact hs

theorem frb_X9_wait_44 {F : Nat} {z : Int32 × Mm} {k i j : Nat} (m401_21 : ¬ (k = 401 ∧ i = 21)) (m400_21s3 : ¬ (k = 400 ∧ i = 21 ∧ j = 3)) (m402_21 : ¬ (k = 402 ∧ i = 21)) (m403_21 : ¬ (k = 403 ∧ i = 21)) (m400_21s4 : ¬ (k = 400 ∧ i = 21 ∧ j = 4)) (m800_0s1 : ¬ (k = 800 ∧ i = 0 ∧ j = 1)) (m800_0s2 : ¬ (k = 800 ∧ i = 0 ∧ j = 2)) : ∀ (N : Nat) (μ : Mm) (a1 : Int32) (a2 : Int32) (a3 : Nat) (a4 : Int32) (a5 : Int32), f_X9_wait_b44 F N μ a1 a2 a3 a4 a5 = some z → sm μ z.2 k i j := by
  intro N
  induction N with
  | zero => intro μ a1 a2 a3 a4 a5 hf; cases hf
  | succ N ih =>
    intro μ a1 a2 a3 a4 a5 hf
    rw [f_X9_wait_b44] at hf
    have hs : sm μ μ k i j := ⟨rfl, rfl⟩
    rcases oi hf with hf | hf
    · obtain rfl := Option.some.inj hf
      exact hs
    · obtain ⟨q19, e21, hf⟩ := ob hf
      replace hs := hs.trans (fr_X8_step m401_21 m400_21s3 m402_21 m403_21 m400_21s4 m800_0s1 m800_0s2 e21)
      obtain ⟨q22, e24, hf⟩ := ob hf
      rcases oi hf with hf | hf
      · obtain ⟨q25, e27, hf⟩ := ob hf
        rcases oi hf with hf | hf
        · exact hs.trans (ih _ _ _ _ _ _ hf)
        · exact hs.trans (ih _ _ _ _ _ _ hf)
      · exact hs.trans (ih _ _ _ _ _ _ hf)
theorem fr_X9_wait {F : Nat} {μ : Mm} {p1 : Int32} {p2 : Int32} {z : Int32 × Mm} {k i j : Nat} (m401_21 : ¬ (k = 401 ∧ i = 21)) (m403_21 : ¬ (k = 403 ∧ i = 21)) (m400_21s3 : ¬ (k = 400 ∧ i = 21 ∧ j = 3)) (m400_21s4 : ¬ (k = 400 ∧ i = 21 ∧ j = 4)) (m800_0s1 : ¬ (k = 800 ∧ i = 0 ∧ j = 1)) (m800_0s2 : ¬ (k = 800 ∧ i = 0 ∧ j = 2)) (m402_21 : ¬ (k = 402 ∧ i = 21)) (hf : f_X9_wait F μ p1 p2 = some z) : sm μ z.2 k i j := by
  unfold f_X9_wait at hf
  have hs : sm μ μ k i j := ⟨rfl, rfl⟩
  obtain ⟨q34, e36, hf⟩ := ob hf
  rcases oi hf with hf | hf
  · obtain rfl := Option.some.inj hf
    exact hs
  · rcases oi hf with hf | hf
    · obtain rfl := Option.some.inj hf
      exact hs
    · rcases oi hf with hf | hf
      · obtain ⟨q37, e39, hf⟩ := ob hf
        obtain ⟨q40, e42, hf⟩ := ob hf
        replace hs := hs.trans (fr_X8_start m401_21 m403_21 m400_21s3 m400_21s4 m800_0s1 m800_0s2 e42)
        exact hs.trans (frb_X9_wait_44 m401_21 m400_21s3 m402_21 m403_21 m400_21s4 m800_0s1 m800_0s2 _ _ _ _ _ _ _ hf)
      · obtain rfl := Option.some.inj hf
        exact hs

theorem frb_X9_held_45 {F : Nat} {z : Int32 × Mm} {k i j : Nat} (m401_21 : ¬ (k = 401 ∧ i = 21)) (m400_21s3 : ¬ (k = 400 ∧ i = 21 ∧ j = 3)) (m402_21 : ¬ (k = 402 ∧ i = 21)) (m403_21 : ¬ (k = 403 ∧ i = 21)) (m400_21s4 : ¬ (k = 400 ∧ i = 21 ∧ j = 4)) (m800_0s1 : ¬ (k = 800 ∧ i = 0 ∧ j = 1)) (m800_0s2 : ¬ (k = 800 ∧ i = 0 ∧ j = 2)) : ∀ (N : Nat) (μ : Mm) (a1 : Int32) (a2 : Int32) (a3 : Nat) (a4 : Int32) (a5 : Int32), f_X9_held_b45 F N μ a1 a2 a3 a4 a5 = some z → sm μ z.2 k i j := by
  intro N
  induction N with
  | zero => intro μ a1 a2 a3 a4 a5 hf; cases hf
  | succ N ih =>
    intro μ a1 a2 a3 a4 a5 hf
    rw [f_X9_held_b45] at hf
    have hs : sm μ μ k i j := ⟨rfl, rfl⟩
    rcases oi hf with hf | hf
    · obtain rfl := Option.some.inj hf
      exact hs
    · obtain ⟨q19, e21, hf⟩ := ob hf
      replace hs := hs.trans (fr_X8_step m401_21 m400_21s3 m402_21 m403_21 m400_21s4 m800_0s1 m800_0s2 e21)
      obtain ⟨q22, e24, hf⟩ := ob hf
      rcases oi hf with hf | hf
      · obtain ⟨q25, e27, hf⟩ := ob hf
        rcases oi hf with hf | hf
        · exact hs.trans (ih _ _ _ _ _ _ hf)
        · exact hs.trans (ih _ _ _ _ _ _ hf)
      · exact hs.trans (ih _ _ _ _ _ _ hf)
theorem fr_X9_held {F : Nat} {μ : Mm} {p1 : Int32} {p2 : Int32} {z : Int32 × Mm} {k i j : Nat} (m401_21 : ¬ (k = 401 ∧ i = 21)) (m403_21 : ¬ (k = 403 ∧ i = 21)) (m400_21s3 : ¬ (k = 400 ∧ i = 21 ∧ j = 3)) (m400_21s4 : ¬ (k = 400 ∧ i = 21 ∧ j = 4)) (m800_0s1 : ¬ (k = 800 ∧ i = 0 ∧ j = 1)) (m800_0s2 : ¬ (k = 800 ∧ i = 0 ∧ j = 2)) (m402_21 : ¬ (k = 402 ∧ i = 21)) (hf : f_X9_held F μ p1 p2 = some z) : sm μ z.2 k i j := by
  unfold f_X9_held at hf
  have hs : sm μ μ k i j := ⟨rfl, rfl⟩
  obtain ⟨q34, e36, hf⟩ := ob hf
  rcases oi hf with hf | hf
  · obtain rfl := Option.some.inj hf
    exact hs
  · rcases oi hf with hf | hf
    · obtain rfl := Option.some.inj hf
      exact hs
    · rcases oi hf with hf | hf
      · obtain ⟨q37, e39, hf⟩ := ob hf
        obtain ⟨q40, e42, hf⟩ := ob hf
        replace hs := hs.trans (fr_X8_start m401_21 m403_21 m400_21s3 m400_21s4 m800_0s1 m800_0s2 e42)
        exact hs.trans (frb_X9_held_45 m401_21 m400_21s3 m402_21 m403_21 m400_21s4 m800_0s1 m800_0s2 _ _ _ _ _ _ _ hf)
      · obtain rfl := Option.some.inj hf
        exact hs

theorem frb_X9_chain_34 {F : Nat} {z : Int32 × Mm} {k i j : Nat} (m401_21 : ¬ (k = 401 ∧ i = 21)) (m400_21s3 : ¬ (k = 400 ∧ i = 21 ∧ j = 3)) (m402_21 : ¬ (k = 402 ∧ i = 21)) (m403_21 : ¬ (k = 403 ∧ i = 21)) (m400_21s4 : ¬ (k = 400 ∧ i = 21 ∧ j = 4)) (m800_0s1 : ¬ (k = 800 ∧ i = 0 ∧ j = 1)) (m800_0s2 : ¬ (k = 800 ∧ i = 0 ∧ j = 2)) : ∀ (N : Nat) (μ : Mm) (a1 : Int32) (a2 : Nat) (a3 : Int32) (a4 : Int32), f_X9_chain_b34 F N μ a1 a2 a3 a4 = some z → sm μ z.2 k i j := by
  intro N
  induction N with
  | zero => intro μ a1 a2 a3 a4 hf; cases hf
  | succ N ih =>
    intro μ a1 a2 a3 a4 hf
    rw [f_X9_chain_b34] at hf
    have hs : sm μ μ k i j := ⟨rfl, rfl⟩
    rcases oi hf with hf | hf
    · obtain rfl := Option.some.inj hf
      exact hs
    · obtain ⟨q19, e21, hf⟩ := ob hf
      replace hs := hs.trans (fr_X8_step m401_21 m400_21s3 m402_21 m403_21 m400_21s4 m800_0s1 m800_0s2 e21)
      obtain ⟨q22, e24, hf⟩ := ob hf
      rcases oi hf with hf | hf
      · obtain ⟨q25, e27, hf⟩ := ob hf
        exact hs.trans (ih _ _ _ _ _ hf)
      · exact hs.trans (ih _ _ _ _ _ hf)
theorem fr_X9_chain {F : Nat} {μ : Mm} {p1 : Int32} {z : Int32 × Mm} {k i j : Nat} (m401_21 : ¬ (k = 401 ∧ i = 21)) (m403_21 : ¬ (k = 403 ∧ i = 21)) (m400_21s3 : ¬ (k = 400 ∧ i = 21 ∧ j = 3)) (m400_21s4 : ¬ (k = 400 ∧ i = 21 ∧ j = 4)) (m800_0s1 : ¬ (k = 800 ∧ i = 0 ∧ j = 1)) (m800_0s2 : ¬ (k = 800 ∧ i = 0 ∧ j = 2)) (m402_21 : ¬ (k = 402 ∧ i = 21)) (hf : f_X9_chain F μ p1 = some z) : sm μ z.2 k i j := by
  unfold f_X9_chain at hf
  have hs : sm μ μ k i j := ⟨rfl, rfl⟩
  obtain ⟨q34, e36, hf⟩ := ob hf
  rcases oi hf with hf | hf
  · obtain rfl := Option.some.inj hf
    exact hs
  · obtain ⟨q37, e39, hf⟩ := ob hf
    obtain ⟨q40, e42, hf⟩ := ob hf
    replace hs := hs.trans (fr_X8_start m401_21 m403_21 m400_21s3 m400_21s4 m800_0s1 m800_0s2 e42)
    exact hs.trans (frb_X9_chain_34 m401_21 m400_21s3 m402_21 m403_21 m400_21s4 m800_0s1 m800_0s2 _ _ _ _ _ _ hf)

theorem frb_X9_timeCountedAs_31 {F : Nat} {z : Int32 × Mm} {k i j : Nat} (m401_21 : ¬ (k = 401 ∧ i = 21)) (m400_21s3 : ¬ (k = 400 ∧ i = 21 ∧ j = 3)) (m402_21 : ¬ (k = 402 ∧ i = 21)) (m403_21 : ¬ (k = 403 ∧ i = 21)) (m400_21s4 : ¬ (k = 400 ∧ i = 21 ∧ j = 4)) (m800_0s1 : ¬ (k = 800 ∧ i = 0 ∧ j = 1)) (m800_0s2 : ¬ (k = 800 ∧ i = 0 ∧ j = 2)) : ∀ (N : Nat) (μ : Mm) (a2 : Int32) (a3 : Int32) (a4 : Nat) (a5 : Int32) (a6 : Int32), f_X9_timeCountedAs_b31 F N μ a2 a3 a4 a5 a6 = some z → sm μ z.2 k i j := by
  intro N
  induction N with
  | zero => intro μ a2 a3 a4 a5 a6 hf; cases hf
  | succ N ih =>
    intro μ a2 a3 a4 a5 a6 hf
    rw [f_X9_timeCountedAs_b31] at hf
    have hs : sm μ μ k i j := ⟨rfl, rfl⟩
    rcases oi hf with hf | hf
    · obtain rfl := Option.some.inj hf
      exact hs
    · obtain ⟨q15, e17, hf⟩ := ob hf
      replace hs := hs.trans (fr_X8_step m401_21 m400_21s3 m402_21 m403_21 m400_21s4 m800_0s1 m800_0s2 e17)
      obtain ⟨q18, e20, hf⟩ := ob hf
      rcases oi hf with hf | hf
      · exact hs.trans (ih _ _ _ _ _ _ hf)
      · exact hs.trans (ih _ _ _ _ _ _ hf)
theorem fr_X9_timeCountedAs {F : Nat} {μ : Mm} {n1 : Nat} {p2 : Int32} {p3 : Int32} {z : Int32 × Mm} {k i j : Nat} (m401_21 : ¬ (k = 401 ∧ i = 21)) (m403_21 : ¬ (k = 403 ∧ i = 21)) (m400_21s3 : ¬ (k = 400 ∧ i = 21 ∧ j = 3)) (m400_21s4 : ¬ (k = 400 ∧ i = 21 ∧ j = 4)) (m800_0s1 : ¬ (k = 800 ∧ i = 0 ∧ j = 1)) (m800_0s2 : ¬ (k = 800 ∧ i = 0 ∧ j = 2)) (m402_21 : ¬ (k = 402 ∧ i = 21)) (hf : f_X9_timeCountedAs F μ n1 p2 p3 = some z) : sm μ z.2 k i j := by
  unfold f_X9_timeCountedAs at hf
  have hs : sm μ μ k i j := ⟨rfl, rfl⟩
  obtain ⟨q27, e29, hf⟩ := ob hf
  rcases oi hf with hf | hf
  · obtain ⟨q33, e35, hf⟩ := ob hf
    obtain rfl := Option.some.inj hf
    exact hs
  · obtain ⟨q30, e32, hf⟩ := ob hf
    replace hs := hs.trans (fr_X8_start m401_21 m403_21 m400_21s3 m400_21s4 m800_0s1 m800_0s2 e32)
    exact hs.trans (frb_X9_timeCountedAs_31 m401_21 m400_21s3 m402_21 m403_21 m400_21s4 m800_0s1 m800_0s2 _ _ _ _ _ _ _ hf)

theorem fr_X9_law {μ : Mm} {p1 : Int32} {p2 : Int32} {p3 : Int32} {p4 : Int32} {z : Int32 × Mm} {k i j : Nat} (m301_0 : ¬ (k = 301 ∧ i = 0)) (m302_0 : ¬ (k = 302 ∧ i = 0)) (m303_0 : ¬ (k = 303 ∧ i = 0)) (m304_0 : ¬ (k = 304 ∧ i = 0)) (m300_0s4 : ¬ (k = 300 ∧ i = 0 ∧ j = 4)) (hf : f_X9_law μ p1 p2 p3 p4 = some z) : sm μ z.2 k i j := by
  unfold f_X9_law at hf
  have hs : sm μ μ k i j := ⟨rfl, rfl⟩
  obtain ⟨q9, e11, hf⟩ := ob hf
  rcases oi hf with hf | hf
  · obtain rfl := Option.some.inj hf
    exact hs
  · rcases oi hf with hf | hf
    · obtain ⟨q12, e14, hf⟩ := ob hf
      replace hs := hs.trans (fr_X3_add m301_0 m302_0 m303_0 m304_0 m300_0s4 e14)
      obtain rfl := Option.some.inj hf
      exact hs
    · obtain rfl := Option.some.inj hf
      exact hs

theorem fr_X9_tape {μ : Mm} {p1 : Int32} {p2 : Int32} {p3 : Int32} {z : Int32 × Mm} {k i j : Nat} (m601 : ¬ (k = 601)) (m600s1 : ¬ (k = 600 ∧ j = 1)) (m600s2 : ¬ (k = 600 ∧ j = 2)) (m900_0s10 : ¬ (k = 900 ∧ i = 0 ∧ j = 10)) (hf : f_X9_tape μ p1 p2 p3 = some z) : sm μ z.2 k i j := by
  unfold f_X9_tape at hf
  have hs : sm μ μ k i j := ⟨rfl, rfl⟩
  obtain ⟨q17, e19, hf⟩ := ob hf
  rcases oi hf with hf | hf
  · obtain rfl := Option.some.inj hf
    exact hs
  · rcases oi hf with hf | hf
    · obtain rfl := Option.some.inj hf
      exact hs
    · rcases oi hf with hf | hf
      · obtain rfl := Option.some.inj hf
        exact hs
      · rcases oi hf with hf | hf
        · rcases oi hf with hf | hf
          · obtain ⟨j20, e22, hf⟩ := ob hf
            obtain ⟨q23, e25, hf⟩ := ob hf
            replace hs := hs.trans (fr_X6_layRow (fun h => m601 h.1) (fun h => m600s1 ⟨h.1, h.2.2⟩) (fun h => m600s2 ⟨h.1, h.2.2⟩) e25)
            obtain rfl := Option.some.inj hf
            exact hs
          · obtain ⟨q26, e28, hf⟩ := ob hf
            replace hs := hs.trans (fr_X9_refuse m900_0s10 e28)
            obtain rfl := Option.some.inj hf
            exact hs
        · obtain rfl := Option.some.inj hf
          exact hs

theorem fr_X9_clear {μ : Mm} {p1 : Int32} {z : Int32 × Mm} {k i j : Nat} (m600s1 : ¬ (k = 600 ∧ j = 1)) (hf : f_X9_clear μ p1 = some z) : sm μ z.2 k i j := by
  unfold f_X9_clear at hf
  have hs : sm μ μ k i j := ⟨rfl, rfl⟩
  obtain ⟨q17, e19, hf⟩ := ob hf
  rcases oi hf with hf | hf
  · obtain rfl := Option.some.inj hf
    exact hs
  · obtain ⟨j20, e22, hf⟩ := ob hf
    obtain ⟨j23, e25, hf⟩ := ob hf
    obtain ⟨m26, e28, hf⟩ := ob hf
    replace hs := hs.trans (fr_wf (fun h => m600s1 ⟨h.1, h.2.2⟩) e28)
    obtain rfl := Option.some.inj hf
    exact hs

theorem fr_X9_put {μ : Mm} {p1 : Int32} {p2 : Int32} {p3 : Int64} {z : Int32 × Mm} {k i j : Nat} (m601 : ¬ (k = 601)) (m900_0s10 : ¬ (k = 900 ∧ i = 0 ∧ j = 10)) (hf : f_X9_put μ p1 p2 p3 = some z) : sm μ z.2 k i j := by
  unfold f_X9_put at hf
  have hs : sm μ μ k i j := ⟨rfl, rfl⟩
  obtain ⟨q33, e35, hf⟩ := ob hf
  rcases oi hf with hf | hf
  · obtain rfl := Option.some.inj hf
    exact hs
  · obtain ⟨j36, e38, hf⟩ := ob hf
    rcases oi hf with hf | hf
    · obtain ⟨q54, e56, hf⟩ := ob hf
      replace hs := hs.trans (fr_X9_refuse m900_0s10 e56)
      obtain rfl := Option.some.inj hf
      exact hs
    · rcases oi hf with hf | hf
      · obtain ⟨q51, e53, hf⟩ := ob hf
        replace hs := hs.trans (fr_X9_refuse m900_0s10 e53)
        obtain rfl := Option.some.inj hf
        exact hs
      · obtain ⟨q39, e41, hf⟩ := ob hf
        rcases oi hf with hf | hf
        · obtain ⟨q48, e50, hf⟩ := ob hf
          replace hs := hs.trans (fr_X9_refuse m900_0s10 e50)
          obtain rfl := Option.some.inj hf
          exact hs
        · obtain ⟨q42, e44, hf⟩ := ob hf
          obtain ⟨m45, e47, hf⟩ := ob hf
          replace hs := hs.trans (fr_wg (fun h => m601 h.1) e47)
          obtain rfl := Option.some.inj hf
          exact hs

theorem fr_X9_copy {μ : Mm} {p1 : Int32} {p2 : Int32} {p3 : Int32} {p4 : Int32} {p5 : Int32} {z : Int32 × Mm} {k i j : Nat} (m900_0s10 : ¬ (k = 900 ∧ i = 0 ∧ j = 10)) (m601 : ¬ (k = 601)) (hf : f_X9_copy μ p1 p2 p3 p4 p5 = some z) : sm μ z.2 k i j := by
  unfold f_X9_copy at hf
  have hs : sm μ μ k i j := ⟨rfl, rfl⟩
  obtain ⟨q51, e53, hf⟩ := ob hf
  rcases oi hf with hf | hf
  · obtain rfl := Option.some.inj hf
    exact hs
  · obtain ⟨q54, e56, hf⟩ := ob hf
    rcases oi hf with hf | hf
    · obtain rfl := Option.some.inj hf
      exact hs
    · obtain ⟨j57, e59, hf⟩ := ob hf
      obtain ⟨j60, e62, hf⟩ := ob hf
      rcases oi hf with hf | hf
      · obtain ⟨q63, e65, hf⟩ := ob hf
        replace hs := hs.trans (fr_X9_refuse m900_0s10 e65)
        obtain rfl := Option.some.inj hf
        exact hs
      · rcases oi hf with hf | hf
        · obtain ⟨q90, e92, hf⟩ := ob hf
          replace hs := hs.trans (fr_X9_refuse m900_0s10 e92)
          obtain rfl := Option.some.inj hf
          exact hs
        · obtain ⟨q66, e68, hf⟩ := ob hf
          rcases oi hf with hf | hf
          · obtain ⟨q69, e71, hf⟩ := ob hf
            replace hs := hs.trans (fr_X9_refuse m900_0s10 e71)
            obtain rfl := Option.some.inj hf
            exact hs
          · rcases oi hf with hf | hf
            · obtain ⟨q72, e74, hf⟩ := ob hf
              rcases oi hf with hf | hf
              · obtain ⟨q75, e77, hf⟩ := ob hf
                replace hs := hs.trans (fr_X9_refuse m900_0s10 e77)
                obtain rfl := Option.some.inj hf
                exact hs
              · obtain ⟨q78, e80, hf⟩ := ob hf
                rcases oi hf with hf | hf
                · obtain ⟨q84, e86, hf⟩ := ob hf
                  replace hs := hs.trans (fr_X9_refuse m900_0s10 e86)
                  obtain rfl := Option.some.inj hf
                  exact hs
                · obtain ⟨m81, e83, hf⟩ := ob hf
                  replace hs := hs.trans (fr_cpL (fun h => m601 h.1) e83)
                  obtain rfl := Option.some.inj hf
                  exact hs
            · obtain ⟨q87, e89, hf⟩ := ob hf
              replace hs := hs.trans (fr_X9_refuse m900_0s10 e89)
              obtain rfl := Option.some.inj hf
              exact hs

theorem frb_X10_does_79 {F : Nat} {z : Mm} {k i j : Nat} (m1028_0 : ¬ (k = 1028 ∧ i = 0)) (m1000_0s31 : ¬ (k = 1000 ∧ i = 0 ∧ j = 31)) : ∀ (μ : Mm) (a2 : Int32), f_X10_does_b79 F μ a2 = some z → sm μ z k i j := by
  intro μ a2 hf
  unfold f_X10_does_b79 at hf
  have hs : sm μ μ k i j := ⟨rfl, rfl⟩
  obtain ⟨m39, e41, hf⟩ := ob hf
  replace hs := hs.trans (fr_wa m1028_0 e41)
  obtain ⟨m42, e44, hf⟩ := ob hf
  replace hs := hs.trans (fr_wf m1000_0s31 e44)
  obtain rfl := Option.some.inj hf
  exact hs
theorem fr_X10_does {F : Nat} {μ : Mm} {p1 : Int32} {p2 : Int32} {p3 : Int32} {z : Mm} {k i j : Nat} (m1028_0 : ¬ (k = 1028 ∧ i = 0)) (m1000_0s31 : ¬ (k = 1000 ∧ i = 0 ∧ j = 31)) (m1029_0 : ¬ (k = 1029 ∧ i = 0)) (m1030_0 : ¬ (k = 1030 ∧ i = 0)) (m1000_0s32 : ¬ (k = 1000 ∧ i = 0 ∧ j = 32)) (hf : f_X10_does F μ p1 p2 p3 = some z) : sm μ z k i j := by
  unfold f_X10_does at hf
  have hs : sm μ μ k i j := ⟨rfl, rfl⟩
  rcases oi hf with hf | hf
  · obtain ⟨m77, e79, hf⟩ := ob hf
    replace hs := hs.trans (fr_wa m1028_0 e79)
    obtain rfl := Option.some.inj hf
    exact hs
  · rcases oi hf with hf | hf
    · rcases oi hf with hf | hf
      · exact hs.trans (frb_X10_does_79 m1028_0 m1000_0s31 _ _ hf)
      · obtain ⟨m80, e82, hf⟩ := ob hf
        replace hs := hs.trans (fr_wa m1028_0 e82)
        exact hs.trans (frb_X10_does_79 m1028_0 m1000_0s31 _ _ hf)
    · rcases oi hf with hf | hf
      · obtain ⟨m83, e85, hf⟩ := ob hf
        replace hs := hs.trans (fr_wa m1028_0 e85)
        obtain ⟨m86, e88, hf⟩ := ob hf
        replace hs := hs.trans (fr_wf m1000_0s31 e88)
        obtain rfl := Option.some.inj hf
        exact hs
      · rcases oi hf with hf | hf
        · obtain ⟨m89, e91, hf⟩ := ob hf
          replace hs := hs.trans (fr_wa m1028_0 e91)
          obtain ⟨m92, e94, hf⟩ := ob hf
          replace hs := hs.trans (fr_wa m1029_0 e94)
          obtain ⟨m95, e97, hf⟩ := ob hf
          replace hs := hs.trans (fr_wf m1000_0s31 e97)
          obtain rfl := Option.some.inj hf
          exact hs
        · rcases oi hf with hf | hf
          · obtain ⟨m98, e100, hf⟩ := ob hf
            replace hs := hs.trans (fr_wa m1030_0 e100)
            obtain ⟨v101, e103, hf⟩ := ob hf
            rcases oi hf with hf | hf
            · obtain ⟨m110, e112, hf⟩ := ob hf
              replace hs := hs.trans (fr_wa m1028_0 e112)
              obtain rfl := Option.some.inj hf
              exact hs
            · obtain ⟨v104, e106, hf⟩ := ob hf
              obtain ⟨m107, e109, hf⟩ := ob hf
              replace hs := hs.trans (fr_wa m1028_0 e109)
              obtain rfl := Option.some.inj hf
              exact hs
          · rcases oi hf with hf | hf
            · obtain ⟨m113, e115, hf⟩ := ob hf
              replace hs := hs.trans (fr_wa m1030_0 e115)
              obtain rfl := Option.some.inj hf
              exact hs
            · rcases oi hf with hf | hf
              · obtain ⟨m116, e118, hf⟩ := ob hf
                replace hs := hs.trans (fr_wf m1000_0s32 e118)
                obtain rfl := Option.some.inj hf
                exact hs
              · rcases oi hf with hf | hf
                · obtain ⟨m119, e121, hf⟩ := ob hf
                  replace hs := hs.trans (fr_wf m1000_0s32 e121)
                  obtain rfl := Option.some.inj hf
                  exact hs
                · rcases oi hf with hf | hf
                  · obtain ⟨q122, e124, hf⟩ := ob hf
                    replace hs := hs.trans (fr_X10_loses m1000_0s31 m1000_0s32 m1030_0 m1028_0 e124)
                    obtain rfl := Option.some.inj hf
                    exact hs
                  · obtain rfl := Option.some.inj hf
                    exact hs

theorem fr_X10_doesMark {F : Nat} {μ : Mm} {p1 : Int32} {z : Mm} {k i j : Nat} (m1028_0 : ¬ (k = 1028 ∧ i = 0)) (m1000_0s31 : ¬ (k = 1000 ∧ i = 0 ∧ j = 31)) (m1029_0 : ¬ (k = 1029 ∧ i = 0)) (m1030_0 : ¬ (k = 1030 ∧ i = 0)) (m1000_0s32 : ¬ (k = 1000 ∧ i = 0 ∧ j = 32)) (hf : f_X10_doesMark F μ p1 = some z) : sm μ z k i j := by
  unfold f_X10_doesMark at hf
  have hs : sm μ μ k i j := ⟨rfl, rfl⟩
  obtain ⟨q29, e31, hf⟩ := ob hf
  obtain ⟨v32, e34, hf⟩ := ob hf
  obtain ⟨q35, e37, hf⟩ := ob hf
  obtain ⟨v38, e40, hf⟩ := ob hf
  obtain ⟨q41, e43, hf⟩ := ob hf
  obtain ⟨v44, e46, hf⟩ := ob hf
  obtain ⟨q47, e49, hf⟩ := ob hf
  replace hs := hs.trans (fr_X10_does m1028_0 m1000_0s31 m1029_0 m1030_0 m1000_0s32 e49)
  obtain rfl := Option.some.inj hf
  exact hs

theorem frb_X10_ends_7 {F : Nat} {z : Mm} {k i j : Nat} (m1028_0 : ¬ (k = 1028 ∧ i = 0)) (m1000_0s31 : ¬ (k = 1000 ∧ i = 0 ∧ j = 31)) (m1029_0 : ¬ (k = 1029 ∧ i = 0)) (m1030_0 : ¬ (k = 1030 ∧ i = 0)) (m1000_0s32 : ¬ (k = 1000 ∧ i = 0 ∧ j = 32)) : ∀ (N : Nat) (μ : Mm) (a1 : Int32) (a2 : Int32), f_X10_ends_b7 F N μ a1 a2 = some z → sm μ z k i j := by
  intro N
  induction N with
  | zero => intro μ a1 a2 hf; cases hf
  | succ N ih =>
    intro μ a1 a2 hf
    rw [f_X10_ends_b7] at hf
    have hs : sm μ μ k i j := ⟨rfl, rfl⟩
    obtain ⟨v11, e13, hf⟩ := ob hf
    rcases oi hf with hf | hf
    · obtain rfl := Option.some.inj hf
      exact hs
    · obtain ⟨q14, e16, hf⟩ := ob hf
      replace hs := hs.trans (fr_X10_doesMark m1028_0 m1000_0s31 m1029_0 m1030_0 m1000_0s32 e16)
      exact hs.trans (ih _ _ _ hf)
theorem fr_X10_ends {F : Nat} {μ : Mm} {p1 : Int32} {z : Mm} {k i j : Nat} (m1000_0s33 : ¬ (k = 1000 ∧ i = 0 ∧ j = 33)) (m1000_0s34 : ¬ (k = 1000 ∧ i = 0 ∧ j = 34)) (m1000_0s35 : ¬ (k = 1000 ∧ i = 0 ∧ j = 35)) (m1000_0s31 : ¬ (k = 1000 ∧ i = 0 ∧ j = 31)) (m1000_0s32 : ¬ (k = 1000 ∧ i = 0 ∧ j = 32)) (m1030_0 : ¬ (k = 1030 ∧ i = 0)) (m1028_0 : ¬ (k = 1028 ∧ i = 0)) (m1029_0 : ¬ (k = 1029 ∧ i = 0)) (m1031_0 : ¬ (k = 1031 ∧ i = 0)) (hf : f_X10_ends F μ p1 = some z) : sm μ z k i j := by
  unfold f_X10_ends at hf
  have hs : sm μ μ k i j := ⟨rfl, rfl⟩
  obtain ⟨q19, e21, hf⟩ := ob hf
  replace hs := hs.trans (fr_X10_startsNow m1000_0s33 m1000_0s34 m1000_0s35 m1000_0s31 m1000_0s32 m1030_0 m1028_0 m1029_0 m1031_0 e21)
  exact hs.trans (frb_X10_ends_7 m1028_0 m1000_0s31 m1029_0 m1030_0 m1000_0s32 _ _ _ _ hf)

theorem frb_X10_comes_122 {F : Nat} {z : Int32 × Mm} {k i j : Nat} (m1009_0 : ¬ (k = 1009 ∧ i = 0)) (m1010_0 : ¬ (k = 1010 ∧ i = 0)) (m1011_0 : ¬ (k = 1011 ∧ i = 0)) (m1012_0 : ¬ (k = 1012 ∧ i = 0)) (m1008_0 : ¬ (k = 1008 ∧ i = 0)) : ∀ (μ : Mm) (a1 : Int32) (a2 : Int32) (a3 : Int32) (a4 : Int32) (a5 : Int32) (a6 : Int32) (s0 : Int32), f_X10_comes_b122 F μ a1 a2 a3 a4 a5 a6 s0 = some z → sm μ z.2 k i j := by
  intro μ a1 a2 a3 a4 a5 a6 s0 hf
  unfold f_X10_comes_b122 at hf
  have hs : sm μ μ k i j := ⟨rfl, rfl⟩
  obtain ⟨m47, e49, hf⟩ := ob hf
  replace hs := hs.trans (fr_wb m1009_0 e49)
  obtain ⟨m50, e52, hf⟩ := ob hf
  replace hs := hs.trans (fr_wb m1010_0 e52)
  obtain ⟨m53, e55, hf⟩ := ob hf
  replace hs := hs.trans (fr_wb m1011_0 e55)
  obtain ⟨m56, e58, hf⟩ := ob hf
  replace hs := hs.trans (fr_wa m1012_0 e58)
  obtain ⟨v59, e61, hf⟩ := ob hf
  obtain ⟨m62, e64, hf⟩ := ob hf
  replace hs := hs.trans (fr_wa m1008_0 e64)
  obtain ⟨v65, e67, hf⟩ := ob hf
  obtain rfl := Option.some.inj hf
  exact hs
theorem frb_X10_comes_70 {F : Nat} {z : Int32 × Mm} {k i j : Nat} (m1009_0 : ¬ (k = 1009 ∧ i = 0)) (m1010_0 : ¬ (k = 1010 ∧ i = 0)) (m1011_0 : ¬ (k = 1011 ∧ i = 0)) (m1012_0 : ¬ (k = 1012 ∧ i = 0)) (m1008_0 : ¬ (k = 1008 ∧ i = 0)) : ∀ (μ : Mm) (a1 : Int32) (a2 : Int32) (a3 : Int32) (a4 : Int32) (a5 : Int32), f_X10_comes_b70 F μ a1 a2 a3 a4 a5 = some z → sm μ z.2 k i j := by
  intro μ a1 a2 a3 a4 a5 hf
  unfold f_X10_comes_b70 at hf
  have hs : sm μ μ k i j := ⟨rfl, rfl⟩
  obtain ⟨v76, e78, hf⟩ := ob hf
  rcases oi hf with hf | hf
  · obtain rfl := Option.some.inj hf
    exact hs
  · obtain ⟨v79, e81, hf⟩ := ob hf
    obtain ⟨v82, e84, hf⟩ := ob hf
    rcases oi hf with hf | hf
    · exact hs.trans (frb_X10_comes_122 m1009_0 m1010_0 m1011_0 m1012_0 m1008_0 _ _ _ _ _ _ _ _ hf)
    · obtain ⟨v85, e87, hf⟩ := ob hf
      exact hs.trans (frb_X10_comes_122 m1009_0 m1010_0 m1011_0 m1012_0 m1008_0 _ _ _ _ _ _ _ _ hf)
theorem frb_X10_comes_37 {F : Nat} {z : Int32 × Mm} {k i j : Nat} (m1009_0 : ¬ (k = 1009 ∧ i = 0)) (m1010_0 : ¬ (k = 1010 ∧ i = 0)) (m1011_0 : ¬ (k = 1011 ∧ i = 0)) (m1012_0 : ¬ (k = 1012 ∧ i = 0)) (m1008_0 : ¬ (k = 1008 ∧ i = 0)) : ∀ (μ : Mm) (a1 : Int32) (a2 : Int32) (a3 : Int32) (a4 : Int32) (a5 : Int32), f_X10_comes_b37 F μ a1 a2 a3 a4 a5 = some z → sm μ z.2 k i j := by
  intro μ a1 a2 a3 a4 a5 hf
  unfold f_X10_comes_b37 at hf
  have hs : sm μ μ k i j := ⟨rfl, rfl⟩
  obtain ⟨q92, e94, hf⟩ := ob hf
  rcases oi hf with hf | hf
  · obtain rfl := Option.some.inj hf
    exact hs
  · rcases oi hf with hf | hf
    · exact hs.trans (frb_X10_comes_70 m1009_0 m1010_0 m1011_0 m1012_0 m1008_0 _ _ _ _ _ _ hf)
    · obtain ⟨q95, e97, hf⟩ := ob hf
      rcases oi hf with hf | hf
      · exact hs.trans (frb_X10_comes_70 m1009_0 m1010_0 m1011_0 m1012_0 m1008_0 _ _ _ _ _ _ hf)
      · obtain rfl := Option.some.inj hf
        exact hs
theorem fr_X10_comes {F : Nat} {μ : Mm} {p1 : Int32} {p2 : Int32} {p3 : Int32} {p4 : Int32} {p5 : Int32} {z : Int32 × Mm} {k i j : Nat} (m1000_0s33 : ¬ (k = 1000 ∧ i = 0 ∧ j = 33)) (m1000_0s34 : ¬ (k = 1000 ∧ i = 0 ∧ j = 34)) (m1000_0s35 : ¬ (k = 1000 ∧ i = 0 ∧ j = 35)) (m1000_0s31 : ¬ (k = 1000 ∧ i = 0 ∧ j = 31)) (m1000_0s32 : ¬ (k = 1000 ∧ i = 0 ∧ j = 32)) (m1030_0 : ¬ (k = 1030 ∧ i = 0)) (m1028_0 : ¬ (k = 1028 ∧ i = 0)) (m1029_0 : ¬ (k = 1029 ∧ i = 0)) (m1031_0 : ¬ (k = 1031 ∧ i = 0)) (m1009_0 : ¬ (k = 1009 ∧ i = 0)) (m1010_0 : ¬ (k = 1010 ∧ i = 0)) (m1011_0 : ¬ (k = 1011 ∧ i = 0)) (m1012_0 : ¬ (k = 1012 ∧ i = 0)) (m1008_0 : ¬ (k = 1008 ∧ i = 0)) (hf : f_X10_comes F μ p1 p2 p3 p4 p5 = some z) : sm μ z.2 k i j := by
  unfold f_X10_comes at hf
  have hs : sm μ μ k i j := ⟨rfl, rfl⟩
  obtain ⟨q104, e106, hf⟩ := ob hf
  rcases oi hf with hf | hf
  · obtain rfl := Option.some.inj hf
    exact hs
  · obtain ⟨q107, e109, hf⟩ := ob hf
    replace hs := hs.trans (fr_X10_ends m1000_0s33 m1000_0s34 m1000_0s35 m1000_0s31 m1000_0s32 m1030_0 m1028_0 m1029_0 m1031_0 e109)
    rcases oi hf with hf | hf
    · exact hs.trans (frb_X10_comes_37 m1009_0 m1010_0 m1011_0 m1012_0 m1008_0 _ _ _ _ _ _ hf)
    · obtain ⟨v110, e112, hf⟩ := ob hf
      rcases oi hf with hf | hf
      · exact hs.trans (frb_X10_comes_37 m1009_0 m1010_0 m1011_0 m1012_0 m1008_0 _ _ _ _ _ _ hf)
      · obtain rfl := Option.some.inj hf
        exact hs

theorem fr_X10_mark {F : Nat} {μ : Mm} {p1 : Int32} {p2 : Int32} {p3 : Int32} {p4 : Int32} {p5 : Int32} {z : Int32 × Mm} {k i j : Nat} (m1000_0s33 : ¬ (k = 1000 ∧ i = 0 ∧ j = 33)) (m1000_0s34 : ¬ (k = 1000 ∧ i = 0 ∧ j = 34)) (m1000_0s35 : ¬ (k = 1000 ∧ i = 0 ∧ j = 35)) (m1000_0s31 : ¬ (k = 1000 ∧ i = 0 ∧ j = 31)) (m1000_0s32 : ¬ (k = 1000 ∧ i = 0 ∧ j = 32)) (m1030_0 : ¬ (k = 1030 ∧ i = 0)) (m1028_0 : ¬ (k = 1028 ∧ i = 0)) (m1029_0 : ¬ (k = 1029 ∧ i = 0)) (m1031_0 : ¬ (k = 1031 ∧ i = 0)) (m1009_0 : ¬ (k = 1009 ∧ i = 0)) (m1010_0 : ¬ (k = 1010 ∧ i = 0)) (m1011_0 : ¬ (k = 1011 ∧ i = 0)) (m1012_0 : ¬ (k = 1012 ∧ i = 0)) (m1008_0 : ¬ (k = 1008 ∧ i = 0)) (m1000_0s17 : ¬ (k = 1000 ∧ i = 0 ∧ j = 17)) (hf : f_X10_mark F μ p1 p2 p3 p4 p5 = some z) : sm μ z.2 k i j := by
  unfold f_X10_mark at hf
  have hs : sm μ μ k i j := ⟨rfl, rfl⟩
  obtain ⟨q11, e13, hf⟩ := ob hf
  replace hs := hs.trans (fr_X10_comes m1000_0s33 m1000_0s34 m1000_0s35 m1000_0s31 m1000_0s32 m1030_0 m1028_0 m1029_0 m1031_0 m1009_0 m1010_0 m1011_0 m1012_0 m1008_0 e13)
  rcases oi hf with hf | hf
  · obtain ⟨m14, e16, hf⟩ := ob hf
    replace hs := hs.trans (fr_wf m1000_0s17 e16)
    obtain rfl := Option.some.inj hf
    exact hs
  · obtain ⟨m17, e19, hf⟩ := ob hf
    replace hs := hs.trans (fr_wf m1000_0s17 e19)
    obtain rfl := Option.some.inj hf
    exact hs

theorem fr_X10_state {F : Nat} {μ : Mm} {p1 : Int32} {z : Int32 × Mm} {k i j : Nat} (m1000_0s33 : ¬ (k = 1000 ∧ i = 0 ∧ j = 33)) (m1000_0s34 : ¬ (k = 1000 ∧ i = 0 ∧ j = 34)) (m1000_0s35 : ¬ (k = 1000 ∧ i = 0 ∧ j = 35)) (m1000_0s31 : ¬ (k = 1000 ∧ i = 0 ∧ j = 31)) (m1000_0s32 : ¬ (k = 1000 ∧ i = 0 ∧ j = 32)) (m1030_0 : ¬ (k = 1030 ∧ i = 0)) (m1028_0 : ¬ (k = 1028 ∧ i = 0)) (m1029_0 : ¬ (k = 1029 ∧ i = 0)) (m1031_0 : ¬ (k = 1031 ∧ i = 0)) (hf : f_X10_state F μ p1 = some z) : sm μ z.2 k i j := by
  unfold f_X10_state at hf
  have hs : sm μ μ k i j := ⟨rfl, rfl⟩
  obtain ⟨q17, e19, hf⟩ := ob hf
  rcases oi hf with hf | hf
  · obtain rfl := Option.some.inj hf
    exact hs
  · obtain ⟨v20, e22, hf⟩ := ob hf
    obtain ⟨q23, e25, hf⟩ := ob hf
    replace hs := hs.trans (fr_X10_ends m1000_0s33 m1000_0s34 m1000_0s35 m1000_0s31 m1000_0s32 m1030_0 m1028_0 m1029_0 m1031_0 e25)
    obtain ⟨v26, e28, hf⟩ := ob hf
    obtain rfl := Option.some.inj hf
    exact hs

theorem fr_X10_holder {F : Nat} {μ : Mm} {p1 : Int32} {p2 : Int32} {z : Int32 × Mm} {k i j : Nat} (m1000_0s33 : ¬ (k = 1000 ∧ i = 0 ∧ j = 33)) (m1000_0s34 : ¬ (k = 1000 ∧ i = 0 ∧ j = 34)) (m1000_0s35 : ¬ (k = 1000 ∧ i = 0 ∧ j = 35)) (m1000_0s31 : ¬ (k = 1000 ∧ i = 0 ∧ j = 31)) (m1000_0s32 : ¬ (k = 1000 ∧ i = 0 ∧ j = 32)) (m1030_0 : ¬ (k = 1030 ∧ i = 0)) (m1028_0 : ¬ (k = 1028 ∧ i = 0)) (m1029_0 : ¬ (k = 1029 ∧ i = 0)) (m1031_0 : ¬ (k = 1031 ∧ i = 0)) (hf : f_X10_holder F μ p1 p2 = some z) : sm μ z.2 k i j := by
  unfold f_X10_holder at hf
  have hs : sm μ μ k i j := ⟨rfl, rfl⟩
  obtain ⟨q21, e23, hf⟩ := ob hf
  rcases oi hf with hf | hf
  · obtain rfl := Option.some.inj hf
    exact hs
  · obtain ⟨q24, e26, hf⟩ := ob hf
    rcases oi hf with hf | hf
    · obtain rfl := Option.some.inj hf
      exact hs
    · obtain ⟨q27, e29, hf⟩ := ob hf
      replace hs := hs.trans (fr_X10_ends m1000_0s33 m1000_0s34 m1000_0s35 m1000_0s31 m1000_0s32 m1030_0 m1028_0 m1029_0 m1031_0 e29)
      obtain ⟨v30, e32, hf⟩ := ob hf
      rcases oi hf with hf | hf
      · obtain rfl := Option.some.inj hf
        exact hs
      · obtain ⟨v33, e35, hf⟩ := ob hf
        obtain rfl := Option.some.inj hf
        exact hs

theorem frb_X10_summed_62 {F : Nat} {K5 : Mm → Int32 → Int32 → Int32 → Int32 → Option (Int32 × Mm)} {z : Int32 × Mm} {k i j : Nat} (hK5 : ∀ (μ : Mm) (a1 : Int32) (a2 : Int32) (a3 : Int32) (a4 : Int32), K5 μ a1 a2 a3 a4 = some z → sm μ z.2 k i j) : ∀ (μ : Mm) (a1 : Int32) (a2 : Int32) (a4 : Int32) (s0 : Int32), f_X10_summed_b62 F K5 μ a1 a2 a4 s0 = some z → sm μ z.2 k i j := by
  intro μ a1 a2 a4 s0 hf
  unfold f_X10_summed_b62 at hf
  have hs : sm μ μ k i j := ⟨rfl, rfl⟩
  obtain ⟨q15, e17, hf⟩ := ob hf
  exact hs.trans (hK5 _ _ _ _ _ hf)
theorem frb_X10_summed_5 {F : Nat} {z : Int32 × Mm} {k i j : Nat} (m1028_0 : ¬ (k = 1028 ∧ i = 0)) (m1000_0s31 : ¬ (k = 1000 ∧ i = 0 ∧ j = 31)) (m1029_0 : ¬ (k = 1029 ∧ i = 0)) (m1030_0 : ¬ (k = 1030 ∧ i = 0)) (m1000_0s32 : ¬ (k = 1000 ∧ i = 0 ∧ j = 32)) : ∀ (N : Nat) (μ : Mm) (a1 : Int32) (a2 : Int32) (a3 : Int32) (a4 : Int32), f_X10_summed_b5 F N μ a1 a2 a3 a4 = some z → sm μ z.2 k i j := by
  intro N
  induction N with
  | zero => intro μ a1 a2 a3 a4 hf; cases hf
  | succ N ih =>
    intro μ a1 a2 a3 a4 hf
    rw [f_X10_summed_b5] at hf
    have hs : sm μ μ k i j := ⟨rfl, rfl⟩
    obtain ⟨v28, e30, hf⟩ := ob hf
    rcases oi hf with hf | hf
    · obtain rfl := Option.some.inj hf
      exact hs
    · obtain ⟨q31, e33, hf⟩ := ob hf
      replace hs := hs.trans (fr_X10_doesMark m1028_0 m1000_0s31 m1029_0 m1030_0 m1000_0s32 e33)
      obtain ⟨v34, e36, hf⟩ := ob hf
      rcases oi hf with hf | hf
      · exact hs.trans (ih _ _ _ _ _ hf)
      · rcases oi hf with hf | hf
        · exact hs.trans (frb_X10_summed_62 ih _ _ _ _ _ hf)
        · obtain ⟨q37, e39, hf⟩ := ob hf
          obtain ⟨q40, e42, hf⟩ := ob hf
          rcases oi hf with hf | hf
          · exact hs.trans (frb_X10_summed_62 ih _ _ _ _ _ hf)
          · exact hs.trans (ih _ _ _ _ _ hf)
theorem fr_X10_summed {F : Nat} {μ : Mm} {p1 : Int32} {p2 : Int32} {z : Int32 × Mm} {k i j : Nat} (m1028_0 : ¬ (k = 1028 ∧ i = 0)) (m1000_0s31 : ¬ (k = 1000 ∧ i = 0 ∧ j = 31)) (m1029_0 : ¬ (k = 1029 ∧ i = 0)) (m1030_0 : ¬ (k = 1030 ∧ i = 0)) (m1000_0s32 : ¬ (k = 1000 ∧ i = 0 ∧ j = 32)) (hf : f_X10_summed F μ p1 p2 = some z) : sm μ z.2 k i j := by
  unfold f_X10_summed at hf
  have hs : sm μ μ k i j := ⟨rfl, rfl⟩
  exact hs.trans (frb_X10_summed_5 m1028_0 m1000_0s31 m1029_0 m1030_0 m1000_0s32 _ _ _ _ _ _ hf)

theorem fr_X10_sum {F : Nat} {μ : Mm} {p1 : Int32} {p2 : Int32} {z : Int32 × Mm} {k i j : Nat} (m1000_0s33 : ¬ (k = 1000 ∧ i = 0 ∧ j = 33)) (m1000_0s34 : ¬ (k = 1000 ∧ i = 0 ∧ j = 34)) (m1000_0s35 : ¬ (k = 1000 ∧ i = 0 ∧ j = 35)) (m1000_0s31 : ¬ (k = 1000 ∧ i = 0 ∧ j = 31)) (m1000_0s32 : ¬ (k = 1000 ∧ i = 0 ∧ j = 32)) (m1030_0 : ¬ (k = 1030 ∧ i = 0)) (m1028_0 : ¬ (k = 1028 ∧ i = 0)) (m1029_0 : ¬ (k = 1029 ∧ i = 0)) (m1031_0 : ¬ (k = 1031 ∧ i = 0)) (hf : f_X10_sum F μ p1 p2 = some z) : sm μ z.2 k i j := by
  unfold f_X10_sum at hf
  have hs : sm μ μ k i j := ⟨rfl, rfl⟩
  obtain ⟨q21, e23, hf⟩ := ob hf
  rcases oi hf with hf | hf
  · obtain rfl := Option.some.inj hf
    exact hs
  · obtain ⟨q24, e26, hf⟩ := ob hf
    rcases oi hf with hf | hf
    · obtain rfl := Option.some.inj hf
      exact hs
    · obtain ⟨v27, e29, hf⟩ := ob hf
      obtain ⟨q30, e32, hf⟩ := ob hf
      replace hs := hs.trans (fr_X10_startsNow m1000_0s33 m1000_0s34 m1000_0s35 m1000_0s31 m1000_0s32 m1030_0 m1028_0 m1029_0 m1031_0 e32)
      obtain ⟨q33, e35, hf⟩ := ob hf
      replace hs := hs.trans (fr_X10_summed m1028_0 m1000_0s31 m1029_0 m1030_0 m1000_0s32 e35)
      obtain rfl := Option.some.inj hf
      exact hs

theorem frb_X10_busy_29 {F : Nat} {z : Int32 × Mm} {k i j : Nat} (m1028_0 : ¬ (k = 1028 ∧ i = 0)) (m1000_0s31 : ¬ (k = 1000 ∧ i = 0 ∧ j = 31)) (m1029_0 : ¬ (k = 1029 ∧ i = 0)) (m1030_0 : ¬ (k = 1030 ∧ i = 0)) (m1000_0s32 : ¬ (k = 1000 ∧ i = 0 ∧ j = 32)) : ∀ (N : Nat) (μ : Mm) (a1 : Int32) (a2 : Int32) (a3 : Int32) (a4 : Int32), f_X10_busy_b29 F N μ a1 a2 a3 a4 = some z → sm μ z.2 k i j := by
  intro N
  induction N with
  | zero => intro μ a1 a2 a3 a4 hf; cases hf
  | succ N ih =>
    intro μ a1 a2 a3 a4 hf
    rw [f_X10_busy_b29] at hf
    have hs : sm μ μ k i j := ⟨rfl, rfl⟩
    obtain ⟨v23, e25, hf⟩ := ob hf
    rcases oi hf with hf | hf
    · obtain rfl := Option.some.inj hf
      exact hs
    · obtain ⟨q26, e28, hf⟩ := ob hf
      replace hs := hs.trans (fr_X10_doesMark m1028_0 m1000_0s31 m1029_0 m1030_0 m1000_0s32 e28)
      obtain ⟨q29, e31, hf⟩ := ob hf
      rcases oi hf with hf | hf
      · obtain ⟨q32, e34, hf⟩ := ob hf
        exact hs.trans (ih _ _ _ _ _ hf)
      · exact hs.trans (ih _ _ _ _ _ hf)
theorem fr_X10_busy {F : Nat} {μ : Mm} {p1 : Int32} {p2 : Int32} {z : Int32 × Mm} {k i j : Nat} (m1000_0s33 : ¬ (k = 1000 ∧ i = 0 ∧ j = 33)) (m1000_0s34 : ¬ (k = 1000 ∧ i = 0 ∧ j = 34)) (m1000_0s35 : ¬ (k = 1000 ∧ i = 0 ∧ j = 35)) (m1000_0s31 : ¬ (k = 1000 ∧ i = 0 ∧ j = 31)) (m1000_0s32 : ¬ (k = 1000 ∧ i = 0 ∧ j = 32)) (m1030_0 : ¬ (k = 1030 ∧ i = 0)) (m1028_0 : ¬ (k = 1028 ∧ i = 0)) (m1029_0 : ¬ (k = 1029 ∧ i = 0)) (m1031_0 : ¬ (k = 1031 ∧ i = 0)) (hf : f_X10_busy F μ p1 p2 = some z) : sm μ z.2 k i j := by
  unfold f_X10_busy at hf
  have hs : sm μ μ k i j := ⟨rfl, rfl⟩
  obtain ⟨q41, e43, hf⟩ := ob hf
  rcases oi hf with hf | hf
  · obtain rfl := Option.some.inj hf
    exact hs
  · obtain ⟨q44, e46, hf⟩ := ob hf
    rcases oi hf with hf | hf
    · obtain rfl := Option.some.inj hf
      exact hs
    · obtain ⟨q47, e49, hf⟩ := ob hf
      replace hs := hs.trans (fr_X10_startsNow m1000_0s33 m1000_0s34 m1000_0s35 m1000_0s31 m1000_0s32 m1030_0 m1028_0 m1029_0 m1031_0 e49)
      exact hs.trans (frb_X10_busy_29 m1028_0 m1000_0s31 m1029_0 m1030_0 m1000_0s32 _ _ _ _ _ _ hf)

theorem frb_X10_hung_71 {F : Nat} {K16 : Mm → Int32 → Int32 → Int32 → Int32 → Int32 → Option (Int32 × Mm)} {z : Int32 × Mm} {k i j : Nat} (hK16 : ∀ (μ : Mm) (a1 : Int32) (a2 : Int32) (a3 : Int32) (a4 : Int32) (a5 : Int32), K16 μ a1 a2 a3 a4 a5 = some z → sm μ z.2 k i j) : ∀ (μ : Mm) (a1 : Int32) (a2 : Int32) (a3 : Int32) (a4 : Int32) (a5 : Int32) (s0 : Int32), f_X10_hung_b71 F K16 μ a1 a2 a3 a4 a5 s0 = some z → sm μ z.2 k i j := by
  intro μ a1 a2 a3 a4 a5 s0 hf
  unfold f_X10_hung_b71 at hf
  have hs : sm μ μ k i j := ⟨rfl, rfl⟩
  rcases oi hf with hf | hf
  · obtain ⟨q21, e23, hf⟩ := ob hf
    exact hs.trans (hK16 _ _ _ _ _ _ hf)
  · exact hs.trans (hK16 _ _ _ _ _ _ hf)
theorem frb_X10_hung_16 {F : Nat} {z : Int32 × Mm} {k i j : Nat} (m1028_0 : ¬ (k = 1028 ∧ i = 0)) (m1000_0s31 : ¬ (k = 1000 ∧ i = 0 ∧ j = 31)) (m1029_0 : ¬ (k = 1029 ∧ i = 0)) (m1030_0 : ¬ (k = 1030 ∧ i = 0)) (m1000_0s32 : ¬ (k = 1000 ∧ i = 0 ∧ j = 32)) : ∀ (N : Nat) (μ : Mm) (a1 : Int32) (a2 : Int32) (a3 : Int32) (a4 : Int32) (a5 : Int32), f_X10_hung_b16 F N μ a1 a2 a3 a4 a5 = some z → sm μ z.2 k i j := by
  intro N
  induction N with
  | zero => intro μ a1 a2 a3 a4 a5 hf; cases hf
  | succ N ih =>
    intro μ a1 a2 a3 a4 a5 hf
    rw [f_X10_hung_b16] at hf
    have hs : sm μ μ k i j := ⟨rfl, rfl⟩
    obtain ⟨v36, e38, hf⟩ := ob hf
    rcases oi hf with hf | hf
    · obtain rfl := Option.some.inj hf
      exact hs
    · obtain ⟨q39, e41, hf⟩ := ob hf
      replace hs := hs.trans (fr_X10_doesMark m1028_0 m1000_0s31 m1029_0 m1030_0 m1000_0s32 e41)
      obtain ⟨q42, e44, hf⟩ := ob hf
      obtain ⟨q45, e47, hf⟩ := ob hf
      rcases oi hf with hf | hf
      · rcases oi hf with hf | hf
        · obtain ⟨q51, e53, hf⟩ := ob hf
          exact hs.trans (frb_X10_hung_71 ih _ _ _ _ _ _ _ hf)
        · obtain ⟨q48, e50, hf⟩ := ob hf
          exact hs.trans (frb_X10_hung_71 ih _ _ _ _ _ _ _ hf)
      · exact hs.trans (ih _ _ _ _ _ _ hf)
theorem fr_X10_hung {F : Nat} {μ : Mm} {p1 : Int32} {p2 : Int32} {p3 : Int32} {z : Int32 × Mm} {k i j : Nat} (m1000_0s33 : ¬ (k = 1000 ∧ i = 0 ∧ j = 33)) (m1000_0s34 : ¬ (k = 1000 ∧ i = 0 ∧ j = 34)) (m1000_0s35 : ¬ (k = 1000 ∧ i = 0 ∧ j = 35)) (m1000_0s31 : ¬ (k = 1000 ∧ i = 0 ∧ j = 31)) (m1000_0s32 : ¬ (k = 1000 ∧ i = 0 ∧ j = 32)) (m1030_0 : ¬ (k = 1030 ∧ i = 0)) (m1028_0 : ¬ (k = 1028 ∧ i = 0)) (m1029_0 : ¬ (k = 1029 ∧ i = 0)) (m1031_0 : ¬ (k = 1031 ∧ i = 0)) (hf : f_X10_hung F μ p1 p2 p3 = some z) : sm μ z.2 k i j := by
  unfold f_X10_hung at hf
  have hs : sm μ μ k i j := ⟨rfl, rfl⟩
  obtain ⟨v58, e60, hf⟩ := ob hf
  obtain ⟨q61, e63, hf⟩ := ob hf
  replace hs := hs.trans (fr_X10_startsNow m1000_0s33 m1000_0s34 m1000_0s35 m1000_0s31 m1000_0s32 m1030_0 m1028_0 m1029_0 m1031_0 e63)
  exact hs.trans (frb_X10_hung_16 m1028_0 m1000_0s31 m1029_0 m1030_0 m1000_0s32 _ _ _ _ _ _ _ hf)

theorem fr_X10_wait {F : Nat} {μ : Mm} {p1 : Int32} {p2 : Int32} {z : Int32 × Mm} {k i j : Nat} (m1000_0s33 : ¬ (k = 1000 ∧ i = 0 ∧ j = 33)) (m1000_0s34 : ¬ (k = 1000 ∧ i = 0 ∧ j = 34)) (m1000_0s35 : ¬ (k = 1000 ∧ i = 0 ∧ j = 35)) (m1000_0s31 : ¬ (k = 1000 ∧ i = 0 ∧ j = 31)) (m1000_0s32 : ¬ (k = 1000 ∧ i = 0 ∧ j = 32)) (m1030_0 : ¬ (k = 1030 ∧ i = 0)) (m1028_0 : ¬ (k = 1028 ∧ i = 0)) (m1029_0 : ¬ (k = 1029 ∧ i = 0)) (m1031_0 : ¬ (k = 1031 ∧ i = 0)) (hf : f_X10_wait F μ p1 p2 = some z) : sm μ z.2 k i j := by
  unfold f_X10_wait at hf
  have hs : sm μ μ k i j := ⟨rfl, rfl⟩
  obtain ⟨q13, e15, hf⟩ := ob hf
  rcases oi hf with hf | hf
  · obtain rfl := Option.some.inj hf
    exact hs
  · obtain ⟨q16, e18, hf⟩ := ob hf
    rcases oi hf with hf | hf
    · obtain rfl := Option.some.inj hf
      exact hs
    · obtain ⟨q19, e21, hf⟩ := ob hf
      replace hs := hs.trans (fr_X10_hung m1000_0s33 m1000_0s34 m1000_0s35 m1000_0s31 m1000_0s32 m1030_0 m1028_0 m1029_0 m1031_0 e21)
      obtain rfl := Option.some.inj hf
      exact hs

theorem fr_X10_held {F : Nat} {μ : Mm} {p1 : Int32} {p2 : Int32} {z : Int32 × Mm} {k i j : Nat} (m1000_0s33 : ¬ (k = 1000 ∧ i = 0 ∧ j = 33)) (m1000_0s34 : ¬ (k = 1000 ∧ i = 0 ∧ j = 34)) (m1000_0s35 : ¬ (k = 1000 ∧ i = 0 ∧ j = 35)) (m1000_0s31 : ¬ (k = 1000 ∧ i = 0 ∧ j = 31)) (m1000_0s32 : ¬ (k = 1000 ∧ i = 0 ∧ j = 32)) (m1030_0 : ¬ (k = 1030 ∧ i = 0)) (m1028_0 : ¬ (k = 1028 ∧ i = 0)) (m1029_0 : ¬ (k = 1029 ∧ i = 0)) (m1031_0 : ¬ (k = 1031 ∧ i = 0)) (hf : f_X10_held F μ p1 p2 = some z) : sm μ z.2 k i j := by
  unfold f_X10_held at hf
  have hs : sm μ μ k i j := ⟨rfl, rfl⟩
  obtain ⟨q13, e15, hf⟩ := ob hf
  rcases oi hf with hf | hf
  · obtain rfl := Option.some.inj hf
    exact hs
  · obtain ⟨q16, e18, hf⟩ := ob hf
    rcases oi hf with hf | hf
    · obtain rfl := Option.some.inj hf
      exact hs
    · obtain ⟨q19, e21, hf⟩ := ob hf
      replace hs := hs.trans (fr_X10_hung m1000_0s33 m1000_0s34 m1000_0s35 m1000_0s31 m1000_0s32 m1030_0 m1028_0 m1029_0 m1031_0 e21)
      obtain rfl := Option.some.inj hf
      exact hs

theorem frb_X10_chain_24 {F : Nat} {z : Int32 × Mm} {k i j : Nat} (m1028_0 : ¬ (k = 1028 ∧ i = 0)) (m1000_0s31 : ¬ (k = 1000 ∧ i = 0 ∧ j = 31)) (m1029_0 : ¬ (k = 1029 ∧ i = 0)) (m1030_0 : ¬ (k = 1030 ∧ i = 0)) (m1000_0s32 : ¬ (k = 1000 ∧ i = 0 ∧ j = 32)) : ∀ (N : Nat) (μ : Mm) (a1 : Int32) (a2 : Int32) (a3 : Int32), f_X10_chain_b24 F N μ a1 a2 a3 = some z → sm μ z.2 k i j := by
  intro N
  induction N with
  | zero => intro μ a1 a2 a3 hf; cases hf
  | succ N ih =>
    intro μ a1 a2 a3 hf
    rw [f_X10_chain_b24] at hf
    have hs : sm μ μ k i j := ⟨rfl, rfl⟩
    obtain ⟨v27, e29, hf⟩ := ob hf
    rcases oi hf with hf | hf
    · obtain rfl := Option.some.inj hf
      exact hs
    · obtain ⟨q30, e32, hf⟩ := ob hf
      replace hs := hs.trans (fr_X10_doesMark m1028_0 m1000_0s31 m1029_0 m1030_0 m1000_0s32 e32)
      obtain ⟨q33, e35, hf⟩ := ob hf
      obtain ⟨q36, e38, hf⟩ := ob hf
      rcases oi hf with hf | hf
      · obtain ⟨q39, e41, hf⟩ := ob hf
        rcases oi hf with hf | hf
        · exact hs.trans (ih _ _ _ _ hf)
        · exact hs.trans (ih _ _ _ _ hf)
      · exact hs.trans (ih _ _ _ _ hf)
theorem fr_X10_chain {F : Nat} {μ : Mm} {p1 : Int32} {z : Int32 × Mm} {k i j : Nat} (m1000_0s33 : ¬ (k = 1000 ∧ i = 0 ∧ j = 33)) (m1000_0s34 : ¬ (k = 1000 ∧ i = 0 ∧ j = 34)) (m1000_0s35 : ¬ (k = 1000 ∧ i = 0 ∧ j = 35)) (m1000_0s31 : ¬ (k = 1000 ∧ i = 0 ∧ j = 31)) (m1000_0s32 : ¬ (k = 1000 ∧ i = 0 ∧ j = 32)) (m1030_0 : ¬ (k = 1030 ∧ i = 0)) (m1028_0 : ¬ (k = 1028 ∧ i = 0)) (m1029_0 : ¬ (k = 1029 ∧ i = 0)) (m1031_0 : ¬ (k = 1031 ∧ i = 0)) (hf : f_X10_chain F μ p1 = some z) : sm μ z.2 k i j := by
  unfold f_X10_chain at hf
  have hs : sm μ μ k i j := ⟨rfl, rfl⟩
  obtain ⟨q48, e50, hf⟩ := ob hf
  rcases oi hf with hf | hf
  · obtain rfl := Option.some.inj hf
    exact hs
  · obtain ⟨v51, e53, hf⟩ := ob hf
    obtain ⟨q54, e56, hf⟩ := ob hf
    replace hs := hs.trans (fr_X10_startsNow m1000_0s33 m1000_0s34 m1000_0s35 m1000_0s31 m1000_0s32 m1030_0 m1028_0 m1029_0 m1031_0 e56)
    exact hs.trans (frb_X10_chain_24 m1028_0 m1000_0s31 m1029_0 m1030_0 m1000_0s32 _ _ _ _ _ hf)

theorem frb_X10_seeks_242 {F : Nat} {K28 : Mm → Int32 → Int32 → Int32 → Int32 → Int32 → Int32 → Option Mm} {z : Mm} {k i j : Nat} (hK28 : ∀ (μ : Mm) (a1 : Int32) (a2 : Int32) (a3 : Int32) (a4 : Int32) (a5 : Int32) (a6 : Int32), K28 μ a1 a2 a3 a4 a5 a6 = some z → sm μ z k i j) : ∀ (μ : Mm) (a1 : Int32) (a2 : Int32) (a3 : Int32) (a5 : Int32) (a6 : Int32) (a8 : Int32) (s0 : Int32) (s1 : Int32), f_X10_seeks_b242 F K28 μ a1 a2 a3 a5 a6 a8 s0 s1 = some z → sm μ z k i j := by
  intro μ a1 a2 a3 a5 a6 a8 s0 s1 hf
  unfold f_X10_seeks_b242 at hf
  have hs : sm μ μ k i j := ⟨rfl, rfl⟩
  rcases oi hf with hf | hf
  · obtain ⟨q45, e47, hf⟩ := ob hf
    exact hs.trans (hK28 _ _ _ _ _ _ _ hf)
  · exact hs.trans (hK28 _ _ _ _ _ _ _ hf)
theorem frb_X10_seeks_223 {F : Nat} {K28 : Mm → Int32 → Int32 → Int32 → Int32 → Int32 → Int32 → Option Mm} {z : Mm} {k i j : Nat} (hK28 : ∀ (μ : Mm) (a1 : Int32) (a2 : Int32) (a3 : Int32) (a4 : Int32) (a5 : Int32) (a6 : Int32), K28 μ a1 a2 a3 a4 a5 a6 = some z → sm μ z k i j) : ∀ (μ : Mm) (a1 : Int32) (a3 : Int32) (a4 : Int32) (a5 : Int32) (a6 : Int32) (a8 : Int32) (s0 : Int32), f_X10_seeks_b223 F K28 μ a1 a3 a4 a5 a6 a8 s0 = some z → sm μ z k i j := by
  intro μ a1 a3 a4 a5 a6 a8 s0 hf
  unfold f_X10_seeks_b223 at hf
  have hs : sm μ μ k i j := ⟨rfl, rfl⟩
  rcases oi hf with hf | hf
  · obtain ⟨q50, e52, hf⟩ := ob hf
    exact hs.trans (frb_X10_seeks_242 hK28 _ _ _ _ _ _ _ _ _ hf)
  · exact hs.trans (frb_X10_seeks_242 hK28 _ _ _ _ _ _ _ _ _ hf)
theorem frb_X10_seeks_179 {F : Nat} {K28 : Mm → Int32 → Int32 → Int32 → Int32 → Int32 → Int32 → Option Mm} {z : Mm} {k i j : Nat} (hK28 : ∀ (μ : Mm) (a1 : Int32) (a2 : Int32) (a3 : Int32) (a4 : Int32) (a5 : Int32) (a6 : Int32), K28 μ a1 a2 a3 a4 a5 a6 = some z → sm μ z k i j) : ∀ (μ : Mm) (a1 : Int32) (a2 : Int32) (a3 : Int32) (a4 : Int32) (a5 : Int32) (a6 : Int32), f_X10_seeks_b179 F K28 μ a1 a2 a3 a4 a5 a6 = some z → sm μ z k i j := by
  intro μ a1 a2 a3 a4 a5 a6 hf
  unfold f_X10_seeks_b179 at hf
  have hs : sm μ μ k i j := ⟨rfl, rfl⟩
  obtain ⟨v59, e61, hf⟩ := ob hf
  rcases oi hf with hf | hf
  · exact hs.trans (hK28 _ _ _ _ _ _ _ hf)
  · obtain ⟨q62, e64, hf⟩ := ob hf
    obtain ⟨q65, e67, hf⟩ := ob hf
    rcases oi hf with hf | hf
    · exact hs.trans (frb_X10_seeks_223 hK28 _ _ _ _ _ _ _ _ hf)
    · rcases oi hf with hf | hf
      · exact hs.trans (frb_X10_seeks_223 hK28 _ _ _ _ _ _ _ _ hf)
      · exact hs.trans (frb_X10_seeks_223 hK28 _ _ _ _ _ _ _ _ hf)
theorem frb_X10_seeks_143 {F : Nat} {K28 : Mm → Int32 → Int32 → Int32 → Int32 → Int32 → Int32 → Option Mm} {z : Mm} {k i j : Nat} (m1028_0 : ¬ (k = 1028 ∧ i = 0)) (m1000_0s31 : ¬ (k = 1000 ∧ i = 0 ∧ j = 31)) (m1029_0 : ¬ (k = 1029 ∧ i = 0)) (m1030_0 : ¬ (k = 1030 ∧ i = 0)) (m1000_0s32 : ¬ (k = 1000 ∧ i = 0 ∧ j = 32)) (hK28 : ∀ (μ : Mm) (a1 : Int32) (a2 : Int32) (a3 : Int32) (a4 : Int32) (a5 : Int32) (a6 : Int32), K28 μ a1 a2 a3 a4 a5 a6 = some z → sm μ z k i j) : ∀ (μ : Mm) (a1 : Int32) (a2 : Int32) (a3 : Int32) (a4 : Int32) (a5 : Int32) (a6 : Int32) (a7 : Int32), f_X10_seeks_b143 F K28 μ a1 a2 a3 a4 a5 a6 a7 = some z → sm μ z k i j := by
  intro μ a1 a2 a3 a4 a5 a6 a7 hf
  unfold f_X10_seeks_b143 at hf
  have hs : sm μ μ k i j := ⟨rfl, rfl⟩
  obtain ⟨q74, e76, hf⟩ := ob hf
  replace hs := hs.trans (fr_X10_doesMark m1028_0 m1000_0s31 m1029_0 m1030_0 m1000_0s32 e76)
  obtain ⟨q77, e79, hf⟩ := ob hf
  obtain ⟨v80, e82, hf⟩ := ob hf
  rcases oi hf with hf | hf
  · rcases oi hf with hf | hf
    · exact hs.trans (frb_X10_seeks_179 hK28 _ _ _ _ _ _ _ hf)
    · exact hs.trans (frb_X10_seeks_179 hK28 _ _ _ _ _ _ _ hf)
  · exact hs.trans (frb_X10_seeks_179 hK28 _ _ _ _ _ _ _ hf)
theorem frb_X10_seeks_62 {F : Nat} {K28 : Mm → Int32 → Int32 → Int32 → Int32 → Int32 → Int32 → Option Mm} {z : Mm} {k i j : Nat} (m1028_0 : ¬ (k = 1028 ∧ i = 0)) (m1000_0s31 : ¬ (k = 1000 ∧ i = 0 ∧ j = 31)) (m1029_0 : ¬ (k = 1029 ∧ i = 0)) (m1030_0 : ¬ (k = 1030 ∧ i = 0)) (m1000_0s32 : ¬ (k = 1000 ∧ i = 0 ∧ j = 32)) (m1038_0 : ¬ (k = 1038 ∧ i = 0)) (m1039_0 : ¬ (k = 1039 ∧ i = 0)) (m1040_0 : ¬ (k = 1040 ∧ i = 0)) (m1041_0 : ¬ (k = 1041 ∧ i = 0)) (m1000_0s36 : ¬ (k = 1000 ∧ i = 0 ∧ j = 36)) (hK28 : ∀ (μ : Mm) (a1 : Int32) (a2 : Int32) (a3 : Int32) (a4 : Int32) (a5 : Int32) (a6 : Int32), K28 μ a1 a2 a3 a4 a5 a6 = some z → sm μ z k i j) : ∀ (μ : Mm) (a1 : Int32) (a2 : Int32) (a3 : Int32) (a4 : Int32) (a5 : Int32) (a6 : Int32) (s0 : Int32), f_X10_seeks_b62 F K28 μ a1 a2 a3 a4 a5 a6 s0 = some z → sm μ z k i j := by
  intro μ a1 a2 a3 a4 a5 a6 s0 hf
  unfold f_X10_seeks_b62 at hf
  have hs : sm μ μ k i j := ⟨rfl, rfl⟩
  obtain ⟨q97, e99, hf⟩ := ob hf
  obtain ⟨v100, e102, hf⟩ := ob hf
  rcases oi hf with hf | hf
  · rcases oi hf with hf | hf
    · exact hs.trans (frb_X10_seeks_143 m1028_0 m1000_0s31 m1029_0 m1030_0 m1000_0s32 hK28 _ _ _ _ _ _ _ _ hf)
    · rcases oi hf with hf | hf
      · exact hs.trans (frb_X10_seeks_143 m1028_0 m1000_0s31 m1029_0 m1030_0 m1000_0s32 hK28 _ _ _ _ _ _ _ _ hf)
      · obtain ⟨m103, e105, hf⟩ := ob hf
        replace hs := hs.trans (fr_wa m1038_0 e105)
        obtain ⟨m106, e108, hf⟩ := ob hf
        replace hs := hs.trans (fr_wa m1039_0 e108)
        obtain ⟨m109, e111, hf⟩ := ob hf
        replace hs := hs.trans (fr_wa m1040_0 e111)
        obtain ⟨m112, e114, hf⟩ := ob hf
        replace hs := hs.trans (fr_wa m1041_0 e114)
        obtain ⟨m115, e117, hf⟩ := ob hf
        replace hs := hs.trans (fr_wf m1000_0s36 e117)
        exact hs.trans (frb_X10_seeks_143 m1028_0 m1000_0s31 m1029_0 m1030_0 m1000_0s32 hK28 _ _ _ _ _ _ _ _ hf)
  · exact hs.trans (frb_X10_seeks_143 m1028_0 m1000_0s31 m1029_0 m1030_0 m1000_0s32 hK28 _ _ _ _ _ _ _ _ hf)
theorem frb_X10_seeks_28 {F : Nat} {z : Mm} {k i j : Nat} (m1028_0 : ¬ (k = 1028 ∧ i = 0)) (m1000_0s31 : ¬ (k = 1000 ∧ i = 0 ∧ j = 31)) (m1029_0 : ¬ (k = 1029 ∧ i = 0)) (m1030_0 : ¬ (k = 1030 ∧ i = 0)) (m1000_0s32 : ¬ (k = 1000 ∧ i = 0 ∧ j = 32)) (m1038_0 : ¬ (k = 1038 ∧ i = 0)) (m1039_0 : ¬ (k = 1039 ∧ i = 0)) (m1040_0 : ¬ (k = 1040 ∧ i = 0)) (m1041_0 : ¬ (k = 1041 ∧ i = 0)) (m1000_0s36 : ¬ (k = 1000 ∧ i = 0 ∧ j = 36)) : ∀ (N : Nat) (μ : Mm) (a1 : Int32) (a2 : Int32) (a3 : Int32) (a4 : Int32) (a5 : Int32) (a6 : Int32), f_X10_seeks_b28 F N μ a1 a2 a3 a4 a5 a6 = some z → sm μ z k i j := by
  intro N
  induction N with
  | zero => intro μ a1 a2 a3 a4 a5 a6 hf; cases hf
  | succ N ih =>
    intro μ a1 a2 a3 a4 a5 a6 hf
    rw [f_X10_seeks_b28] at hf
    have hs : sm μ μ k i j := ⟨rfl, rfl⟩
    obtain ⟨v124, e126, hf⟩ := ob hf
    rcases oi hf with hf | hf
    · obtain rfl := Option.some.inj hf
      exact hs
    · obtain ⟨q127, e129, hf⟩ := ob hf
      obtain ⟨v130, e132, hf⟩ := ob hf
      rcases oi hf with hf | hf
      · exact hs.trans (frb_X10_seeks_62 m1028_0 m1000_0s31 m1029_0 m1030_0 m1000_0s32 m1038_0 m1039_0 m1040_0 m1041_0 m1000_0s36 ih _ _ _ _ _ _ _ _ hf)
      · exact hs.trans (frb_X10_seeks_62 m1028_0 m1000_0s31 m1029_0 m1030_0 m1000_0s32 m1038_0 m1039_0 m1040_0 m1041_0 m1000_0s36 ih _ _ _ _ _ _ _ _ hf)
theorem fr_X10_seeks {F : Nat} {μ : Mm} {p1 : Int32} {z : Mm} {k i j : Nat} (m1000_0s33 : ¬ (k = 1000 ∧ i = 0 ∧ j = 33)) (m1000_0s34 : ¬ (k = 1000 ∧ i = 0 ∧ j = 34)) (m1000_0s35 : ¬ (k = 1000 ∧ i = 0 ∧ j = 35)) (m1000_0s31 : ¬ (k = 1000 ∧ i = 0 ∧ j = 31)) (m1000_0s32 : ¬ (k = 1000 ∧ i = 0 ∧ j = 32)) (m1030_0 : ¬ (k = 1030 ∧ i = 0)) (m1028_0 : ¬ (k = 1028 ∧ i = 0)) (m1029_0 : ¬ (k = 1029 ∧ i = 0)) (m1031_0 : ¬ (k = 1031 ∧ i = 0)) (m1000_0s36 : ¬ (k = 1000 ∧ i = 0 ∧ j = 36)) (m1038_0 : ¬ (k = 1038 ∧ i = 0)) (m1039_0 : ¬ (k = 1039 ∧ i = 0)) (m1040_0 : ¬ (k = 1040 ∧ i = 0)) (m1041_0 : ¬ (k = 1041 ∧ i = 0)) (hf : f_X10_seeks F μ p1 = some z) : sm μ z k i j := by
  unfold f_X10_seeks at hf
  have hs : sm μ μ k i j := ⟨rfl, rfl⟩
  obtain ⟨v139, e141, hf⟩ := ob hf
  obtain ⟨q142, e144, hf⟩ := ob hf
  replace hs := hs.trans (fr_X10_startsNow m1000_0s33 m1000_0s34 m1000_0s35 m1000_0s31 m1000_0s32 m1030_0 m1028_0 m1029_0 m1031_0 e144)
  obtain ⟨m145, e147, hf⟩ := ob hf
  replace hs := hs.trans (fr_wf m1000_0s36 e147)
  exact hs.trans (frb_X10_seeks_28 m1028_0 m1000_0s31 m1029_0 m1030_0 m1000_0s32 m1038_0 m1039_0 m1040_0 m1041_0 m1000_0s36 _ _ _ _ _ _ _ _ hf)

theorem fr_X10_jobs {F : Nat} {μ : Mm} {p1 : Int32} {z : Int32 × Mm} {k i j : Nat} (m1000_0s33 : ¬ (k = 1000 ∧ i = 0 ∧ j = 33)) (m1000_0s34 : ¬ (k = 1000 ∧ i = 0 ∧ j = 34)) (m1000_0s35 : ¬ (k = 1000 ∧ i = 0 ∧ j = 35)) (m1000_0s31 : ¬ (k = 1000 ∧ i = 0 ∧ j = 31)) (m1000_0s32 : ¬ (k = 1000 ∧ i = 0 ∧ j = 32)) (m1030_0 : ¬ (k = 1030 ∧ i = 0)) (m1028_0 : ¬ (k = 1028 ∧ i = 0)) (m1029_0 : ¬ (k = 1029 ∧ i = 0)) (m1031_0 : ¬ (k = 1031 ∧ i = 0)) (m1000_0s36 : ¬ (k = 1000 ∧ i = 0 ∧ j = 36)) (m1038_0 : ¬ (k = 1038 ∧ i = 0)) (m1039_0 : ¬ (k = 1039 ∧ i = 0)) (m1040_0 : ¬ (k = 1040 ∧ i = 0)) (m1041_0 : ¬ (k = 1041 ∧ i = 0)) (hf : f_X10_jobs F μ p1 = some z) : sm μ z.2 k i j := by
  unfold f_X10_jobs at hf
  have hs : sm μ μ k i j := ⟨rfl, rfl⟩
  obtain ⟨q9, e11, hf⟩ := ob hf
  rcases oi hf with hf | hf
  · obtain rfl := Option.some.inj hf
    exact hs
  · obtain ⟨q12, e14, hf⟩ := ob hf
    replace hs := hs.trans (fr_X10_seeks m1000_0s33 m1000_0s34 m1000_0s35 m1000_0s31 m1000_0s32 m1030_0 m1028_0 m1029_0 m1031_0 m1000_0s36 m1038_0 m1039_0 m1040_0 m1041_0 e14)
    obtain rfl := Option.some.inj hf
    exact hs

theorem fr_X10_job {F : Nat} {μ : Mm} {p1 : Int32} {p2 : Int32} {p3 : Int32} {z : Int32 × Mm} {k i j : Nat} (m1000_0s33 : ¬ (k = 1000 ∧ i = 0 ∧ j = 33)) (m1000_0s34 : ¬ (k = 1000 ∧ i = 0 ∧ j = 34)) (m1000_0s35 : ¬ (k = 1000 ∧ i = 0 ∧ j = 35)) (m1000_0s31 : ¬ (k = 1000 ∧ i = 0 ∧ j = 31)) (m1000_0s32 : ¬ (k = 1000 ∧ i = 0 ∧ j = 32)) (m1030_0 : ¬ (k = 1030 ∧ i = 0)) (m1028_0 : ¬ (k = 1028 ∧ i = 0)) (m1029_0 : ¬ (k = 1029 ∧ i = 0)) (m1031_0 : ¬ (k = 1031 ∧ i = 0)) (m1000_0s36 : ¬ (k = 1000 ∧ i = 0 ∧ j = 36)) (m1038_0 : ¬ (k = 1038 ∧ i = 0)) (m1039_0 : ¬ (k = 1039 ∧ i = 0)) (m1040_0 : ¬ (k = 1040 ∧ i = 0)) (m1041_0 : ¬ (k = 1041 ∧ i = 0)) (hf : f_X10_job F μ p1 p2 p3 = some z) : sm μ z.2 k i j := by
  unfold f_X10_job at hf
  have hs : sm μ μ k i j := ⟨rfl, rfl⟩
  obtain ⟨q49, e51, hf⟩ := ob hf
  rcases oi hf with hf | hf
  · obtain rfl := Option.some.inj hf
    exact hs
  · obtain ⟨q52, e54, hf⟩ := ob hf
    replace hs := hs.trans (fr_X10_seeks m1000_0s33 m1000_0s34 m1000_0s35 m1000_0s31 m1000_0s32 m1030_0 m1028_0 m1029_0 m1031_0 m1000_0s36 m1038_0 m1039_0 m1040_0 m1041_0 e54)
    obtain ⟨q55, e57, hf⟩ := ob hf
    rcases oi hf with hf | hf
    · obtain rfl := Option.some.inj hf
      exact hs
    · rcases oi hf with hf | hf
      · obtain ⟨v58, e60, hf⟩ := ob hf
        obtain ⟨q61, e63, hf⟩ := ob hf
        obtain ⟨v64, e66, hf⟩ := ob hf
        obtain rfl := Option.some.inj hf
        exact hs
      · rcases oi hf with hf | hf
        · obtain ⟨v67, e69, hf⟩ := ob hf
          obtain ⟨q70, e72, hf⟩ := ob hf
          obtain ⟨v73, e75, hf⟩ := ob hf
          obtain rfl := Option.some.inj hf
          exact hs
        · rcases oi hf with hf | hf
          · obtain ⟨q76, e78, hf⟩ := ob hf
            obtain rfl := Option.some.inj hf
            exact hs
          · rcases oi hf with hf | hf
            · obtain ⟨v79, e81, hf⟩ := ob hf
              obtain rfl := Option.some.inj hf
              exact hs
            · rcases oi hf with hf | hf
              · obtain ⟨v82, e84, hf⟩ := ob hf
                obtain rfl := Option.some.inj hf
                exact hs
              · obtain rfl := Option.some.inj hf
                exact hs

theorem frb_X10_worst_19 {F : Nat} {z : Int32 × Mm} {k i j : Nat} : ∀ (N : Nat) (μ : Mm) (a2 : Int32) (a3 : Int32), f_X10_worst_b19 F N μ a2 a3 = some z → sm μ z.2 k i j := by
  intro N
  induction N with
  | zero => intro μ a2 a3 hf; cases hf
  | succ N ih =>
    intro μ a2 a3 hf
    rw [f_X10_worst_b19] at hf
    have hs : sm μ μ k i j := ⟨rfl, rfl⟩
    rcases oi hf with hf | hf
    · obtain rfl := Option.some.inj hf
      exact hs
    · rcases oi hf with hf | hf
      · exact hs.trans (ih _ _ _ hf)
      · obtain ⟨q13, e15, hf⟩ := ob hf
        obtain ⟨q16, e18, hf⟩ := ob hf
        rcases oi hf with hf | hf
        · exact hs.trans (ih _ _ _ hf)
        · exact hs.trans (ih _ _ _ hf)
theorem fr_X10_worst {F : Nat} {μ : Mm} {p1 : Int32} {z : Int32 × Mm} {k i j : Nat} (m1000_0s33 : ¬ (k = 1000 ∧ i = 0 ∧ j = 33)) (m1000_0s34 : ¬ (k = 1000 ∧ i = 0 ∧ j = 34)) (m1000_0s35 : ¬ (k = 1000 ∧ i = 0 ∧ j = 35)) (m1000_0s31 : ¬ (k = 1000 ∧ i = 0 ∧ j = 31)) (m1000_0s32 : ¬ (k = 1000 ∧ i = 0 ∧ j = 32)) (m1030_0 : ¬ (k = 1030 ∧ i = 0)) (m1028_0 : ¬ (k = 1028 ∧ i = 0)) (m1029_0 : ¬ (k = 1029 ∧ i = 0)) (m1031_0 : ¬ (k = 1031 ∧ i = 0)) (m1000_0s36 : ¬ (k = 1000 ∧ i = 0 ∧ j = 36)) (m1038_0 : ¬ (k = 1038 ∧ i = 0)) (m1039_0 : ¬ (k = 1039 ∧ i = 0)) (m1040_0 : ¬ (k = 1040 ∧ i = 0)) (m1041_0 : ¬ (k = 1041 ∧ i = 0)) (hf : f_X10_worst F μ p1 = some z) : sm μ z.2 k i j := by
  unfold f_X10_worst at hf
  have hs : sm μ μ k i j := ⟨rfl, rfl⟩
  obtain ⟨q23, e25, hf⟩ := ob hf
  rcases oi hf with hf | hf
  · obtain rfl := Option.some.inj hf
    exact hs
  · obtain ⟨q26, e28, hf⟩ := ob hf
    replace hs := hs.trans (fr_X10_seeks m1000_0s33 m1000_0s34 m1000_0s35 m1000_0s31 m1000_0s32 m1030_0 m1028_0 m1029_0 m1031_0 m1000_0s36 m1038_0 m1039_0 m1040_0 m1041_0 e28)
    exact hs.trans (frb_X10_worst_19 _ _ _ _ hf)

theorem frb_X10_late_24 {F : Nat} {z : Int32 × Mm} {k i j : Nat} : ∀ (N : Nat) (μ : Mm) (a2 : Int32) (a3 : Int32) (a4 : Int32), f_X10_late_b24 F N μ a2 a3 a4 = some z → sm μ z.2 k i j := by
  intro N
  induction N with
  | zero => intro μ a2 a3 a4 hf; cases hf
  | succ N ih =>
    intro μ a2 a3 a4 hf
    rw [f_X10_late_b24] at hf
    have hs : sm μ μ k i j := ⟨rfl, rfl⟩
    rcases oi hf with hf | hf
    · obtain rfl := Option.some.inj hf
      exact hs
    · obtain ⟨q9, e11, hf⟩ := ob hf
      rcases oi hf with hf | hf
      · exact hs.trans (ih _ _ _ _ hf)
      · exact hs.trans (ih _ _ _ _ hf)
theorem fr_X10_late {F : Nat} {μ : Mm} {p1 : Int32} {p2 : Int32} {z : Int32 × Mm} {k i j : Nat} (m1000_0s33 : ¬ (k = 1000 ∧ i = 0 ∧ j = 33)) (m1000_0s34 : ¬ (k = 1000 ∧ i = 0 ∧ j = 34)) (m1000_0s35 : ¬ (k = 1000 ∧ i = 0 ∧ j = 35)) (m1000_0s31 : ¬ (k = 1000 ∧ i = 0 ∧ j = 31)) (m1000_0s32 : ¬ (k = 1000 ∧ i = 0 ∧ j = 32)) (m1030_0 : ¬ (k = 1030 ∧ i = 0)) (m1028_0 : ¬ (k = 1028 ∧ i = 0)) (m1029_0 : ¬ (k = 1029 ∧ i = 0)) (m1031_0 : ¬ (k = 1031 ∧ i = 0)) (m1000_0s36 : ¬ (k = 1000 ∧ i = 0 ∧ j = 36)) (m1038_0 : ¬ (k = 1038 ∧ i = 0)) (m1039_0 : ¬ (k = 1039 ∧ i = 0)) (m1040_0 : ¬ (k = 1040 ∧ i = 0)) (m1041_0 : ¬ (k = 1041 ∧ i = 0)) (hf : f_X10_late F μ p1 p2 = some z) : sm μ z.2 k i j := by
  unfold f_X10_late at hf
  have hs : sm μ μ k i j := ⟨rfl, rfl⟩
  obtain ⟨q16, e18, hf⟩ := ob hf
  rcases oi hf with hf | hf
  · obtain rfl := Option.some.inj hf
    exact hs
  · rcases oi hf with hf | hf
    · obtain ⟨q19, e21, hf⟩ := ob hf
      replace hs := hs.trans (fr_X10_seeks m1000_0s33 m1000_0s34 m1000_0s35 m1000_0s31 m1000_0s32 m1030_0 m1028_0 m1029_0 m1031_0 m1000_0s36 m1038_0 m1039_0 m1040_0 m1041_0 e21)
      exact hs.trans (frb_X10_late_24 _ _ _ _ _ hf)
    · obtain rfl := Option.some.inj hf
      exact hs

theorem frb_X10_rests_29 {F : Nat} {K7 : Mm → Int32 → Int32 → Option Mm} {z : Mm} {k i j : Nat} (m1045_0 : ¬ (k = 1045 ∧ i = 0)) (m1000_0s42 : ¬ (k = 1000 ∧ i = 0 ∧ j = 42)) (m1044_0 : ¬ (k = 1044 ∧ i = 0)) (m1000_0s41 : ¬ (k = 1000 ∧ i = 0 ∧ j = 41)) (hK7 : ∀ (μ : Mm) (a1 : Int32) (a2 : Int32), K7 μ a1 a2 = some z → sm μ z k i j) : ∀ (N : Nat) (μ : Mm) (a1 : Int32) (a2 : Int32) (a3 : Int32) (a4 : Int32), f_X10_rests_b29 F K7 N μ a1 a2 a3 a4 = some z → sm μ z k i j := by
  intro N
  induction N with
  | zero => intro μ a1 a2 a3 a4 hf; cases hf
  | succ N ih =>
    intro μ a1 a2 a3 a4 hf
    rw [f_X10_rests_b29] at hf
    have hs : sm μ μ k i j := ⟨rfl, rfl⟩
    rcases oi hf with hf | hf
    · obtain ⟨q35, e37, hf⟩ := ob hf
      rcases oi hf with hf | hf
      · obtain ⟨q38, e40, hf⟩ := ob hf
        rcases oi hf with hf | hf
        · exact hs.trans (hK7 _ _ _ hf)
        · rcases oi hf with hf | hf
          · exact hs.trans (hK7 _ _ _ hf)
          · obtain ⟨q41, e43, hf⟩ := ob hf
            obtain ⟨v44, e46, hf⟩ := ob hf
            obtain ⟨q47, e49, hf⟩ := ob hf
            replace hs := hs.trans (fr_X10_breaksAt m1045_0 m1000_0s42 m1044_0 m1000_0s41 e49)
            exact hs.trans (hK7 _ _ _ hf)
      · exact hs.trans (hK7 _ _ _ hf)
    · rcases oi hf with hf | hf
      · obtain ⟨v50, e52, hf⟩ := ob hf
        rcases oi hf with hf | hf
        · obtain ⟨v53, e55, hf⟩ := ob hf
          rcases oi hf with hf | hf
          · exact hs.trans (ih _ _ _ _ _ hf)
          · exact hs.trans (ih _ _ _ _ _ hf)
        · exact hs.trans (ih _ _ _ _ _ hf)
      · exact hs.trans (ih _ _ _ _ _ hf)
theorem frb_X10_rests_7 {F : Nat} {z : Mm} {k i j : Nat} (m1028_0 : ¬ (k = 1028 ∧ i = 0)) (m1000_0s31 : ¬ (k = 1000 ∧ i = 0 ∧ j = 31)) (m1029_0 : ¬ (k = 1029 ∧ i = 0)) (m1030_0 : ¬ (k = 1030 ∧ i = 0)) (m1000_0s32 : ¬ (k = 1000 ∧ i = 0 ∧ j = 32)) (m1045_0 : ¬ (k = 1045 ∧ i = 0)) (m1000_0s42 : ¬ (k = 1000 ∧ i = 0 ∧ j = 42)) (m1044_0 : ¬ (k = 1044 ∧ i = 0)) (m1000_0s41 : ¬ (k = 1000 ∧ i = 0 ∧ j = 41)) : ∀ (N : Nat) (μ : Mm) (a1 : Int32) (a2 : Int32), f_X10_rests_b7 F N μ a1 a2 = some z → sm μ z k i j := by
  intro N
  induction N with
  | zero => intro μ a1 a2 hf; cases hf
  | succ N ih =>
    intro μ a1 a2 hf
    rw [f_X10_rests_b7] at hf
    have hs : sm μ μ k i j := ⟨rfl, rfl⟩
    obtain ⟨v60, e62, hf⟩ := ob hf
    rcases oi hf with hf | hf
    · obtain rfl := Option.some.inj hf
      exact hs
    · obtain ⟨q63, e65, hf⟩ := ob hf
      replace hs := hs.trans (fr_X10_doesMark m1028_0 m1000_0s31 m1029_0 m1030_0 m1000_0s32 e65)
      exact hs.trans (frb_X10_rests_29 m1045_0 m1000_0s42 m1044_0 m1000_0s41 ih _ _ _ _ _ _ hf)
theorem fr_X10_rests {F : Nat} {μ : Mm} {p1 : Int32} {z : Mm} {k i j : Nat} (m1000_0s33 : ¬ (k = 1000 ∧ i = 0 ∧ j = 33)) (m1000_0s34 : ¬ (k = 1000 ∧ i = 0 ∧ j = 34)) (m1000_0s35 : ¬ (k = 1000 ∧ i = 0 ∧ j = 35)) (m1000_0s31 : ¬ (k = 1000 ∧ i = 0 ∧ j = 31)) (m1000_0s32 : ¬ (k = 1000 ∧ i = 0 ∧ j = 32)) (m1030_0 : ¬ (k = 1030 ∧ i = 0)) (m1028_0 : ¬ (k = 1028 ∧ i = 0)) (m1029_0 : ¬ (k = 1029 ∧ i = 0)) (m1031_0 : ¬ (k = 1031 ∧ i = 0)) (m1045_0 : ¬ (k = 1045 ∧ i = 0)) (m1000_0s42 : ¬ (k = 1000 ∧ i = 0 ∧ j = 42)) (m1044_0 : ¬ (k = 1044 ∧ i = 0)) (m1000_0s41 : ¬ (k = 1000 ∧ i = 0 ∧ j = 41)) (hf : f_X10_rests F μ p1 = some z) : sm μ z k i j := by
  unfold f_X10_rests at hf
  have hs : sm μ μ k i j := ⟨rfl, rfl⟩
  obtain ⟨q68, e70, hf⟩ := ob hf
  replace hs := hs.trans (fr_X10_startsNow m1000_0s33 m1000_0s34 m1000_0s35 m1000_0s31 m1000_0s32 m1030_0 m1028_0 m1029_0 m1031_0 e70)
  exact hs.trans (frb_X10_rests_7 m1028_0 m1000_0s31 m1029_0 m1030_0 m1000_0s32 m1045_0 m1000_0s42 m1044_0 m1000_0s41 _ _ _ _ hf)

theorem frb_X10_judges_69 {F : Nat} {z : Mm} {k i j : Nat} (m1045_0 : ¬ (k = 1045 ∧ i = 0)) (m1000_0s42 : ¬ (k = 1000 ∧ i = 0 ∧ j = 42)) (m1044_0 : ¬ (k = 1044 ∧ i = 0)) (m1000_0s41 : ¬ (k = 1000 ∧ i = 0 ∧ j = 41)) : ∀ (N : Nat) (μ : Mm) (a2 : Int32) (a3 : Int32) (a4 : Int32), f_X10_judges_b69 F N μ a2 a3 a4 = some z → sm μ z k i j := by
  intro N
  induction N with
  | zero => intro μ a2 a3 a4 hf; cases hf
  | succ N ih =>
    intro μ a2 a3 a4 hf
    rw [f_X10_judges_b69] at hf
    have hs : sm μ μ k i j := ⟨rfl, rfl⟩
    obtain ⟨v47, e49, hf⟩ := ob hf
    rcases oi hf with hf | hf
    · obtain rfl := Option.some.inj hf
      exact hs
    · obtain ⟨q50, e52, hf⟩ := ob hf
      rcases oi hf with hf | hf
      · exact hs.trans (ih _ _ _ _ hf)
      · obtain ⟨q53, e55, hf⟩ := ob hf
        replace hs := hs.trans (fr_X10_spans m1045_0 m1000_0s42 m1044_0 m1000_0s41 e55)
        exact hs.trans (ih _ _ _ _ hf)
theorem frb_X10_judges_122 {F : Nat} {z : Mm} {k i j : Nat} (m1045_0 : ¬ (k = 1045 ∧ i = 0)) (m1000_0s42 : ¬ (k = 1000 ∧ i = 0 ∧ j = 42)) (m1044_0 : ¬ (k = 1044 ∧ i = 0)) (m1000_0s41 : ¬ (k = 1000 ∧ i = 0 ∧ j = 41)) : ∀ (N : Nat) (μ : Mm) (a1 : Int32) (a3 : Int32) (a4 : Int32), f_X10_judges_b122 F N μ a1 a3 a4 = some z → sm μ z k i j := by
  intro N
  induction N with
  | zero => intro μ a1 a3 a4 hf; cases hf
  | succ N ih =>
    intro μ a1 a3 a4 hf
    rw [f_X10_judges_b122] at hf
    have hs : sm μ μ k i j := ⟨rfl, rfl⟩
    obtain ⟨v66, e68, hf⟩ := ob hf
    rcases oi hf with hf | hf
    · obtain rfl := Option.some.inj hf
      exact hs
    · obtain ⟨v69, e71, hf⟩ := ob hf
      obtain ⟨q72, e74, hf⟩ := ob hf
      rcases oi hf with hf | hf
      · exact hs.trans (ih _ _ _ _ hf)
      · obtain ⟨v75, e77, hf⟩ := ob hf
        obtain ⟨q78, e80, hf⟩ := ob hf
        replace hs := hs.trans (fr_X10_spans m1045_0 m1000_0s42 m1044_0 m1000_0s41 e80)
        exact hs.trans (ih _ _ _ _ hf)
theorem fr_X10_judges {F : Nat} {μ : Mm} {p1 : Int32} {z : Mm} {k i j : Nat} (m1000_0s41 : ¬ (k = 1000 ∧ i = 0 ∧ j = 41)) (m1000_0s42 : ¬ (k = 1000 ∧ i = 0 ∧ j = 42)) (m1000_0s33 : ¬ (k = 1000 ∧ i = 0 ∧ j = 33)) (m1000_0s34 : ¬ (k = 1000 ∧ i = 0 ∧ j = 34)) (m1000_0s35 : ¬ (k = 1000 ∧ i = 0 ∧ j = 35)) (m1000_0s31 : ¬ (k = 1000 ∧ i = 0 ∧ j = 31)) (m1000_0s32 : ¬ (k = 1000 ∧ i = 0 ∧ j = 32)) (m1030_0 : ¬ (k = 1030 ∧ i = 0)) (m1028_0 : ¬ (k = 1028 ∧ i = 0)) (m1029_0 : ¬ (k = 1029 ∧ i = 0)) (m1031_0 : ¬ (k = 1031 ∧ i = 0)) (m1045_0 : ¬ (k = 1045 ∧ i = 0)) (m1044_0 : ¬ (k = 1044 ∧ i = 0)) (hf : f_X10_judges F μ p1 = some z) : sm μ z k i j := by
  unfold f_X10_judges at hf
  have hs : sm μ μ k i j := ⟨rfl, rfl⟩
  obtain ⟨m105, e107, hf⟩ := ob hf
  replace hs := hs.trans (fr_wf m1000_0s41 e107)
  obtain ⟨m108, e110, hf⟩ := ob hf
  replace hs := hs.trans (fr_wf m1000_0s42 e110)
  obtain ⟨v111, e113, hf⟩ := ob hf
  obtain ⟨v114, e116, hf⟩ := ob hf
  obtain ⟨v117, e119, hf⟩ := ob hf
  rcases oi hf with hf | hf
  · obtain ⟨v120, e122, hf⟩ := ob hf
    obtain ⟨q123, e125, hf⟩ := ob hf
    replace hs := hs.trans (fr_X10_startsNow m1000_0s33 m1000_0s34 m1000_0s35 m1000_0s31 m1000_0s32 m1030_0 m1028_0 m1029_0 m1031_0 e125)
    exact hs.trans (frb_X10_judges_69 m1045_0 m1000_0s42 m1044_0 m1000_0s41 _ _ _ _ _ hf)
  · rcases oi hf with hf | hf
    · obtain ⟨q126, e128, hf⟩ := ob hf
      replace hs := hs.trans (fr_X10_startsNow m1000_0s33 m1000_0s34 m1000_0s35 m1000_0s31 m1000_0s32 m1030_0 m1028_0 m1029_0 m1031_0 e128)
      exact hs.trans (frb_X10_judges_122 m1045_0 m1000_0s42 m1044_0 m1000_0s41 _ _ _ _ _ hf)
    · rcases oi hf with hf | hf
      · obtain ⟨v129, e131, hf⟩ := ob hf
        obtain ⟨q132, e134, hf⟩ := ob hf
        replace hs := hs.trans (fr_X10_startsNow m1000_0s33 m1000_0s34 m1000_0s35 m1000_0s31 m1000_0s32 m1030_0 m1028_0 m1029_0 m1031_0 e134)
        obtain ⟨q135, e137, hf⟩ := ob hf
        replace hs := hs.trans (fr_X10_follows m1045_0 m1000_0s42 m1044_0 m1000_0s41 e137)
        obtain rfl := Option.some.inj hf
        exact hs
      · obtain ⟨q138, e140, hf⟩ := ob hf
        replace hs := hs.trans (fr_X10_rests m1000_0s33 m1000_0s34 m1000_0s35 m1000_0s31 m1000_0s32 m1030_0 m1028_0 m1029_0 m1031_0 m1045_0 m1000_0s42 m1044_0 m1000_0s41 e140)
        obtain rfl := Option.some.inj hf
        exact hs

theorem fr_X10_breaks {F : Nat} {μ : Mm} {p1 : Int32} {p2 : Int32} {z : Int32 × Mm} {k i j : Nat} (m1000_0s41 : ¬ (k = 1000 ∧ i = 0 ∧ j = 41)) (m1000_0s42 : ¬ (k = 1000 ∧ i = 0 ∧ j = 42)) (m1000_0s33 : ¬ (k = 1000 ∧ i = 0 ∧ j = 33)) (m1000_0s34 : ¬ (k = 1000 ∧ i = 0 ∧ j = 34)) (m1000_0s35 : ¬ (k = 1000 ∧ i = 0 ∧ j = 35)) (m1000_0s31 : ¬ (k = 1000 ∧ i = 0 ∧ j = 31)) (m1000_0s32 : ¬ (k = 1000 ∧ i = 0 ∧ j = 32)) (m1030_0 : ¬ (k = 1030 ∧ i = 0)) (m1028_0 : ¬ (k = 1028 ∧ i = 0)) (m1029_0 : ¬ (k = 1029 ∧ i = 0)) (m1031_0 : ¬ (k = 1031 ∧ i = 0)) (m1045_0 : ¬ (k = 1045 ∧ i = 0)) (m1044_0 : ¬ (k = 1044 ∧ i = 0)) (hf : f_X10_breaks F μ p1 p2 = some z) : sm μ z.2 k i j := by
  unfold f_X10_breaks at hf
  have hs : sm μ μ k i j := ⟨rfl, rfl⟩
  obtain ⟨q13, e15, hf⟩ := ob hf
  rcases oi hf with hf | hf
  · obtain rfl := Option.some.inj hf
    exact hs
  · obtain ⟨q16, e18, hf⟩ := ob hf
    rcases oi hf with hf | hf
    · obtain rfl := Option.some.inj hf
      exact hs
    · obtain ⟨q19, e21, hf⟩ := ob hf
      replace hs := hs.trans (fr_X10_judges m1000_0s41 m1000_0s42 m1000_0s33 m1000_0s34 m1000_0s35 m1000_0s31 m1000_0s32 m1030_0 m1028_0 m1029_0 m1031_0 m1045_0 m1044_0 e21)
      rcases oi hf with hf | hf
      · obtain rfl := Option.some.inj hf
        exact hs
      · obtain rfl := Option.some.inj hf
        exact hs

theorem frb_X10_broken_47 {F : Nat} {z : Int32 × Mm} {k i j : Nat} : ∀ (μ : Mm) (a2 : Int32) (a3 : Int32) (s0 : Int32) (s1 : Int32) (s2 : Int32), f_X10_broken_b47 F μ a2 a3 s0 s1 s2 = some z → sm μ z.2 k i j := by
  intro μ a2 a3 s0 s1 s2 hf
  unfold f_X10_broken_b47 at hf
  have hs : sm μ μ k i j := ⟨rfl, rfl⟩
  obtain ⟨q19, e21, hf⟩ := ob hf
  rcases oi hf with hf | hf
  · obtain rfl := Option.some.inj hf
    exact hs
  · rcases oi hf with hf | hf
    · obtain ⟨v25, e27, hf⟩ := ob hf
      obtain rfl := Option.some.inj hf
      exact hs
    · obtain ⟨v22, e24, hf⟩ := ob hf
      obtain rfl := Option.some.inj hf
      exact hs
theorem fr_X10_broken {F : Nat} {μ : Mm} {p1 : Int32} {p2 : Int32} {p3 : Int32} {z : Int32 × Mm} {k i j : Nat} (m1000_0s41 : ¬ (k = 1000 ∧ i = 0 ∧ j = 41)) (m1000_0s42 : ¬ (k = 1000 ∧ i = 0 ∧ j = 42)) (m1000_0s33 : ¬ (k = 1000 ∧ i = 0 ∧ j = 33)) (m1000_0s34 : ¬ (k = 1000 ∧ i = 0 ∧ j = 34)) (m1000_0s35 : ¬ (k = 1000 ∧ i = 0 ∧ j = 35)) (m1000_0s31 : ¬ (k = 1000 ∧ i = 0 ∧ j = 31)) (m1000_0s32 : ¬ (k = 1000 ∧ i = 0 ∧ j = 32)) (m1030_0 : ¬ (k = 1030 ∧ i = 0)) (m1028_0 : ¬ (k = 1028 ∧ i = 0)) (m1029_0 : ¬ (k = 1029 ∧ i = 0)) (m1031_0 : ¬ (k = 1031 ∧ i = 0)) (m1045_0 : ¬ (k = 1045 ∧ i = 0)) (m1044_0 : ¬ (k = 1044 ∧ i = 0)) (hf : f_X10_broken F μ p1 p2 p3 = some z) : sm μ z.2 k i j := by
  unfold f_X10_broken at hf
  have hs : sm μ μ k i j := ⟨rfl, rfl⟩
  obtain ⟨q34, e36, hf⟩ := ob hf
  rcases oi hf with hf | hf
  · obtain rfl := Option.some.inj hf
    exact hs
  · obtain ⟨q37, e39, hf⟩ := ob hf
    rcases oi hf with hf | hf
    · obtain rfl := Option.some.inj hf
      exact hs
    · obtain ⟨q40, e42, hf⟩ := ob hf
      replace hs := hs.trans (fr_X10_judges m1000_0s41 m1000_0s42 m1000_0s33 m1000_0s34 m1000_0s35 m1000_0s31 m1000_0s32 m1030_0 m1028_0 m1029_0 m1031_0 m1045_0 m1044_0 e42)
      rcases oi hf with hf | hf
      · exact hs.trans (frb_X10_broken_47 _ _ _ _ _ _ hf)
      · exact hs.trans (frb_X10_broken_47 _ _ _ _ _ _ hf)

theorem frb_X10_gathers_135 {F : Nat} {K7 : Mm → Int32 → Int32 → Option Mm} {K32 : Mm → Int32 → Int32 → Int32 → Option Mm} {z : Mm} {k i j : Nat} (m1054_0 : ¬ (k = 1054 ∧ i = 0)) (m1000_0s48 : ¬ (k = 1000 ∧ i = 0 ∧ j = 48)) (hK7 : ∀ (μ : Mm) (a1 : Int32) (a2 : Int32), K7 μ a1 a2 = some z → sm μ z k i j) (hK32 : ∀ (μ : Mm) (a1 : Int32) (a2 : Int32) (a3 : Int32), K32 μ a1 a2 a3 = some z → sm μ z k i j) : ∀ (μ : Mm) (a1 : Int32) (a2 : Int32) (a3 : Int32) (s0 : Int32) (s1 : Int32), f_X10_gathers_b135 F K7 K32 μ a1 a2 a3 s0 s1 = some z → sm μ z k i j := by
  intro μ a1 a2 a3 s0 s1 hf
  unfold f_X10_gathers_b135 at hf
  have hs : sm μ μ k i j := ⟨rfl, rfl⟩
  obtain ⟨m39, e41, hf⟩ := ob hf
  replace hs := hs.trans (fr_wa m1054_0 e41)
  obtain ⟨m42, e44, hf⟩ := ob hf
  replace hs := hs.trans (fr_wf m1000_0s48 e44)
  exact hs.trans (hK32 _ _ _ _ hf)
theorem frb_X10_gathers_32 {F : Nat} {K7 : Mm → Int32 → Int32 → Option Mm} {z : Mm} {k i j : Nat} (m1050_0 : ¬ (k = 1050 ∧ i = 0)) (m1051_0 : ¬ (k = 1051 ∧ i = 0)) (m1052_0 : ¬ (k = 1052 ∧ i = 0)) (m1053_0 : ¬ (k = 1053 ∧ i = 0)) (m1054_0 : ¬ (k = 1054 ∧ i = 0)) (m1000_0s48 : ¬ (k = 1000 ∧ i = 0 ∧ j = 48)) (hK7 : ∀ (μ : Mm) (a1 : Int32) (a2 : Int32), K7 μ a1 a2 = some z → sm μ z k i j) : ∀ (N : Nat) (μ : Mm) (a1 : Int32) (a2 : Int32) (a3 : Int32), f_X10_gathers_b32 F K7 N μ a1 a2 a3 = some z → sm μ z k i j := by
  intro N
  induction N with
  | zero => intro μ a1 a2 a3 hf; cases hf
  | succ N ih =>
    intro μ a1 a2 a3 hf
    rw [f_X10_gathers_b32] at hf
    have hs : sm μ μ k i j := ⟨rfl, rfl⟩
    rcases oi hf with hf | hf
    · exact hs.trans (hK7 _ _ _ hf)
    · obtain ⟨m69, e71, hf⟩ := ob hf
      replace hs := hs.trans (fr_wa m1050_0 e71)
      obtain ⟨m72, e74, hf⟩ := ob hf
      replace hs := hs.trans (fr_wa m1051_0 e74)
      obtain ⟨v75, e77, hf⟩ := ob hf
      obtain ⟨q78, e80, hf⟩ := ob hf
      obtain ⟨v81, e83, hf⟩ := ob hf
      obtain ⟨m84, e86, hf⟩ := ob hf
      replace hs := hs.trans (fr_wa m1052_0 e86)
      obtain ⟨v87, e89, hf⟩ := ob hf
      obtain ⟨m90, e92, hf⟩ := ob hf
      replace hs := hs.trans (fr_wa m1053_0 e92)
      obtain ⟨v93, e95, hf⟩ := ob hf
      rcases oi hf with hf | hf
      · obtain ⟨v96, e98, hf⟩ := ob hf
        obtain ⟨q99, e101, hf⟩ := ob hf
        obtain ⟨v102, e104, hf⟩ := ob hf
        exact hs.trans (frb_X10_gathers_135 m1054_0 m1000_0s48 hK7 ih _ _ _ _ _ _ hf)
      · exact hs.trans (frb_X10_gathers_135 m1054_0 m1000_0s48 hK7 ih _ _ _ _ _ _ hf)
theorem frb_X10_gathers_7 {F : Nat} {z : Mm} {k i j : Nat} (m1000_0s33 : ¬ (k = 1000 ∧ i = 0 ∧ j = 33)) (m1000_0s34 : ¬ (k = 1000 ∧ i = 0 ∧ j = 34)) (m1000_0s35 : ¬ (k = 1000 ∧ i = 0 ∧ j = 35)) (m1000_0s31 : ¬ (k = 1000 ∧ i = 0 ∧ j = 31)) (m1000_0s32 : ¬ (k = 1000 ∧ i = 0 ∧ j = 32)) (m1030_0 : ¬ (k = 1030 ∧ i = 0)) (m1028_0 : ¬ (k = 1028 ∧ i = 0)) (m1029_0 : ¬ (k = 1029 ∧ i = 0)) (m1031_0 : ¬ (k = 1031 ∧ i = 0)) (m1000_0s36 : ¬ (k = 1000 ∧ i = 0 ∧ j = 36)) (m1038_0 : ¬ (k = 1038 ∧ i = 0)) (m1039_0 : ¬ (k = 1039 ∧ i = 0)) (m1040_0 : ¬ (k = 1040 ∧ i = 0)) (m1041_0 : ¬ (k = 1041 ∧ i = 0)) (m1050_0 : ¬ (k = 1050 ∧ i = 0)) (m1051_0 : ¬ (k = 1051 ∧ i = 0)) (m1052_0 : ¬ (k = 1052 ∧ i = 0)) (m1053_0 : ¬ (k = 1053 ∧ i = 0)) (m1054_0 : ¬ (k = 1054 ∧ i = 0)) (m1000_0s48 : ¬ (k = 1000 ∧ i = 0 ∧ j = 48)) : ∀ (N : Nat) (μ : Mm) (a1 : Int32) (a2 : Int32), f_X10_gathers_b7 F N μ a1 a2 = some z → sm μ z k i j := by
  intro N
  induction N with
  | zero => intro μ a1 a2 hf; cases hf
  | succ N ih =>
    intro μ a1 a2 hf
    rw [f_X10_gathers_b7] at hf
    have hs : sm μ μ k i j := ⟨rfl, rfl⟩
    rcases oi hf with hf | hf
    · obtain rfl := Option.some.inj hf
      exact hs
    · obtain ⟨v109, e111, hf⟩ := ob hf
      rcases oi hf with hf | hf
      · obtain ⟨q112, e114, hf⟩ := ob hf
        replace hs := hs.trans (fr_X10_seeks m1000_0s33 m1000_0s34 m1000_0s35 m1000_0s31 m1000_0s32 m1030_0 m1028_0 m1029_0 m1031_0 m1000_0s36 m1038_0 m1039_0 m1040_0 m1041_0 e114)
        exact hs.trans (frb_X10_gathers_32 m1050_0 m1051_0 m1052_0 m1053_0 m1054_0 m1000_0s48 ih _ _ _ _ _ hf)
      · exact hs.trans (ih _ _ _ hf)
theorem fr_X10_gathers {F : Nat} {μ : Mm} {p1 : Int32} {z : Mm} {k i j : Nat} (m1000_0s48 : ¬ (k = 1000 ∧ i = 0 ∧ j = 48)) (m1000_0s33 : ¬ (k = 1000 ∧ i = 0 ∧ j = 33)) (m1000_0s34 : ¬ (k = 1000 ∧ i = 0 ∧ j = 34)) (m1000_0s35 : ¬ (k = 1000 ∧ i = 0 ∧ j = 35)) (m1000_0s31 : ¬ (k = 1000 ∧ i = 0 ∧ j = 31)) (m1000_0s32 : ¬ (k = 1000 ∧ i = 0 ∧ j = 32)) (m1030_0 : ¬ (k = 1030 ∧ i = 0)) (m1028_0 : ¬ (k = 1028 ∧ i = 0)) (m1029_0 : ¬ (k = 1029 ∧ i = 0)) (m1031_0 : ¬ (k = 1031 ∧ i = 0)) (m1000_0s36 : ¬ (k = 1000 ∧ i = 0 ∧ j = 36)) (m1038_0 : ¬ (k = 1038 ∧ i = 0)) (m1039_0 : ¬ (k = 1039 ∧ i = 0)) (m1040_0 : ¬ (k = 1040 ∧ i = 0)) (m1041_0 : ¬ (k = 1041 ∧ i = 0)) (m1050_0 : ¬ (k = 1050 ∧ i = 0)) (m1051_0 : ¬ (k = 1051 ∧ i = 0)) (m1052_0 : ¬ (k = 1052 ∧ i = 0)) (m1053_0 : ¬ (k = 1053 ∧ i = 0)) (m1054_0 : ¬ (k = 1054 ∧ i = 0)) (hf : f_X10_gathers F μ p1 = some z) : sm μ z k i j := by
  unfold f_X10_gathers at hf
  have hs : sm μ μ k i j := ⟨rfl, rfl⟩
  obtain ⟨m117, e119, hf⟩ := ob hf
  replace hs := hs.trans (fr_wf m1000_0s48 e119)
  exact hs.trans (frb_X10_gathers_7 m1000_0s33 m1000_0s34 m1000_0s35 m1000_0s31 m1000_0s32 m1030_0 m1028_0 m1029_0 m1031_0 m1000_0s36 m1038_0 m1039_0 m1040_0 m1041_0 m1050_0 m1051_0 m1052_0 m1053_0 m1054_0 m1000_0s48 _ _ _ _ hf)

theorem frb_X10_repeats_89 {F : Nat} {z : Mm} {k i j : Nat} (m1053_0 : ¬ (k = 1053 ∧ i = 0)) (m1054_0 : ¬ (k = 1054 ∧ i = 0)) : ∀ (N : Nat) (μ : Mm) (a1 : Int32) (a2 : Int32) (a3 : Int32), f_X10_repeats_b89 F N μ a1 a2 a3 = some z → sm μ z k i j := by
  intro N
  induction N with
  | zero => intro μ a1 a2 a3 hf; cases hf
  | succ N ih =>
    intro μ a1 a2 a3 hf
    rw [f_X10_repeats_b89] at hf
    have hs : sm μ μ k i j := ⟨rfl, rfl⟩
    rcases oi hf with hf | hf
    · obtain ⟨v43, e45, hf⟩ := ob hf
      obtain ⟨q46, e48, hf⟩ := ob hf
      obtain ⟨v49, e51, hf⟩ := ob hf
      obtain ⟨q52, e54, hf⟩ := ob hf
      replace hs := hs.trans (fr_X10_runs m1053_0 m1054_0 e54)
      obtain rfl := Option.some.inj hf
      exact hs
    · obtain ⟨v55, e57, hf⟩ := ob hf
      exact hs.trans (ih _ _ _ _ hf)
theorem frb_X10_repeats_12 {F : Nat} {z : Mm} {k i j : Nat} (m1053_0 : ¬ (k = 1053 ∧ i = 0)) (m1054_0 : ¬ (k = 1054 ∧ i = 0)) (m1028_0 : ¬ (k = 1028 ∧ i = 0)) (m1000_0s31 : ¬ (k = 1000 ∧ i = 0 ∧ j = 31)) (m1029_0 : ¬ (k = 1029 ∧ i = 0)) (m1030_0 : ¬ (k = 1030 ∧ i = 0)) (m1000_0s32 : ¬ (k = 1000 ∧ i = 0 ∧ j = 32)) : ∀ (N : Nat) (μ : Mm) (a1 : Int32) (a2 : Int32), f_X10_repeats_b12 F N μ a1 a2 = some z → sm μ z k i j := by
  intro N
  induction N with
  | zero => intro μ a1 a2 hf; cases hf
  | succ N ih =>
    intro μ a1 a2 hf
    rw [f_X10_repeats_b12] at hf
    have hs : sm μ μ k i j := ⟨rfl, rfl⟩
    obtain ⟨v76, e78, hf⟩ := ob hf
    rcases oi hf with hf | hf
    · obtain ⟨v79, e81, hf⟩ := ob hf
      rcases oi hf with hf | hf
      · obtain rfl := Option.some.inj hf
        exact hs
      · exact hs.trans (frb_X10_repeats_89 m1053_0 m1054_0 _ _ _ _ _ hf)
    · obtain ⟨q82, e84, hf⟩ := ob hf
      replace hs := hs.trans (fr_X10_doesMark m1028_0 m1000_0s31 m1029_0 m1030_0 m1000_0s32 e84)
      rcases oi hf with hf | hf
      · obtain ⟨q85, e87, hf⟩ := ob hf
        rcases oi hf with hf | hf
        · obtain ⟨q88, e90, hf⟩ := ob hf
          obtain ⟨v91, e93, hf⟩ := ob hf
          obtain ⟨q94, e96, hf⟩ := ob hf
          obtain ⟨v97, e99, hf⟩ := ob hf
          obtain ⟨q100, e102, hf⟩ := ob hf
          replace hs := hs.trans (fr_X10_runs m1053_0 m1054_0 e102)
          exact hs.trans (ih _ _ _ hf)
        · exact hs.trans (ih _ _ _ hf)
      · exact hs.trans (ih _ _ _ hf)
theorem fr_X10_repeats {F : Nat} {μ : Mm} {p1 : Int32} {z : Mm} {k i j : Nat} (m1000_0s48 : ¬ (k = 1000 ∧ i = 0 ∧ j = 48)) (m1000_0s33 : ¬ (k = 1000 ∧ i = 0 ∧ j = 33)) (m1000_0s34 : ¬ (k = 1000 ∧ i = 0 ∧ j = 34)) (m1000_0s35 : ¬ (k = 1000 ∧ i = 0 ∧ j = 35)) (m1000_0s31 : ¬ (k = 1000 ∧ i = 0 ∧ j = 31)) (m1000_0s32 : ¬ (k = 1000 ∧ i = 0 ∧ j = 32)) (m1030_0 : ¬ (k = 1030 ∧ i = 0)) (m1028_0 : ¬ (k = 1028 ∧ i = 0)) (m1029_0 : ¬ (k = 1029 ∧ i = 0)) (m1031_0 : ¬ (k = 1031 ∧ i = 0)) (m1000_0s36 : ¬ (k = 1000 ∧ i = 0 ∧ j = 36)) (m1038_0 : ¬ (k = 1038 ∧ i = 0)) (m1039_0 : ¬ (k = 1039 ∧ i = 0)) (m1040_0 : ¬ (k = 1040 ∧ i = 0)) (m1041_0 : ¬ (k = 1041 ∧ i = 0)) (m1050_0 : ¬ (k = 1050 ∧ i = 0)) (m1051_0 : ¬ (k = 1051 ∧ i = 0)) (m1052_0 : ¬ (k = 1052 ∧ i = 0)) (m1053_0 : ¬ (k = 1053 ∧ i = 0)) (m1054_0 : ¬ (k = 1054 ∧ i = 0)) (hf : f_X10_repeats F μ p1 = some z) : sm μ z k i j := by
  unfold f_X10_repeats at hf
  have hs : sm μ μ k i j := ⟨rfl, rfl⟩
  obtain ⟨q107, e109, hf⟩ := ob hf
  replace hs := hs.trans (fr_X10_gathers m1000_0s48 m1000_0s33 m1000_0s34 m1000_0s35 m1000_0s31 m1000_0s32 m1030_0 m1028_0 m1029_0 m1031_0 m1000_0s36 m1038_0 m1039_0 m1040_0 m1041_0 m1050_0 m1051_0 m1052_0 m1053_0 m1054_0 e109)
  obtain ⟨q110, e112, hf⟩ := ob hf
  replace hs := hs.trans (fr_X10_startsNow m1000_0s33 m1000_0s34 m1000_0s35 m1000_0s31 m1000_0s32 m1030_0 m1028_0 m1029_0 m1031_0 e112)
  exact hs.trans (frb_X10_repeats_12 m1053_0 m1054_0 m1028_0 m1000_0s31 m1029_0 m1030_0 m1000_0s32 _ _ _ _ hf)

theorem fr_X10_again {F : Nat} {μ : Mm} {p1 : Int32} {p2 : Int32} {z : Int32 × Mm} {k i j : Nat} (m1000_0s48 : ¬ (k = 1000 ∧ i = 0 ∧ j = 48)) (m1000_0s33 : ¬ (k = 1000 ∧ i = 0 ∧ j = 33)) (m1000_0s34 : ¬ (k = 1000 ∧ i = 0 ∧ j = 34)) (m1000_0s35 : ¬ (k = 1000 ∧ i = 0 ∧ j = 35)) (m1000_0s31 : ¬ (k = 1000 ∧ i = 0 ∧ j = 31)) (m1000_0s32 : ¬ (k = 1000 ∧ i = 0 ∧ j = 32)) (m1030_0 : ¬ (k = 1030 ∧ i = 0)) (m1028_0 : ¬ (k = 1028 ∧ i = 0)) (m1029_0 : ¬ (k = 1029 ∧ i = 0)) (m1031_0 : ¬ (k = 1031 ∧ i = 0)) (m1000_0s36 : ¬ (k = 1000 ∧ i = 0 ∧ j = 36)) (m1038_0 : ¬ (k = 1038 ∧ i = 0)) (m1039_0 : ¬ (k = 1039 ∧ i = 0)) (m1040_0 : ¬ (k = 1040 ∧ i = 0)) (m1041_0 : ¬ (k = 1041 ∧ i = 0)) (m1050_0 : ¬ (k = 1050 ∧ i = 0)) (m1051_0 : ¬ (k = 1051 ∧ i = 0)) (m1052_0 : ¬ (k = 1052 ∧ i = 0)) (m1053_0 : ¬ (k = 1053 ∧ i = 0)) (m1054_0 : ¬ (k = 1054 ∧ i = 0)) (hf : f_X10_again F μ p1 p2 = some z) : sm μ z.2 k i j := by
  unfold f_X10_again at hf
  have hs : sm μ μ k i j := ⟨rfl, rfl⟩
  obtain ⟨q17, e19, hf⟩ := ob hf
  rcases oi hf with hf | hf
  · obtain rfl := Option.some.inj hf
    exact hs
  · obtain ⟨v20, e22, hf⟩ := ob hf
    obtain ⟨q23, e25, hf⟩ := ob hf
    replace hs := hs.trans (fr_X10_repeats m1000_0s48 m1000_0s33 m1000_0s34 m1000_0s35 m1000_0s31 m1000_0s32 m1030_0 m1028_0 m1029_0 m1031_0 m1000_0s36 m1038_0 m1039_0 m1040_0 m1041_0 m1050_0 m1051_0 m1052_0 m1053_0 m1054_0 e25)
    obtain ⟨q26, e28, hf⟩ := ob hf
    obtain rfl := Option.some.inj hf
    exact hs

theorem frb_X10_slowest_24 {F : Nat} {z : Int32 × Mm} {k i j : Nat} : ∀ (N : Nat) (μ : Mm) (a1 : Int32) (a2 : Int32) (a3 : Int32), f_X10_slowest_b24 F N μ a1 a2 a3 = some z → sm μ z.2 k i j := by
  intro N
  induction N with
  | zero => intro μ a1 a2 a3 hf; cases hf
  | succ N ih =>
    intro μ a1 a2 a3 hf
    rw [f_X10_slowest_b24] at hf
    have hs : sm μ μ k i j := ⟨rfl, rfl⟩
    rcases oi hf with hf | hf
    · obtain rfl := Option.some.inj hf
      exact hs
    · obtain ⟨v19, e21, hf⟩ := ob hf
      obtain ⟨v22, e24, hf⟩ := ob hf
      obtain ⟨v25, e27, hf⟩ := ob hf
      rcases oi hf with hf | hf
      · rcases oi hf with hf | hf
        · exact hs.trans (ih _ _ _ _ hf)
        · exact hs.trans (ih _ _ _ _ hf)
      · exact hs.trans (ih _ _ _ _ hf)
theorem fr_X10_slowest {F : Nat} {μ : Mm} {p1 : Int32} {z : Int32 × Mm} {k i j : Nat} (m1000_0s48 : ¬ (k = 1000 ∧ i = 0 ∧ j = 48)) (m1000_0s33 : ¬ (k = 1000 ∧ i = 0 ∧ j = 33)) (m1000_0s34 : ¬ (k = 1000 ∧ i = 0 ∧ j = 34)) (m1000_0s35 : ¬ (k = 1000 ∧ i = 0 ∧ j = 35)) (m1000_0s31 : ¬ (k = 1000 ∧ i = 0 ∧ j = 31)) (m1000_0s32 : ¬ (k = 1000 ∧ i = 0 ∧ j = 32)) (m1030_0 : ¬ (k = 1030 ∧ i = 0)) (m1028_0 : ¬ (k = 1028 ∧ i = 0)) (m1029_0 : ¬ (k = 1029 ∧ i = 0)) (m1031_0 : ¬ (k = 1031 ∧ i = 0)) (m1000_0s36 : ¬ (k = 1000 ∧ i = 0 ∧ j = 36)) (m1038_0 : ¬ (k = 1038 ∧ i = 0)) (m1039_0 : ¬ (k = 1039 ∧ i = 0)) (m1040_0 : ¬ (k = 1040 ∧ i = 0)) (m1041_0 : ¬ (k = 1041 ∧ i = 0)) (m1050_0 : ¬ (k = 1050 ∧ i = 0)) (m1051_0 : ¬ (k = 1051 ∧ i = 0)) (m1052_0 : ¬ (k = 1052 ∧ i = 0)) (m1053_0 : ¬ (k = 1053 ∧ i = 0)) (m1054_0 : ¬ (k = 1054 ∧ i = 0)) (hf : f_X10_slowest F μ p1 = some z) : sm μ z.2 k i j := by
  unfold f_X10_slowest at hf
  have hs : sm μ μ k i j := ⟨rfl, rfl⟩
  obtain ⟨q34, e36, hf⟩ := ob hf
  rcases oi hf with hf | hf
  · obtain rfl := Option.some.inj hf
    exact hs
  · obtain ⟨v37, e39, hf⟩ := ob hf
    obtain ⟨q40, e42, hf⟩ := ob hf
    replace hs := hs.trans (fr_X10_repeats m1000_0s48 m1000_0s33 m1000_0s34 m1000_0s35 m1000_0s31 m1000_0s32 m1030_0 m1028_0 m1029_0 m1031_0 m1000_0s36 m1038_0 m1039_0 m1040_0 m1041_0 m1050_0 m1051_0 m1052_0 m1053_0 m1054_0 e42)
    exact hs.trans (frb_X10_slowest_24 _ _ _ _ _ hf)

theorem frb_X10_period_86 {F : Nat} {z : Int32 × Mm} {k i j : Nat} : ∀ (N : Nat) (μ : Mm) (a2 : Int32) (a4 : Int32) (a5 : Int32), f_X10_period_b86 F N μ a2 a4 a5 = some z → sm μ z.2 k i j := by
  intro N
  induction N with
  | zero => intro μ a2 a4 a5 hf; cases hf
  | succ N ih =>
    intro μ a2 a4 a5 hf
    rw [f_X10_period_b86] at hf
    have hs : sm μ μ k i j := ⟨rfl, rfl⟩
    rcases oi hf with hf | hf
    · rcases oi hf with hf | hf
      · obtain rfl := Option.some.inj hf
        exact hs
      · obtain ⟨q31, e33, hf⟩ := ob hf
        obtain rfl := Option.some.inj hf
        exact hs
    · obtain ⟨q34, e36, hf⟩ := ob hf
      obtain ⟨q37, e39, hf⟩ := ob hf
      rcases oi hf with hf | hf
      · exact hs.trans (ih _ _ _ _ hf)
      · exact hs.trans (ih _ _ _ _ hf)
theorem fr_X10_period {F : Nat} {μ : Mm} {p1 : Int32} {p2 : Int32} {z : Int32 × Mm} {k i j : Nat} (m1000_0s33 : ¬ (k = 1000 ∧ i = 0 ∧ j = 33)) (m1000_0s34 : ¬ (k = 1000 ∧ i = 0 ∧ j = 34)) (m1000_0s35 : ¬ (k = 1000 ∧ i = 0 ∧ j = 35)) (m1000_0s31 : ¬ (k = 1000 ∧ i = 0 ∧ j = 31)) (m1000_0s32 : ¬ (k = 1000 ∧ i = 0 ∧ j = 32)) (m1030_0 : ¬ (k = 1030 ∧ i = 0)) (m1028_0 : ¬ (k = 1028 ∧ i = 0)) (m1029_0 : ¬ (k = 1029 ∧ i = 0)) (m1031_0 : ¬ (k = 1031 ∧ i = 0)) (m1000_0s36 : ¬ (k = 1000 ∧ i = 0 ∧ j = 36)) (m1038_0 : ¬ (k = 1038 ∧ i = 0)) (m1039_0 : ¬ (k = 1039 ∧ i = 0)) (m1040_0 : ¬ (k = 1040 ∧ i = 0)) (m1041_0 : ¬ (k = 1041 ∧ i = 0)) (hf : f_X10_period F μ p1 p2 = some z) : sm μ z.2 k i j := by
  unfold f_X10_period at hf
  have hs : sm μ μ k i j := ⟨rfl, rfl⟩
  obtain ⟨q58, e60, hf⟩ := ob hf
  rcases oi hf with hf | hf
  · obtain rfl := Option.some.inj hf
    exact hs
  · obtain ⟨q61, e63, hf⟩ := ob hf
    rcases oi hf with hf | hf
    · obtain rfl := Option.some.inj hf
      exact hs
    · obtain ⟨q64, e66, hf⟩ := ob hf
      replace hs := hs.trans (fr_X10_seeks m1000_0s33 m1000_0s34 m1000_0s35 m1000_0s31 m1000_0s32 m1030_0 m1028_0 m1029_0 m1031_0 m1000_0s36 m1038_0 m1039_0 m1040_0 m1041_0 e66)
      rcases oi hf with hf | hf
      · obtain ⟨v67, e69, hf⟩ := ob hf
        obtain ⟨q70, e72, hf⟩ := ob hf
        obtain ⟨v73, e75, hf⟩ := ob hf
        obtain ⟨v76, e78, hf⟩ := ob hf
        obtain ⟨q79, e81, hf⟩ := ob hf
        obtain ⟨v82, e84, hf⟩ := ob hf
        rcases oi hf with hf | hf
        · exact hs.trans (frb_X10_period_86 _ _ _ _ _ hf)
        · exact hs.trans (frb_X10_period_86 _ _ _ _ _ hf)
      · obtain rfl := Option.some.inj hf
        exact hs

theorem frb_X10_differ_68 {F : Nat} {z : Int32 × Mm} {k i j : Nat} (m1000_0s0 : ¬ (k = 1000 ∧ i = 0 ∧ j = 0)) : ∀ (μ : Mm), f_X10_differ_b68 F μ = some z → sm μ z.2 k i j := by
  intro μ hf
  unfold f_X10_differ_b68 at hf
  have hs : sm μ μ k i j := ⟨rfl, rfl⟩
  obtain ⟨m37, e39, hf⟩ := ob hf
  replace hs := hs.trans (fr_wf m1000_0s0 e39)
  obtain rfl := Option.some.inj hf
  exact hs
theorem frb_X10_differ_98 {F : Nat} {z : Int32 × Mm} {k i j : Nat} (m1000_0s33 : ¬ (k = 1000 ∧ i = 0 ∧ j = 33)) (m1000_0s34 : ¬ (k = 1000 ∧ i = 0 ∧ j = 34)) (m1000_0s35 : ¬ (k = 1000 ∧ i = 0 ∧ j = 35)) (m1000_0s31 : ¬ (k = 1000 ∧ i = 0 ∧ j = 31)) (m1000_0s32 : ¬ (k = 1000 ∧ i = 0 ∧ j = 32)) (m1030_0 : ¬ (k = 1030 ∧ i = 0)) (m1028_0 : ¬ (k = 1028 ∧ i = 0)) (m1029_0 : ¬ (k = 1029 ∧ i = 0)) (m1031_0 : ¬ (k = 1031 ∧ i = 0)) : ∀ (N : Nat) (μ : Mm) (a1 : Int32) (a2 : Int32) (a3 : Int32) (a5 : Int32) (a6 : Int32), f_X10_differ_b98 F N μ a1 a2 a3 a5 a6 = some z → sm μ z.2 k i j := by
  intro N
  induction N with
  | zero => intro μ a1 a2 a3 a5 a6 hf; cases hf
  | succ N ih =>
    intro μ a1 a2 a3 a5 a6 hf
    rw [f_X10_differ_b98] at hf
    have hs : sm μ μ k i j := ⟨rfl, rfl⟩
    rcases oi hf with hf | hf
    · obtain ⟨v54, e56, hf⟩ := ob hf
      obtain ⟨v57, e59, hf⟩ := ob hf
      obtain ⟨v60, e62, hf⟩ := ob hf
      obtain ⟨q63, e65, hf⟩ := ob hf
      replace hs := hs.trans (fr_X10_starts m1000_0s33 m1000_0s34 m1000_0s35 m1000_0s31 m1000_0s32 m1030_0 m1028_0 m1029_0 e65)
      obtain ⟨q66, e68, hf⟩ := ob hf
      replace hs := hs.trans (fr_X10_summed m1028_0 m1000_0s31 m1029_0 m1030_0 m1000_0s32 e68)
      obtain rfl := Option.some.inj hf
      exact hs
    · obtain ⟨v69, e71, hf⟩ := ob hf
      obtain ⟨m72, e74, hf⟩ := ob hf
      replace hs := hs.trans (fr_wa m1031_0 e74)
      exact hs.trans (ih _ _ _ _ _ _ hf)
theorem frb_X10_differ_75 {F : Nat} {z : Int32 × Mm} {k i j : Nat} (m1000_0s33 : ¬ (k = 1000 ∧ i = 0 ∧ j = 33)) (m1000_0s34 : ¬ (k = 1000 ∧ i = 0 ∧ j = 34)) (m1000_0s35 : ¬ (k = 1000 ∧ i = 0 ∧ j = 35)) (m1000_0s31 : ¬ (k = 1000 ∧ i = 0 ∧ j = 31)) (m1000_0s32 : ¬ (k = 1000 ∧ i = 0 ∧ j = 32)) (m1030_0 : ¬ (k = 1030 ∧ i = 0)) (m1028_0 : ¬ (k = 1028 ∧ i = 0)) (m1029_0 : ¬ (k = 1029 ∧ i = 0)) (m1031_0 : ¬ (k = 1031 ∧ i = 0)) (m1000_0s0 : ¬ (k = 1000 ∧ i = 0 ∧ j = 0)) : ∀ (μ : Mm) (a1 : Int32) (a2 : Int32) (a3 : Int32) (a4 : Int32), f_X10_differ_b75 F μ a1 a2 a3 a4 = some z → sm μ z.2 k i j := by
  intro μ a1 a2 a3 a4 hf
  unfold f_X10_differ_b75 at hf
  have hs : sm μ μ k i j := ⟨rfl, rfl⟩
  rcases oi hf with hf | hf
  · obtain ⟨m82, e84, hf⟩ := ob hf
    replace hs := hs.trans (fr_wf m1000_0s0 e84)
    obtain rfl := Option.some.inj hf
    exact hs
  · obtain ⟨q79, e81, hf⟩ := ob hf
    replace hs := hs.trans (fr_X10_sum m1000_0s33 m1000_0s34 m1000_0s35 m1000_0s31 m1000_0s32 m1030_0 m1028_0 m1029_0 m1031_0 e81)
    exact hs.trans (frb_X10_differ_98 m1000_0s33 m1000_0s34 m1000_0s35 m1000_0s31 m1000_0s32 m1030_0 m1028_0 m1029_0 m1031_0 _ _ _ _ _ _ _ hf)
theorem frb_X10_differ_27 {F : Nat} {z : Int32 × Mm} {k i j : Nat} (m1000_0s0 : ¬ (k = 1000 ∧ i = 0 ∧ j = 0)) (m1000_0s33 : ¬ (k = 1000 ∧ i = 0 ∧ j = 33)) (m1000_0s34 : ¬ (k = 1000 ∧ i = 0 ∧ j = 34)) (m1000_0s35 : ¬ (k = 1000 ∧ i = 0 ∧ j = 35)) (m1000_0s31 : ¬ (k = 1000 ∧ i = 0 ∧ j = 31)) (m1000_0s32 : ¬ (k = 1000 ∧ i = 0 ∧ j = 32)) (m1030_0 : ¬ (k = 1030 ∧ i = 0)) (m1028_0 : ¬ (k = 1028 ∧ i = 0)) (m1029_0 : ¬ (k = 1029 ∧ i = 0)) (m1031_0 : ¬ (k = 1031 ∧ i = 0)) : ∀ (μ : Mm) (a1 : Int32) (a2 : Int32) (a3 : Int32) (s0 : Int32), f_X10_differ_b27 F μ a1 a2 a3 s0 = some z → sm μ z.2 k i j := by
  intro μ a1 a2 a3 s0 hf
  unfold f_X10_differ_b27 at hf
  have hs : sm μ μ k i j := ⟨rfl, rfl⟩
  obtain ⟨q93, e95, hf⟩ := ob hf
  rcases oi hf with hf | hf
  · exact hs.trans (frb_X10_differ_68 m1000_0s0 _ hf)
  · obtain ⟨q96, e98, hf⟩ := ob hf
    rcases oi hf with hf | hf
    · exact hs.trans (frb_X10_differ_68 m1000_0s0 _ hf)
    · obtain ⟨q99, e101, hf⟩ := ob hf
      rcases oi hf with hf | hf
      · exact hs.trans (frb_X10_differ_68 m1000_0s0 _ hf)
      · rcases oi hf with hf | hf
        · exact hs.trans (frb_X10_differ_75 m1000_0s33 m1000_0s34 m1000_0s35 m1000_0s31 m1000_0s32 m1030_0 m1028_0 m1029_0 m1031_0 m1000_0s0 _ _ _ _ _ hf)
        · obtain ⟨v102, e104, hf⟩ := ob hf
          rcases oi hf with hf | hf
          · exact hs.trans (frb_X10_differ_75 m1000_0s33 m1000_0s34 m1000_0s35 m1000_0s31 m1000_0s32 m1030_0 m1028_0 m1029_0 m1031_0 m1000_0s0 _ _ _ _ _ hf)
          · exact hs.trans (frb_X10_differ_68 m1000_0s0 _ hf)
theorem fr_X10_differ {F : Nat} {μ : Mm} {p1 : Int32} {p2 : Int32} {p3 : Int32} {z : Int32 × Mm} {k i j : Nat} (m1000_0s0 : ¬ (k = 1000 ∧ i = 0 ∧ j = 0)) (m1000_0s33 : ¬ (k = 1000 ∧ i = 0 ∧ j = 33)) (m1000_0s34 : ¬ (k = 1000 ∧ i = 0 ∧ j = 34)) (m1000_0s35 : ¬ (k = 1000 ∧ i = 0 ∧ j = 35)) (m1000_0s31 : ¬ (k = 1000 ∧ i = 0 ∧ j = 31)) (m1000_0s32 : ¬ (k = 1000 ∧ i = 0 ∧ j = 32)) (m1030_0 : ¬ (k = 1030 ∧ i = 0)) (m1028_0 : ¬ (k = 1028 ∧ i = 0)) (m1029_0 : ¬ (k = 1029 ∧ i = 0)) (m1031_0 : ¬ (k = 1031 ∧ i = 0)) (hf : f_X10_differ F μ p1 p2 p3 = some z) : sm μ z.2 k i j := by
  unfold f_X10_differ at hf
  have hs : sm μ μ k i j := ⟨rfl, rfl⟩
  obtain ⟨m111, e113, hf⟩ := ob hf
  replace hs := hs.trans (fr_wf m1000_0s0 e113)
  obtain ⟨q114, e116, hf⟩ := ob hf
  rcases oi hf with hf | hf
  · exact hs.trans (frb_X10_differ_27 m1000_0s0 m1000_0s33 m1000_0s34 m1000_0s35 m1000_0s31 m1000_0s32 m1030_0 m1028_0 m1029_0 m1031_0 _ _ _ _ _ hf)
  · obtain ⟨v117, e119, hf⟩ := ob hf
    rcases oi hf with hf | hf
    · exact hs.trans (frb_X10_differ_27 m1000_0s0 m1000_0s33 m1000_0s34 m1000_0s35 m1000_0s31 m1000_0s32 m1030_0 m1028_0 m1029_0 m1031_0 _ _ _ _ _ hf)
    · exact hs.trans (frb_X10_differ_27 m1000_0s0 m1000_0s33 m1000_0s34 m1000_0s35 m1000_0s31 m1000_0s32 m1030_0 m1028_0 m1029_0 m1031_0 _ _ _ _ _ hf)

theorem frb_X10_play_73 {F : Nat} {K64 : Mm → Int32 → Int32 → Int32 → Int32 → Int32 → Option (Int32 × Mm)} {z : Int32 × Mm} {k i j : Nat} (m1000_0s33 : ¬ (k = 1000 ∧ i = 0 ∧ j = 33)) (m1000_0s34 : ¬ (k = 1000 ∧ i = 0 ∧ j = 34)) (m1000_0s35 : ¬ (k = 1000 ∧ i = 0 ∧ j = 35)) (m1000_0s31 : ¬ (k = 1000 ∧ i = 0 ∧ j = 31)) (m1000_0s32 : ¬ (k = 1000 ∧ i = 0 ∧ j = 32)) (m1030_0 : ¬ (k = 1030 ∧ i = 0)) (m1028_0 : ¬ (k = 1028 ∧ i = 0)) (m1029_0 : ¬ (k = 1029 ∧ i = 0)) (m1031_0 : ¬ (k = 1031 ∧ i = 0)) (m1009_0 : ¬ (k = 1009 ∧ i = 0)) (m1010_0 : ¬ (k = 1010 ∧ i = 0)) (m1011_0 : ¬ (k = 1011 ∧ i = 0)) (m1012_0 : ¬ (k = 1012 ∧ i = 0)) (m1008_0 : ¬ (k = 1008 ∧ i = 0)) (m1000_0s17 : ¬ (k = 1000 ∧ i = 0 ∧ j = 17)) (m1000_0s18 : ¬ (k = 1000 ∧ i = 0 ∧ j = 18)) (hK64 : ∀ (μ : Mm) (a1 : Int32) (a2 : Int32) (a3 : Int32) (a4 : Int32) (a5 : Int32), K64 μ a1 a2 a3 a4 a5 = some z → sm μ z.2 k i j) : ∀ (N : Nat) (μ : Mm) (a1 : Int32) (a2 : Int32) (a3 : Int32) (a4 : Int32) (a5 : Int32) (a6 : Int32), f_X10_play_b73 F K64 N μ a1 a2 a3 a4 a5 a6 = some z → sm μ z.2 k i j := by
  intro N
  induction N with
  | zero => intro μ a1 a2 a3 a4 a5 a6 hf; cases hf
  | succ N ih =>
    intro μ a1 a2 a3 a4 a5 a6 hf
    rw [f_X10_play_b73] at hf
    have hs : sm μ μ k i j := ⟨rfl, rfl⟩
    rcases oi hf with hf | hf
    · obtain ⟨v47, e49, hf⟩ := ob hf
      obtain ⟨v50, e52, hf⟩ := ob hf
      obtain ⟨v53, e55, hf⟩ := ob hf
      obtain ⟨v56, e58, hf⟩ := ob hf
      obtain ⟨q59, e61, hf⟩ := ob hf
      replace hs := hs.trans (fr_X10_comes m1000_0s33 m1000_0s34 m1000_0s35 m1000_0s31 m1000_0s32 m1030_0 m1028_0 m1029_0 m1031_0 m1009_0 m1010_0 m1011_0 m1012_0 m1008_0 e61)
      rcases oi hf with hf | hf
      · exact hs.trans (hK64 _ _ _ _ _ _ hf)
      · obtain ⟨m62, e64, hf⟩ := ob hf
        replace hs := hs.trans (fr_wf m1000_0s17 e64)
        obtain rfl := Option.some.inj hf
        exact hs
    · obtain ⟨q65, e67, hf⟩ := ob hf
      rcases oi hf with hf | hf
      · obtain ⟨q68, e70, hf⟩ := ob hf
        replace hs := hs.trans (fr_X10_refuse m1000_0s18 e70)
        obtain rfl := Option.some.inj hf
        exact hs
      · exact hs.trans (ih _ _ _ _ _ _ _ hf)
theorem frb_X10_play_64 {F : Nat} {z : Int32 × Mm} {k i j : Nat} (m1000_0s33 : ¬ (k = 1000 ∧ i = 0 ∧ j = 33)) (m1000_0s34 : ¬ (k = 1000 ∧ i = 0 ∧ j = 34)) (m1000_0s35 : ¬ (k = 1000 ∧ i = 0 ∧ j = 35)) (m1000_0s31 : ¬ (k = 1000 ∧ i = 0 ∧ j = 31)) (m1000_0s32 : ¬ (k = 1000 ∧ i = 0 ∧ j = 32)) (m1030_0 : ¬ (k = 1030 ∧ i = 0)) (m1028_0 : ¬ (k = 1028 ∧ i = 0)) (m1029_0 : ¬ (k = 1029 ∧ i = 0)) (m1031_0 : ¬ (k = 1031 ∧ i = 0)) (m1009_0 : ¬ (k = 1009 ∧ i = 0)) (m1010_0 : ¬ (k = 1010 ∧ i = 0)) (m1011_0 : ¬ (k = 1011 ∧ i = 0)) (m1012_0 : ¬ (k = 1012 ∧ i = 0)) (m1008_0 : ¬ (k = 1008 ∧ i = 0)) (m1000_0s17 : ¬ (k = 1000 ∧ i = 0 ∧ j = 17)) (m1000_0s18 : ¬ (k = 1000 ∧ i = 0 ∧ j = 18)) : ∀ (N : Nat) (μ : Mm) (a1 : Int32) (a2 : Int32) (a3 : Int32) (a4 : Int32) (a5 : Int32), f_X10_play_b64 F N μ a1 a2 a3 a4 a5 = some z → sm μ z.2 k i j := by
  intro N
  induction N with
  | zero => intro μ a1 a2 a3 a4 a5 hf; cases hf
  | succ N ih =>
    intro μ a1 a2 a3 a4 a5 hf
    rw [f_X10_play_b64] at hf
    have hs : sm μ μ k i j := ⟨rfl, rfl⟩
    rcases oi hf with hf | hf
    · obtain rfl := Option.some.inj hf
      exact hs
    · exact hs.trans (frb_X10_play_73 m1000_0s33 m1000_0s34 m1000_0s35 m1000_0s31 m1000_0s32 m1030_0 m1028_0 m1029_0 m1031_0 m1009_0 m1010_0 m1011_0 m1012_0 m1008_0 m1000_0s17 m1000_0s18 ih _ _ _ _ _ _ _ _ hf)
theorem fr_X10_play {F : Nat} {μ : Mm} {p1 : Int32} {p2 : Int32} {p3 : Int32} {p4 : Int32} {z : Int32 × Mm} {k i j : Nat} (m1000_0s33 : ¬ (k = 1000 ∧ i = 0 ∧ j = 33)) (m1000_0s34 : ¬ (k = 1000 ∧ i = 0 ∧ j = 34)) (m1000_0s35 : ¬ (k = 1000 ∧ i = 0 ∧ j = 35)) (m1000_0s31 : ¬ (k = 1000 ∧ i = 0 ∧ j = 31)) (m1000_0s32 : ¬ (k = 1000 ∧ i = 0 ∧ j = 32)) (m1030_0 : ¬ (k = 1030 ∧ i = 0)) (m1028_0 : ¬ (k = 1028 ∧ i = 0)) (m1029_0 : ¬ (k = 1029 ∧ i = 0)) (m1031_0 : ¬ (k = 1031 ∧ i = 0)) (m1009_0 : ¬ (k = 1009 ∧ i = 0)) (m1010_0 : ¬ (k = 1010 ∧ i = 0)) (m1011_0 : ¬ (k = 1011 ∧ i = 0)) (m1012_0 : ¬ (k = 1012 ∧ i = 0)) (m1008_0 : ¬ (k = 1008 ∧ i = 0)) (m1000_0s17 : ¬ (k = 1000 ∧ i = 0 ∧ j = 17)) (m1000_0s18 : ¬ (k = 1000 ∧ i = 0 ∧ j = 18)) (hf : f_X10_play F μ p1 p2 p3 p4 = some z) : sm μ z.2 k i j := by
  unfold f_X10_play at hf
  have hs : sm μ μ k i j := ⟨rfl, rfl⟩
  obtain ⟨q85, e87, hf⟩ := ob hf
  rcases oi hf with hf | hf
  · obtain rfl := Option.some.inj hf
    exact hs
  · obtain ⟨q88, e90, hf⟩ := ob hf
    rcases oi hf with hf | hf
    · obtain rfl := Option.some.inj hf
      exact hs
    · obtain ⟨q91, e93, hf⟩ := ob hf
      rcases oi hf with hf | hf
      · obtain rfl := Option.some.inj hf
        exact hs
      · obtain ⟨v94, e96, hf⟩ := ob hf
        rcases oi hf with hf | hf
        · obtain ⟨q103, e105, hf⟩ := ob hf
          replace hs := hs.trans (fr_X10_refuse m1000_0s18 e105)
          obtain rfl := Option.some.inj hf
          exact hs
        · obtain ⟨v97, e99, hf⟩ := ob hf
          rcases oi hf with hf | hf
          · exact hs.trans (frb_X10_play_64 m1000_0s33 m1000_0s34 m1000_0s35 m1000_0s31 m1000_0s32 m1030_0 m1028_0 m1029_0 m1031_0 m1009_0 m1010_0 m1011_0 m1012_0 m1008_0 m1000_0s17 m1000_0s18 _ _ _ _ _ _ _ hf)
          · obtain ⟨q100, e102, hf⟩ := ob hf
            replace hs := hs.trans (fr_X10_refuse m1000_0s18 e102)
            obtain rfl := Option.some.inj hf
            exact hs

theorem frb_X0_judgeBlocks_3 {F : Nat} {z : Mm} {k i j : Nat} (m2_0 : ¬ (k = 2 ∧ i = 0)) (m0_0s3 : ¬ (k = 0 ∧ i = 0 ∧ j = 3)) (m1_0 : ¬ (k = 1 ∧ i = 0)) (m0_0s2 : ¬ (k = 0 ∧ i = 0 ∧ j = 2)) : ∀ (N : Nat) (μ : Mm) (a1 : Nat) (a2 : Int32) (a3 : Int32) (a4 : Int32), f_X0_judgeBlocks_b3 F N μ a1 a2 a3 a4 = some z → sm μ z k i j := by
  intro N
  induction N with
  | zero => intro μ a1 a2 a3 a4 hf; cases hf
  | succ N ih =>
    intro μ a1 a2 a3 a4 hf
    rw [f_X0_judgeBlocks_b3] at hf
    have hs : sm μ μ k i j := ⟨rfl, rfl⟩
    rcases oi hf with hf | hf
    · obtain rfl := Option.some.inj hf
      exact hs
    · obtain ⟨q17, e19, hf⟩ := ob hf
      rcases oi hf with hf | hf
      · exact hs.trans (ih _ _ _ _ _ hf)
      · obtain ⟨q20, e22, hf⟩ := ob hf
        obtain ⟨q23, e25, hf⟩ := ob hf
        obtain ⟨q26, e28, hf⟩ := ob hf
        replace hs := hs.trans (fr_X0_judgeSpan m2_0 m0_0s3 m1_0 m0_0s2 e28)
        exact hs.trans (ih _ _ _ _ _ hf)
theorem fr_X0_judgeBlocks {F : Nat} {μ : Mm} {n1 : Nat} {p2 : Int32} {p3 : Int32} {z : Mm} {k i j : Nat} (m2_0 : ¬ (k = 2 ∧ i = 0)) (m0_0s3 : ¬ (k = 0 ∧ i = 0 ∧ j = 3)) (m1_0 : ¬ (k = 1 ∧ i = 0)) (m0_0s2 : ¬ (k = 0 ∧ i = 0 ∧ j = 2)) (hf : f_X0_judgeBlocks F μ n1 p2 p3 = some z) : sm μ z k i j := by
  unfold f_X0_judgeBlocks at hf
  have hs : sm μ μ k i j := ⟨rfl, rfl⟩
  exact hs.trans (frb_X0_judgeBlocks_3 m2_0 m0_0s3 m1_0 m0_0s2 _ _ _ _ _ _ hf)

theorem frb_X0_judgeLocks_3 {F : Nat} {z : Mm} {k i j : Nat} (m2_0 : ¬ (k = 2 ∧ i = 0)) (m0_0s3 : ¬ (k = 0 ∧ i = 0 ∧ j = 3)) (m1_0 : ¬ (k = 1 ∧ i = 0)) (m0_0s2 : ¬ (k = 0 ∧ i = 0 ∧ j = 2)) : ∀ (N : Nat) (μ : Mm) (a1 : Nat) (a2 : Int32) (a3 : Int32) (a4 : Int32), f_X0_judgeLocks_b3 F N μ a1 a2 a3 a4 = some z → sm μ z k i j := by
  intro N
  induction N with
  | zero => intro μ a1 a2 a3 a4 hf; cases hf
  | succ N ih =>
    intro μ a1 a2 a3 a4 hf
    rw [f_X0_judgeLocks_b3] at hf
    have hs : sm μ μ k i j := ⟨rfl, rfl⟩
    rcases oi hf with hf | hf
    · obtain rfl := Option.some.inj hf
      exact hs
    · obtain ⟨q13, e15, hf⟩ := ob hf
      rcases oi hf with hf | hf
      · exact hs.trans (ih _ _ _ _ _ hf)
      · obtain ⟨q16, e18, hf⟩ := ob hf
        obtain ⟨q19, e21, hf⟩ := ob hf
        replace hs := hs.trans (fr_X0_judgeSpan m2_0 m0_0s3 m1_0 m0_0s2 e21)
        exact hs.trans (ih _ _ _ _ _ hf)
theorem fr_X0_judgeLocks {F : Nat} {μ : Mm} {n1 : Nat} {p2 : Int32} {p3 : Int32} {z : Mm} {k i j : Nat} (m2_0 : ¬ (k = 2 ∧ i = 0)) (m0_0s3 : ¬ (k = 0 ∧ i = 0 ∧ j = 3)) (m1_0 : ¬ (k = 1 ∧ i = 0)) (m0_0s2 : ¬ (k = 0 ∧ i = 0 ∧ j = 2)) (hf : f_X0_judgeLocks F μ n1 p2 p3 = some z) : sm μ z k i j := by
  unfold f_X0_judgeLocks at hf
  have hs : sm μ μ k i j := ⟨rfl, rfl⟩
  exact hs.trans (frb_X0_judgeLocks_3 m2_0 m0_0s3 m1_0 m0_0s2 _ _ _ _ _ _ hf)

theorem frb_X0_judgeIdle_6 {F : Nat} {z : Mm} {k i j : Nat} (m401_21 : ¬ (k = 401 ∧ i = 21)) (m400_21s3 : ¬ (k = 400 ∧ i = 21 ∧ j = 3)) (m402_21 : ¬ (k = 402 ∧ i = 21)) (m403_21 : ¬ (k = 403 ∧ i = 21)) (m400_21s4 : ¬ (k = 400 ∧ i = 21 ∧ j = 4)) (m800_0s1 : ¬ (k = 800 ∧ i = 0 ∧ j = 1)) (m800_0s2 : ¬ (k = 800 ∧ i = 0 ∧ j = 2)) (m1_0 : ¬ (k = 1 ∧ i = 0)) (m0_0s2 : ¬ (k = 0 ∧ i = 0 ∧ j = 2)) : ∀ (N : Nat) (μ : Mm) (a1 : Nat) (a3 : Int32), f_X0_judgeIdle_b6 F N μ a1 a3 = some z → sm μ z k i j := by
  intro N
  induction N with
  | zero => intro μ a1 a3 hf; cases hf
  | succ N ih =>
    intro μ a1 a3 hf
    rw [f_X0_judgeIdle_b6] at hf
    have hs : sm μ μ k i j := ⟨rfl, rfl⟩
    rcases oi hf with hf | hf
    · obtain rfl := Option.some.inj hf
      exact hs
    · obtain ⟨q19, e21, hf⟩ := ob hf
      replace hs := hs.trans (fr_X8_step m401_21 m400_21s3 m402_21 m403_21 m400_21s4 m800_0s1 m800_0s2 e21)
      obtain ⟨q22, e24, hf⟩ := ob hf
      rcases oi hf with hf | hf
      · exact hs.trans (ih _ _ _ hf)
      · obtain ⟨q25, e27, hf⟩ := ob hf
        obtain ⟨q28, e30, hf⟩ := ob hf
        replace hs := hs.trans (fr_X0_addSure m1_0 m0_0s2 e30)
        exact hs.trans (ih _ _ _ hf)
theorem fr_X0_judgeIdle {F : Nat} {μ : Mm} {n1 : Nat} {z : Mm} {k i j : Nat} (m401_21 : ¬ (k = 401 ∧ i = 21)) (m403_21 : ¬ (k = 403 ∧ i = 21)) (m400_21s3 : ¬ (k = 400 ∧ i = 21 ∧ j = 3)) (m400_21s4 : ¬ (k = 400 ∧ i = 21 ∧ j = 4)) (m800_0s1 : ¬ (k = 800 ∧ i = 0 ∧ j = 1)) (m800_0s2 : ¬ (k = 800 ∧ i = 0 ∧ j = 2)) (m402_21 : ¬ (k = 402 ∧ i = 21)) (m1_0 : ¬ (k = 1 ∧ i = 0)) (m0_0s2 : ¬ (k = 0 ∧ i = 0 ∧ j = 2)) (hf : f_X0_judgeIdle F μ n1 = some z) : sm μ z k i j := by
  unfold f_X0_judgeIdle at hf
  have hs : sm μ μ k i j := ⟨rfl, rfl⟩
  obtain ⟨q33, e35, hf⟩ := ob hf
  replace hs := hs.trans (fr_X8_start m401_21 m403_21 m400_21s3 m400_21s4 m800_0s1 m800_0s2 e35)
  exact hs.trans (frb_X0_judgeIdle_6 m401_21 m400_21s3 m402_21 m403_21 m400_21s4 m800_0s1 m800_0s2 m1_0 m0_0s2 _ _ _ _ hf)

theorem frb_X1_meet_46 {z : Mm} {k i j : Nat} (m101_0 : ¬ (k = 101 ∧ i = 0)) (m102_0 : ¬ (k = 102 ∧ i = 0)) (m103_0 : ¬ (k = 103 ∧ i = 0)) (m104_0 : ¬ (k = 104 ∧ i = 0)) (m105_0 : ¬ (k = 105 ∧ i = 0)) (m106_0 : ¬ (k = 106 ∧ i = 0)) (m100_0s11 : ¬ (k = 100 ∧ i = 0 ∧ j = 11)) (m109_0 : ¬ (k = 109 ∧ i = 0)) : ∀ (μ : Mm) (a1 : Nat) (a2 : Int32) (a3 : Int32), f_X1_meet_b46 μ a1 a2 a3 = some z → sm μ z k i j := by
  intro μ a1 a2 a3 hf
  unfold f_X1_meet_b46 at hf
  have hs : sm μ μ k i j := ⟨rfl, rfl⟩
  obtain ⟨q23, e25, hf⟩ := ob hf
  rcases oi hf with hf | hf
  · obtain ⟨v26, e28, hf⟩ := ob hf
    rcases oi hf with hf | hf
    · obtain rfl := Option.some.inj hf
      exact hs
    · obtain ⟨q29, e31, hf⟩ := ob hf
      replace hs := hs.trans (fr_X1_close m101_0 m102_0 m103_0 m104_0 m105_0 m106_0 m100_0s11 m109_0 e31)
      obtain rfl := Option.some.inj hf
      exact hs
  · obtain rfl := Option.some.inj hf
    exact hs
theorem fr_X1_meet {μ : Mm} {n1 : Nat} {p2 : Int32} {z : Mm} {k i j : Nat} (m101_0 : ¬ (k = 101 ∧ i = 0)) (m102_0 : ¬ (k = 102 ∧ i = 0)) (m103_0 : ¬ (k = 103 ∧ i = 0)) (m104_0 : ¬ (k = 104 ∧ i = 0)) (m105_0 : ¬ (k = 105 ∧ i = 0)) (m106_0 : ¬ (k = 106 ∧ i = 0)) (m100_0s11 : ¬ (k = 100 ∧ i = 0 ∧ j = 11)) (m109_0 : ¬ (k = 109 ∧ i = 0)) (m110_0 : ¬ (k = 110 ∧ i = 0)) (m111_0 : ¬ (k = 111 ∧ i = 0)) (hf : f_X1_meet μ n1 p2 = some z) : sm μ z k i j := by
  unfold f_X1_meet at hf
  have hs : sm μ μ k i j := ⟨rfl, rfl⟩
  obtain ⟨q42, e44, hf⟩ := ob hf
  rcases oi hf with hf | hf
  · obtain rfl := Option.some.inj hf
    exact hs
  · rcases oi hf with hf | hf
    · obtain ⟨q45, e47, hf⟩ := ob hf
      rcases oi hf with hf | hf
      · obtain ⟨m48, e50, hf⟩ := ob hf
        replace hs := hs.trans (fr_wa m109_0 e50)
        obtain ⟨m51, e53, hf⟩ := ob hf
        replace hs := hs.trans (fr_wa m110_0 e53)
        obtain ⟨m54, e56, hf⟩ := ob hf
        replace hs := hs.trans (fr_wa m111_0 e56)
        exact hs.trans (frb_X1_meet_46 m101_0 m102_0 m103_0 m104_0 m105_0 m106_0 m100_0s11 m109_0 _ _ _ _ hf)
      · exact hs.trans (frb_X1_meet_46 m101_0 m102_0 m103_0 m104_0 m105_0 m106_0 m100_0s11 m109_0 _ _ _ _ hf)
    · obtain rfl := Option.some.inj hf
      exact hs

theorem frb_X1_runJobs_6 {F : Nat} {z : Mm} {k i j : Nat} (m107_0 : ¬ (k = 107 ∧ i = 0)) (m108_0 : ¬ (k = 108 ∧ i = 0)) : ∀ (N : Nat) (μ : Mm) (a1 : Int32) (a3 : Int32) (a5 : Int32) (a6 : Int32), f_X1_runJobs_b6 F N μ a1 a3 a5 a6 = some z → sm μ z k i j := by
  intro N
  induction N with
  | zero => intro μ a1 a3 a5 a6 hf; cases hf
  | succ N ih =>
    intro μ a1 a3 a5 a6 hf
    rw [f_X1_runJobs_b6] at hf
    have hs : sm μ μ k i j := ⟨rfl, rfl⟩
    rcases oi hf with hf | hf
    · obtain rfl := Option.some.inj hf
      exact hs
    · rcases oi hf with hf | hf
      · obtain rfl := Option.some.inj hf
        exact hs
      · obtain ⟨q25, e27, hf⟩ := ob hf
        obtain ⟨q28, e30, hf⟩ := ob hf
        rcases oi hf with hf | hf
        · obtain rfl := Option.some.inj hf
          exact hs
        · obtain ⟨v31, e33, hf⟩ := ob hf
          obtain ⟨v34, e36, hf⟩ := ob hf
          obtain ⟨m37, e39, hf⟩ := ob hf
          replace hs := hs.trans (fr_wa m107_0 e39)
          obtain ⟨m40, e42, hf⟩ := ob hf
          replace hs := hs.trans (fr_wa m108_0 e42)
          exact hs.trans (ih _ _ _ _ _ hf)
theorem fr_X1_runJobs {F : Nat} {μ : Mm} {p1 : Int32} {p2 : Int32} {p3 : Int32} {z : Mm} {k i j : Nat} (m107_0 : ¬ (k = 107 ∧ i = 0)) (m108_0 : ¬ (k = 108 ∧ i = 0)) (hf : f_X1_runJobs F μ p1 p2 p3 = some z) : sm μ z k i j := by
  unfold f_X1_runJobs at hf
  have hs : sm μ μ k i j := ⟨rfl, rfl⟩
  exact hs.trans (frb_X1_runJobs_6 m107_0 m108_0 _ _ _ _ _ _ hf)

theorem fr_X2_add {μ : Mm} {i0 : Nat} {p1 : Int32} {p2 : Int32} {p3 : Int32} {p4 : Int32} {z : Mm} {k i j : Nat} (m201_i0 : ¬ (k = 201 ∧ i = i0)) (m202_i0 : ¬ (k = 202 ∧ i = i0)) (m203_i0 : ¬ (k = 203 ∧ i = i0)) (m204_i0 : ¬ (k = 204 ∧ i = i0)) (m200_i0s5 : ¬ (k = 200 ∧ i = i0 ∧ j = 5)) (m401_i0 : ¬ (k = 401 ∧ i = i0)) (m400_i0s3 : ¬ (k = 400 ∧ i = i0 ∧ j = 3)) (m402_i0 : ¬ (k = 402 ∧ i = i0)) (m403_i0 : ¬ (k = 403 ∧ i = i0)) (m400_i0s4 : ¬ (k = 400 ∧ i = i0 ∧ j = 4)) (hf : f_X2_add μ i0 p1 p2 p3 p4 = some z) : sm μ z k i j := by
  unfold f_X2_add at hf
  have hs : sm μ μ k i j := ⟨rfl, rfl⟩
  rcases oi hf with hf | hf
  · obtain rfl := Option.some.inj hf
    exact hs
  · rcases oi hf with hf | hf
    · obtain ⟨m25, e27, hf⟩ := ob hf
      replace hs := hs.trans (fr_wa m201_i0 e27)
      obtain ⟨m28, e30, hf⟩ := ob hf
      replace hs := hs.trans (fr_wa m202_i0 e30)
      obtain ⟨m31, e33, hf⟩ := ob hf
      replace hs := hs.trans (fr_wa m203_i0 e33)
      obtain ⟨m34, e36, hf⟩ := ob hf
      replace hs := hs.trans (fr_wa m204_i0 e36)
      obtain ⟨m37, e39, hf⟩ := ob hf
      replace hs := hs.trans (fr_wf m200_i0s5 e39)
      obtain ⟨q40, e42, hf⟩ := ob hf
      replace hs := hs.trans (fr_X4_apply m401_i0 m400_i0s3 m402_i0 m403_i0 m400_i0s4 e42)
      obtain rfl := Option.some.inj hf
      exact hs
    · obtain rfl := Option.some.inj hf
      exact hs

theorem frb_X5_join_107 {F : Nat} {z : Mm} {k i j : Nat} (m501_0 : ¬ (k = 501 ∧ i = 0)) : ∀ (N : Nat) (μ : Mm) (a2 : Int32), f_X5_join_b107 F N μ a2 = some z → sm μ z k i j := by
  intro N
  induction N with
  | zero => intro μ a2 hf; cases hf
  | succ N ih =>
    intro μ a2 hf
    rw [f_X5_join_b107] at hf
    have hs : sm μ μ k i j := ⟨rfl, rfl⟩
    rcases oi hf with hf | hf
    · obtain rfl := Option.some.inj hf
      exact hs
    · obtain ⟨q23, e25, hf⟩ := ob hf
      replace hs := hs.trans (fr_X5_joinThrough m501_0 e25)
      exact hs.trans (ih _ _ hf)
theorem frb_X5_join_32 {F : Nat} {z : Mm} {k i j : Nat} (m501_0 : ¬ (k = 501 ∧ i = 0)) : ∀ (N : Nat) (μ : Mm) (a1 : Nat) (a2 : Int32), f_X5_join_b32 F N μ a1 a2 = some z → sm μ z k i j := by
  intro N
  induction N with
  | zero => intro μ a1 a2 hf; cases hf
  | succ N ih =>
    intro μ a1 a2 hf
    rw [f_X5_join_b32] at hf
    have hs : sm μ μ k i j := ⟨rfl, rfl⟩
    rcases oi hf with hf | hf
    · exact hs.trans (frb_X5_join_107 m501_0 _ _ _ hf)
    · obtain ⟨q40, e42, hf⟩ := ob hf
      obtain ⟨q43, e45, hf⟩ := ob hf
      rcases oi hf with hf | hf
      · exact hs.trans (ih _ _ _ hf)
      · rcases oi hf with hf | hf
        · exact hs.trans (ih _ _ _ hf)
        · obtain ⟨q46, e48, hf⟩ := ob hf
          obtain ⟨q49, e51, hf⟩ := ob hf
          obtain ⟨q52, e54, hf⟩ := ob hf
          obtain ⟨q55, e57, hf⟩ := ob hf
          obtain ⟨q58, e60, hf⟩ := ob hf
          replace hs := hs.trans (fr_X5_raise m501_0 e60)
          exact hs.trans (ih _ _ _ hf)
theorem frb_X5_join_12 {F : Nat} {z : Mm} {k i j : Nat} (m501_0 : ¬ (k = 501 ∧ i = 0)) : ∀ (N : Nat) (μ : Mm) (a1 : Nat) (a2 : Int32), f_X5_join_b12 F N μ a1 a2 = some z → sm μ z k i j := by
  intro N
  induction N with
  | zero => intro μ a1 a2 hf; cases hf
  | succ N ih =>
    intro μ a1 a2 hf
    rw [f_X5_join_b12] at hf
    have hs : sm μ μ k i j := ⟨rfl, rfl⟩
    rcases oi hf with hf | hf
    · exact hs.trans (frb_X5_join_32 m501_0 _ _ _ _ hf)
    · obtain ⟨q63, e65, hf⟩ := ob hf
      replace hs := hs.trans (fr_X5_raise m501_0 e65)
      exact hs.trans (ih _ _ _ hf)
theorem fr_X5_join {F : Nat} {μ : Mm} {n1 : Nat} {z : Mm} {k i j : Nat} (m501_0 : ¬ (k = 501 ∧ i = 0)) (hf : f_X5_join F μ n1 = some z) : sm μ z k i j := by
  unfold f_X5_join at hf
  have hs : sm μ μ k i j := ⟨rfl, rfl⟩
  obtain ⟨q68, e70, hf⟩ := ob hf
  replace hs := hs.trans (fr_fillL m501_0 e70)
  exact hs.trans (frb_X5_join_12 m501_0 _ _ _ _ hf)

theorem fr_X9_sum {F : Nat} {μ : Mm} {p1 : Int32} {p2 : Int32} {z : Int32 × Mm} {k i j : Nat} (m401_21 : ¬ (k = 401 ∧ i = 21)) (m403_21 : ¬ (k = 403 ∧ i = 21)) (m400_21s3 : ¬ (k = 400 ∧ i = 21 ∧ j = 3)) (m400_21s4 : ¬ (k = 400 ∧ i = 21 ∧ j = 4)) (m800_0s1 : ¬ (k = 800 ∧ i = 0 ∧ j = 1)) (m800_0s2 : ¬ (k = 800 ∧ i = 0 ∧ j = 2)) (m402_21 : ¬ (k = 402 ∧ i = 21)) (hf : f_X9_sum F μ p1 p2 = some z) : sm μ z.2 k i j := by
  unfold f_X9_sum at hf
  have hs : sm μ μ k i j := ⟨rfl, rfl⟩
  obtain ⟨q13, e15, hf⟩ := ob hf
  rcases oi hf with hf | hf
  · obtain rfl := Option.some.inj hf
    exact hs
  · obtain ⟨q16, e18, hf⟩ := ob hf
    rcases oi hf with hf | hf
    · obtain rfl := Option.some.inj hf
      exact hs
    · obtain ⟨q19, e21, hf⟩ := ob hf
      replace hs := hs.trans (fr_X9_timeCountedAs m401_21 m403_21 m400_21s3 m400_21s4 m800_0s1 m800_0s2 m402_21 e21)
      obtain rfl := Option.some.inj hf
      exact hs

theorem fr_X9_findBreaks {F : Nat} {μ : Mm} {p1 : Int32} {z : Mm} {k i j : Nat} (m0_0s2 : ¬ (k = 0 ∧ i = 0 ∧ j = 2)) (m0_0s3 : ¬ (k = 0 ∧ i = 0 ∧ j = 3)) (m401_21 : ¬ (k = 401 ∧ i = 21)) (m403_21 : ¬ (k = 403 ∧ i = 21)) (m400_21s3 : ¬ (k = 400 ∧ i = 21 ∧ j = 3)) (m400_21s4 : ¬ (k = 400 ∧ i = 21 ∧ j = 4)) (m800_0s1 : ¬ (k = 800 ∧ i = 0 ∧ j = 1)) (m800_0s2 : ¬ (k = 800 ∧ i = 0 ∧ j = 2)) (m402_21 : ¬ (k = 402 ∧ i = 21)) (m1_0 : ¬ (k = 1 ∧ i = 0)) (m2_0 : ¬ (k = 2 ∧ i = 0)) (hf : f_X9_findBreaks F μ p1 = some z) : sm μ z k i j := by
  unfold f_X9_findBreaks at hf
  have hs : sm μ μ k i j := ⟨rfl, rfl⟩
  obtain ⟨q57, e59, hf⟩ := ob hf
  replace hs := hs.trans (fr_X0_forget m0_0s2 m0_0s3 e59)
  obtain ⟨q60, e62, hf⟩ := ob hf
  rcases oi hf with hf | hf
  · obtain rfl := Option.some.inj hf
    exact hs
  · obtain ⟨v63, e65, hf⟩ := ob hf
    obtain ⟨v66, e68, hf⟩ := ob hf
    obtain ⟨v69, e71, hf⟩ := ob hf
    rcases oi hf with hf | hf
    · obtain ⟨q72, e74, hf⟩ := ob hf
      obtain ⟨q75, e77, hf⟩ := ob hf
      replace hs := hs.trans (fr_X0_judgeBlocks m2_0 m0_0s3 m1_0 m0_0s2 e77)
      obtain rfl := Option.some.inj hf
      exact hs
    · rcases oi hf with hf | hf
      · obtain ⟨q78, e80, hf⟩ := ob hf
        obtain ⟨v81, e83, hf⟩ := ob hf
        obtain ⟨q84, e86, hf⟩ := ob hf
        replace hs := hs.trans (fr_X0_judgeLocks m2_0 m0_0s3 m1_0 m0_0s2 e86)
        obtain rfl := Option.some.inj hf
        exact hs
      · rcases oi hf with hf | hf
        · obtain ⟨q87, e89, hf⟩ := ob hf
          obtain ⟨q90, e92, hf⟩ := ob hf
          replace hs := hs.trans (fr_X0_judgeApart m2_0 m0_0s3 m1_0 m0_0s2 e92)
          obtain rfl := Option.some.inj hf
          exact hs
        · obtain ⟨q93, e95, hf⟩ := ob hf
          obtain ⟨q96, e98, hf⟩ := ob hf
          replace hs := hs.trans (fr_X0_judgeIdle m401_21 m403_21 m400_21s3 m400_21s4 m800_0s1 m800_0s2 m402_21 m1_0 m0_0s2 e98)
          obtain rfl := Option.some.inj hf
          exact hs

theorem fr_X9_agree {F : Nat} {μ : Mm} {z : Int32 × Mm} {k i j : Nat} (m501_0 : ¬ (k = 501 ∧ i = 0)) (hf : f_X9_agree F μ = some z) : sm μ z.2 k i j := by
  unfold f_X9_agree at hf
  have hs : sm μ μ k i j := ⟨rfl, rfl⟩
  obtain ⟨q9, e11, hf⟩ := ob hf
  replace hs := hs.trans (fr_X5_join m501_0 e11)
  obtain ⟨q12, e14, hf⟩ := ob hf
  rcases oi hf with hf | hf
  · obtain rfl := Option.some.inj hf
    exact hs
  · obtain rfl := Option.some.inj hf
    exact hs

theorem frb_X1_gather_19 {F : Nat} {z : Mm} {k i j : Nat} (m101_0 : ¬ (k = 101 ∧ i = 0)) (m102_0 : ¬ (k = 102 ∧ i = 0)) (m103_0 : ¬ (k = 103 ∧ i = 0)) (m104_0 : ¬ (k = 104 ∧ i = 0)) (m105_0 : ¬ (k = 105 ∧ i = 0)) (m106_0 : ¬ (k = 106 ∧ i = 0)) (m100_0s11 : ¬ (k = 100 ∧ i = 0 ∧ j = 11)) (m109_0 : ¬ (k = 109 ∧ i = 0)) (m110_0 : ¬ (k = 110 ∧ i = 0)) (m111_0 : ¬ (k = 111 ∧ i = 0)) (m401_21 : ¬ (k = 401 ∧ i = 21)) (m400_21s3 : ¬ (k = 400 ∧ i = 21 ∧ j = 3)) (m402_21 : ¬ (k = 402 ∧ i = 21)) (m403_21 : ¬ (k = 403 ∧ i = 21)) (m400_21s4 : ¬ (k = 400 ∧ i = 21 ∧ j = 4)) (m800_0s1 : ¬ (k = 800 ∧ i = 0 ∧ j = 1)) (m800_0s2 : ¬ (k = 800 ∧ i = 0 ∧ j = 2)) : ∀ (N : Nat) (μ : Mm) (a1 : Nat) (a3 : Int32), f_X1_gather_b19 F N μ a1 a3 = some z → sm μ z k i j := by
  intro N
  induction N with
  | zero => intro μ a1 a3 hf; cases hf
  | succ N ih =>
    intro μ a1 a3 hf
    rw [f_X1_gather_b19] at hf
    have hs : sm μ μ k i j := ⟨rfl, rfl⟩
    rcases oi hf with hf | hf
    · obtain rfl := Option.some.inj hf
      exact hs
    · obtain ⟨q23, e25, hf⟩ := ob hf
      replace hs := hs.trans (fr_X1_meet m101_0 m102_0 m103_0 m104_0 m105_0 m106_0 m100_0s11 m109_0 m110_0 m111_0 e25)
      obtain ⟨q26, e28, hf⟩ := ob hf
      replace hs := hs.trans (fr_X8_step m401_21 m400_21s3 m402_21 m403_21 m400_21s4 m800_0s1 m800_0s2 e28)
      rcases oi hf with hf | hf
      · obtain ⟨q29, e31, hf⟩ := ob hf
        replace hs := hs.trans (fr_X1_addStretch m110_0 m111_0 e31)
        exact hs.trans (ih _ _ _ hf)
      · obtain ⟨q32, e34, hf⟩ := ob hf
        replace hs := hs.trans (fr_fill m109_0 e34)
        exact hs.trans (ih _ _ _ hf)
theorem fr_X1_gather {F : Nat} {μ : Mm} {n1 : Nat} {z : Mm} {k i j : Nat} (m100_0s11 : ¬ (k = 100 ∧ i = 0 ∧ j = 11)) (m109_0 : ¬ (k = 109 ∧ i = 0)) (m401_21 : ¬ (k = 401 ∧ i = 21)) (m403_21 : ¬ (k = 403 ∧ i = 21)) (m400_21s3 : ¬ (k = 400 ∧ i = 21 ∧ j = 3)) (m400_21s4 : ¬ (k = 400 ∧ i = 21 ∧ j = 4)) (m800_0s1 : ¬ (k = 800 ∧ i = 0 ∧ j = 1)) (m800_0s2 : ¬ (k = 800 ∧ i = 0 ∧ j = 2)) (m101_0 : ¬ (k = 101 ∧ i = 0)) (m102_0 : ¬ (k = 102 ∧ i = 0)) (m103_0 : ¬ (k = 103 ∧ i = 0)) (m104_0 : ¬ (k = 104 ∧ i = 0)) (m105_0 : ¬ (k = 105 ∧ i = 0)) (m106_0 : ¬ (k = 106 ∧ i = 0)) (m110_0 : ¬ (k = 110 ∧ i = 0)) (m111_0 : ¬ (k = 111 ∧ i = 0)) (m402_21 : ¬ (k = 402 ∧ i = 21)) (hf : f_X1_gather F μ n1 = some z) : sm μ z k i j := by
  unfold f_X1_gather at hf
  have hs : sm μ μ k i j := ⟨rfl, rfl⟩
  obtain ⟨m41, e43, hf⟩ := ob hf
  replace hs := hs.trans (fr_wf m100_0s11 e43)
  obtain ⟨q44, e46, hf⟩ := ob hf
  replace hs := hs.trans (fr_fill m109_0 e46)
  obtain ⟨q47, e49, hf⟩ := ob hf
  replace hs := hs.trans (fr_X8_start m401_21 m403_21 m400_21s3 m400_21s4 m800_0s1 m800_0s2 e49)
  exact hs.trans (frb_X1_gather_19 m101_0 m102_0 m103_0 m104_0 m105_0 m106_0 m100_0s11 m109_0 m110_0 m111_0 m401_21 m400_21s3 m402_21 m403_21 m400_21s4 m800_0s1 m800_0s2 _ _ _ _ hf)

theorem frb_X1_rerun_120 {F : Nat} {K60 : Mm → Nat → Int32 → Option Mm} {z : Mm} {k i j : Nat} (m107_0 : ¬ (k = 107 ∧ i = 0)) (m108_0 : ¬ (k = 108 ∧ i = 0)) (hK60 : ∀ (μ : Mm) (a1 : Nat) (a4 : Int32), K60 μ a1 a4 = some z → sm μ z k i j) : ∀ (μ : Mm) (a1 : Nat) (a4 : Int32), f_X1_rerun_b120 F K60 μ a1 a4 = some z → sm μ z k i j := by
  intro μ a1 a4 hf
  unfold f_X1_rerun_b120 at hf
  have hs : sm μ μ k i j := ⟨rfl, rfl⟩
  obtain ⟨q33, e35, hf⟩ := ob hf
  obtain ⟨q36, e38, hf⟩ := ob hf
  obtain ⟨q39, e41, hf⟩ := ob hf
  replace hs := hs.trans (fr_X1_runJobs m107_0 m108_0 e41)
  exact hs.trans (hK60 _ _ _ hf)
theorem frb_X1_rerun_60 {F : Nat} {z : Mm} {k i j : Nat} (m401_21 : ¬ (k = 401 ∧ i = 21)) (m400_21s3 : ¬ (k = 400 ∧ i = 21 ∧ j = 3)) (m402_21 : ¬ (k = 402 ∧ i = 21)) (m403_21 : ¬ (k = 403 ∧ i = 21)) (m400_21s4 : ¬ (k = 400 ∧ i = 21 ∧ j = 4)) (m800_0s1 : ¬ (k = 800 ∧ i = 0 ∧ j = 1)) (m800_0s2 : ¬ (k = 800 ∧ i = 0 ∧ j = 2)) (m107_0 : ¬ (k = 107 ∧ i = 0)) (m108_0 : ¬ (k = 108 ∧ i = 0)) : ∀ (N : Nat) (μ : Mm) (a1 : Nat) (a4 : Int32), f_X1_rerun_b60 F N μ a1 a4 = some z → sm μ z k i j := by
  intro N
  induction N with
  | zero => intro μ a1 a4 hf; cases hf
  | succ N ih =>
    intro μ a1 a4 hf
    rw [f_X1_rerun_b60] at hf
    have hs : sm μ μ k i j := ⟨rfl, rfl⟩
    rcases oi hf with hf | hf
    · obtain rfl := Option.some.inj hf
      exact hs
    · obtain ⟨q52, e54, hf⟩ := ob hf
      replace hs := hs.trans (fr_X8_step m401_21 m400_21s3 m402_21 m403_21 m400_21s4 m800_0s1 m800_0s2 e54)
      rcases oi hf with hf | hf
      · obtain ⟨q61, e63, hf⟩ := ob hf
        obtain ⟨q64, e66, hf⟩ := ob hf
        replace hs := hs.trans (fr_X1_runJobs m107_0 m108_0 e66)
        exact hs.trans (ih _ _ _ hf)
      · obtain ⟨q55, e57, hf⟩ := ob hf
        rcases oi hf with hf | hf
        · exact hs.trans (frb_X1_rerun_120 m107_0 m108_0 ih _ _ _ hf)
        · obtain ⟨q58, e60, hf⟩ := ob hf
          rcases oi hf with hf | hf
          · exact hs.trans (frb_X1_rerun_120 m107_0 m108_0 ih _ _ _ hf)
          · exact hs.trans (ih _ _ _ hf)
theorem frb_X1_rerun_3 {F : Nat} {z : Mm} {k i j : Nat} (m401_21 : ¬ (k = 401 ∧ i = 21)) (m403_21 : ¬ (k = 403 ∧ i = 21)) (m400_21s3 : ¬ (k = 400 ∧ i = 21 ∧ j = 3)) (m400_21s4 : ¬ (k = 400 ∧ i = 21 ∧ j = 4)) (m800_0s1 : ¬ (k = 800 ∧ i = 0 ∧ j = 1)) (m800_0s2 : ¬ (k = 800 ∧ i = 0 ∧ j = 2)) (m402_21 : ¬ (k = 402 ∧ i = 21)) (m107_0 : ¬ (k = 107 ∧ i = 0)) (m108_0 : ¬ (k = 108 ∧ i = 0)) : ∀ (N : Nat) (μ : Mm) (a1 : Nat) (a4 : Int32), f_X1_rerun_b3 F N μ a1 a4 = some z → sm μ z k i j := by
  intro N
  induction N with
  | zero => intro μ a1 a4 hf; cases hf
  | succ N ih =>
    intro μ a1 a4 hf
    rw [f_X1_rerun_b3] at hf
    have hs : sm μ μ k i j := ⟨rfl, rfl⟩
    rcases oi hf with hf | hf
    · obtain ⟨q79, e81, hf⟩ := ob hf
      replace hs := hs.trans (fr_X8_start m401_21 m403_21 m400_21s3 m400_21s4 m800_0s1 m800_0s2 e81)
      exact hs.trans (frb_X1_rerun_60 m401_21 m400_21s3 m402_21 m403_21 m400_21s4 m800_0s1 m800_0s2 m107_0 m108_0 _ _ _ _ hf)
    · rcases oi hf with hf | hf
      · obtain ⟨q82, e84, hf⟩ := ob hf
        replace hs := hs.trans (fr_X8_start m401_21 m403_21 m400_21s3 m400_21s4 m800_0s1 m800_0s2 e84)
        exact hs.trans (frb_X1_rerun_60 m401_21 m400_21s3 m402_21 m403_21 m400_21s4 m800_0s1 m800_0s2 m107_0 m108_0 _ _ _ _ hf)
      · obtain ⟨v85, e87, hf⟩ := ob hf
        obtain ⟨m88, e90, hf⟩ := ob hf
        replace hs := hs.trans (fr_wa m107_0 e90)
        obtain ⟨v91, e93, hf⟩ := ob hf
        obtain ⟨m94, e96, hf⟩ := ob hf
        replace hs := hs.trans (fr_wa m108_0 e96)
        exact hs.trans (ih _ _ _ hf)
theorem fr_X1_rerun {F : Nat} {μ : Mm} {n1 : Nat} {z : Mm} {k i j : Nat} (m401_21 : ¬ (k = 401 ∧ i = 21)) (m403_21 : ¬ (k = 403 ∧ i = 21)) (m400_21s3 : ¬ (k = 400 ∧ i = 21 ∧ j = 3)) (m400_21s4 : ¬ (k = 400 ∧ i = 21 ∧ j = 4)) (m800_0s1 : ¬ (k = 800 ∧ i = 0 ∧ j = 1)) (m800_0s2 : ¬ (k = 800 ∧ i = 0 ∧ j = 2)) (m402_21 : ¬ (k = 402 ∧ i = 21)) (m107_0 : ¬ (k = 107 ∧ i = 0)) (m108_0 : ¬ (k = 108 ∧ i = 0)) (hf : f_X1_rerun F μ n1 = some z) : sm μ z k i j := by
  unfold f_X1_rerun at hf
  have hs : sm μ μ k i j := ⟨rfl, rfl⟩
  exact hs.trans (frb_X1_rerun_3 m401_21 m403_21 m400_21s3 m400_21s4 m800_0s1 m800_0s2 m402_21 m107_0 m108_0 _ _ _ _ hf)

theorem fr_X9_gatherJobs {F : Nat} {μ : Mm} {p1 : Int32} {z : Mm} {k i j : Nat} (m100_0s11 : ¬ (k = 100 ∧ i = 0 ∧ j = 11)) (m109_0 : ¬ (k = 109 ∧ i = 0)) (m401_21 : ¬ (k = 401 ∧ i = 21)) (m403_21 : ¬ (k = 403 ∧ i = 21)) (m400_21s3 : ¬ (k = 400 ∧ i = 21 ∧ j = 3)) (m400_21s4 : ¬ (k = 400 ∧ i = 21 ∧ j = 4)) (m800_0s1 : ¬ (k = 800 ∧ i = 0 ∧ j = 1)) (m800_0s2 : ¬ (k = 800 ∧ i = 0 ∧ j = 2)) (m101_0 : ¬ (k = 101 ∧ i = 0)) (m102_0 : ¬ (k = 102 ∧ i = 0)) (m103_0 : ¬ (k = 103 ∧ i = 0)) (m104_0 : ¬ (k = 104 ∧ i = 0)) (m105_0 : ¬ (k = 105 ∧ i = 0)) (m106_0 : ¬ (k = 106 ∧ i = 0)) (m110_0 : ¬ (k = 110 ∧ i = 0)) (m111_0 : ¬ (k = 111 ∧ i = 0)) (m402_21 : ¬ (k = 402 ∧ i = 21)) (hf : f_X9_gatherJobs F μ p1 = some z) : sm μ z k i j := by
  unfold f_X9_gatherJobs at hf
  have hs : sm μ μ k i j := ⟨rfl, rfl⟩
  obtain ⟨q9, e11, hf⟩ := ob hf
  obtain ⟨q12, e14, hf⟩ := ob hf
  replace hs := hs.trans (fr_X1_gather m100_0s11 m109_0 m401_21 m403_21 m400_21s3 m400_21s4 m800_0s1 m800_0s2 m101_0 m102_0 m103_0 m104_0 m105_0 m106_0 m110_0 m111_0 m402_21 e14)
  obtain rfl := Option.some.inj hf
  exact hs

theorem fr_X9_jobRow {F : Nat} {μ : Mm} {p1 : Int32} {p2 : Int32} {z : Int32 × Mm} {k i j : Nat} (m100_0s11 : ¬ (k = 100 ∧ i = 0 ∧ j = 11)) (m109_0 : ¬ (k = 109 ∧ i = 0)) (m401_21 : ¬ (k = 401 ∧ i = 21)) (m403_21 : ¬ (k = 403 ∧ i = 21)) (m400_21s3 : ¬ (k = 400 ∧ i = 21 ∧ j = 3)) (m400_21s4 : ¬ (k = 400 ∧ i = 21 ∧ j = 4)) (m800_0s1 : ¬ (k = 800 ∧ i = 0 ∧ j = 1)) (m800_0s2 : ¬ (k = 800 ∧ i = 0 ∧ j = 2)) (m101_0 : ¬ (k = 101 ∧ i = 0)) (m102_0 : ¬ (k = 102 ∧ i = 0)) (m103_0 : ¬ (k = 103 ∧ i = 0)) (m104_0 : ¬ (k = 104 ∧ i = 0)) (m105_0 : ¬ (k = 105 ∧ i = 0)) (m106_0 : ¬ (k = 106 ∧ i = 0)) (m110_0 : ¬ (k = 110 ∧ i = 0)) (m111_0 : ¬ (k = 111 ∧ i = 0)) (m402_21 : ¬ (k = 402 ∧ i = 21)) (hf : f_X9_jobRow F μ p1 p2 = some z) : sm μ z.2 k i j := by
  unfold f_X9_jobRow at hf
  have hs : sm μ μ k i j := ⟨rfl, rfl⟩
  obtain ⟨q13, e15, hf⟩ := ob hf
  rcases oi hf with hf | hf
  · obtain rfl := Option.some.inj hf
    exact hs
  · rcases oi hf with hf | hf
    · obtain ⟨q16, e18, hf⟩ := ob hf
      replace hs := hs.trans (fr_X9_gatherJobs m100_0s11 m109_0 m401_21 m403_21 m400_21s3 m400_21s4 m800_0s1 m800_0s2 m101_0 m102_0 m103_0 m104_0 m105_0 m106_0 m110_0 m111_0 m402_21 e18)
      obtain ⟨q19, e21, hf⟩ := ob hf
      obtain rfl := Option.some.inj hf
      exact hs
    · obtain rfl := Option.some.inj hf
      exact hs

theorem fr_X9_breaks {F : Nat} {μ : Mm} {p1 : Int32} {p2 : Int32} {z : Int32 × Mm} {k i j : Nat} (m0_0s2 : ¬ (k = 0 ∧ i = 0 ∧ j = 2)) (m0_0s3 : ¬ (k = 0 ∧ i = 0 ∧ j = 3)) (m401_21 : ¬ (k = 401 ∧ i = 21)) (m403_21 : ¬ (k = 403 ∧ i = 21)) (m400_21s3 : ¬ (k = 400 ∧ i = 21 ∧ j = 3)) (m400_21s4 : ¬ (k = 400 ∧ i = 21 ∧ j = 4)) (m800_0s1 : ¬ (k = 800 ∧ i = 0 ∧ j = 1)) (m800_0s2 : ¬ (k = 800 ∧ i = 0 ∧ j = 2)) (m402_21 : ¬ (k = 402 ∧ i = 21)) (m1_0 : ¬ (k = 1 ∧ i = 0)) (m2_0 : ¬ (k = 2 ∧ i = 0)) (hf : f_X9_breaks F μ p1 p2 = some z) : sm μ z.2 k i j := by
  unfold f_X9_breaks at hf
  have hs : sm μ μ k i j := ⟨rfl, rfl⟩
  obtain ⟨q9, e11, hf⟩ := ob hf
  rcases oi hf with hf | hf
  · obtain rfl := Option.some.inj hf
    exact hs
  · rcases oi hf with hf | hf
    · obtain rfl := Option.some.inj hf
      exact hs
    · rcases oi hf with hf | hf
      · obtain ⟨q12, e14, hf⟩ := ob hf
        replace hs := hs.trans (fr_X9_findBreaks m0_0s2 m0_0s3 m401_21 m403_21 m400_21s3 m400_21s4 m800_0s1 m800_0s2 m402_21 m1_0 m2_0 e14)
        rcases oi hf with hf | hf
        · obtain rfl := Option.some.inj hf
          exact hs
        · obtain rfl := Option.some.inj hf
          exact hs
      · obtain rfl := Option.some.inj hf
        exact hs

theorem fr_X9_broken {F : Nat} {μ : Mm} {p1 : Int32} {p2 : Int32} {p3 : Int32} {z : Int32 × Mm} {k i j : Nat} (m0_0s2 : ¬ (k = 0 ∧ i = 0 ∧ j = 2)) (m0_0s3 : ¬ (k = 0 ∧ i = 0 ∧ j = 3)) (m401_21 : ¬ (k = 401 ∧ i = 21)) (m403_21 : ¬ (k = 403 ∧ i = 21)) (m400_21s3 : ¬ (k = 400 ∧ i = 21 ∧ j = 3)) (m400_21s4 : ¬ (k = 400 ∧ i = 21 ∧ j = 4)) (m800_0s1 : ¬ (k = 800 ∧ i = 0 ∧ j = 1)) (m800_0s2 : ¬ (k = 800 ∧ i = 0 ∧ j = 2)) (m402_21 : ¬ (k = 402 ∧ i = 21)) (m1_0 : ¬ (k = 1 ∧ i = 0)) (m2_0 : ¬ (k = 2 ∧ i = 0)) (hf : f_X9_broken F μ p1 p2 p3 = some z) : sm μ z.2 k i j := by
  unfold f_X9_broken at hf
  have hs : sm μ μ k i j := ⟨rfl, rfl⟩
  obtain ⟨q17, e19, hf⟩ := ob hf
  rcases oi hf with hf | hf
  · obtain rfl := Option.some.inj hf
    exact hs
  · rcases oi hf with hf | hf
    · obtain rfl := Option.some.inj hf
      exact hs
    · rcases oi hf with hf | hf
      · obtain ⟨q20, e22, hf⟩ := ob hf
        replace hs := hs.trans (fr_X9_findBreaks m0_0s2 m0_0s3 m401_21 m403_21 m400_21s3 m400_21s4 m800_0s1 m800_0s2 m402_21 m1_0 m2_0 e22)
        rcases oi hf with hf | hf
        · obtain ⟨q26, e28, hf⟩ := ob hf
          obtain rfl := Option.some.inj hf
          exact hs
        · obtain ⟨q23, e25, hf⟩ := ob hf
          obtain rfl := Option.some.inj hf
          exact hs
      · obtain rfl := Option.some.inj hf
        exact hs

theorem fr_X9_period {F : Nat} {μ : Mm} {p1 : Int32} {p2 : Int32} {z : Int32 × Mm} {k i j : Nat} (m100_0s11 : ¬ (k = 100 ∧ i = 0 ∧ j = 11)) (m109_0 : ¬ (k = 109 ∧ i = 0)) (m401_21 : ¬ (k = 401 ∧ i = 21)) (m403_21 : ¬ (k = 403 ∧ i = 21)) (m400_21s3 : ¬ (k = 400 ∧ i = 21 ∧ j = 3)) (m400_21s4 : ¬ (k = 400 ∧ i = 21 ∧ j = 4)) (m800_0s1 : ¬ (k = 800 ∧ i = 0 ∧ j = 1)) (m800_0s2 : ¬ (k = 800 ∧ i = 0 ∧ j = 2)) (m101_0 : ¬ (k = 101 ∧ i = 0)) (m102_0 : ¬ (k = 102 ∧ i = 0)) (m103_0 : ¬ (k = 103 ∧ i = 0)) (m104_0 : ¬ (k = 104 ∧ i = 0)) (m105_0 : ¬ (k = 105 ∧ i = 0)) (m106_0 : ¬ (k = 106 ∧ i = 0)) (m110_0 : ¬ (k = 110 ∧ i = 0)) (m111_0 : ¬ (k = 111 ∧ i = 0)) (m402_21 : ¬ (k = 402 ∧ i = 21)) (hf : f_X9_period F μ p1 p2 = some z) : sm μ z.2 k i j := by
  unfold f_X9_period at hf
  have hs : sm μ μ k i j := ⟨rfl, rfl⟩
  obtain ⟨q21, e23, hf⟩ := ob hf
  rcases oi hf with hf | hf
  · obtain rfl := Option.some.inj hf
    exact hs
  · rcases oi hf with hf | hf
    · obtain rfl := Option.some.inj hf
      exact hs
    · rcases oi hf with hf | hf
      · obtain ⟨q24, e26, hf⟩ := ob hf
        replace hs := hs.trans (fr_X9_gatherJobs m100_0s11 m109_0 m401_21 m403_21 m400_21s3 m400_21s4 m800_0s1 m800_0s2 m101_0 m102_0 m103_0 m104_0 m105_0 m106_0 m110_0 m111_0 m402_21 e26)
        obtain ⟨q27, e29, hf⟩ := ob hf
        rcases oi hf with hf | hf
        · obtain ⟨q30, e32, hf⟩ := ob hf
          rcases oi hf with hf | hf
          · obtain rfl := Option.some.inj hf
            exact hs
          · obtain ⟨q33, e35, hf⟩ := ob hf
            obtain rfl := Option.some.inj hf
            exact hs
        · obtain rfl := Option.some.inj hf
          exact hs
      · obtain rfl := Option.some.inj hf
        exact hs

theorem frb_X9_runAgain_2 {F : Nat} {z : Mm} {k i j : Nat} (m401_21 : ¬ (k = 401 ∧ i = 21)) (m403_21 : ¬ (k = 403 ∧ i = 21)) (m400_21s3 : ¬ (k = 400 ∧ i = 21 ∧ j = 3)) (m400_21s4 : ¬ (k = 400 ∧ i = 21 ∧ j = 4)) (m800_0s1 : ¬ (k = 800 ∧ i = 0 ∧ j = 1)) (m800_0s2 : ¬ (k = 800 ∧ i = 0 ∧ j = 2)) (m402_21 : ¬ (k = 402 ∧ i = 21)) (m107_0 : ¬ (k = 107 ∧ i = 0)) (m108_0 : ¬ (k = 108 ∧ i = 0)) (m903_0 : ¬ (k = 903 ∧ i = 0)) : ∀ (N : Nat) (μ : Mm) (a1 : Int32) (a2 : Int32), f_X9_runAgain_b2 F N μ a1 a2 = some z → sm μ z k i j := by
  intro N
  induction N with
  | zero => intro μ a1 a2 hf; cases hf
  | succ N ih =>
    intro μ a1 a2 hf
    rw [f_X9_runAgain_b2] at hf
    have hs : sm μ μ k i j := ⟨rfl, rfl⟩
    rcases oi hf with hf | hf
    · obtain ⟨q17, e19, hf⟩ := ob hf
      obtain ⟨q20, e22, hf⟩ := ob hf
      replace hs := hs.trans (fr_X1_rerun m401_21 m403_21 m400_21s3 m400_21s4 m800_0s1 m800_0s2 m402_21 m107_0 m108_0 e22)
      obtain rfl := Option.some.inj hf
      exact hs
    · obtain ⟨q23, e25, hf⟩ := ob hf
      obtain ⟨m26, e28, hf⟩ := ob hf
      replace hs := hs.trans (fr_wa m903_0 e28)
      exact hs.trans (ih _ _ _ hf)
theorem fr_X9_runAgain {F : Nat} {μ : Mm} {p1 : Int32} {z : Mm} {k i j : Nat} (m401_21 : ¬ (k = 401 ∧ i = 21)) (m403_21 : ¬ (k = 403 ∧ i = 21)) (m400_21s3 : ¬ (k = 400 ∧ i = 21 ∧ j = 3)) (m400_21s4 : ¬ (k = 400 ∧ i = 21 ∧ j = 4)) (m800_0s1 : ¬ (k = 800 ∧ i = 0 ∧ j = 1)) (m800_0s2 : ¬ (k = 800 ∧ i = 0 ∧ j = 2)) (m402_21 : ¬ (k = 402 ∧ i = 21)) (m107_0 : ¬ (k = 107 ∧ i = 0)) (m108_0 : ¬ (k = 108 ∧ i = 0)) (m903_0 : ¬ (k = 903 ∧ i = 0)) (hf : f_X9_runAgain F μ p1 = some z) : sm μ z k i j := by
  unfold f_X9_runAgain at hf
  have hs : sm μ μ k i j := ⟨rfl, rfl⟩
  exact hs.trans (frb_X9_runAgain_2 m401_21 m403_21 m400_21s3 m400_21s4 m800_0s1 m800_0s2 m402_21 m107_0 m108_0 m903_0 _ _ _ _ hf)

theorem fr_X9_jobs {F : Nat} {μ : Mm} {p1 : Int32} {z : Int32 × Mm} {k i j : Nat} (m100_0s11 : ¬ (k = 100 ∧ i = 0 ∧ j = 11)) (m109_0 : ¬ (k = 109 ∧ i = 0)) (m401_21 : ¬ (k = 401 ∧ i = 21)) (m403_21 : ¬ (k = 403 ∧ i = 21)) (m400_21s3 : ¬ (k = 400 ∧ i = 21 ∧ j = 3)) (m400_21s4 : ¬ (k = 400 ∧ i = 21 ∧ j = 4)) (m800_0s1 : ¬ (k = 800 ∧ i = 0 ∧ j = 1)) (m800_0s2 : ¬ (k = 800 ∧ i = 0 ∧ j = 2)) (m101_0 : ¬ (k = 101 ∧ i = 0)) (m102_0 : ¬ (k = 102 ∧ i = 0)) (m103_0 : ¬ (k = 103 ∧ i = 0)) (m104_0 : ¬ (k = 104 ∧ i = 0)) (m105_0 : ¬ (k = 105 ∧ i = 0)) (m106_0 : ¬ (k = 106 ∧ i = 0)) (m110_0 : ¬ (k = 110 ∧ i = 0)) (m111_0 : ¬ (k = 111 ∧ i = 0)) (m402_21 : ¬ (k = 402 ∧ i = 21)) (hf : f_X9_jobs F μ p1 = some z) : sm μ z.2 k i j := by
  unfold f_X9_jobs at hf
  have hs : sm μ μ k i j := ⟨rfl, rfl⟩
  obtain ⟨q13, e15, hf⟩ := ob hf
  rcases oi hf with hf | hf
  · obtain rfl := Option.some.inj hf
    exact hs
  · obtain ⟨q16, e18, hf⟩ := ob hf
    replace hs := hs.trans (fr_X9_gatherJobs m100_0s11 m109_0 m401_21 m403_21 m400_21s3 m400_21s4 m800_0s1 m800_0s2 m101_0 m102_0 m103_0 m104_0 m105_0 m106_0 m110_0 m111_0 m402_21 e18)
    obtain ⟨q19, e21, hf⟩ := ob hf
    obtain rfl := Option.some.inj hf
    exact hs

theorem fr_X9_job {F : Nat} {μ : Mm} {p1 : Int32} {p2 : Int32} {p3 : Int32} {z : Int32 × Mm} {k i j : Nat} (m100_0s11 : ¬ (k = 100 ∧ i = 0 ∧ j = 11)) (m109_0 : ¬ (k = 109 ∧ i = 0)) (m401_21 : ¬ (k = 401 ∧ i = 21)) (m403_21 : ¬ (k = 403 ∧ i = 21)) (m400_21s3 : ¬ (k = 400 ∧ i = 21 ∧ j = 3)) (m400_21s4 : ¬ (k = 400 ∧ i = 21 ∧ j = 4)) (m800_0s1 : ¬ (k = 800 ∧ i = 0 ∧ j = 1)) (m800_0s2 : ¬ (k = 800 ∧ i = 0 ∧ j = 2)) (m101_0 : ¬ (k = 101 ∧ i = 0)) (m102_0 : ¬ (k = 102 ∧ i = 0)) (m103_0 : ¬ (k = 103 ∧ i = 0)) (m104_0 : ¬ (k = 104 ∧ i = 0)) (m105_0 : ¬ (k = 105 ∧ i = 0)) (m106_0 : ¬ (k = 106 ∧ i = 0)) (m110_0 : ¬ (k = 110 ∧ i = 0)) (m111_0 : ¬ (k = 111 ∧ i = 0)) (m402_21 : ¬ (k = 402 ∧ i = 21)) (hf : f_X9_job F μ p1 p2 p3 = some z) : sm μ z.2 k i j := by
  unfold f_X9_job at hf
  have hs : sm μ μ k i j := ⟨rfl, rfl⟩
  obtain ⟨q25, e27, hf⟩ := ob hf
  replace hs := hs.trans (fr_X9_jobRow m100_0s11 m109_0 m401_21 m403_21 m400_21s3 m400_21s4 m800_0s1 m800_0s2 m101_0 m102_0 m103_0 m104_0 m105_0 m106_0 m110_0 m111_0 m402_21 e27)
  rcases oi hf with hf | hf
  · obtain rfl := Option.some.inj hf
    exact hs
  · rcases oi hf with hf | hf
    · obtain ⟨v28, e30, hf⟩ := ob hf
      obtain rfl := Option.some.inj hf
      exact hs
    · rcases oi hf with hf | hf
      · obtain ⟨v31, e33, hf⟩ := ob hf
        obtain rfl := Option.some.inj hf
        exact hs
      · rcases oi hf with hf | hf
        · obtain ⟨q34, e36, hf⟩ := ob hf
          obtain rfl := Option.some.inj hf
          exact hs
        · rcases oi hf with hf | hf
          · obtain ⟨v37, e39, hf⟩ := ob hf
            obtain rfl := Option.some.inj hf
            exact hs
          · rcases oi hf with hf | hf
            · obtain ⟨v40, e42, hf⟩ := ob hf
              obtain rfl := Option.some.inj hf
              exact hs
            · obtain rfl := Option.some.inj hf
              exact hs

theorem frb_X9_worst_28 {F : Nat} {z : Int32 × Mm} {k i j : Nat} : ∀ (N : Nat) (μ : Mm) (a1 : Int32) (a2 : Int32) (a3 : Int32) (a4 : Int32) (a5 : Int32), f_X9_worst_b28 F N μ a1 a2 a3 a4 a5 = some z → sm μ z.2 k i j := by
  intro N
  induction N with
  | zero => intro μ a1 a2 a3 a4 a5 hf; cases hf
  | succ N ih =>
    intro μ a1 a2 a3 a4 a5 hf
    rw [f_X9_worst_b28] at hf
    have hs : sm μ μ k i j := ⟨rfl, rfl⟩
    rcases oi hf with hf | hf
    · obtain rfl := Option.some.inj hf
      exact hs
    · obtain ⟨q17, e19, hf⟩ := ob hf
      rcases oi hf with hf | hf
      · exact hs.trans (ih _ _ _ _ _ _ hf)
      · obtain ⟨q20, e22, hf⟩ := ob hf
        rcases oi hf with hf | hf
        · exact hs.trans (ih _ _ _ _ _ _ hf)
        · obtain ⟨q23, e25, hf⟩ := ob hf
          exact hs.trans (ih _ _ _ _ _ _ hf)
theorem fr_X9_worst {F : Nat} {μ : Mm} {p1 : Int32} {z : Int32 × Mm} {k i j : Nat} (m100_0s11 : ¬ (k = 100 ∧ i = 0 ∧ j = 11)) (m109_0 : ¬ (k = 109 ∧ i = 0)) (m401_21 : ¬ (k = 401 ∧ i = 21)) (m403_21 : ¬ (k = 403 ∧ i = 21)) (m400_21s3 : ¬ (k = 400 ∧ i = 21 ∧ j = 3)) (m400_21s4 : ¬ (k = 400 ∧ i = 21 ∧ j = 4)) (m800_0s1 : ¬ (k = 800 ∧ i = 0 ∧ j = 1)) (m800_0s2 : ¬ (k = 800 ∧ i = 0 ∧ j = 2)) (m101_0 : ¬ (k = 101 ∧ i = 0)) (m102_0 : ¬ (k = 102 ∧ i = 0)) (m103_0 : ¬ (k = 103 ∧ i = 0)) (m104_0 : ¬ (k = 104 ∧ i = 0)) (m105_0 : ¬ (k = 105 ∧ i = 0)) (m106_0 : ¬ (k = 106 ∧ i = 0)) (m110_0 : ¬ (k = 110 ∧ i = 0)) (m111_0 : ¬ (k = 111 ∧ i = 0)) (m402_21 : ¬ (k = 402 ∧ i = 21)) (hf : f_X9_worst F μ p1 = some z) : sm μ z.2 k i j := by
  unfold f_X9_worst at hf
  have hs : sm μ μ k i j := ⟨rfl, rfl⟩
  obtain ⟨q30, e32, hf⟩ := ob hf
  rcases oi hf with hf | hf
  · obtain rfl := Option.some.inj hf
    exact hs
  · obtain ⟨q33, e35, hf⟩ := ob hf
    replace hs := hs.trans (fr_X9_gatherJobs m100_0s11 m109_0 m401_21 m403_21 m400_21s3 m400_21s4 m800_0s1 m800_0s2 m101_0 m102_0 m103_0 m104_0 m105_0 m106_0 m110_0 m111_0 m402_21 e35)
    exact hs.trans (frb_X9_worst_28 _ _ _ _ _ _ _ hf)

theorem frb_X9_late_27 {F : Nat} {z : Int32 × Mm} {k i j : Nat} : ∀ (N : Nat) (μ : Mm) (a1 : Int32) (a2 : Int32) (a3 : Int32) (a4 : Int32), f_X9_late_b27 F N μ a1 a2 a3 a4 = some z → sm μ z.2 k i j := by
  intro N
  induction N with
  | zero => intro μ a1 a2 a3 a4 hf; cases hf
  | succ N ih =>
    intro μ a1 a2 a3 a4 hf
    rw [f_X9_late_b27] at hf
    have hs : sm μ μ k i j := ⟨rfl, rfl⟩
    rcases oi hf with hf | hf
    · obtain rfl := Option.some.inj hf
      exact hs
    · obtain ⟨q13, e15, hf⟩ := ob hf
      rcases oi hf with hf | hf
      · exact hs.trans (ih _ _ _ _ _ hf)
      · obtain ⟨q16, e18, hf⟩ := ob hf
        rcases oi hf with hf | hf
        · exact hs.trans (ih _ _ _ _ _ hf)
        · exact hs.trans (ih _ _ _ _ _ hf)
theorem fr_X9_late {F : Nat} {μ : Mm} {p1 : Int32} {p2 : Int32} {z : Int32 × Mm} {k i j : Nat} (m100_0s11 : ¬ (k = 100 ∧ i = 0 ∧ j = 11)) (m109_0 : ¬ (k = 109 ∧ i = 0)) (m401_21 : ¬ (k = 401 ∧ i = 21)) (m403_21 : ¬ (k = 403 ∧ i = 21)) (m400_21s3 : ¬ (k = 400 ∧ i = 21 ∧ j = 3)) (m400_21s4 : ¬ (k = 400 ∧ i = 21 ∧ j = 4)) (m800_0s1 : ¬ (k = 800 ∧ i = 0 ∧ j = 1)) (m800_0s2 : ¬ (k = 800 ∧ i = 0 ∧ j = 2)) (m101_0 : ¬ (k = 101 ∧ i = 0)) (m102_0 : ¬ (k = 102 ∧ i = 0)) (m103_0 : ¬ (k = 103 ∧ i = 0)) (m104_0 : ¬ (k = 104 ∧ i = 0)) (m105_0 : ¬ (k = 105 ∧ i = 0)) (m106_0 : ¬ (k = 106 ∧ i = 0)) (m110_0 : ¬ (k = 110 ∧ i = 0)) (m111_0 : ¬ (k = 111 ∧ i = 0)) (m402_21 : ¬ (k = 402 ∧ i = 21)) (hf : f_X9_late F μ p1 p2 = some z) : sm μ z.2 k i j := by
  unfold f_X9_late at hf
  have hs : sm μ μ k i j := ⟨rfl, rfl⟩
  obtain ⟨q23, e25, hf⟩ := ob hf
  rcases oi hf with hf | hf
  · obtain rfl := Option.some.inj hf
    exact hs
  · rcases oi hf with hf | hf
    · obtain ⟨q26, e28, hf⟩ := ob hf
      replace hs := hs.trans (fr_X9_gatherJobs m100_0s11 m109_0 m401_21 m403_21 m400_21s3 m400_21s4 m800_0s1 m800_0s2 m101_0 m102_0 m103_0 m104_0 m105_0 m106_0 m110_0 m111_0 m402_21 e28)
      exact hs.trans (frb_X9_late_27 _ _ _ _ _ _ hf)
    · obtain rfl := Option.some.inj hf
      exact hs

theorem fr_X9_again {F : Nat} {μ : Mm} {p1 : Int32} {p2 : Int32} {z : Int32 × Mm} {k i j : Nat} (m100_0s11 : ¬ (k = 100 ∧ i = 0 ∧ j = 11)) (m109_0 : ¬ (k = 109 ∧ i = 0)) (m401_21 : ¬ (k = 401 ∧ i = 21)) (m403_21 : ¬ (k = 403 ∧ i = 21)) (m400_21s3 : ¬ (k = 400 ∧ i = 21 ∧ j = 3)) (m400_21s4 : ¬ (k = 400 ∧ i = 21 ∧ j = 4)) (m800_0s1 : ¬ (k = 800 ∧ i = 0 ∧ j = 1)) (m800_0s2 : ¬ (k = 800 ∧ i = 0 ∧ j = 2)) (m101_0 : ¬ (k = 101 ∧ i = 0)) (m102_0 : ¬ (k = 102 ∧ i = 0)) (m103_0 : ¬ (k = 103 ∧ i = 0)) (m104_0 : ¬ (k = 104 ∧ i = 0)) (m105_0 : ¬ (k = 105 ∧ i = 0)) (m106_0 : ¬ (k = 106 ∧ i = 0)) (m110_0 : ¬ (k = 110 ∧ i = 0)) (m111_0 : ¬ (k = 111 ∧ i = 0)) (m402_21 : ¬ (k = 402 ∧ i = 21)) (m107_0 : ¬ (k = 107 ∧ i = 0)) (m108_0 : ¬ (k = 108 ∧ i = 0)) (m903_0 : ¬ (k = 903 ∧ i = 0)) (hf : f_X9_again F μ p1 p2 = some z) : sm μ z.2 k i j := by
  unfold f_X9_again at hf
  have hs : sm μ μ k i j := ⟨rfl, rfl⟩
  obtain ⟨q13, e15, hf⟩ := ob hf
  replace hs := hs.trans (fr_X9_jobRow m100_0s11 m109_0 m401_21 m403_21 m400_21s3 m400_21s4 m800_0s1 m800_0s2 m101_0 m102_0 m103_0 m104_0 m105_0 m106_0 m110_0 m111_0 m402_21 e15)
  rcases oi hf with hf | hf
  · obtain rfl := Option.some.inj hf
    exact hs
  · obtain ⟨q16, e18, hf⟩ := ob hf
    replace hs := hs.trans (fr_X9_runAgain m401_21 m403_21 m400_21s3 m400_21s4 m800_0s1 m800_0s2 m402_21 m107_0 m108_0 m903_0 e18)
    obtain ⟨v19, e21, hf⟩ := ob hf
    obtain rfl := Option.some.inj hf
    exact hs

theorem frb_X9_slowest_27 {F : Nat} {z : Int32 × Mm} {k i j : Nat} : ∀ (N : Nat) (μ : Mm) (a1 : Int32) (a2 : Int32) (a3 : Int32), f_X9_slowest_b27 F N μ a1 a2 a3 = some z → sm μ z.2 k i j := by
  intro N
  induction N with
  | zero => intro μ a1 a2 a3 hf; cases hf
  | succ N ih =>
    intro μ a1 a2 a3 hf
    rw [f_X9_slowest_b27] at hf
    have hs : sm μ μ k i j := ⟨rfl, rfl⟩
    rcases oi hf with hf | hf
    · obtain rfl := Option.some.inj hf
      exact hs
    · obtain ⟨q19, e21, hf⟩ := ob hf
      rcases oi hf with hf | hf
      · exact hs.trans (ih _ _ _ _ hf)
      · obtain ⟨v22, e24, hf⟩ := ob hf
        obtain ⟨v25, e27, hf⟩ := ob hf
        exact hs.trans (ih _ _ _ _ hf)
theorem fr_X9_slowest {F : Nat} {μ : Mm} {p1 : Int32} {z : Int32 × Mm} {k i j : Nat} (m100_0s11 : ¬ (k = 100 ∧ i = 0 ∧ j = 11)) (m109_0 : ¬ (k = 109 ∧ i = 0)) (m401_21 : ¬ (k = 401 ∧ i = 21)) (m403_21 : ¬ (k = 403 ∧ i = 21)) (m400_21s3 : ¬ (k = 400 ∧ i = 21 ∧ j = 3)) (m400_21s4 : ¬ (k = 400 ∧ i = 21 ∧ j = 4)) (m800_0s1 : ¬ (k = 800 ∧ i = 0 ∧ j = 1)) (m800_0s2 : ¬ (k = 800 ∧ i = 0 ∧ j = 2)) (m101_0 : ¬ (k = 101 ∧ i = 0)) (m102_0 : ¬ (k = 102 ∧ i = 0)) (m103_0 : ¬ (k = 103 ∧ i = 0)) (m104_0 : ¬ (k = 104 ∧ i = 0)) (m105_0 : ¬ (k = 105 ∧ i = 0)) (m106_0 : ¬ (k = 106 ∧ i = 0)) (m110_0 : ¬ (k = 110 ∧ i = 0)) (m111_0 : ¬ (k = 111 ∧ i = 0)) (m402_21 : ¬ (k = 402 ∧ i = 21)) (m107_0 : ¬ (k = 107 ∧ i = 0)) (m108_0 : ¬ (k = 108 ∧ i = 0)) (m903_0 : ¬ (k = 903 ∧ i = 0)) (hf : f_X9_slowest F μ p1 = some z) : sm μ z.2 k i j := by
  unfold f_X9_slowest at hf
  have hs : sm μ μ k i j := ⟨rfl, rfl⟩
  obtain ⟨q34, e36, hf⟩ := ob hf
  rcases oi hf with hf | hf
  · obtain rfl := Option.some.inj hf
    exact hs
  · obtain ⟨q37, e39, hf⟩ := ob hf
    replace hs := hs.trans (fr_X9_gatherJobs m100_0s11 m109_0 m401_21 m403_21 m400_21s3 m400_21s4 m800_0s1 m800_0s2 m101_0 m102_0 m103_0 m104_0 m105_0 m106_0 m110_0 m111_0 m402_21 e39)
    obtain ⟨q40, e42, hf⟩ := ob hf
    replace hs := hs.trans (fr_X9_runAgain m401_21 m403_21 m400_21s3 m400_21s4 m800_0s1 m800_0s2 m402_21 m107_0 m108_0 m903_0 e42)
    exact hs.trans (frb_X9_slowest_27 _ _ _ _ _ hf)
