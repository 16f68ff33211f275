/-! THE LAW: the classes' numbers, from the tables -/
theorem K_arr {s : State} {args : Array Value} {ty : FieldType} (h : (Cond.arrayClass ty).before args s = true) : ∃ (cA : ClassId) (kA : Class) (comp : ClassId), s.vm.findClass ("[" ++ ty.toString) = some cA ∧ s.vm.classes[cA]? = some kA ∧ kA.kind = .array comp ty := by
  obtain ⟨cA, kA, comp, h1, h2, h3⟩ := Cond.arrayClass_spec h
  exact ⟨cA, kA, comp, h1, h2, h3⟩
theorem K_cls {s : State} {args : Array Value} (hts : ∀ w ∈ lw_tbl, w.before args s = true) : ∃ D : va_G, ∀ (c : Nat) (q : vw_C), vwCl[c]? = some q → u_Kn s q.1 q.2.1 q.2.2 (D.1 c) (D.2 c) := by
  have T1t : ∀ w ∈ T1, w ∈ lw_tbl := fun w hw => (List.mem_filter.mp hw).1
  have k : ∀ (c : Nat), ∃ (cC : ClassId) (iS : Nat → Nat), ∀ q, vwCl[c]? = some q → u_Kn s q.1 q.2.1 q.2.2 cC iS := fun c => by
    have g : ∀ (C : String) (T : u_T) (N n : Nat), (∀ w ∈ u_ws C T N, w ∈ T1) → (Cond.instantiable C n).before args s = true → vwCl[c]? = some (C, T, N) → ∃ (cC : ClassId) (iS : Nat → Nat), ∀ q, vwCl[c]? = some q → u_Kn s q.1 q.2.1 q.2.2 cC iS := fun C T N n h1 h2 h3 => by
      obtain ⟨cC, iS, h⟩ := u_known (ws := T1) (fun w hw => hts w (T1t w hw)) h1 h2
      exact ⟨cC, iS, fun q hq => by rw [h3] at hq; cases hq; exact h⟩
    rcases (show c = 0 ∨ c = 1 ∨ c = 2 ∨ c = 3 ∨ c = 4 ∨ c = 5 ∨ c = 6 ∨ c = 7 ∨ c = 8 ∨ c = 9 ∨ c = 10 ∨ 11 ≤ c by omega) with rfl | rfl | rfl | rfl | rfl | rfl | rfl | rfl | rfl | rfl | rfl | hc
    · exact g RX0 TX0 4 4 uw_0 (hts _ (by decide +kernel)) rfl
    · exact g RX1 TX1 12 12 uw_1 (hts _ (by decide +kernel)) rfl
    · exact g RX2 TX2 6 6 uw_2 (hts _ (by decide +kernel)) rfl
    · exact g RX3 TX3 5 5 uw_3 (hts _ (by decide +kernel)) rfl
    · exact g RX4 TX4 5 5 uw_4 (hts _ (by decide +kernel)) rfl
    · exact g RX5 TX5 1 1 uw_5 (hts _ (by decide +kernel)) rfl
    · exact g RX6 TX6 4 4 uw_6 (hts _ (by decide +kernel)) rfl
    · exact g RX7 TX7 7 7 uw_7 (hts _ (by decide +kernel)) rfl
    · exact g RX8 TX8 3 3 uw_8 (hts _ (by decide +kernel)) rfl
    · exact g RX9 TX9 11 11 uw_9 (hts _ (by decide +kernel)) rfl
    · exact g RX10 TX10 55 55 uw_10 (hts _ (by decide +kernel)) rfl
    · exact ⟨0, fun _ => 0, fun q hq => by
        have hlt : c < vwCl.length := (List.getElem?_eq_some_iff.mp hq).1
        have h11 : vwCl.length = 11 := rfl
        omega⟩
  exact ⟨(fun c => (k c).choose, fun c => (k c).choose_spec.choose), fun c q hq => (k c).choose_spec.choose_spec q hq⟩
theorem K_of {s : State} {args : Array Value} (hts : ∀ w ∈ lw_tbl, w.before args s = true) : ∃ (D : va_G) (cyf : Nat → ClassId), ∀ (ad0 : Nat → Nat → Nat) (L : List (Nat × Nat)), va_K D vwCl (tyE (D.1, D.2, cyf, ad0, L)) s := by
  obtain ⟨D, hD⟩ := K_cls hts
  obtain ⟨c0, k0, p0, a1, a2, a3⟩ := K_arr (hts (.arrayClass .int) (by decide +kernel))
  obtain ⟨c1, k1, p1, b1, b2, b3⟩ := K_arr (hts (.arrayClass .byte) (by decide +kernel))
  obtain ⟨c2, k2, p2, d1, d2, d3⟩ := K_arr (hts (.arrayClass .long) (by decide +kernel))
  obtain ⟨p3, c3, k3, e1, -, e3, e4, e5⟩ := Cond.arrayOver_spec (hts (.arrayOver (.object RX2)) (by decide +kernel))
  obtain ⟨p4, c4, k4, f1, -, f3, f4, f5⟩ := Cond.arrayOver_spec (hts (.arrayOver (.object RX6)) (by decide +kernel))
  refine ⟨D, fun n => match n with | 0 => c0 | 1 => c1 | 2 => c2 | 3 => c3 | _ => c4, fun ad0 L => ⟨hD, fun k q hk => ?_⟩⟩
  have hl : k < 5 := (List.getElem?_eq_some_iff.mp hk).1
  rcases (show k = 0 ∨ k = 1 ∨ k = 2 ∨ k = 3 ∨ k = 4 by omega) with rfl | rfl | rfl | rfl | rfl
  · cases hk; exact ⟨fun n z => ⟨fun k h => (by cases h), k0, a2, p0, a3⟩, a1⟩
  · cases hk; exact ⟨fun n z => ⟨fun k h => (by cases h), k1, b2, p1, b3⟩, b1⟩
  · cases hk; exact ⟨fun n z => ⟨fun k h => (by cases h), k2, d2, p2, d3⟩, d1⟩
  · cases hk; exact ⟨fun n z => ⟨fun k h => (by cases h), k3, e3, p3, e4⟩, k3, p3, e3, e4, e1, e5⟩
  · cases hk; exact ⟨fun n z => ⟨fun k h => (by cases h), k4, f3, p4, f4⟩, k4, p4, f3, f4, f1, f5⟩
