/-! THE LAW: what it makes -/
theorem cl_L_8 : Cond.classLink RL 8 RX9 ∈ T1 := T1_of 102 (by decide +kernel) rfl
theorem cl_L_29 : Cond.classLink RL 29 RX10 ∈ T1 := T1_of 1165 (by decide +kernel) rfl
theorem it_X9 : Cond.instantiable RX9 11 ∈ T1 := T1_of 103 (by decide +kernel) rfl
theorem in_X9 : Cond.initialized RX9 ∈ T1 := T1_of 82 (by decide +kernel) rfl
theorem im_X9 : Cond.instanceMethod yX9_init ∈ T1 := T1_of 105 (by decide +kernel) rfl
theorem cw_X9 : Cond.code yX9_init cX9_init 2 none ∈ T1 := T1_of 106 (by decide +kernel) rfl
theorem it_X10 : Cond.instantiable RX10 55 ∈ T1 := T1_of 1166 (by decide +kernel) rfl
theorem in_X10 : Cond.initialized RX10 ∈ T1 := T1_of 93 (by decide +kernel) rfl
theorem im_X10 : Cond.instanceMethod yX10_init ∈ T1 := T1_of 1168 (by decide +kernel) rfl
theorem cw_X10 : Cond.code yX10_init cX10_init 2 none ∈ T1 := T1_of 1169 (by decide +kernel) rfl
theorem dL_law_0 : decode cL_law 0 = .ok (.new 8, 3) := by decide +kernel
theorem dL_law_3 : decode cL_law 3 = .ok (.dup, 1) := by decide +kernel
theorem dL_law_4 : decode cL_law 4 = .ok (.invokespecial 28, 3) := by decide +kernel
theorem dL_law_7 : decode cL_law 7 = .ok (.astore_n 1, 1) := by decide +kernel
theorem dL_law_8 : decode cL_law 8 = .ok (.new 29, 3) := by decide +kernel
theorem dL_law_11 : decode cL_law 11 = .ok (.dup, 1) := by decide +kernel
theorem dL_law_12 : decode cL_law 12 = .ok (.invokespecial 31, 3) := by decide +kernel
theorem dL_law_15 : decode cL_law 15 = .ok (.astore_n 2, 1) := by decide +kernel
theorem dL_law_16 : decode cL_law 16 = .ok (.iconst 1, 1) := by decide +kernel
theorem dL_law_17 : decode cL_law 17 = .ok (.newarray .long, 2) := by decide +kernel
theorem dL_law_19 : decode cL_law 19 = .ok (.astore_n 3, 1) := by decide +kernel
section LW0
variable {p : Program} {l : Launch} {e : Env} {s : State} {m : MethodId} {args : Array Value} {below : List Frame} {meth : Method} {c : Code} {Q : State → Prop} {E : En} {ls : Array Slot} {b : Nat}
set_option maxHeartbeats 4000000 in
set_option maxRecDepth 100000 in
theorem law_made (C : Cx E p s m args c cL_law 8 RL) (hE : Dj E) (hN : Nx s) (hl : lv_has ls 8 [(0, .ref b)])
    (kk : ∀ (H : Heap) (locs : List Loc) (ls : Array Slot), Bq E s s.heap.size ((kb9 E s.heap.size ++ kb10 E (s.heap.size + 75)) ++ [.inl (cy E 2, 1, .inr (.inl (fun _ => 0)))]) 114 H locs → lv_has ls 8 [(3, .ref (s.heap.size + 113)), (2, .ref (s.heap.size + 75)), (1, .ref s.heap.size), (0, .ref b)] → W p l e room_1 s m args below meth c H locs 114 25079 Q (F0 m 20 ls [])) : W p l e room_1 s m args below meth c s.heap [] 0 0 Q (F0 m 0 ls []) := by
  have hx := C.1.1
  have hb := C.1.2.1
  have hB : Bq E s s.heap.size [] 0 s.heap [] := ⟨(fun k x hk => by cases hk), va_S.rf, Nat.le_refl _, rfl, Nat.le_refl _⟩
  refine bk_new (Cn := RX9) (T := TX9) (N := 11) (ci := 9) (ty0 := tyX9) (fs := [.null, .null, .null, .null, .null, .null, .null, .null, .null, .int 0, .int 0]) uw_9 tyX9_ok rfl (by decide) (n9 := 0) rfl C hB cl_L_8 it_X9 in_X9 (Nat.le_of_ble_eq_true rfl) (Nat.le_of_ble_eq_true rfl) dL_law_0 (fun H hB => ?_)
  refine lv_dup hx hb dL_law_3 rfl ?_
  refine bk_init (es := []) (rest := [.ref (s.heap.size + 0)]) (es1 := kb9 E (s.heap.size + 0)) (n9 := 0) rfl (c_X9_init l E hE (s.heap.size + 0)) rfl C hN hB ml_L_28 in_X9 cw_X9 im_X9 (by decide +kernel) ⟨(Nat.le_of_ble_eq_true rfl), (Nat.le_of_ble_eq_true rfl)⟩ ⟨(Nat.le_of_ble_eq_true rfl), (Nat.le_of_ble_eq_true rfl)⟩ hl.1 (Nat.le_of_ble_eq_true rfl) dL_law_4 (fun H locs hB => ?_)
  have hB : Bq E s s.heap.size (kb9 E s.heap.size) 75 H locs := hB
  refine lv_astore_n hx hb dL_law_7 rfl hl (by decide) rfl (fun ls hl => ?_)
  have hl : lv_has ls 8 [(1, .ref s.heap.size), (0, .ref b)] := hl
  refine bk_new (Cn := RX10) (T := TX10) (N := 55) (ci := 10) (ty0 := tyX10) (fs := [.int 0, .int 0, .int 0, .int 0, .null, .null, .null, .null, .null, .null, .null, .null, .int 0, .null, .null, .null, .null, .int 0, .int 0, .null, .null, .null, .null, .null, .null, .null, .null, .null, .null, .null, .null, .int 0, .int 0, .int 0, .int 0, .int 0, .int 0, .null, .null, .null, .null, .int 0, .int 0, .null, .null, .null, .int 0, .int 0, .int 0, .null, .null, .null, .null, .null, .null]) uw_10 tyX10_ok rfl (by decide) (n9 := 75) (kbl_9 E _) C hB cl_L_29 it_X10 in_X10 (Nat.le_of_ble_eq_true rfl) (Nat.le_of_ble_eq_true rfl) dL_law_8 (fun H hB => ?_)
  refine lv_dup hx hb dL_law_11 rfl ?_
  refine bk_init (es := kb9 E s.heap.size) (rest := [.ref (s.heap.size + 75)]) (es1 := kb10 E (s.heap.size + 75)) (n9 := 75) (kbl_9 E _) (c_X10_init l E hE (s.heap.size + 75)) (kbl_10 E _) C hN hB ml_L_31 in_X10 cw_X10 im_X10 (by decide +kernel) ⟨(Nat.le_of_ble_eq_true rfl), (Nat.le_of_ble_eq_true rfl)⟩ ⟨(Nat.le_of_ble_eq_true rfl), (Nat.le_of_ble_eq_true rfl)⟩ hl.1 (Nat.le_of_ble_eq_true rfl) dL_law_12 (fun H locs hB => ?_)
  refine lv_astore_n hx hb dL_law_15 rfl hl (by decide) rfl (fun ls hl => ?_)
  have hl : lv_has ls 8 [(2, .ref (s.heap.size + 75)), (1, .ref s.heap.size), (0, .ref b)] := hl
  refine lv_iconst (v := (1 : Int32)) hx hb dL_law_16 kc_1 ?_
  refine bk_newa (atype := .long) (t0 := 2) (ty := .long) (N := 1) (a0 := (1, .inr (.inl (fun _ => 0)))) rfl (fun _ => rfl) (fun _ => rfl) (by decide) rfl (by decide) (n9 := 113) (by rw [List.length_append, kbl_9, kbl_10]) C hB ax_long (Nat.le_of_ble_eq_true rfl) (Nat.le_of_ble_eq_true rfl) dL_law_17 (fun H hB => ?_)
  refine lv_astore_n hx hb dL_law_19 rfl hl (by decide) rfl (fun ls hl => ?_)
  exact kk H _ ls hB hl
end LW0
