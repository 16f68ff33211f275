/-! THE CONSTRUCTORS (by program) -/
theorem dX4_init_0 : decode cX4_init 0 = .ok (.aload_n 0, 1) := by decide +kernel
theorem dX4_init_1 : decode cX4_init 1 = .ok (.invokespecial 3, 3) := by decide +kernel
theorem dX4_init_4 : decode cX4_init 4 = .ok (.aload_n 0, 1) := by decide +kernel
theorem dX4_init_5 : decode cX4_init 5 = .ok (.bipush 8, 2) := by decide +kernel
theorem dX4_init_7 : decode cX4_init 7 = .ok (.newarray .int, 2) := by decide +kernel
theorem dX4_init_9 : decode cX4_init 9 = .ok (.putfield 9, 3) := by decide +kernel
theorem dX4_init_12 : decode cX4_init 12 = .ok (.aload_n 0, 1) := by decide +kernel
theorem dX4_init_13 : decode cX4_init 13 = .ok (.bipush 8, 2) := by decide +kernel
theorem dX4_init_15 : decode cX4_init 15 = .ok (.newarray .int, 2) := by decide +kernel
theorem dX4_init_17 : decode cX4_init 17 = .ok (.putfield 15, 3) := by decide +kernel
theorem dX4_init_20 : decode cX4_init 20 = .ok (.aload_n 0, 1) := by decide +kernel
theorem dX4_init_21 : decode cX4_init 21 = .ok (.iconst 4, 1) := by decide +kernel
theorem dX4_init_22 : decode cX4_init 22 = .ok (.newarray .int, 2) := by decide +kernel
theorem dX4_init_24 : decode cX4_init 24 = .ok (.putfield 18, 3) := by decide +kernel
theorem dX4_init_27 : decode cX4_init 27 = .ok (.aload_n 0, 1) := by decide +kernel
theorem dX4_init_28 : decode cX4_init 28 = .ok (.bipush (-2), 2) := by decide +kernel
theorem dX4_init_30 : decode cX4_init 30 = .ok (.putfield 21, 3) := by decide +kernel
theorem dX4_init_33 : decode cX4_init 33 = .ok (.aload_n 0, 1) := by decide +kernel
theorem dX4_init_34 : decode cX4_init 34 = .ok (.iconst 0, 1) := by decide +kernel
theorem dX4_init_35 : decode cX4_init 35 = .ok (.putfield 25, 3) := by decide +kernel
theorem dX4_init_38 : decode cX4_init 38 = .ok (.aload_n 0, 1) := by decide +kernel
theorem dX4_init_39 : decode cX4_init 39 = .ok (.getfield 18, 3) := by decide +kernel
theorem dX4_init_42 : decode cX4_init 42 = .ok (.bipush (-2), 2) := by decide +kernel
theorem dX4_init_44 : decode cX4_init 44 = .ok (.invokestatic 29, 3) := by decide +kernel
theorem dX4_init_47 : decode cX4_init 47 = .ok (.return_, 1) := by decide +kernel
theorem ol_X4 : Cond.methodLink RX4 3 objectInit ∈ T1 := T1_of 131 (by decide +kernel) rfl
theorem oi_ : Cond.instanceMethod objectInit ∈ T1 := T1_of 108 (by decide +kernel) rfl
theorem oc_ : Cond.code objectInit ⟨#[0xb1]⟩ 1 none ∈ T1 := T1_of 109 (by decide +kernel) rfl
theorem ax_int : Cond.arrayClass .int ∈ T1 := T1_of 151 (by decide +kernel) rfl
def kb4 (E : En) (b : Nat) : List va_E := (.inr (4, [.ref (b + 1), .ref (b + 2), .ref (b + 3), .int (-2 : Int32), .int (0 : Int32)]) :: [.inl (cy E 0, 8, .inl (fun _ => 0)), .inl (cy E 0, 8, .inl (fun _ => 0)), .inl (cy E 0, 4, .inl (ff (fun _ => 0) 4 (-2 : Int32)))])
theorem kbl_4 (E : En) (b : Nat) : (kb4 E b).length = 4 := rfl
set_option maxHeartbeats 4000000 in
set_option maxRecDepth 100000 in
theorem c_X4_init (l : Launch) (E : En) (hE : Dj E) (b : Nat) : Met l yX4_init (wt yX4_init cX4_init 1 none) { frames := 1, cells := 3, slots := 20, locals := 23 } (Pk E b 4 [.null, .null, .null, .int 0, .int 0]) (Qk E b (kb4 E b)) 3 20 (fun q => b ≤ q) := by
  refine kmet_of (cc := cX4_init) (nL := 1) (rm := { frames := 1, cells := 3, slots := 20, locals := 23 }) (by decide) hE (by decide) ?_
  intro p e s m below meth c C hr hlk hin2 hN hB ls hl
  have hx := C.1.1
  have hb := C.1.2.1
  have hl : lv_has ls 1 [(0, .ref b)] := hl
  have hB : Bq E s b (.inr (4, [.null, .null, .null, .int 0, .int 0]) :: []) 0 s.heap _ := hB
  refine lv_aload_n hx hb dX4_init_0 rfl (lv_at hl 0 rfl) ?_
  refine bk_obj ol_X4 oi_ oc_ C hl.1 (Nat.le_of_ble_eq_true rfl) (Nat.le_of_ble_eq_true rfl) dX4_init_1 ?_
  refine lv_aload_n hx hb dX4_init_4 rfl (lv_at hl 0 rfl) ?_
  refine lv_bipush (v := (8 : Int32)) hx hb dX4_init_5 (by decide) ?_
  refine bk_newa (atype := .int) (t0 := 0) (ty := .int) (N := 8) (a0 := (8, .inl (fun _ => 0))) rfl (fun _ => rfl) (fun _ => rfl) (by decide) rfl (by decide) (n9 := 1) rfl C hB ax_int (Nat.le_of_ble_eq_true rfl) (Nat.le_of_ble_eq_true rfl) dX4_init_7 (fun H hB => ?_)
  have hB : Bq E s b (.inr (4, [.null, .null, .null, .int 0, .int 0]) :: [.inl (cy E 0, 8, .inl (fun _ => 0))]) 1 H _ := hB
  refine bk_putF (q := 0) (T := TX4) (N := 5) (ci := 4) (f := 0) (fs := [.null, .null, .null, .int 0, .int 0]) (ty := (.array .int)) uw_4 tyX4_ok nmX4 rfl (by decide) rfl rfl rfl (by decide +kernel) (Nat.le_of_ble_eq_true rfl) rfl rfl C hin2 hB rfl fl_X4_9 dX4_init_9 (fun H locs hB => ?_)
  have hB : Bq E s b (.inr (4, [.ref (b + 1), .null, .null, .int 0, .int 0]) :: [.inl (cy E 0, 8, .inl (fun _ => 0))]) 1 H _ := hB
  refine lv_aload_n hx hb dX4_init_12 rfl (lv_at hl 0 rfl) ?_
  refine lv_bipush (v := (8 : Int32)) hx hb dX4_init_13 (by decide) ?_
  refine bk_newa (atype := .int) (t0 := 0) (ty := .int) (N := 8) (a0 := (8, .inl (fun _ => 0))) rfl (fun _ => rfl) (fun _ => rfl) (by decide) rfl (by decide) (n9 := 2) (by simp only [List.length_cons, List.length_append, List.length_nil]) C hB ax_int (Nat.le_of_ble_eq_true rfl) (Nat.le_of_ble_eq_true rfl) dX4_init_15 (fun H hB => ?_)
  have hB : Bq E s b (.inr (4, [.ref (b + 1), .null, .null, .int 0, .int 0]) :: [.inl (cy E 0, 8, .inl (fun _ => 0)), .inl (cy E 0, 8, .inl (fun _ => 0))]) 2 H _ := hB
  refine bk_putF (q := 0) (T := TX4) (N := 5) (ci := 4) (f := 1) (fs := [.ref (b + 1), .null, .null, .int 0, .int 0]) (ty := (.array .int)) uw_4 tyX4_ok nmX4 rfl (by decide) rfl rfl rfl (by decide +kernel) (Nat.le_of_ble_eq_true rfl) rfl rfl C hin2 hB rfl fl_X4_15 dX4_init_17 (fun H locs hB => ?_)
  have hB : Bq E s b (.inr (4, [.ref (b + 1), .ref (b + 2), .null, .int 0, .int 0]) :: [.inl (cy E 0, 8, .inl (fun _ => 0)), .inl (cy E 0, 8, .inl (fun _ => 0))]) 2 H _ := hB
  refine lv_aload_n hx hb dX4_init_20 rfl (lv_at hl 0 rfl) ?_
  refine lv_iconst (v := (4 : Int32)) hx hb dX4_init_21 (by decide) ?_
  refine bk_newa (atype := .int) (t0 := 0) (ty := .int) (N := 4) (a0 := (4, .inl (fun _ => 0))) rfl (fun _ => rfl) (fun _ => rfl) (by decide) rfl (by decide) (n9 := 3) (by simp only [List.length_cons, List.length_append, List.length_nil]) C hB ax_int (Nat.le_of_ble_eq_true rfl) (Nat.le_of_ble_eq_true rfl) dX4_init_22 (fun H hB => ?_)
  have hB : Bq E s b (.inr (4, [.ref (b + 1), .ref (b + 2), .null, .int 0, .int 0]) :: [.inl (cy E 0, 8, .inl (fun _ => 0)), .inl (cy E 0, 8, .inl (fun _ => 0)), .inl (cy E 0, 4, .inl (fun _ => 0))]) 3 H _ := hB
  refine bk_putF (q := 0) (T := TX4) (N := 5) (ci := 4) (f := 2) (fs := [.ref (b + 1), .ref (b + 2), .null, .int 0, .int 0]) (ty := (.array .int)) uw_4 tyX4_ok nmX4 rfl (by decide) rfl rfl rfl (by decide +kernel) (Nat.le_of_ble_eq_true rfl) rfl rfl C hin2 hB rfl fl_X4_18 dX4_init_24 (fun H locs hB => ?_)
  have hB : Bq E s b (.inr (4, [.ref (b + 1), .ref (b + 2), .ref (b + 3), .int 0, .int 0]) :: [.inl (cy E 0, 8, .inl (fun _ => 0)), .inl (cy E 0, 8, .inl (fun _ => 0)), .inl (cy E 0, 4, .inl (fun _ => 0))]) 3 H _ := hB
  refine lv_aload_n hx hb dX4_init_27 rfl (lv_at hl 0 rfl) ?_
  refine lv_bipush (v := (-2 : Int32)) hx hb dX4_init_28 (by decide) ?_
  refine bk_put (q := 0) (T := TX4) (N := 5) (ci := 4) (f := 3) (fs := [.ref (b + 1), .ref (b + 2), .ref (b + 3), .int 0, .int 0]) (ty := .int) uw_4 tyX4_ok nmX4 rfl (by decide) rfl rfl (by decide +kernel) (Nat.le_of_ble_eq_true rfl) (by first | rfl | decide) (by first | rfl | decide) C hB rfl fl_X4_21 dX4_init_30 (fun H locs hB => ?_)
  have hB : Bq E s b (.inr (4, [.ref (b + 1), .ref (b + 2), .ref (b + 3), .int (-2 : Int32), .int 0]) :: [.inl (cy E 0, 8, .inl (fun _ => 0)), .inl (cy E 0, 8, .inl (fun _ => 0)), .inl (cy E 0, 4, .inl (fun _ => 0))]) 3 H _ := hB
  refine lv_aload_n hx hb dX4_init_33 rfl (lv_at hl 0 rfl) ?_
  refine lv_iconst (v := (0 : Int32)) hx hb dX4_init_34 (by decide) ?_
  refine bk_put (q := 0) (T := TX4) (N := 5) (ci := 4) (f := 4) (fs := [.ref (b + 1), .ref (b + 2), .ref (b + 3), .int (-2 : Int32), .int 0]) (ty := .boolean) uw_4 tyX4_ok nmX4 rfl (by decide) rfl rfl (by decide +kernel) (Nat.le_of_ble_eq_true rfl) (by first | rfl | decide) (by first | rfl | decide) C hB rfl fl_X4_25 dX4_init_35 (fun H locs hB => ?_)
  have hB : Bq E s b (.inr (4, [.ref (b + 1), .ref (b + 2), .ref (b + 3), .int (-2 : Int32), .int (0 : Int32)]) :: [.inl (cy E 0, 8, .inl (fun _ => 0)), .inl (cy E 0, 8, .inl (fun _ => 0)), .inl (cy E 0, 4, .inl (fun _ => 0))]) 3 H _ := hB
  refine lv_aload_n hx hb dX4_init_38 rfl (lv_at hl 0 rfl) ?_
  refine bk_get (q := 0) (T := TX4) (N := 5) (ci := 4) (f := 2) (fs := [.ref (b + 1), .ref (b + 2), .ref (b + 3), .int (-2 : Int32), .int (0 : Int32)]) (v := .ref (b + 3)) uw_4 rfl (by decide) rfl C hB rfl rfl fl_X4_18 dX4_init_39 ?_
  refine lv_bipush (v := (-2 : Int32)) hx hb dX4_init_42 (by decide) ?_
  refine bk_fill (q := 3) (n := 4) (k := 403) (f := fun _ => 0) (rest := []) (fun E f g => ce_403 E 0 f g) (by decide) C hB rfl ml_X4_29 ⟨(Nat.le_of_ble_eq_true rfl), (Nat.le_of_ble_eq_true rfl)⟩ ⟨(Nat.le_of_ble_eq_true rfl), (Nat.le_of_ble_eq_true rfl)⟩ hl.1 (Nat.le_of_ble_eq_true rfl) dX4_init_44 (fun H locs hB => ?_)
  have hB : Bq E s b (.inr (4, [.ref (b + 1), .ref (b + 2), .ref (b + 3), .int (-2 : Int32), .int (0 : Int32)]) :: [.inl (cy E 0, 8, .inl (fun _ => 0)), .inl (cy E 0, 8, .inl (fun _ => 0)), .inl (cy E 0, 4, .inl (ff (fun _ => 0) 4 (-2 : Int32)))]) 3 H _ := hB
  exact bk_vret C hr hlk hB dX4_init_47
theorem dX2_init_0 : decode cX2_init 0 = .ok (.aload_n 0, 1) := by decide +kernel
theorem dX2_init_1 : decode cX2_init 1 = .ok (.invokespecial 3, 3) := by decide +kernel
theorem dX2_init_4 : decode cX2_init 4 = .ok (.aload_n 0, 1) := by decide +kernel
theorem dX2_init_5 : decode cX2_init 5 = .ok (.sipush 200, 3) := by decide +kernel
theorem dX2_init_8 : decode cX2_init 8 = .ok (.newarray .int, 2) := by decide +kernel
theorem dX2_init_10 : decode cX2_init 10 = .ok (.putfield 9, 3) := by decide +kernel
theorem dX2_init_13 : decode cX2_init 13 = .ok (.aload_n 0, 1) := by decide +kernel
theorem dX2_init_14 : decode cX2_init 14 = .ok (.sipush 200, 3) := by decide +kernel
theorem dX2_init_17 : decode cX2_init 17 = .ok (.newarray .int, 2) := by decide +kernel
theorem dX2_init_19 : decode cX2_init 19 = .ok (.putfield 15, 3) := by decide +kernel
theorem dX2_init_22 : decode cX2_init 22 = .ok (.aload_n 0, 1) := by decide +kernel
theorem dX2_init_23 : decode cX2_init 23 = .ok (.sipush 200, 3) := by decide +kernel
theorem dX2_init_26 : decode cX2_init 26 = .ok (.newarray .int, 2) := by decide +kernel
theorem dX2_init_28 : decode cX2_init 28 = .ok (.putfield 18, 3) := by decide +kernel
theorem dX2_init_31 : decode cX2_init 31 = .ok (.aload_n 0, 1) := by decide +kernel
theorem dX2_init_32 : decode cX2_init 32 = .ok (.sipush 200, 3) := by decide +kernel
theorem dX2_init_35 : decode cX2_init 35 = .ok (.newarray .int, 2) := by decide +kernel
theorem dX2_init_37 : decode cX2_init 37 = .ok (.putfield 21, 3) := by decide +kernel
theorem dX2_init_40 : decode cX2_init 40 = .ok (.aload_n 0, 1) := by decide +kernel
theorem dX2_init_41 : decode cX2_init 41 = .ok (.new 24, 3) := by decide +kernel
theorem dX2_init_44 : decode cX2_init 44 = .ok (.dup, 1) := by decide +kernel
theorem dX2_init_45 : decode cX2_init 45 = .ok (.invokespecial 26, 3) := by decide +kernel
theorem dX2_init_48 : decode cX2_init 48 = .ok (.putfield 27, 3) := by decide +kernel
theorem dX2_init_51 : decode cX2_init 51 = .ok (.aload_n 0, 1) := by decide +kernel
theorem dX2_init_52 : decode cX2_init 52 = .ok (.iconst 0, 1) := by decide +kernel
theorem dX2_init_53 : decode cX2_init 53 = .ok (.putfield 31, 3) := by decide +kernel
theorem dX2_init_56 : decode cX2_init 56 = .ok (.return_, 1) := by decide +kernel
theorem ol_X2 : Cond.methodLink RX2 3 objectInit ∈ T1 := T1_of 125 (by decide +kernel) rfl
theorem cl_X2_24 : Cond.classLink RX2 24 RX4 ∈ T1 := T1_of 126 (by decide +kernel) rfl
theorem it_X4 : Cond.instantiable RX4 5 ∈ T1 := T1_of 127 (by decide +kernel) rfl
theorem in_X4 : Cond.initialized RX4 ∈ T1 := T1_of 86 (by decide +kernel) rfl
theorem cw_X4 : Cond.code yX4_init cX4_init 1 none ∈ T1 := T1_of 130 (by decide +kernel) rfl
theorem im_X4 : Cond.instanceMethod yX4_init ∈ T1 := T1_of 129 (by decide +kernel) rfl
def kb2 (E : En) (b : Nat) : List va_E := (.inr (2, [.ref (b + 1), .ref (b + 2), .ref (b + 3), .ref (b + 4), .ref (b + 5), .int (0 : Int32)]) :: ([.inl (cy E 0, 200, .inl (fun _ => 0)), .inl (cy E 0, 200, .inl (fun _ => 0)), .inl (cy E 0, 200, .inl (fun _ => 0)), .inl (cy E 0, 200, .inl (fun _ => 0))] ++ kb4 E (b + 5)))
theorem kbl_2 (E : En) (b : Nat) : (kb2 E b).length = 9 := rfl
set_option maxHeartbeats 4000000 in
set_option maxRecDepth 100000 in
theorem c_X2_init (l : Launch) (E : En) (hE : Dj E) (b : Nat) : Met l yX2_init (wt yX2_init cX2_init 1 none) { frames := 2, cells := 8, slots := 825, locals := 43 } (Pk E b 2 [.null, .null, .null, .null, .null, .int 0]) (Qk E b (kb2 E b)) 8 825 (fun q => b ≤ q) := by
  refine kmet_of (cc := cX2_init) (nL := 1) (rm := { frames := 2, cells := 8, slots := 825, locals := 43 }) (by decide) hE (by decide) ?_
  intro p e s m below meth c C hr hlk hin2 hN hB ls hl
  have hx := C.1.1
  have hb := C.1.2.1
  have hl : lv_has ls 1 [(0, .ref b)] := hl
  have hB : Bq E s b (.inr (2, [.null, .null, .null, .null, .null, .int 0]) :: []) 0 s.heap _ := hB
  refine lv_aload_n hx hb dX2_init_0 rfl (lv_at hl 0 rfl) ?_
  refine bk_obj ol_X2 oi_ oc_ C hl.1 (Nat.le_of_ble_eq_true rfl) (Nat.le_of_ble_eq_true rfl) dX2_init_1 ?_
  refine lv_aload_n hx hb dX2_init_4 rfl (lv_at hl 0 rfl) ?_
  refine lv_sipush (v := (200 : Int32)) hx hb dX2_init_5 (by decide) ?_
  refine bk_newa (atype := .int) (t0 := 0) (ty := .int) (N := 200) (a0 := (200, .inl (fun _ => 0))) rfl (fun _ => rfl) (fun _ => rfl) (by decide) rfl (by decide) (n9 := 1) rfl C hB ax_int (Nat.le_of_ble_eq_true rfl) (Nat.le_of_ble_eq_true rfl) dX2_init_8 (fun H hB => ?_)
  have hB : Bq E s b (.inr (2, [.null, .null, .null, .null, .null, .int 0]) :: [.inl (cy E 0, 200, .inl (fun _ => 0))]) 1 H _ := hB
  refine bk_putF (q := 0) (T := TX2) (N := 6) (ci := 2) (f := 0) (fs := [.null, .null, .null, .null, .null, .int 0]) (ty := (.array .int)) uw_2 tyX2_ok nmX2 rfl (by decide) rfl rfl rfl (by decide +kernel) (Nat.le_of_ble_eq_true rfl) rfl rfl C hin2 hB rfl fl_X2_9 dX2_init_10 (fun H locs hB => ?_)
  have hB : Bq E s b (.inr (2, [.ref (b + 1), .null, .null, .null, .null, .int 0]) :: [.inl (cy E 0, 200, .inl (fun _ => 0))]) 1 H _ := hB
  refine lv_aload_n hx hb dX2_init_13 rfl (lv_at hl 0 rfl) ?_
  refine lv_sipush (v := (200 : Int32)) hx hb dX2_init_14 (by decide) ?_
  refine bk_newa (atype := .int) (t0 := 0) (ty := .int) (N := 200) (a0 := (200, .inl (fun _ => 0))) rfl (fun _ => rfl) (fun _ => rfl) (by decide) rfl (by decide) (n9 := 2) (by simp only [List.length_cons, List.length_append, List.length_nil]) C hB ax_int (Nat.le_of_ble_eq_true rfl) (Nat.le_of_ble_eq_true rfl) dX2_init_17 (fun H hB => ?_)
  have hB : Bq E s b (.inr (2, [.ref (b + 1), .null, .null, .null, .null, .int 0]) :: [.inl (cy E 0, 200, .inl (fun _ => 0)), .inl (cy E 0, 200, .inl (fun _ => 0))]) 2 H _ := hB
  refine bk_putF (q := 0) (T := TX2) (N := 6) (ci := 2) (f := 1) (fs := [.ref (b + 1), .null, .null, .null, .null, .int 0]) (ty := (.array .int)) uw_2 tyX2_ok nmX2 rfl (by decide) rfl rfl rfl (by decide +kernel) (Nat.le_of_ble_eq_true rfl) rfl rfl C hin2 hB rfl fl_X2_15 dX2_init_19 (fun H locs hB => ?_)
  have hB : Bq E s b (.inr (2, [.ref (b + 1), .ref (b + 2), .null, .null, .null, .int 0]) :: [.inl (cy E 0, 200, .inl (fun _ => 0)), .inl (cy E 0, 200, .inl (fun _ => 0))]) 2 H _ := hB
  refine lv_aload_n hx hb dX2_init_22 rfl (lv_at hl 0 rfl) ?_
  refine lv_sipush (v := (200 : Int32)) hx hb dX2_init_23 (by decide) ?_
  refine bk_newa (atype := .int) (t0 := 0) (ty := .int) (N := 200) (a0 := (200, .inl (fun _ => 0))) rfl (fun _ => rfl) (fun _ => rfl) (by decide) rfl (by decide) (n9 := 3) (by simp only [List.length_cons, List.length_append, List.length_nil]) C hB ax_int (Nat.le_of_ble_eq_true rfl) (Nat.le_of_ble_eq_true rfl) dX2_init_26 (fun H hB => ?_)
  have hB : Bq E s b (.inr (2, [.ref (b + 1), .ref (b + 2), .null, .null, .null, .int 0]) :: [.inl (cy E 0, 200, .inl (fun _ => 0)), .inl (cy E 0, 200, .inl (fun _ => 0)), .inl (cy E 0, 200, .inl (fun _ => 0))]) 3 H _ := hB
  refine bk_putF (q := 0) (T := TX2) (N := 6) (ci := 2) (f := 2) (fs := [.ref (b + 1), .ref (b + 2), .null, .null, .null, .int 0]) (ty := (.array .int)) uw_2 tyX2_ok nmX2 rfl (by decide) rfl rfl rfl (by decide +kernel) (Nat.le_of_ble_eq_true rfl) rfl rfl C hin2 hB rfl fl_X2_18 dX2_init_28 (fun H locs hB => ?_)
  have hB : Bq E s b (.inr (2, [.ref (b + 1), .ref (b + 2), .ref (b + 3), .null, .null, .int 0]) :: [.inl (cy E 0, 200, .inl (fun _ => 0)), .inl (cy E 0, 200, .inl (fun _ => 0)), .inl (cy E 0, 200, .inl (fun _ => 0))]) 3 H _ := hB
  refine lv_aload_n hx hb dX2_init_31 rfl (lv_at hl 0 rfl) ?_
  refine lv_sipush (v := (200 : Int32)) hx hb dX2_init_32 (by decide) ?_
  refine bk_newa (atype := .int) (t0 := 0) (ty := .int) (N := 200) (a0 := (200, .inl (fun _ => 0))) rfl (fun _ => rfl) (fun _ => rfl) (by decide) rfl (by decide) (n9 := 4) (by simp only [List.length_cons, List.length_append, List.length_nil]) C hB ax_int (Nat.le_of_ble_eq_true rfl) (Nat.le_of_ble_eq_true rfl) dX2_init_35 (fun H hB => ?_)
  have hB : Bq E s b (.inr (2, [.ref (b + 1), .ref (b + 2), .ref (b + 3), .null, .null, .int 0]) :: [.inl (cy E 0, 200, .inl (fun _ => 0)), .inl (cy E 0, 200, .inl (fun _ => 0)), .inl (cy E 0, 200, .inl (fun _ => 0)), .inl (cy E 0, 200, .inl (fun _ => 0))]) 4 H _ := hB
  refine bk_putF (q := 0) (T := TX2) (N := 6) (ci := 2) (f := 3) (fs := [.ref (b + 1), .ref (b + 2), .ref (b + 3), .null, .null, .int 0]) (ty := (.array .int)) uw_2 tyX2_ok nmX2 rfl (by decide) rfl rfl rfl (by decide +kernel) (Nat.le_of_ble_eq_true rfl) rfl rfl C hin2 hB rfl fl_X2_21 dX2_init_37 (fun H locs hB => ?_)
  have hB : Bq E s b (.inr (2, [.ref (b + 1), .ref (b + 2), .ref (b + 3), .ref (b + 4), .null, .int 0]) :: [.inl (cy E 0, 200, .inl (fun _ => 0)), .inl (cy E 0, 200, .inl (fun _ => 0)), .inl (cy E 0, 200, .inl (fun _ => 0)), .inl (cy E 0, 200, .inl (fun _ => 0))]) 4 H _ := hB
  refine lv_aload_n hx hb dX2_init_40 rfl (lv_at hl 0 rfl) ?_
  refine bk_new (Cn := RX4) (T := TX4) (N := 5) (ci := 4) (ty0 := tyX4) (fs := [.null, .null, .null, .int 0, .int 0]) uw_4 tyX4_ok rfl (by decide) (n9 := 5) (by simp only [List.length_cons, List.length_append, List.length_nil]) C hB cl_X2_24 it_X4 in_X4 (Nat.le_of_ble_eq_true rfl) (Nat.le_of_ble_eq_true rfl) dX2_init_41 (fun H hB => ?_)
  refine lv_dup hx hb dX2_init_44 rfl ?_
  refine bk_init (es := (.inr (2, [.ref (b + 1), .ref (b + 2), .ref (b + 3), .ref (b + 4), .null, .int 0]) :: [.inl (cy E 0, 200, .inl (fun _ => 0)), .inl (cy E 0, 200, .inl (fun _ => 0)), .inl (cy E 0, 200, .inl (fun _ => 0)), .inl (cy E 0, 200, .inl (fun _ => 0))])) (rest := [.ref (b + 5), .ref b]) (es1 := kb4 E (b + 5)) (n9 := 5) (by simp only [List.length_cons, List.length_append, List.length_nil]) (c_X4_init l E hE (b + 5)) rfl C hN hB ml_X2_26 in_X4 cw_X4 im_X4 (by decide +kernel) ⟨(Nat.le_of_ble_eq_true rfl), (Nat.le_of_ble_eq_true rfl)⟩ ⟨(Nat.le_of_ble_eq_true rfl), (Nat.le_of_ble_eq_true rfl)⟩ hl.1 (Nat.le_of_ble_eq_true rfl) dX2_init_45 (fun H locs hB => ?_)
  have hB : Bq E s b (.inr (2, [.ref (b + 1), .ref (b + 2), .ref (b + 3), .ref (b + 4), .null, .int 0]) :: ([.inl (cy E 0, 200, .inl (fun _ => 0)), .inl (cy E 0, 200, .inl (fun _ => 0)), .inl (cy E 0, 200, .inl (fun _ => 0)), .inl (cy E 0, 200, .inl (fun _ => 0))] ++ kb4 E (b + 5))) 8 H _ := hB
  refine bk_putF (q := 0) (T := TX2) (N := 6) (ci := 2) (f := 4) (fs := [.ref (b + 1), .ref (b + 2), .ref (b + 3), .ref (b + 4), .null, .int 0]) (ty := (.object RX4)) uw_2 tyX2_ok nmX2 rfl (by decide) rfl rfl rfl (by decide +kernel) (Nat.le_of_ble_eq_true rfl) rfl rfl C hin2 hB rfl fl_X2_27 dX2_init_48 (fun H locs hB => ?_)
  have hB : Bq E s b (.inr (2, [.ref (b + 1), .ref (b + 2), .ref (b + 3), .ref (b + 4), .ref (b + 5), .int 0]) :: ([.inl (cy E 0, 200, .inl (fun _ => 0)), .inl (cy E 0, 200, .inl (fun _ => 0)), .inl (cy E 0, 200, .inl (fun _ => 0)), .inl (cy E 0, 200, .inl (fun _ => 0))] ++ kb4 E (b + 5))) 8 H _ := hB
  refine lv_aload_n hx hb dX2_init_51 rfl (lv_at hl 0 rfl) ?_
  refine lv_iconst (v := (0 : Int32)) hx hb dX2_init_52 (by decide) ?_
  refine bk_put (q := 0) (T := TX2) (N := 6) (ci := 2) (f := 5) (fs := [.ref (b + 1), .ref (b + 2), .ref (b + 3), .ref (b + 4), .ref (b + 5), .int 0]) (ty := .int) uw_2 tyX2_ok nmX2 rfl (by decide) rfl rfl (by decide +kernel) (Nat.le_of_ble_eq_true rfl) (by first | rfl | decide) (by first | rfl | decide) C hB rfl fl_X2_31 dX2_init_53 (fun H locs hB => ?_)
  have hB : Bq E s b (.inr (2, [.ref (b + 1), .ref (b + 2), .ref (b + 3), .ref (b + 4), .ref (b + 5), .int (0 : Int32)]) :: ([.inl (cy E 0, 200, .inl (fun _ => 0)), .inl (cy E 0, 200, .inl (fun _ => 0)), .inl (cy E 0, 200, .inl (fun _ => 0)), .inl (cy E 0, 200, .inl (fun _ => 0))] ++ kb4 E (b + 5))) 8 H _ := hB
  exact bk_vret C hr hlk hB dX2_init_56
theorem dX7_init_0 : decode cX7_init 0 = .ok (.aload_n 0, 1) := by decide +kernel
theorem dX7_init_1 : decode cX7_init 1 = .ok (.invokespecial 3, 3) := by decide +kernel
theorem dX7_init_4 : decode cX7_init 4 = .ok (.aload_n 0, 1) := by decide +kernel
theorem dX7_init_5 : decode cX7_init 5 = .ok (.bipush 8, 2) := by decide +kernel
theorem dX7_init_7 : decode cX7_init 7 = .ok (.newarray .int, 2) := by decide +kernel
theorem dX7_init_9 : decode cX7_init 9 = .ok (.putfield 9, 3) := by decide +kernel
theorem dX7_init_12 : decode cX7_init 12 = .ok (.aload_n 0, 1) := by decide +kernel
theorem dX7_init_13 : decode cX7_init 13 = .ok (.bipush 8, 2) := by decide +kernel
theorem dX7_init_15 : decode cX7_init 15 = .ok (.newarray .int, 2) := by decide +kernel
theorem dX7_init_17 : decode cX7_init 17 = .ok (.putfield 15, 3) := by decide +kernel
theorem dX7_init_20 : decode cX7_init 20 = .ok (.aload_n 0, 1) := by decide +kernel
theorem dX7_init_21 : decode cX7_init 21 = .ok (.iconst 3, 1) := by decide +kernel
theorem dX7_init_22 : decode cX7_init 22 = .ok (.anewarray 18, 3) := by decide +kernel
theorem dX7_init_25 : decode cX7_init 25 = .ok (.putfield 20, 3) := by decide +kernel
theorem dX7_init_28 : decode cX7_init 28 = .ok (.aload_n 0, 1) := by decide +kernel
theorem dX7_init_29 : decode cX7_init 29 = .ok (.sipush 256, 3) := by decide +kernel
theorem dX7_init_32 : decode cX7_init 32 = .ok (.newarray .int, 2) := by decide +kernel
theorem dX7_init_34 : decode cX7_init 34 = .ok (.putfield 24, 3) := by decide +kernel
theorem dX7_init_37 : decode cX7_init 37 = .ok (.aload_n 0, 1) := by decide +kernel
theorem dX7_init_38 : decode cX7_init 38 = .ok (.iconst 1, 1) := by decide +kernel
theorem dX7_init_39 : decode cX7_init 39 = .ok (.putfield 27, 3) := by decide +kernel
theorem dX7_init_42 : decode cX7_init 42 = .ok (.aload_n 0, 1) := by decide +kernel
theorem dX7_init_43 : decode cX7_init 43 = .ok (.iconst 2, 1) := by decide +kernel
theorem dX7_init_44 : decode cX7_init 44 = .ok (.putfield 31, 3) := by decide +kernel
theorem dX7_init_47 : decode cX7_init 47 = .ok (.aload_n 0, 1) := by decide +kernel
theorem dX7_init_48 : decode cX7_init 48 = .ok (.bipush 16, 2) := by decide +kernel
theorem dX7_init_50 : decode cX7_init 50 = .ok (.putfield 34, 3) := by decide +kernel
theorem dX7_init_53 : decode cX7_init 53 = .ok (.aload_n 0, 1) := by decide +kernel
theorem dX7_init_54 : decode cX7_init 54 = .ok (.getfield 24, 3) := by decide +kernel
theorem dX7_init_57 : decode cX7_init 57 = .ok (.iconst (-1), 1) := by decide +kernel
theorem dX7_init_58 : decode cX7_init 58 = .ok (.invokestatic 37, 3) := by decide +kernel
theorem dX7_init_61 : decode cX7_init 61 = .ok (.iconst 0, 1) := by decide +kernel
theorem dX7_init_62 : decode cX7_init 62 = .ok (.istore_n 1, 1) := by decide +kernel
theorem dX7_init_63 : decode cX7_init 63 = .ok (.iload_n 1, 1) := by decide +kernel
theorem dX7_init_64 : decode cX7_init 64 = .ok (.iconst 3, 1) := by decide +kernel
theorem dX7_init_65 : decode cX7_init 65 = .ok (.if_icmp .ge 22, 3) := by decide +kernel
theorem dX7_init_68 : decode cX7_init 68 = .ok (.aload_n 0, 1) := by decide +kernel
theorem dX7_init_69 : decode cX7_init 69 = .ok (.getfield 20, 3) := by decide +kernel
theorem dX7_init_72 : decode cX7_init 72 = .ok (.iload_n 1, 1) := by decide +kernel
theorem dX7_init_73 : decode cX7_init 73 = .ok (.new 18, 3) := by decide +kernel
theorem dX7_init_76 : decode cX7_init 76 = .ok (.dup, 1) := by decide +kernel
theorem dX7_init_77 : decode cX7_init 77 = .ok (.invokespecial 43, 3) := by decide +kernel
theorem dX7_init_80 : decode cX7_init 80 = .ok (.aastore, 1) := by decide +kernel
theorem dX7_init_81 : decode cX7_init 81 = .ok (.iinc 1 1, 3) := by decide +kernel
theorem dX7_init_84 : decode cX7_init 84 = .ok (.goto (-21), 3) := by decide +kernel
theorem dX7_init_87 : decode cX7_init 87 = .ok (.return_, 1) := by decide +kernel
theorem ol_X7 : Cond.methodLink RX7 3 objectInit ∈ T1 := T1_of 115 (by decide +kernel) rfl
theorem cl_X7_18 : Cond.classLink RX7 18 RX2 ∈ T1 := T1_of 116 (by decide +kernel) rfl
theorem it_X2 : Cond.instantiable RX2 6 ∈ T1 := T1_of 121 (by decide +kernel) rfl
theorem in_X2 : Cond.initialized RX2 ∈ T1 := T1_of 85 (by decide +kernel) rfl
theorem cw_X2 : Cond.code yX2_init cX2_init 1 none ∈ T1 := T1_of 124 (by decide +kernel) rfl
theorem im_X2 : Cond.instanceMethod yX2_init ∈ T1 := T1_of 123 (by decide +kernel) rfl
def kb7 (E : En) (b : Nat) : List va_E := (.inr (7, [.ref (b + 1), .ref (b + 2), .ref (b + 3), .ref (b + 4), .int (1 : Int32), .int (2 : Int32), .int (16 : Int32)]) :: ((([.inl (cy E 0, 8, .inl (fun _ => 0)), .inl (cy E 0, 8, .inl (fun _ => 0)), .inl (cy E 3, 3, .inr (.inr (.inr (.inr (va_up (va_up (va_up (fun _ => none) 0 (some (b + 5))) 1 (some (b + 14))) 2 (some (b + 23))))))), .inl (cy E 0, 256, .inl (ff (fun _ => 0) 256 (-1 : Int32)))] ++ kb2 E (b + 5)) ++ kb2 E (b + 14)) ++ kb2 E (b + 23)))
theorem kbl_7 (E : En) (b : Nat) : (kb7 E b).length = 32 := rfl
set_option maxHeartbeats 4000000 in
set_option maxRecDepth 100000 in
theorem c_X7_init (l : Launch) (E : En) (hE : Dj E) (b : Nat) : Met l yX7_init (wt yX7_init cX7_init 2 none) { frames := 3, cells := 31, slots := 2768, locals := 63 } (Pk E b 7 [.null, .null, .null, .null, .int 0, .int 0, .int 0]) (Qk E b (kb7 E b)) 31 2768 (fun q => b ≤ q) := by
  refine kmet_of (cc := cX7_init) (nL := 2) (rm := { frames := 3, cells := 31, slots := 2768, locals := 63 }) (by decide) hE (by decide) ?_
  intro p e s m below meth c C hr hlk hin2 hN hB ls hl
  have hx := C.1.1
  have hb := C.1.2.1
  have hl : lv_has ls 2 [(0, .ref b)] := hl
  have hB : Bq E s b (.inr (7, [.null, .null, .null, .null, .int 0, .int 0, .int 0]) :: []) 0 s.heap _ := hB
  refine lv_aload_n hx hb dX7_init_0 rfl (lv_at hl 0 rfl) ?_
  refine bk_obj ol_X7 oi_ oc_ C hl.1 (Nat.le_of_ble_eq_true rfl) (Nat.le_of_ble_eq_true rfl) dX7_init_1 ?_
  refine lv_aload_n hx hb dX7_init_4 rfl (lv_at hl 0 rfl) ?_
  refine lv_bipush (v := (8 : Int32)) hx hb dX7_init_5 (by decide) ?_
  refine bk_newa (atype := .int) (t0 := 0) (ty := .int) (N := 8) (a0 := (8, .inl (fun _ => 0))) rfl (fun _ => rfl) (fun _ => rfl) (by decide) rfl (by decide) (n9 := 1) rfl C hB ax_int (Nat.le_of_ble_eq_true rfl) (Nat.le_of_ble_eq_true rfl) dX7_init_7 (fun H hB => ?_)
  have hB : Bq E s b (.inr (7, [.null, .null, .null, .null, .int 0, .int 0, .int 0]) :: [.inl (cy E 0, 8, .inl (fun _ => 0))]) 1 H _ := hB
  refine bk_putF (q := 0) (T := TX7) (N := 7) (ci := 7) (f := 0) (fs := [.null, .null, .null, .null, .int 0, .int 0, .int 0]) (ty := (.array .int)) uw_7 tyX7_ok nmX7 rfl (by decide) rfl rfl rfl (by decide +kernel) (Nat.le_of_ble_eq_true rfl) rfl rfl C hin2 hB rfl fl_X7_9 dX7_init_9 (fun H locs hB => ?_)
  have hB : Bq E s b (.inr (7, [.ref (b + 1), .null, .null, .null, .int 0, .int 0, .int 0]) :: [.inl (cy E 0, 8, .inl (fun _ => 0))]) 1 H _ := hB
  refine lv_aload_n hx hb dX7_init_12 rfl (lv_at hl 0 rfl) ?_
  refine lv_bipush (v := (8 : Int32)) hx hb dX7_init_13 (by decide) ?_
  refine bk_newa (atype := .int) (t0 := 0) (ty := .int) (N := 8) (a0 := (8, .inl (fun _ => 0))) rfl (fun _ => rfl) (fun _ => rfl) (by decide) rfl (by decide) (n9 := 2) (by simp only [List.length_cons, List.length_append, List.length_nil]) C hB ax_int (Nat.le_of_ble_eq_true rfl) (Nat.le_of_ble_eq_true rfl) dX7_init_15 (fun H hB => ?_)
  have hB : Bq E s b (.inr (7, [.ref (b + 1), .null, .null, .null, .int 0, .int 0, .int 0]) :: [.inl (cy E 0, 8, .inl (fun _ => 0)), .inl (cy E 0, 8, .inl (fun _ => 0))]) 2 H _ := hB
  refine bk_putF (q := 0) (T := TX7) (N := 7) (ci := 7) (f := 1) (fs := [.ref (b + 1), .null, .null, .null, .int 0, .int 0, .int 0]) (ty := (.array .int)) uw_7 tyX7_ok nmX7 rfl (by decide) rfl rfl rfl (by decide +kernel) (Nat.le_of_ble_eq_true rfl) rfl rfl C hin2 hB rfl fl_X7_15 dX7_init_17 (fun H locs hB => ?_)
  have hB : Bq E s b (.inr (7, [.ref (b + 1), .ref (b + 2), .null, .null, .int 0, .int 0, .int 0]) :: [.inl (cy E 0, 8, .inl (fun _ => 0)), .inl (cy E 0, 8, .inl (fun _ => 0))]) 2 H _ := hB
  refine lv_aload_n hx hb dX7_init_20 rfl (lv_at hl 0 rfl) ?_
  refine lv_iconst (v := (3 : Int32)) hx hb dX7_init_21 (by decide) ?_
  refine bk_newq (t0 := 3) (Cn := RX2) (N := 3) (fun _ => rfl) (by decide) rfl (by decide) (n9 := 3) (by simp only [List.length_cons, List.length_append, List.length_nil]) C hB cl_X7_18 hN.1 (Nat.le_of_ble_eq_true rfl) (Nat.le_of_ble_eq_true rfl) dX7_init_22 (fun H hB => ?_)
  have hB : Bq E s b (.inr (7, [.ref (b + 1), .ref (b + 2), .null, .null, .int 0, .int 0, .int 0]) :: [.inl (cy E 0, 8, .inl (fun _ => 0)), .inl (cy E 0, 8, .inl (fun _ => 0)), .inl (cy E 3, 3, .inr (.inr (.inr (.inr (fun _ => none)))))]) 3 H _ := hB
  refine bk_putF (q := 0) (T := TX7) (N := 7) (ci := 7) (f := 2) (fs := [.ref (b + 1), .ref (b + 2), .null, .null, .int 0, .int 0, .int 0]) (ty := (.array (.object RX2))) uw_7 tyX7_ok nmX7 rfl (by decide) rfl rfl rfl (by decide +kernel) (Nat.le_of_ble_eq_true rfl) rfl rfl C hin2 hB rfl fl_X7_20 dX7_init_25 (fun H locs hB => ?_)
  have hB : Bq E s b (.inr (7, [.ref (b + 1), .ref (b + 2), .ref (b + 3), .null, .int 0, .int 0, .int 0]) :: [.inl (cy E 0, 8, .inl (fun _ => 0)), .inl (cy E 0, 8, .inl (fun _ => 0)), .inl (cy E 3, 3, .inr (.inr (.inr (.inr (fun _ => none)))))]) 3 H _ := hB
  refine lv_aload_n hx hb dX7_init_28 rfl (lv_at hl 0 rfl) ?_
  refine lv_sipush (v := (256 : Int32)) hx hb dX7_init_29 (by decide) ?_
  refine bk_newa (atype := .int) (t0 := 0) (ty := .int) (N := 256) (a0 := (256, .inl (fun _ => 0))) rfl (fun _ => rfl) (fun _ => rfl) (by decide) rfl (by decide) (n9 := 4) (by simp only [List.length_cons, List.length_append, List.length_nil]) C hB ax_int (Nat.le_of_ble_eq_true rfl) (Nat.le_of_ble_eq_true rfl) dX7_init_32 (fun H hB => ?_)
  have hB : Bq E s b (.inr (7, [.ref (b + 1), .ref (b + 2), .ref (b + 3), .null, .int 0, .int 0, .int 0]) :: [.inl (cy E 0, 8, .inl (fun _ => 0)), .inl (cy E 0, 8, .inl (fun _ => 0)), .inl (cy E 3, 3, .inr (.inr (.inr (.inr (fun _ => none))))), .inl (cy E 0, 256, .inl (fun _ => 0))]) 4 H _ := hB
  refine bk_putF (q := 0) (T := TX7) (N := 7) (ci := 7) (f := 3) (fs := [.ref (b + 1), .ref (b + 2), .ref (b + 3), .null, .int 0, .int 0, .int 0]) (ty := (.array .int)) uw_7 tyX7_ok nmX7 rfl (by decide) rfl rfl rfl (by decide +kernel) (Nat.le_of_ble_eq_true rfl) rfl rfl C hin2 hB rfl fl_X7_24 dX7_init_34 (fun H locs hB => ?_)
  have hB : Bq E s b (.inr (7, [.ref (b + 1), .ref (b + 2), .ref (b + 3), .ref (b + 4), .int 0, .int 0, .int 0]) :: [.inl (cy E 0, 8, .inl (fun _ => 0)), .inl (cy E 0, 8, .inl (fun _ => 0)), .inl (cy E 3, 3, .inr (.inr (.inr (.inr (fun _ => none))))), .inl (cy E 0, 256, .inl (fun _ => 0))]) 4 H _ := hB
  refine lv_aload_n hx hb dX7_init_37 rfl (lv_at hl 0 rfl) ?_
  refine lv_iconst (v := (1 : Int32)) hx hb dX7_init_38 (by decide) ?_
  refine bk_put (q := 0) (T := TX7) (N := 7) (ci := 7) (f := 4) (fs := [.ref (b + 1), .ref (b + 2), .ref (b + 3), .ref (b + 4), .int 0, .int 0, .int 0]) (ty := .int) uw_7 tyX7_ok nmX7 rfl (by decide) rfl rfl (by decide +kernel) (Nat.le_of_ble_eq_true rfl) (by first | rfl | decide) (by first | rfl | decide) C hB rfl fl_X7_27 dX7_init_39 (fun H locs hB => ?_)
  have hB : Bq E s b (.inr (7, [.ref (b + 1), .ref (b + 2), .ref (b + 3), .ref (b + 4), .int (1 : Int32), .int 0, .int 0]) :: [.inl (cy E 0, 8, .inl (fun _ => 0)), .inl (cy E 0, 8, .inl (fun _ => 0)), .inl (cy E 3, 3, .inr (.inr (.inr (.inr (fun _ => none))))), .inl (cy E 0, 256, .inl (fun _ => 0))]) 4 H _ := hB
  refine lv_aload_n hx hb dX7_init_42 rfl (lv_at hl 0 rfl) ?_
  refine lv_iconst (v := (2 : Int32)) hx hb dX7_init_43 (by decide) ?_
  refine bk_put (q := 0) (T := TX7) (N := 7) (ci := 7) (f := 5) (fs := [.ref (b + 1), .ref (b + 2), .ref (b + 3), .ref (b + 4), .int (1 : Int32), .int 0, .int 0]) (ty := .int) uw_7 tyX7_ok nmX7 rfl (by decide) rfl rfl (by decide +kernel) (Nat.le_of_ble_eq_true rfl) (by first | rfl | decide) (by first | rfl | decide) C hB rfl fl_X7_31 dX7_init_44 (fun H locs hB => ?_)
  have hB : Bq E s b (.inr (7, [.ref (b + 1), .ref (b + 2), .ref (b + 3), .ref (b + 4), .int (1 : Int32), .int (2 : Int32), .int 0]) :: [.inl (cy E 0, 8, .inl (fun _ => 0)), .inl (cy E 0, 8, .inl (fun _ => 0)), .inl (cy E 3, 3, .inr (.inr (.inr (.inr (fun _ => none))))), .inl (cy E 0, 256, .inl (fun _ => 0))]) 4 H _ := hB
  refine lv_aload_n hx hb dX7_init_47 rfl (lv_at hl 0 rfl) ?_
  refine lv_bipush (v := (16 : Int32)) hx hb dX7_init_48 (by decide) ?_
  refine bk_put (q := 0) (T := TX7) (N := 7) (ci := 7) (f := 6) (fs := [.ref (b + 1), .ref (b + 2), .ref (b + 3), .ref (b + 4), .int (1 : Int32), .int (2 : Int32), .int 0]) (ty := .int) uw_7 tyX7_ok nmX7 rfl (by decide) rfl rfl (by decide +kernel) (Nat.le_of_ble_eq_true rfl) (by first | rfl | decide) (by first | rfl | decide) C hB rfl fl_X7_34 dX7_init_50 (fun H locs hB => ?_)
  have hB : Bq E s b (.inr (7, [.ref (b + 1), .ref (b + 2), .ref (b + 3), .ref (b + 4), .int (1 : Int32), .int (2 : Int32), .int (16 : Int32)]) :: [.inl (cy E 0, 8, .inl (fun _ => 0)), .inl (cy E 0, 8, .inl (fun _ => 0)), .inl (cy E 3, 3, .inr (.inr (.inr (.inr (fun _ => none))))), .inl (cy E 0, 256, .inl (fun _ => 0))]) 4 H _ := hB
  refine lv_aload_n hx hb dX7_init_53 rfl (lv_at hl 0 rfl) ?_
  refine bk_get (q := 0) (T := TX7) (N := 7) (ci := 7) (f := 3) (fs := [.ref (b + 1), .ref (b + 2), .ref (b + 3), .ref (b + 4), .int (1 : Int32), .int (2 : Int32), .int (16 : Int32)]) (v := .ref (b + 4)) uw_7 rfl (by decide) rfl C hB rfl rfl fl_X7_24 dX7_init_54 ?_
  refine lv_iconst (v := (-1 : Int32)) hx hb dX7_init_57 (by decide) ?_
  refine bk_fill (q := 4) (n := 256) (k := 704) (f := fun _ => 0) (rest := []) (fun E f g => ce_704 E 0 f g) (by decide) C hB rfl ml_X7_37 ⟨(Nat.le_of_ble_eq_true rfl), (Nat.le_of_ble_eq_true rfl)⟩ ⟨(Nat.le_of_ble_eq_true rfl), (Nat.le_of_ble_eq_true rfl)⟩ hl.1 (Nat.le_of_ble_eq_true rfl) dX7_init_58 (fun H locs hB => ?_)
  have hB : Bq E s b (.inr (7, [.ref (b + 1), .ref (b + 2), .ref (b + 3), .ref (b + 4), .int (1 : Int32), .int (2 : Int32), .int (16 : Int32)]) :: [.inl (cy E 0, 8, .inl (fun _ => 0)), .inl (cy E 0, 8, .inl (fun _ => 0)), .inl (cy E 3, 3, .inr (.inr (.inr (.inr (fun _ => none))))), .inl (cy E 0, 256, .inl (ff (fun _ => 0) 256 (-1 : Int32)))]) 4 H _ := hB
  refine lv_iconst (v := (0 : Int32)) hx hb dX7_init_61 (by decide) ?_
  refine lv_istore_n hx hb dX7_init_62 rfl hl (by decide) rfl (fun ls hl => ?_)
  have hl : lv_has ls 2 [(1, .int (0 : Int32)), (0, .ref b)] := hl
  refine lv_iload_n hx hb dX7_init_63 rfl (lv_at hl 0 rfl) ?_
  refine lv_iconst (v := (3 : Int32)) hx hb dX7_init_64 (by decide) ?_
  refine lv_icmp_ge (tgt := 87) hx hb dX7_init_65 rfl (fun hc => absurd hc (by decide)) (fun hc => ?_)
  refine lv_aload_n hx hb dX7_init_68 rfl (lv_at hl 1 rfl) ?_
  refine bk_get (q := 0) (T := TX7) (N := 7) (ci := 7) (f := 2) (fs := [.ref (b + 1), .ref (b + 2), .ref (b + 3), .ref (b + 4), .int (1 : Int32), .int (2 : Int32), .int (16 : Int32)]) (v := .ref (b + 3)) uw_7 rfl (by decide) rfl C hB rfl rfl fl_X7_20 dX7_init_69 ?_
  refine lv_iload_n hx hb dX7_init_72 rfl (lv_at hl 0 rfl) ?_
  refine bk_new (Cn := RX2) (T := TX2) (N := 6) (ci := 2) (ty0 := tyX2) (fs := [.null, .null, .null, .null, .null, .int 0]) uw_2 tyX2_ok rfl (by decide) (n9 := 5) (by simp only [List.length_cons, List.length_append, List.length_nil]) C hB cl_X7_18 it_X2 in_X2 (Nat.le_of_ble_eq_true rfl) (Nat.le_of_ble_eq_true rfl) dX7_init_73 (fun H hB => ?_)
  refine lv_dup hx hb dX7_init_76 rfl ?_
  refine bk_initN (es := (.inr (7, [.ref (b + 1), .ref (b + 2), .ref (b + 3), .ref (b + 4), .int (1 : Int32), .int (2 : Int32), .int (16 : Int32)]) :: [.inl (cy E 0, 8, .inl (fun _ => 0)), .inl (cy E 0, 8, .inl (fun _ => 0)), .inl (cy E 3, 3, .inr (.inr (.inr (.inr (fun _ => none))))), .inl (cy E 0, 256, .inl (ff (fun _ => 0) 256 (-1 : Int32)))])) (rest := [.ref (b + 5), .int (0 : Int32), .ref (b + 3)]) (es1 := kb2 E (b + 5)) (n9 := 5) (by simp only [List.length_cons, List.length_append, List.length_nil]) (c_X2_init l E hE (b + 5)) rfl C hN hB (by decide) in_X2 cw_X2 im_X2 (by decide +kernel) ⟨(Nat.le_of_ble_eq_true rfl), (Nat.le_of_ble_eq_true rfl)⟩ ⟨(Nat.le_of_ble_eq_true rfl), (Nat.le_of_ble_eq_true rfl)⟩ hl.1 (Nat.le_of_ble_eq_true rfl) dX7_init_77 (fun H locs hB => ?_)
  have hB : Bq E s b (.inr (7, [.ref (b + 1), .ref (b + 2), .ref (b + 3), .ref (b + 4), .int (1 : Int32), .int (2 : Int32), .int (16 : Int32)]) :: ([.inl (cy E 0, 8, .inl (fun _ => 0)), .inl (cy E 0, 8, .inl (fun _ => 0)), .inl (cy E 3, 3, .inr (.inr (.inr (.inr (fun _ => none))))), .inl (cy E 0, 256, .inl (ff (fun _ => 0) 256 (-1 : Int32)))] ++ kb2 E (b + 5))) 13 H _ := hB
  refine bk_aast (q := 3) (n := 3) (t0 := 3) (qk := 5) (ci := 2) (r := (RX2, TX2, 6)) (f := (fun _ => none)) (rest := []) (fun _ => rfl) rfl C hB rfl rfl (by unfold vp_in; decide) dX7_init_80 (fun H locs hB => ?_)
  have hB : Bq E s b (.inr (7, [.ref (b + 1), .ref (b + 2), .ref (b + 3), .ref (b + 4), .int (1 : Int32), .int (2 : Int32), .int (16 : Int32)]) :: ([.inl (cy E 0, 8, .inl (fun _ => 0)), .inl (cy E 0, 8, .inl (fun _ => 0)), .inl (cy E 3, 3, .inr (.inr (.inr (.inr (va_up (fun _ => none) 0 (some (b + 5))))))), .inl (cy E 0, 256, .inl (ff (fun _ => 0) 256 (-1 : Int32)))] ++ kb2 E (b + 5))) 13 H _ := hB
  refine lv_iinc (v := (1 : Int32)) hx hb dX7_init_81 hl (k := 0) rfl (by decide) (by decide) rfl (fun ls hl => ?_)
  have hl : lv_has ls 2 [(1, .int (1 : Int32)), (0, .ref b)] := hl
  refine lv_goto (tgt := 63) hx hb dX7_init_84 rfl ?_
  refine lv_iload_n hx hb dX7_init_63 rfl (lv_at hl 0 rfl) ?_
  refine lv_iconst (v := (3 : Int32)) hx hb dX7_init_64 (by decide) ?_
  refine lv_icmp_ge (tgt := 87) hx hb dX7_init_65 rfl (fun hc => absurd hc (by decide)) (fun hc => ?_)
  refine lv_aload_n hx hb dX7_init_68 rfl (lv_at hl 1 rfl) ?_
  refine bk_get (q := 0) (T := TX7) (N := 7) (ci := 7) (f := 2) (fs := [.ref (b + 1), .ref (b + 2), .ref (b + 3), .ref (b + 4), .int (1 : Int32), .int (2 : Int32), .int (16 : Int32)]) (v := .ref (b + 3)) uw_7 rfl (by decide) rfl C hB rfl rfl fl_X7_20 dX7_init_69 ?_
  refine lv_iload_n hx hb dX7_init_72 rfl (lv_at hl 0 rfl) ?_
  refine bk_new (Cn := RX2) (T := TX2) (N := 6) (ci := 2) (ty0 := tyX2) (fs := [.null, .null, .null, .null, .null, .int 0]) uw_2 tyX2_ok rfl (by decide) (n9 := 14) (by simp only [List.length_cons, List.length_append, List.length_nil, kbl_2]) C hB cl_X7_18 it_X2 in_X2 (Nat.le_of_ble_eq_true rfl) (Nat.le_of_ble_eq_true rfl) dX7_init_73 (fun H hB => ?_)
  refine lv_dup hx hb dX7_init_76 rfl ?_
  refine bk_initN (es := (.inr (7, [.ref (b + 1), .ref (b + 2), .ref (b + 3), .ref (b + 4), .int (1 : Int32), .int (2 : Int32), .int (16 : Int32)]) :: ([.inl (cy E 0, 8, .inl (fun _ => 0)), .inl (cy E 0, 8, .inl (fun _ => 0)), .inl (cy E 3, 3, .inr (.inr (.inr (.inr (va_up (fun _ => none) 0 (some (b + 5))))))), .inl (cy E 0, 256, .inl (ff (fun _ => 0) 256 (-1 : Int32)))] ++ kb2 E (b + 5)))) (rest := [.ref (b + 14), .int (1 : Int32), .ref (b + 3)]) (es1 := kb2 E (b + 14)) (n9 := 14) (by simp only [List.length_cons, List.length_append, List.length_nil, kbl_2]) (c_X2_init l E hE (b + 14)) rfl C hN hB (by decide) in_X2 cw_X2 im_X2 (by decide +kernel) ⟨(Nat.le_of_ble_eq_true rfl), (Nat.le_of_ble_eq_true rfl)⟩ ⟨(Nat.le_of_ble_eq_true rfl), (Nat.le_of_ble_eq_true rfl)⟩ hl.1 (Nat.le_of_ble_eq_true rfl) dX7_init_77 (fun H locs hB => ?_)
  have hB : Bq E s b (.inr (7, [.ref (b + 1), .ref (b + 2), .ref (b + 3), .ref (b + 4), .int (1 : Int32), .int (2 : Int32), .int (16 : Int32)]) :: (([.inl (cy E 0, 8, .inl (fun _ => 0)), .inl (cy E 0, 8, .inl (fun _ => 0)), .inl (cy E 3, 3, .inr (.inr (.inr (.inr (va_up (fun _ => none) 0 (some (b + 5))))))), .inl (cy E 0, 256, .inl (ff (fun _ => 0) 256 (-1 : Int32)))] ++ kb2 E (b + 5)) ++ kb2 E (b + 14))) 22 H _ := hB
  refine bk_aast (q := 3) (n := 3) (t0 := 3) (qk := 14) (ci := 2) (r := (RX2, TX2, 6)) (f := (va_up (fun _ => none) 0 (some (b + 5)))) (rest := []) (fun _ => rfl) rfl C hB rfl rfl (by unfold vp_in; decide) dX7_init_80 (fun H locs hB => ?_)
  have hB : Bq E s b (.inr (7, [.ref (b + 1), .ref (b + 2), .ref (b + 3), .ref (b + 4), .int (1 : Int32), .int (2 : Int32), .int (16 : Int32)]) :: (([.inl (cy E 0, 8, .inl (fun _ => 0)), .inl (cy E 0, 8, .inl (fun _ => 0)), .inl (cy E 3, 3, .inr (.inr (.inr (.inr (va_up (va_up (fun _ => none) 0 (some (b + 5))) 1 (some (b + 14))))))), .inl (cy E 0, 256, .inl (ff (fun _ => 0) 256 (-1 : Int32)))] ++ kb2 E (b + 5)) ++ kb2 E (b + 14))) 22 H _ := hB
  refine lv_iinc (v := (2 : Int32)) hx hb dX7_init_81 hl (k := 0) rfl (by decide) (by decide) rfl (fun ls hl => ?_)
  have hl : lv_has ls 2 [(1, .int (2 : Int32)), (0, .ref b)] := hl
  refine lv_goto (tgt := 63) hx hb dX7_init_84 rfl ?_
  refine lv_iload_n hx hb dX7_init_63 rfl (lv_at hl 0 rfl) ?_
  refine lv_iconst (v := (3 : Int32)) hx hb dX7_init_64 (by decide) ?_
  refine lv_icmp_ge (tgt := 87) hx hb dX7_init_65 rfl (fun hc => absurd hc (by decide)) (fun hc => ?_)
  refine lv_aload_n hx hb dX7_init_68 rfl (lv_at hl 1 rfl) ?_
  refine bk_get (q := 0) (T := TX7) (N := 7) (ci := 7) (f := 2) (fs := [.ref (b + 1), .ref (b + 2), .ref (b + 3), .ref (b + 4), .int (1 : Int32), .int (2 : Int32), .int (16 : Int32)]) (v := .ref (b + 3)) uw_7 rfl (by decide) rfl C hB rfl rfl fl_X7_20 dX7_init_69 ?_
  refine lv_iload_n hx hb dX7_init_72 rfl (lv_at hl 0 rfl) ?_
  refine bk_new (Cn := RX2) (T := TX2) (N := 6) (ci := 2) (ty0 := tyX2) (fs := [.null, .null, .null, .null, .null, .int 0]) uw_2 tyX2_ok rfl (by decide) (n9 := 23) (by simp only [List.length_cons, List.length_append, List.length_nil, kbl_2]) C hB cl_X7_18 it_X2 in_X2 (Nat.le_of_ble_eq_true rfl) (Nat.le_of_ble_eq_true rfl) dX7_init_73 (fun H hB => ?_)
  refine lv_dup hx hb dX7_init_76 rfl ?_
  refine bk_initN (es := (.inr (7, [.ref (b + 1), .ref (b + 2), .ref (b + 3), .ref (b + 4), .int (1 : Int32), .int (2 : Int32), .int (16 : Int32)]) :: (([.inl (cy E 0, 8, .inl (fun _ => 0)), .inl (cy E 0, 8, .inl (fun _ => 0)), .inl (cy E 3, 3, .inr (.inr (.inr (.inr (va_up (va_up (fun _ => none) 0 (some (b + 5))) 1 (some (b + 14))))))), .inl (cy E 0, 256, .inl (ff (fun _ => 0) 256 (-1 : Int32)))] ++ kb2 E (b + 5)) ++ kb2 E (b + 14)))) (rest := [.ref (b + 23), .int (2 : Int32), .ref (b + 3)]) (es1 := kb2 E (b + 23)) (n9 := 23) (by simp only [List.length_cons, List.length_append, List.length_nil, kbl_2]) (c_X2_init l E hE (b + 23)) rfl C hN hB (by decide) in_X2 cw_X2 im_X2 (by decide +kernel) ⟨(Nat.le_of_ble_eq_true rfl), (Nat.le_of_ble_eq_true rfl)⟩ ⟨(Nat.le_of_ble_eq_true rfl), (Nat.le_of_ble_eq_true rfl)⟩ hl.1 (Nat.le_of_ble_eq_true rfl) dX7_init_77 (fun H locs hB => ?_)
  have hB : Bq E s b (.inr (7, [.ref (b + 1), .ref (b + 2), .ref (b + 3), .ref (b + 4), .int (1 : Int32), .int (2 : Int32), .int (16 : Int32)]) :: ((([.inl (cy E 0, 8, .inl (fun _ => 0)), .inl (cy E 0, 8, .inl (fun _ => 0)), .inl (cy E 3, 3, .inr (.inr (.inr (.inr (va_up (va_up (fun _ => none) 0 (some (b + 5))) 1 (some (b + 14))))))), .inl (cy E 0, 256, .inl (ff (fun _ => 0) 256 (-1 : Int32)))] ++ kb2 E (b + 5)) ++ kb2 E (b + 14)) ++ kb2 E (b + 23))) 31 H _ := hB
  refine bk_aast (q := 3) (n := 3) (t0 := 3) (qk := 23) (ci := 2) (r := (RX2, TX2, 6)) (f := (va_up (va_up (fun _ => none) 0 (some (b + 5))) 1 (some (b + 14)))) (rest := []) (fun _ => rfl) rfl C hB rfl rfl (by unfold vp_in; decide) dX7_init_80 (fun H locs hB => ?_)
  have hB : Bq E s b (.inr (7, [.ref (b + 1), .ref (b + 2), .ref (b + 3), .ref (b + 4), .int (1 : Int32), .int (2 : Int32), .int (16 : Int32)]) :: ((([.inl (cy E 0, 8, .inl (fun _ => 0)), .inl (cy E 0, 8, .inl (fun _ => 0)), .inl (cy E 3, 3, .inr (.inr (.inr (.inr (va_up (va_up (va_up (fun _ => none) 0 (some (b + 5))) 1 (some (b + 14))) 2 (some (b + 23))))))), .inl (cy E 0, 256, .inl (ff (fun _ => 0) 256 (-1 : Int32)))] ++ kb2 E (b + 5)) ++ kb2 E (b + 14)) ++ kb2 E (b + 23))) 31 H _ := hB
  refine lv_iinc (v := (3 : Int32)) hx hb dX7_init_81 hl (k := 0) rfl (by decide) (by decide) rfl (fun ls hl => ?_)
  have hl : lv_has ls 2 [(1, .int (3 : Int32)), (0, .ref b)] := hl
  refine lv_goto (tgt := 63) hx hb dX7_init_84 rfl ?_
  refine lv_iload_n hx hb dX7_init_63 rfl (lv_at hl 0 rfl) ?_
  refine lv_iconst (v := (3 : Int32)) hx hb dX7_init_64 (by decide) ?_
  refine lv_icmp_ge (tgt := 87) hx hb dX7_init_65 rfl (fun hc => ?_) (fun hc => absurd hc (by decide))
  exact bk_vret C hr hlk hB dX7_init_87
