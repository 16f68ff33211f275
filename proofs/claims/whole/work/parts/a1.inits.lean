/-! THE CONSTRUCTORS (by program) -/
theorem dX4_init_0 : decode cX4_init 0 = .ok (.aload_n 0, 1) := by decide +kernel
theorem dX4_init_1 : decode cX4_init 1 = .ok (.invokespecial 3, 3) := by decide +kernel
theorem dX4_init_4 : decode cX4_init 4 = .ok (.aload_n 0, 1) := by decide +kernel
theorem dX4_init_5 : decode cX4_init 5 = .ok (.bipush 8, 2) := by decide +kernel
theorem dX4_init_7 : decode cX4_init 7 = .ok (.newarray .int, 2) := by decide +kernel
theorem dX4_init_9 : decode cX4_init 9 = .ok (.putfield 9, 3) := by decide +kernel
theorem dX4_init_12 : decode cX4_init 12 = .ok (.aload_n 0, 1) := by decide +kernel
theorem dX4_init_13 : decode cX4_init 13 = .ok (.bipush 8, 2) := by decide +kernel
theorem dX4_init_15 : decode cX4_init 15 = .ok (.newarray .int, 2) := by decide +kernel
theorem dX4_init_17 : decode cX4_init 17 = .ok (.putfield 15, 3) := by decide +kernel
theorem dX4_init_20 : decode cX4_init 20 = .ok (.aload_n 0, 1) := by decide +kernel
theorem dX4_init_21 : decode cX4_init 21 = .ok (.iconst 4, 1) := by decide +kernel
theorem dX4_init_22 : decode cX4_init 22 = .ok (.newarray .int, 2) := by decide +kernel
theorem dX4_init_24 : decode cX4_init 24 = .ok (.putfield 18, 3) := by decide +kernel
theorem dX4_init_27 : decode cX4_init 27 = .ok (.aload_n 0, 1) := by decide +kernel
theorem dX4_init_28 : decode cX4_init 28 = .ok (.bipush (-2), 2) := by decide +kernel
theorem dX4_init_30 : decode cX4_init 30 = .ok (.putfield 21, 3) := by decide +kernel
theorem dX4_init_33 : decode cX4_init 33 = .ok (.aload_n 0, 1) := by decide +kernel
theorem dX4_init_34 : decode cX4_init 34 = .ok (.iconst 0, 1) := by decide +kernel
theorem dX4_init_35 : decode cX4_init 35 = .ok (.putfield 25, 3) := by decide +kernel
theorem dX4_init_38 : decode cX4_init 38 = .ok (.aload_n 0, 1) := by decide +kernel
theorem dX4_init_39 : decode cX4_init 39 = .ok (.getfield 18, 3) := by decide +kernel
theorem dX4_init_42 : decode cX4_init 42 = .ok (.bipush (-2), 2) := by decide +kernel
theorem dX4_init_44 : decode cX4_init 44 = .ok (.invokestatic 29, 3) := by decide +kernel
theorem dX4_init_47 : decode cX4_init 47 = .ok (.return_, 1) := by decide +kernel
theorem ol_X4 : Cond.methodLink RX4 3 objectInit ∈ T1 := T1_of 131 (by decide +kernel) rfl
theorem oi_ : Cond.instanceMethod objectInit ∈ T1 := T1_of 108 (by decide +kernel) rfl
theorem oc_ : Cond.code objectInit ⟨#[0xb1]⟩ 1 none ∈ T1 := T1_of 109 (by decide +kernel) rfl
theorem ax_int : Cond.arrayClass .int ∈ T1 := T1_of 151 (by decide +kernel) rfl
def kb4 (E : En) (b : Nat) : List va_E := (.inr (4, [.ref (b + 1), .ref (b + 2), .ref (b + 3), .int (-2 : Int32), .int (0 : Int32)]) :: [.inl (cy E 0, 8, .inl (fun _ => 0)), .inl (cy E 0, 8, .inl (fun _ => 0)), .inl (cy E 0, 4, .inl (ff (fun _ => 0) 4 (-2 : Int32)))])
theorem kbl_4 (E : En) (b : Nat) : (kb4 E b).length = 4 := rfl
set_option maxHeartbeats 4000000 in
set_option maxRecDepth 100000 in
theorem c_X4_init (l : Launch) (E : En) (hE : Dj E) (b : Nat) : Met l yX4_init (wt yX4_init cX4_init 1 none) { frames := 1, cells := 3, slots := 20, locals := 23 } (Pk E b 4 [.null, .null, .null, .int 0, .int 0]) (Qk E b (kb4 E b)) 3 20 (fun q => b ≤ q) := by
  refine kmet_of (cc := cX4_init) (nL := 1) (rm := { frames := 1, cells := 3, slots := 20, locals := 23 }) (by decide) hE (by decide) ?_
  intro p e s m below meth c C hr hlk hin2 hN hB ls hl
  have hx := C.1.1
  have hb := C.1.2.1
  have hl : lv_has ls 1 [(0, .ref b)] := hl
  have hB : Bq E s b (.inr (4, [.null, .null, .null, .int 0, .int 0]) :: []) 0 s.heap _ := hB
  refine lv_aload_n hx hb dX4_init_0 rfl (lv_at hl 0 rfl) ?_
  refine bk_obj ol_X4 oi_ oc_ C hl.1 (Nat.le_of_ble_eq_true rfl) (Nat.le_of_ble_eq_true rfl) dX4_init_1 ?_
  refine lv_aload_n hx hb dX4_init_4 rfl (lv_at hl 0 rfl) ?_
  refine lv_bipush (v := (8 : Int32)) hx hb dX4_init_5 (by decide) ?_
  refine bk_newa (atype := .int) (t0 := 0) (ty := .int) (N := 8) (a0 := (8, .inl (fun _ => 0))) rfl (fun _ => rfl) (fun _ => rfl) (by decide) rfl (by decide) (n9 := 1) rfl C hB ax_int (Nat.le_of_ble_eq_true rfl) (Nat.le_of_ble_eq_true rfl) dX4_init_7 (fun H hB => ?_)
  have hB : Bq E s b (.inr (4, [.null, .null, .null, .int 0, .int 0]) :: [.inl (cy E 0, 8, .inl (fun _ => 0))]) 1 H _ := hB
  refine bk_putF (q := 0) (T := TX4) (N := 5) (ci := 4) (f := 0) (fs := [.null, .null, .null, .int 0, .int 0]) (ty := (.array .int)) uw_4 tyX4_ok nmX4 rfl (by decide) rfl rfl rfl (by decide +kernel) (Nat.le_of_ble_eq_true rfl) rfl rfl C hin2 hB rfl fl_X4_9 dX4_init_9 (fun H locs hB => ?_)
  have hB : Bq E s b (.inr (4, [.ref (b + 1), .null, .null, .int 0, .int 0]) :: [.inl (cy E 0, 8, .inl (fun _ => 0))]) 1 H _ := hB
  refine lv_aload_n hx hb dX4_init_12 rfl (lv_at hl 0 rfl) ?_
  refine lv_bipush (v := (8 : Int32)) hx hb dX4_init_13 (by decide) ?_
  refine bk_newa (atype := .int) (t0 := 0) (ty := .int) (N := 8) (a0 := (8, .inl (fun _ => 0))) rfl (fun _ => rfl) (fun _ => rfl) (by decide) rfl (by decide) (n9 := 2) rfl C hB ax_int (Nat.le_of_ble_eq_true rfl) (Nat.le_of_ble_eq_true rfl) dX4_init_15 (fun H hB => ?_)
  have hB : Bq E s b (.inr (4, [.ref (b + 1), .null, .null, .int 0, .int 0]) :: [.inl (cy E 0, 8, .inl (fun _ => 0)), .inl (cy E 0, 8, .inl (fun _ => 0))]) 2 H _ := hB
  refine bk_putF (q := 0) (T := TX4) (N := 5) (ci := 4) (f := 1) (fs := [.ref (b + 1), .null, .null, .int 0, .int 0]) (ty := (.array .int)) uw_4 tyX4_ok nmX4 rfl (by decide) rfl rfl rfl (by decide +kernel) (Nat.le_of_ble_eq_true rfl) rfl rfl C hin2 hB rfl fl_X4_15 dX4_init_17 (fun H locs hB => ?_)
  have hB : Bq E s b (.inr (4, [.ref (b + 1), .ref (b + 2), .null, .int 0, .int 0]) :: [.inl (cy E 0, 8, .inl (fun _ => 0)), .inl (cy E 0, 8, .inl (fun _ => 0))]) 2 H _ := hB
  refine lv_aload_n hx hb dX4_init_20 rfl (lv_at hl 0 rfl) ?_
  refine lv_iconst (v := (4 : Int32)) hx hb dX4_init_21 (by decide) ?_
  refine bk_newa (atype := .int) (t0 := 0) (ty := .int) (N := 4) (a0 := (4, .inl (fun _ => 0))) rfl (fun _ => rfl) (fun _ => rfl) (by decide) rfl (by decide) (n9 := 3) rfl C hB ax_int (Nat.le_of_ble_eq_true rfl) (Nat.le_of_ble_eq_true rfl) dX4_init_22 (fun H hB => ?_)
  have hB : Bq E s b (.inr (4, [.ref (b + 1), .ref (b + 2), .null, .int 0, .int 0]) :: [.inl (cy E 0, 8, .inl (fun _ => 0)), .inl (cy E 0, 8, .inl (fun _ => 0)), .inl (cy E 0, 4, .inl (fun _ => 0))]) 3 H _ := hB
  refine bk_putF (q := 0) (T := TX4) (N := 5) (ci := 4) (f := 2) (fs := [.ref (b + 1), .ref (b + 2), .null, .int 0, .int 0]) (ty := (.array .int)) uw_4 tyX4_ok nmX4 rfl (by decide) rfl rfl rfl (by decide +kernel) (Nat.le_of_ble_eq_true rfl) rfl rfl C hin2 hB rfl fl_X4_18 dX4_init_24 (fun H locs hB => ?_)
  have hB : Bq E s b (.inr (4, [.ref (b + 1), .ref (b + 2), .ref (b + 3), .int 0, .int 0]) :: [.inl (cy E 0, 8, .inl (fun _ => 0)), .inl (cy E 0, 8, .inl (fun _ => 0)), .inl (cy E 0, 4, .inl (fun _ => 0))]) 3 H _ := hB
  refine lv_aload_n hx hb dX4_init_27 rfl (lv_at hl 0 rfl) ?_
  refine lv_bipush (v := (-2 : Int32)) hx hb dX4_init_28 (by decide) ?_
  refine bk_put (q := 0) (T := TX4) (N := 5) (ci := 4) (f := 3) (fs := [.ref (b + 1), .ref (b + 2), .ref (b + 3), .int 0, .int 0]) (ty := .int) uw_4 tyX4_ok nmX4 rfl (by decide) rfl rfl (by decide +kernel) (Nat.le_of_ble_eq_true rfl) (by first | rfl | decide) (by first | rfl | decide) C hB rfl fl_X4_21 dX4_init_30 (fun H locs hB => ?_)
  have hB : Bq E s b (.inr (4, [.ref (b + 1), .ref (b + 2), .ref (b + 3), .int (-2 : Int32), .int 0]) :: [.inl (cy E 0, 8, .inl (fun _ => 0)), .inl (cy E 0, 8, .inl (fun _ => 0)), .inl (cy E 0, 4, .inl (fun _ => 0))]) 3 H _ := hB
  refine lv_aload_n hx hb dX4_init_33 rfl (lv_at hl 0 rfl) ?_
  refine lv_iconst (v := (0 : Int32)) hx hb dX4_init_34 (by decide) ?_
  refine bk_put (q := 0) (T := TX4) (N := 5) (ci := 4) (f := 4) (fs := [.ref (b + 1), .ref (b + 2), .ref (b + 3), .int (-2 : Int32), .int 0]) (ty := .boolean) uw_4 tyX4_ok nmX4 rfl (by decide) rfl rfl (by decide +kernel) (Nat.le_of_ble_eq_true rfl) (by first | rfl | decide) (by first | rfl | decide) C hB rfl fl_X4_25 dX4_init_35 (fun H locs hB => ?_)
  have hB : Bq E s b (.inr (4, [.ref (b + 1), .ref (b + 2), .ref (b + 3), .int (-2 : Int32), .int (0 : Int32)]) :: [.inl (cy E 0, 8, .inl (fun _ => 0)), .inl (cy E 0, 8, .inl (fun _ => 0)), .inl (cy E 0, 4, .inl (fun _ => 0))]) 3 H _ := hB
  refine lv_aload_n hx hb dX4_init_38 rfl (lv_at hl 0 rfl) ?_
  refine bk_get (q := 0) (T := TX4) (N := 5) (ci := 4) (f := 2) (fs := [.ref (b + 1), .ref (b + 2), .ref (b + 3), .int (-2 : Int32), .int (0 : Int32)]) (v := .ref (b + 3)) uw_4 rfl (by decide) rfl C hB rfl rfl fl_X4_18 dX4_init_39 ?_
  refine lv_bipush (v := (-2 : Int32)) hx hb dX4_init_42 (by decide) ?_
  refine bk_fill (q := 3) (n := 4) (k := 403) (f := fun _ => 0) (rest := []) (fun E f g => ce_403 E 0 f g) (by decide) C hB rfl ml_X4_29 ⟨(Nat.le_of_ble_eq_true rfl), (Nat.le_of_ble_eq_true rfl)⟩ ⟨(Nat.le_of_ble_eq_true rfl), (Nat.le_of_ble_eq_true rfl)⟩ hl.1 (Nat.le_of_ble_eq_true rfl) dX4_init_44 (fun H locs hB => ?_)
  have hB : Bq E s b (.inr (4, [.ref (b + 1), .ref (b + 2), .ref (b + 3), .int (-2 : Int32), .int (0 : Int32)]) :: [.inl (cy E 0, 8, .inl (fun _ => 0)), .inl (cy E 0, 8, .inl (fun _ => 0)), .inl (cy E 0, 4, .inl (ff (fun _ => 0) 4 (-2 : Int32)))]) 3 H _ := hB
  exact bk_vret C hr hlk hB dX4_init_47
theorem dX2_init_0 : decode cX2_init 0 = .ok (.aload_n 0, 1) := by decide +kernel
theorem dX2_init_1 : decode cX2_init 1 = .ok (.invokespecial 3, 3) := by decide +kernel
theorem dX2_init_4 : decode cX2_init 4 = .ok (.aload_n 0, 1) := by decide +kernel
theorem dX2_init_5 : decode cX2_init 5 = .ok (.sipush 200, 3) := by decide +kernel
theorem dX2_init_8 : decode cX2_init 8 = .ok (.newarray .int, 2) := by decide +kernel
theorem dX2_init_10 : decode cX2_init 10 = .ok (.putfield 9, 3) := by decide +kernel
theorem dX2_init_13 : decode cX2_init 13 = .ok (.aload_n 0, 1) := by decide +kernel
theorem dX2_init_14 : decode cX2_init 14 = .ok (.sipush 200, 3) := by decide +kernel
theorem dX2_init_17 : decode cX2_init 17 = .ok (.newarray .int, 2) := by decide +kernel
theorem dX2_init_19 : decode cX2_init 19 = .ok (.putfield 15, 3) := by decide +kernel
theorem dX2_init_22 : decode cX2_init 22 = .ok (.aload_n 0, 1) := by decide +kernel
theorem dX2_init_23 : decode cX2_init 23 = .ok (.sipush 200, 3) := by decide +kernel
theorem dX2_init_26 : decode cX2_init 26 = .ok (.newarray .int, 2) := by decide +kernel
theorem dX2_init_28 : decode cX2_init 28 = .ok (.putfield 18, 3) := by decide +kernel
theorem dX2_init_31 : decode cX2_init 31 = .ok (.aload_n 0, 1) := by decide +kernel
theorem dX2_init_32 : decode cX2_init 32 = .ok (.sipush 200, 3) := by decide +kernel
theorem dX2_init_35 : decode cX2_init 35 = .ok (.newarray .int, 2) := by decide +kernel
theorem dX2_init_37 : decode cX2_init 37 = .ok (.putfield 21, 3) := by decide +kernel
theorem dX2_init_40 : decode cX2_init 40 = .ok (.aload_n 0, 1) := by decide +kernel
theorem dX2_init_41 : decode cX2_init 41 = .ok (.new 24, 3) := by decide +kernel
theorem dX2_init_44 : decode cX2_init 44 = .ok (.dup, 1) := by decide +kernel
theorem dX2_init_45 : decode cX2_init 45 = .ok (.invokespecial 26, 3) := by decide +kernel
theorem dX2_init_48 : decode cX2_init 48 = .ok (.putfield 27, 3) := by decide +kernel
theorem dX2_init_51 : decode cX2_init 51 = .ok (.aload_n 0, 1) := by decide +kernel
theorem dX2_init_52 : decode cX2_init 52 = .ok (.iconst 0, 1) := by decide +kernel
theorem dX2_init_53 : decode cX2_init 53 = .ok (.putfield 31, 3) := by decide +kernel
theorem dX2_init_56 : decode cX2_init 56 = .ok (.return_, 1) := by decide +kernel
theorem ol_X2 : Cond.methodLink RX2 3 objectInit ∈ T1 := T1_of 125 (by decide +kernel) rfl
theorem cl_X2_24 : Cond.classLink RX2 24 RX4 ∈ T1 := T1_of 126 (by decide +kernel) rfl
theorem it_X4 : Cond.instantiable RX4 5 ∈ T1 := T1_of 127 (by decide +kernel) rfl
theorem in_X4 : Cond.initialized RX4 ∈ T1 := T1_of 86 (by decide +kernel) rfl
theorem cw_X4 : Cond.code yX4_init cX4_init 1 none ∈ T1 := T1_of 130 (by decide +kernel) rfl
theorem im_X4 : Cond.instanceMethod yX4_init ∈ T1 := T1_of 129 (by decide +kernel) rfl
def kb2 (E : En) (b : Nat) : List va_E := (.inr (2, [.ref (b + 1), .ref (b + 2), .ref (b + 3), .ref (b + 4), .ref (b + 5), .int (0 : Int32)]) :: [.inl (cy E 0, 200, .inl (fun _ => 0)), .inl (cy E 0, 200, .inl (fun _ => 0)), .inl (cy E 0, 200, .inl (fun _ => 0)), .inl (cy E 0, 200, .inl (fun _ => 0)), .inr (4, [.ref (b + 6), .ref (b + 7), .ref (b + 8), .int (-2 : Int32), .int (0 : Int32)]), .inl (cy E 0, 8, .inl (fun _ => 0)), .inl (cy E 0, 8, .inl (fun _ => 0)), .inl (cy E 0, 4, .inl (ff (fun _ => 0) 4 (-2 : Int32)))])
theorem kbl_2 (E : En) (b : Nat) : (kb2 E b).length = 9 := rfl
set_option maxHeartbeats 4000000 in
set_option maxRecDepth 100000 in
theorem c_X2_init (l : Launch) (E : En) (hE : Dj E) (b : Nat) : Met l yX2_init (wt yX2_init cX2_init 1 none) { frames := 2, cells := 8, slots := 825, locals := 43 } (Pk E b 2 [.null, .null, .null, .null, .null, .int 0]) (Qk E b (kb2 E b)) 8 825 (fun q => b ≤ q) := by
  refine kmet_of (cc := cX2_init) (nL := 1) (rm := { frames := 2, cells := 8, slots := 825, locals := 43 }) (by decide) hE (by decide) ?_
  intro p e s m below meth c C hr hlk hin2 hN hB ls hl
  have hx := C.1.1
  have hb := C.1.2.1
  have hl : lv_has ls 1 [(0, .ref b)] := hl
  have hB : Bq E s b (.inr (2, [.null, .null, .null, .null, .null, .int 0]) :: []) 0 s.heap _ := hB
  refine lv_aload_n hx hb dX2_init_0 rfl (lv_at hl 0 rfl) ?_
  refine bk_obj ol_X2 oi_ oc_ C hl.1 (Nat.le_of_ble_eq_true rfl) (Nat.le_of_ble_eq_true rfl) dX2_init_1 ?_
  refine lv_aload_n hx hb dX2_init_4 rfl (lv_at hl 0 rfl) ?_
  refine lv_sipush (v := (200 : Int32)) hx hb dX2_init_5 (by decide) ?_
  refine bk_newa (atype := .int) (t0 := 0) (ty := .int) (N := 200) (a0 := (200, .inl (fun _ => 0))) rfl (fun _ => rfl) (fun _ => rfl) (by decide) rfl (by decide) (n9 := 1) rfl C hB ax_int (Nat.le_of_ble_eq_true rfl) (Nat.le_of_ble_eq_true rfl) dX2_init_8 (fun H hB => ?_)
  have hB : Bq E s b (.inr (2, [.null, .null, .null, .null, .null, .int 0]) :: [.inl (cy E 0, 200, .inl (fun _ => 0))]) 1 H _ := hB
  refine bk_putF (q := 0) (T := TX2) (N := 6) (ci := 2) (f := 0) (fs := [.null, .null, .null, .null, .null, .int 0]) (ty := (.array .int)) uw_2 tyX2_ok nmX2 rfl (by decide) rfl rfl rfl (by decide +kernel) (Nat.le_of_ble_eq_true rfl) rfl rfl C hin2 hB rfl fl_X2_9 dX2_init_10 (fun H locs hB => ?_)
  have hB : Bq E s b (.inr (2, [.ref (b + 1), .null, .null, .null, .null, .int 0]) :: [.inl (cy E 0, 200, .inl (fun _ => 0))]) 1 H _ := hB
  refine lv_aload_n hx hb dX2_init_13 rfl (lv_at hl 0 rfl) ?_
  refine lv_sipush (v := (200 : Int32)) hx hb dX2_init_14 (by decide) ?_
  refine bk_newa (atype := .int) (t0 := 0) (ty := .int) (N := 200) (a0 := (200, .inl (fun _ => 0))) rfl (fun _ => rfl) (fun _ => rfl) (by decide) rfl (by decide) (n9 := 2) rfl C hB ax_int (Nat.le_of_ble_eq_true rfl) (Nat.le_of_ble_eq_true rfl) dX2_init_17 (fun H hB => ?_)
  have hB : Bq E s b (.inr (2, [.ref (b + 1), .null, .null, .null, .null, .int 0]) :: [.inl (cy E 0, 200, .inl (fun _ => 0)), .inl (cy E 0, 200, .inl (fun _ => 0))]) 2 H _ := hB
  refine bk_putF (q := 0) (T := TX2) (N := 6) (ci := 2) (f := 1) (fs := [.ref (b + 1), .null, .null, .null, .null, .int 0]) (ty := (.array .int)) uw_2 tyX2_ok nmX2 rfl (by decide) rfl rfl rfl (by decide +kernel) (Nat.le_of_ble_eq_true rfl) rfl rfl C hin2 hB rfl fl_X2_15 dX2_init_19 (fun H locs hB => ?_)
  have hB : Bq E s b (.inr (2, [.ref (b + 1), .ref (b + 2), .null, .null, .null, .int 0]) :: [.inl (cy E 0, 200, .inl (fun _ => 0)), .inl (cy E 0, 200, .inl (fun _ => 0))]) 2 H _ := hB
  refine lv_aload_n hx hb dX2_init_22 rfl (lv_at hl 0 rfl) ?_
  refine lv_sipush (v := (200 : Int32)) hx hb dX2_init_23 (by decide) ?_
  refine bk_newa (atype := .int) (t0 := 0) (ty := .int) (N := 200) (a0 := (200, .inl (fun _ => 0))) rfl (fun _ => rfl) (fun _ => rfl) (by decide) rfl (by decide) (n9 := 3) rfl C hB ax_int (Nat.le_of_ble_eq_true rfl) (Nat.le_of_ble_eq_true rfl) dX2_init_26 (fun H hB => ?_)
  have hB : Bq E s b (.inr (2, [.ref (b + 1), .ref (b + 2), .null, .null, .null, .int 0]) :: [.inl (cy E 0, 200, .inl (fun _ => 0)), .inl (cy E 0, 200, .inl (fun _ => 0)), .inl (cy E 0, 200, .inl (fun _ => 0))]) 3 H _ := hB
  refine bk_putF (q := 0) (T := TX2) (N := 6) (ci := 2) (f := 2) (fs := [.ref (b + 1), .ref (b + 2), .null, .null, .null, .int 0]) (ty := (.array .int)) uw_2 tyX2_ok nmX2 rfl (by decide) rfl rfl rfl (by decide +kernel) (Nat.le_of_ble_eq_true rfl) rfl rfl C hin2 hB rfl fl_X2_18 dX2_init_28 (fun H locs hB => ?_)
  have hB : Bq E s b (.inr (2, [.ref (b + 1), .ref (b + 2), .ref (b + 3), .null, .null, .int 0]) :: [.inl (cy E 0, 200, .inl (fun _ => 0)), .inl (cy E 0, 200, .inl (fun _ => 0)), .inl (cy E 0, 200, .inl (fun _ => 0))]) 3 H _ := hB
  refine lv_aload_n hx hb dX2_init_31 rfl (lv_at hl 0 rfl) ?_
  refine lv_sipush (v := (200 : Int32)) hx hb dX2_init_32 (by decide) ?_
  refine bk_newa (atype := .int) (t0 := 0) (ty := .int) (N := 200) (a0 := (200, .inl (fun _ => 0))) rfl (fun _ => rfl) (fun _ => rfl) (by decide) rfl (by decide) (n9 := 4) rfl C hB ax_int (Nat.le_of_ble_eq_true rfl) (Nat.le_of_ble_eq_true rfl) dX2_init_35 (fun H hB => ?_)
  have hB : Bq E s b (.inr (2, [.ref (b + 1), .ref (b + 2), .ref (b + 3), .null, .null, .int 0]) :: [.inl (cy E 0, 200, .inl (fun _ => 0)), .inl (cy E 0, 200, .inl (fun _ => 0)), .inl (cy E 0, 200, .inl (fun _ => 0)), .inl (cy E 0, 200, .inl (fun _ => 0))]) 4 H _ := hB
  refine bk_putF (q := 0) (T := TX2) (N := 6) (ci := 2) (f := 3) (fs := [.ref (b + 1), .ref (b + 2), .ref (b + 3), .null, .null, .int 0]) (ty := (.array .int)) uw_2 tyX2_ok nmX2 rfl (by decide) rfl rfl rfl (by decide +kernel) (Nat.le_of_ble_eq_true rfl) rfl rfl C hin2 hB rfl fl_X2_21 dX2_init_37 (fun H locs hB => ?_)
  have hB : Bq E s b (.inr (2, [.ref (b + 1), .ref (b + 2), .ref (b + 3), .ref (b + 4), .null, .int 0]) :: [.inl (cy E 0, 200, .inl (fun _ => 0)), .inl (cy E 0, 200, .inl (fun _ => 0)), .inl (cy E 0, 200, .inl (fun _ => 0)), .inl (cy E 0, 200, .inl (fun _ => 0))]) 4 H _ := hB
  refine lv_aload_n hx hb dX2_init_40 rfl (lv_at hl 0 rfl) ?_
  refine bk_new (Cn := RX4) (T := TX4) (N := 5) (ci := 4) (ty0 := tyX4) (fs := [.null, .null, .null, .int 0, .int 0]) uw_4 tyX4_ok rfl (by decide) (n9 := 5) rfl C hB cl_X2_24 it_X4 in_X4 (Nat.le_of_ble_eq_true rfl) (Nat.le_of_ble_eq_true rfl) dX2_init_41 (fun H hB => ?_)
  refine lv_dup hx hb dX2_init_44 rfl ?_
  refine bk_init (es := (.inr (2, [.ref (b + 1), .ref (b + 2), .ref (b + 3), .ref (b + 4), .null, .int 0]) :: [.inl (cy E 0, 200, .inl (fun _ => 0)), .inl (cy E 0, 200, .inl (fun _ => 0)), .inl (cy E 0, 200, .inl (fun _ => 0)), .inl (cy E 0, 200, .inl (fun _ => 0))])) (rest := [.ref (b + 5), .ref b]) (es1 := kb4 E (b + 5)) (n9 := 5) rfl (c_X4_init l E hE (b + 5)) rfl C hN hB ml_X2_26 in_X4 cw_X4 im_X4 (by decide +kernel) ⟨(Nat.le_of_ble_eq_true rfl), (Nat.le_of_ble_eq_true rfl)⟩ ⟨(Nat.le_of_ble_eq_true rfl), (Nat.le_of_ble_eq_true rfl)⟩ hl.1 (Nat.le_of_ble_eq_true rfl) dX2_init_45 (fun H locs hB => ?_)
  have hB : Bq E s b (.inr (2, [.ref (b + 1), .ref (b + 2), .ref (b + 3), .ref (b + 4), .null, .int 0]) :: [.inl (cy E 0, 200, .inl (fun _ => 0)), .inl (cy E 0, 200, .inl (fun _ => 0)), .inl (cy E 0, 200, .inl (fun _ => 0)), .inl (cy E 0, 200, .inl (fun _ => 0)), .inr (4, [.ref (b + 6), .ref (b + 7), .ref (b + 8), .int (-2 : Int32), .int (0 : Int32)]), .inl (cy E 0, 8, .inl (fun _ => 0)), .inl (cy E 0, 8, .inl (fun _ => 0)), .inl (cy E 0, 4, .inl (ff (fun _ => 0) 4 (-2 : Int32)))]) 8 H _ := hB
  refine bk_putF (q := 0) (T := TX2) (N := 6) (ci := 2) (f := 4) (fs := [.ref (b + 1), .ref (b + 2), .ref (b + 3), .ref (b + 4), .null, .int 0]) (ty := (.object RX4)) uw_2 tyX2_ok nmX2 rfl (by decide) rfl rfl rfl (by decide +kernel) (Nat.le_of_ble_eq_true rfl) rfl rfl C hin2 hB rfl fl_X2_27 dX2_init_48 (fun H locs hB => ?_)
  have hB : Bq E s b (.inr (2, [.ref (b + 1), .ref (b + 2), .ref (b + 3), .ref (b + 4), .ref (b + 5), .int 0]) :: [.inl (cy E 0, 200, .inl (fun _ => 0)), .inl (cy E 0, 200, .inl (fun _ => 0)), .inl (cy E 0, 200, .inl (fun _ => 0)), .inl (cy E 0, 200, .inl (fun _ => 0)), .inr (4, [.ref (b + 6), .ref (b + 7), .ref (b + 8), .int (-2 : Int32), .int (0 : Int32)]), .inl (cy E 0, 8, .inl (fun _ => 0)), .inl (cy E 0, 8, .inl (fun _ => 0)), .inl (cy E 0, 4, .inl (ff (fun _ => 0) 4 (-2 : Int32)))]) 8 H _ := hB
  refine lv_aload_n hx hb dX2_init_51 rfl (lv_at hl 0 rfl) ?_
  refine lv_iconst (v := (0 : Int32)) hx hb dX2_init_52 (by decide) ?_
  refine bk_put (q := 0) (T := TX2) (N := 6) (ci := 2) (f := 5) (fs := [.ref (b + 1), .ref (b + 2), .ref (b + 3), .ref (b + 4), .ref (b + 5), .int 0]) (ty := .int) uw_2 tyX2_ok nmX2 rfl (by decide) rfl rfl (by decide +kernel) (Nat.le_of_ble_eq_true rfl) (by first | rfl | decide) (by first | rfl | decide) C hB rfl fl_X2_31 dX2_init_53 (fun H locs hB => ?_)
  have hB : Bq E s b (.inr (2, [.ref (b + 1), .ref (b + 2), .ref (b + 3), .ref (b + 4), .ref (b + 5), .int (0 : Int32)]) :: [.inl (cy E 0, 200, .inl (fun _ => 0)), .inl (cy E 0, 200, .inl (fun _ => 0)), .inl (cy E 0, 200, .inl (fun _ => 0)), .inl (cy E 0, 200, .inl (fun _ => 0)), .inr (4, [.ref (b + 6), .ref (b + 7), .ref (b + 8), .int (-2 : Int32), .int (0 : Int32)]), .inl (cy E 0, 8, .inl (fun _ => 0)), .inl (cy E 0, 8, .inl (fun _ => 0)), .inl (cy E 0, 4, .inl (ff (fun _ => 0) 4 (-2 : Int32)))]) 8 H _ := hB
  exact bk_vret C hr hlk hB dX2_init_56
theorem dX7_init_0 : decode cX7_init 0 = .ok (.aload_n 0, 1) := by decide +kernel
theorem dX7_init_1 : decode cX7_init 1 = .ok (.invokespecial 3, 3) := by decide +kernel
theorem dX7_init_4 : decode cX7_init 4 = .ok (.aload_n 0, 1) := by decide +kernel
theorem dX7_init_5 : decode cX7_init 5 = .ok (.bipush 8, 2) := by decide +kernel
theorem dX7_init_7 : decode cX7_init 7 = .ok (.newarray .int, 2) := by decide +kernel
theorem dX7_init_9 : decode cX7_init 9 = .ok (.putfield 9, 3) := by decide +kernel
theorem dX7_init_12 : decode cX7_init 12 = .ok (.aload_n 0, 1) := by decide +kernel
theorem dX7_init_13 : decode cX7_init 13 = .ok (.bipush 8, 2) := by decide +kernel
theorem dX7_init_15 : decode cX7_init 15 = .ok (.newarray .int, 2) := by decide +kernel
theorem dX7_init_17 : decode cX7_init 17 = .ok (.putfield 15, 3) := by decide +kernel
theorem dX7_init_20 : decode cX7_init 20 = .ok (.aload_n 0, 1) := by decide +kernel
theorem dX7_init_21 : decode cX7_init 21 = .ok (.iconst 3, 1) := by decide +kernel
theorem dX7_init_22 : decode cX7_init 22 = .ok (.anewarray 18, 3) := by decide +kernel
theorem dX7_init_25 : decode cX7_init 25 = .ok (.putfield 20, 3) := by decide +kernel
theorem dX7_init_28 : decode cX7_init 28 = .ok (.aload_n 0, 1) := by decide +kernel
theorem dX7_init_29 : decode cX7_init 29 = .ok (.sipush 256, 3) := by decide +kernel
theorem dX7_init_32 : decode cX7_init 32 = .ok (.newarray .int, 2) := by decide +kernel
theorem dX7_init_34 : decode cX7_init 34 = .ok (.putfield 24, 3) := by decide +kernel
theorem dX7_init_37 : decode cX7_init 37 = .ok (.aload_n 0, 1) := by decide +kernel
theorem dX7_init_38 : decode cX7_init 38 = .ok (.iconst 1, 1) := by decide +kernel
theorem dX7_init_39 : decode cX7_init 39 = .ok (.putfield 27, 3) := by decide +kernel
theorem dX7_init_42 : decode cX7_init 42 = .ok (.aload_n 0, 1) := by decide +kernel
theorem dX7_init_43 : decode cX7_init 43 = .ok (.iconst 2, 1) := by decide +kernel
theorem dX7_init_44 : decode cX7_init 44 = .ok (.putfield 31, 3) := by decide +kernel
theorem dX7_init_47 : decode cX7_init 47 = .ok (.aload_n 0, 1) := by decide +kernel
theorem dX7_init_48 : decode cX7_init 48 = .ok (.bipush 16, 2) := by decide +kernel
theorem dX7_init_50 : decode cX7_init 50 = .ok (.putfield 34, 3) := by decide +kernel
theorem dX7_init_53 : decode cX7_init 53 = .ok (.aload_n 0, 1) := by decide +kernel
theorem dX7_init_54 : decode cX7_init 54 = .ok (.getfield 24, 3) := by decide +kernel
theorem dX7_init_57 : decode cX7_init 57 = .ok (.iconst (-1), 1) := by decide +kernel
theorem dX7_init_58 : decode cX7_init 58 = .ok (.invokestatic 37, 3) := by decide +kernel
theorem dX7_init_61 : decode cX7_init 61 = .ok (.iconst 0, 1) := by decide +kernel
theorem dX7_init_62 : decode cX7_init 62 = .ok (.istore_n 1, 1) := by decide +kernel
theorem dX7_init_63 : decode cX7_init 63 = .ok (.iload_n 1, 1) := by decide +kernel
theorem dX7_init_64 : decode cX7_init 64 = .ok (.iconst 3, 1) := by decide +kernel
theorem dX7_init_65 : decode cX7_init 65 = .ok (.if_icmp .ge 22, 3) := by decide +kernel
theorem dX7_init_68 : decode cX7_init 68 = .ok (.aload_n 0, 1) := by decide +kernel
theorem dX7_init_69 : decode cX7_init 69 = .ok (.getfield 20, 3) := by decide +kernel
theorem dX7_init_72 : decode cX7_init 72 = .ok (.iload_n 1, 1) := by decide +kernel
theorem dX7_init_73 : decode cX7_init 73 = .ok (.new 18, 3) := by decide +kernel
theorem dX7_init_76 : decode cX7_init 76 = .ok (.dup, 1) := by decide +kernel
theorem dX7_init_77 : decode cX7_init 77 = .ok (.invokespecial 43, 3) := by decide +kernel
theorem dX7_init_80 : decode cX7_init 80 = .ok (.aastore, 1) := by decide +kernel
theorem dX7_init_81 : decode cX7_init 81 = .ok (.iinc 1 1, 3) := by decide +kernel
theorem dX7_init_84 : decode cX7_init 84 = .ok (.goto (-21), 3) := by decide +kernel
theorem dX7_init_87 : decode cX7_init 87 = .ok (.return_, 1) := by decide +kernel
theorem ol_X7 : Cond.methodLink RX7 3 objectInit ∈ T1 := T1_of 115 (by decide +kernel) rfl
theorem cl_X7_18 : Cond.classLink RX7 18 RX2 ∈ T1 := T1_of 116 (by decide +kernel) rfl
theorem it_X2 : Cond.instantiable RX2 6 ∈ T1 := T1_of 121 (by decide +kernel) rfl
theorem in_X2 : Cond.initialized RX2 ∈ T1 := T1_of 85 (by decide +kernel) rfl
theorem cw_X2 : Cond.code yX2_init cX2_init 1 none ∈ T1 := T1_of 124 (by decide +kernel) rfl
theorem im_X2 : Cond.instanceMethod yX2_init ∈ T1 := T1_of 123 (by decide +kernel) rfl
def kb7 (E : En) (b : Nat) : List va_E := (.inr (7, [.ref (b + 1), .ref (b + 2), .ref (b + 3), .ref (b + 4), .int (1 : Int32), .int (2 : Int32), .int (16 : Int32)]) :: [.inl (cy E 0, 8, .inl (fun _ => 0)), .inl (cy E 0, 8, .inl (fun _ => 0)), .inl (cy E 3, 3, .inr (.inr (.inr (.inr (va_up (va_up (va_up (fun _ => none) 0 (some (b + 5))) 1 (some (b + 14))) 2 (some (b + 23))))))), .inl (cy E 0, 256, .inl (ff (fun _ => 0) 256 (-1 : Int32))), .inr (2, [.ref (b + 6), .ref (b + 7), .ref (b + 8), .ref (b + 9), .ref (b + 10), .int (0 : Int32)]), .inl (cy E 0, 200, .inl (fun _ => 0)), .inl (cy E 0, 200, .inl (fun _ => 0)), .inl (cy E 0, 200, .inl (fun _ => 0)), .inl (cy E 0, 200, .inl (fun _ => 0)), .inr (4, [.ref (b + 11), .ref (b + 12), .ref (b + 13), .int (-2 : Int32), .int (0 : Int32)]), .inl (cy E 0, 8, .inl (fun _ => 0)), .inl (cy E 0, 8, .inl (fun _ => 0)), .inl (cy E 0, 4, .inl (ff (fun _ => 0) 4 (-2 : Int32))), .inr (2, [.ref (b + 15), .ref (b + 16), .ref (b + 17), .ref (b + 18), .ref (b + 19), .int (0 : Int32)]), .inl (cy E 0, 200, .inl (fun _ => 0)), .inl (cy E 0, 200, .inl (fun _ => 0)), .inl (cy E 0, 200, .inl (fun _ => 0)), .inl (cy E 0, 200, .inl (fun _ => 0)), .inr (4, [.ref (b + 20), .ref (b + 21), .ref (b + 22), .int (-2 : Int32), .int (0 : Int32)]), .inl (cy E 0, 8, .inl (fun _ => 0)), .inl (cy E 0, 8, .inl (fun _ => 0)), .inl (cy E 0, 4, .inl (ff (fun _ => 0) 4 (-2 : Int32))), .inr (2, [.ref (b + 24), .ref (b + 25), .ref (b + 26), .ref (b + 27), .ref (b + 28), .int (0 : Int32)]), .inl (cy E 0, 200, .inl (fun _ => 0)), .inl (cy E 0, 200, .inl (fun _ => 0)), .inl (cy E 0, 200, .inl (fun _ => 0)), .inl (cy E 0, 200, .inl (fun _ => 0)), .inr (4, [.ref (b + 29), .ref (b + 30), .ref (b + 31), .int (-2 : Int32), .int (0 : Int32)]), .inl (cy E 0, 8, .inl (fun _ => 0)), .inl (cy E 0, 8, .inl (fun _ => 0)), .inl (cy E 0, 4, .inl (ff (fun _ => 0) 4 (-2 : Int32)))])
theorem kbl_7 (E : En) (b : Nat) : (kb7 E b).length = 32 := rfl
set_option maxHeartbeats 4000000 in
set_option maxRecDepth 100000 in
theorem c_X7_init (l : Launch) (E : En) (hE : Dj E) (b : Nat) : Met l yX7_init (wt yX7_init cX7_init 2 none) { frames := 3, cells := 31, slots := 2768, locals := 63 } (Pk E b 7 [.null, .null, .null, .null, .int 0, .int 0, .int 0]) (Qk E b (kb7 E b)) 31 2768 (fun q => b ≤ q) := by
  refine kmet_of (cc := cX7_init) (nL := 2) (rm := { frames := 3, cells := 31, slots := 2768, locals := 63 }) (by decide) hE (by decide) ?_
  intro p e s m below meth c C hr hlk hin2 hN hB ls hl
  have hx := C.1.1
  have hb := C.1.2.1
  have hl : lv_has ls 2 [(0, .ref b)] := hl
  have hB : Bq E s b (.inr (7, [.null, .null, .null, .null, .int 0, .int 0, .int 0]) :: []) 0 s.heap _ := hB
  refine lv_aload_n hx hb dX7_init_0 rfl (lv_at hl 0 rfl) ?_
  refine bk_obj ol_X7 oi_ oc_ C hl.1 (Nat.le_of_ble_eq_true rfl) (Nat.le_of_ble_eq_true rfl) dX7_init_1 ?_
  refine lv_aload_n hx hb dX7_init_4 rfl (lv_at hl 0 rfl) ?_
  refine lv_bipush (v := (8 : Int32)) hx hb dX7_init_5 (by decide) ?_
  refine bk_newa (atype := .int) (t0 := 0) (ty := .int) (N := 8) (a0 := (8, .inl (fun _ => 0))) rfl (fun _ => rfl) (fun _ => rfl) (by decide) rfl (by decide) (n9 := 1) rfl C hB ax_int (Nat.le_of_ble_eq_true rfl) (Nat.le_of_ble_eq_true rfl) dX7_init_7 (fun H hB => ?_)
  have hB : Bq E s b (.inr (7, [.null, .null, .null, .null, .int 0, .int 0, .int 0]) :: [.inl (cy E 0, 8, .inl (fun _ => 0))]) 1 H _ := hB
  refine bk_putF (q := 0) (T := TX7) (N := 7) (ci := 7) (f := 0) (fs := [.null, .null, .null, .null, .int 0, .int 0, .int 0]) (ty := (.array .int)) uw_7 tyX7_ok nmX7 rfl (by decide) rfl rfl rfl (by decide +kernel) (Nat.le_of_ble_eq_true rfl) rfl rfl C hin2 hB rfl fl_X7_9 dX7_init_9 (fun H locs hB => ?_)
  have hB : Bq E s b (.inr (7, [.ref (b + 1), .null, .null, .null, .int 0, .int 0, .int 0]) :: [.inl (cy E 0, 8, .inl (fun _ => 0))]) 1 H _ := hB
  refine lv_aload_n hx hb dX7_init_12 rfl (lv_at hl 0 rfl) ?_
  refine lv_bipush (v := (8 : Int32)) hx hb dX7_init_13 (by decide) ?_
  refine bk_newa (atype := .int) (t0 := 0) (ty := .int) (N := 8) (a0 := (8, .inl (fun _ => 0))) rfl (fun _ => rfl) (fun _ => rfl) (by decide) rfl (by decide) (n9 := 2) rfl C hB ax_int (Nat.le_of_ble_eq_true rfl) (Nat.le_of_ble_eq_true rfl) dX7_init_15 (fun H hB => ?_)
  have hB : Bq E s b (.inr (7, [.ref (b + 1), .null, .null, .null, .int 0, .int 0, .int 0]) :: [.inl (cy E 0, 8, .inl (fun _ => 0)), .inl (cy E 0, 8, .inl (fun _ => 0))]) 2 H _ := hB
  refine bk_putF (q := 0) (T := TX7) (N := 7) (ci := 7) (f := 1) (fs := [.ref (b + 1), .null, .null, .null, .int 0, .int 0, .int 0]) (ty := (.array .int)) uw_7 tyX7_ok nmX7 rfl (by decide) rfl rfl rfl (by decide +kernel) (Nat.le_of_ble_eq_true rfl) rfl rfl C hin2 hB rfl fl_X7_15 dX7_init_17 (fun H locs hB => ?_)
  have hB : Bq E s b (.inr (7, [.ref (b + 1), .ref (b + 2), .null, .null, .int 0, .int 0, .int 0]) :: [.inl (cy E 0, 8, .inl (fun _ => 0)), .inl (cy E 0, 8, .inl (fun _ => 0))]) 2 H _ := hB
  refine lv_aload_n hx hb dX7_init_20 rfl (lv_at hl 0 rfl) ?_
  refine lv_iconst (v := (3 : Int32)) hx hb dX7_init_21 (by decide) ?_
  refine bk_newq (t0 := 3) (Cn := RX2) (N := 3) (fun _ => rfl) (by decide) rfl (by decide) (n9 := 3) rfl C hB cl_X7_18 hN.1 (Nat.le_of_ble_eq_true rfl) (Nat.le_of_ble_eq_true rfl) dX7_init_22 (fun H hB => ?_)
  have hB : Bq E s b (.inr (7, [.ref (b + 1), .ref (b + 2), .null, .null, .int 0, .int 0, .int 0]) :: [.inl (cy E 0, 8, .inl (fun _ => 0)), .inl (cy E 0, 8, .inl (fun _ => 0)), .inl (cy E 3, 3, .inr (.inr (.inr (.inr (fun _ => none)))))]) 3 H _ := hB
  refine bk_putF (q := 0) (T := TX7) (N := 7) (ci := 7) (f := 2) (fs := [.ref (b + 1), .ref (b + 2), .null, .null, .int 0, .int 0, .int 0]) (ty := (.array (.object RX2))) uw_7 tyX7_ok nmX7 rfl (by decide) rfl rfl rfl (by decide +kernel) (Nat.le_of_ble_eq_true rfl) rfl rfl C hin2 hB rfl fl_X7_20 dX7_init_25 (fun H locs hB => ?_)
  have hB : Bq E s b (.inr (7, [.ref (b + 1), .ref (b + 2), .ref (b + 3), .null, .int 0, .int 0, .int 0]) :: [.inl (cy E 0, 8, .inl (fun _ => 0)), .inl (cy E 0, 8, .inl (fun _ => 0)), .inl (cy E 3, 3, .inr (.inr (.inr (.inr (fun _ => none)))))]) 3 H _ := hB
  refine lv_aload_n hx hb dX7_init_28 rfl (lv_at hl 0 rfl) ?_
  refine lv_sipush (v := (256 : Int32)) hx hb dX7_init_29 (by decide) ?_
  refine bk_newa (atype := .int) (t0 := 0) (ty := .int) (N := 256) (a0 := (256, .inl (fun _ => 0))) rfl (fun _ => rfl) (fun _ => rfl) (by decide) rfl (by decide) (n9 := 4) rfl C hB ax_int (Nat.le_of_ble_eq_true rfl) (Nat.le_of_ble_eq_true rfl) dX7_init_32 (fun H hB => ?_)
  have hB : Bq E s b (.inr (7, [.ref (b + 1), .ref (b + 2), .ref (b + 3), .null, .int 0, .int 0, .int 0]) :: [.inl (cy E 0, 8, .inl (fun _ => 0)), .inl (cy E 0, 8, .inl (fun _ => 0)), .inl (cy E 3, 3, .inr (.inr (.inr (.inr (fun _ => none))))), .inl (cy E 0, 256, .inl (fun _ => 0))]) 4 H _ := hB
  refine bk_putF (q := 0) (T := TX7) (N := 7) (ci := 7) (f := 3) (fs := [.ref (b + 1), .ref (b + 2), .ref (b + 3), .null, .int 0, .int 0, .int 0]) (ty := (.array .int)) uw_7 tyX7_ok nmX7 rfl (by decide) rfl rfl rfl (by decide +kernel) (Nat.le_of_ble_eq_true rfl) rfl rfl C hin2 hB rfl fl_X7_24 dX7_init_34 (fun H locs hB => ?_)
  have hB : Bq E s b (.inr (7, [.ref (b + 1), .ref (b + 2), .ref (b + 3), .ref (b + 4), .int 0, .int 0, .int 0]) :: [.inl (cy E 0, 8, .inl (fun _ => 0)), .inl (cy E 0, 8, .inl (fun _ => 0)), .inl (cy E 3, 3, .inr (.inr (.inr (.inr (fun _ => none))))), .inl (cy E 0, 256, .inl (fun _ => 0))]) 4 H _ := hB
  refine lv_aload_n hx hb dX7_init_37 rfl (lv_at hl 0 rfl) ?_
  refine lv_iconst (v := (1 : Int32)) hx hb dX7_init_38 (by decide) ?_
  refine bk_put (q := 0) (T := TX7) (N := 7) (ci := 7) (f := 4) (fs := [.ref (b + 1), .ref (b + 2), .ref (b + 3), .ref (b + 4), .int 0, .int 0, .int 0]) (ty := .int) uw_7 tyX7_ok nmX7 rfl (by decide) rfl rfl (by decide +kernel) (Nat.le_of_ble_eq_true rfl) (by first | rfl | decide) (by first | rfl | decide) C hB rfl fl_X7_27 dX7_init_39 (fun H locs hB => ?_)
  have hB : Bq E s b (.inr (7, [.ref (b + 1), .ref (b + 2), .ref (b + 3), .ref (b + 4), .int (1 : Int32), .int 0, .int 0]) :: [.inl (cy E 0, 8, .inl (fun _ => 0)), .inl (cy E 0, 8, .inl (fun _ => 0)), .inl (cy E 3, 3, .inr (.inr (.inr (.inr (fun _ => none))))), .inl (cy E 0, 256, .inl (fun _ => 0))]) 4 H _ := hB
  refine lv_aload_n hx hb dX7_init_42 rfl (lv_at hl 0 rfl) ?_
  refine lv_iconst (v := (2 : Int32)) hx hb dX7_init_43 (by decide) ?_
  refine bk_put (q := 0) (T := TX7) (N := 7) (ci := 7) (f := 5) (fs := [.ref (b + 1), .ref (b + 2), .ref (b + 3), .ref (b + 4), .int (1 : Int32), .int 0, .int 0]) (ty := .int) uw_7 tyX7_ok nmX7 rfl (by decide) rfl rfl (by decide +kernel) (Nat.le_of_ble_eq_true rfl) (by first | rfl | decide) (by first | rfl | decide) C hB rfl fl_X7_31 dX7_init_44 (fun H locs hB => ?_)
  have hB : Bq E s b (.inr (7, [.ref (b + 1), .ref (b + 2), .ref (b + 3), .ref (b + 4), .int (1 : Int32), .int (2 : Int32), .int 0]) :: [.inl (cy E 0, 8, .inl (fun _ => 0)), .inl (cy E 0, 8, .inl (fun _ => 0)), .inl (cy E 3, 3, .inr (.inr (.inr (.inr (fun _ => none))))), .inl (cy E 0, 256, .inl (fun _ => 0))]) 4 H _ := hB
  refine lv_aload_n hx hb dX7_init_47 rfl (lv_at hl 0 rfl) ?_
  refine lv_bipush (v := (16 : Int32)) hx hb dX7_init_48 (by decide) ?_
  refine bk_put (q := 0) (T := TX7) (N := 7) (ci := 7) (f := 6) (fs := [.ref (b + 1), .ref (b + 2), .ref (b + 3), .ref (b + 4), .int (1 : Int32), .int (2 : Int32), .int 0]) (ty := .int) uw_7 tyX7_ok nmX7 rfl (by decide) rfl rfl (by decide +kernel) (Nat.le_of_ble_eq_true rfl) (by first | rfl | decide) (by first | rfl | decide) C hB rfl fl_X7_34 dX7_init_50 (fun H locs hB => ?_)
  have hB : Bq E s b (.inr (7, [.ref (b + 1), .ref (b + 2), .ref (b + 3), .ref (b + 4), .int (1 : Int32), .int (2 : Int32), .int (16 : Int32)]) :: [.inl (cy E 0, 8, .inl (fun _ => 0)), .inl (cy E 0, 8, .inl (fun _ => 0)), .inl (cy E 3, 3, .inr (.inr (.inr (.inr (fun _ => none))))), .inl (cy E 0, 256, .inl (fun _ => 0))]) 4 H _ := hB
  refine lv_aload_n hx hb dX7_init_53 rfl (lv_at hl 0 rfl) ?_
  refine bk_get (q := 0) (T := TX7) (N := 7) (ci := 7) (f := 3) (fs := [.ref (b + 1), .ref (b + 2), .ref (b + 3), .ref (b + 4), .int (1 : Int32), .int (2 : Int32), .int (16 : Int32)]) (v := .ref (b + 4)) uw_7 rfl (by decide) rfl C hB rfl rfl fl_X7_24 dX7_init_54 ?_
  refine lv_iconst (v := (-1 : Int32)) hx hb dX7_init_57 (by decide) ?_
  refine bk_fill (q := 4) (n := 256) (k := 704) (f := fun _ => 0) (rest := []) (fun E f g => ce_704 E 0 f g) (by decide) C hB rfl ml_X7_37 ⟨(Nat.le_of_ble_eq_true rfl), (Nat.le_of_ble_eq_true rfl)⟩ ⟨(Nat.le_of_ble_eq_true rfl), (Nat.le_of_ble_eq_true rfl)⟩ hl.1 (Nat.le_of_ble_eq_true rfl) dX7_init_58 (fun H locs hB => ?_)
  have hB : Bq E s b (.inr (7, [.ref (b + 1), .ref (b + 2), .ref (b + 3), .ref (b + 4), .int (1 : Int32), .int (2 : Int32), .int (16 : Int32)]) :: [.inl (cy E 0, 8, .inl (fun _ => 0)), .inl (cy E 0, 8, .inl (fun _ => 0)), .inl (cy E 3, 3, .inr (.inr (.inr (.inr (fun _ => none))))), .inl (cy E 0, 256, .inl (ff (fun _ => 0) 256 (-1 : Int32)))]) 4 H _ := hB
  refine lv_iconst (v := (0 : Int32)) hx hb dX7_init_61 (by decide) ?_
  refine lv_istore_n hx hb dX7_init_62 rfl hl (by decide) rfl (fun ls hl => ?_)
  have hl : lv_has ls 2 [(1, .int (0 : Int32)), (0, .ref b)] := hl
  refine lv_iload_n hx hb dX7_init_63 rfl (lv_at hl 0 rfl) ?_
  refine lv_iconst (v := (3 : Int32)) hx hb dX7_init_64 (by decide) ?_
  refine lv_icmp_ge (tgt := 87) hx hb dX7_init_65 rfl (fun hc => absurd hc (by decide)) (fun hc => ?_)
  refine lv_aload_n hx hb dX7_init_68 rfl (lv_at hl 1 rfl) ?_
  refine bk_get (q := 0) (T := TX7) (N := 7) (ci := 7) (f := 2) (fs := [.ref (b + 1), .ref (b + 2), .ref (b + 3), .ref (b + 4), .int (1 : Int32), .int (2 : Int32), .int (16 : Int32)]) (v := .ref (b + 3)) uw_7 rfl (by decide) rfl C hB rfl rfl fl_X7_20 dX7_init_69 ?_
  refine lv_iload_n hx hb dX7_init_72 rfl (lv_at hl 0 rfl) ?_
  refine bk_new (Cn := RX2) (T := TX2) (N := 6) (ci := 2) (ty0 := tyX2) (fs := [.null, .null, .null, .null, .null, .int 0]) uw_2 tyX2_ok rfl (by decide) (n9 := 5) rfl C hB cl_X7_18 it_X2 in_X2 (Nat.le_of_ble_eq_true rfl) (Nat.le_of_ble_eq_true rfl) dX7_init_73 (fun H hB => ?_)
  refine lv_dup hx hb dX7_init_76 rfl ?_
  refine bk_initN (es := (.inr (7, [.ref (b + 1), .ref (b + 2), .ref (b + 3), .ref (b + 4), .int (1 : Int32), .int (2 : Int32), .int (16 : Int32)]) :: [.inl (cy E 0, 8, .inl (fun _ => 0)), .inl (cy E 0, 8, .inl (fun _ => 0)), .inl (cy E 3, 3, .inr (.inr (.inr (.inr (fun _ => none))))), .inl (cy E 0, 256, .inl (ff (fun _ => 0) 256 (-1 : Int32)))])) (rest := [.ref (b + 5), .int (0 : Int32), .ref (b + 3)]) (es1 := kb2 E (b + 5)) (n9 := 5) rfl (c_X2_init l E hE (b + 5)) rfl C hN hB (by decide) in_X2 cw_X2 im_X2 (by decide +kernel) ⟨(Nat.le_of_ble_eq_true rfl), (Nat.le_of_ble_eq_true rfl)⟩ ⟨(Nat.le_of_ble_eq_true rfl), (Nat.le_of_ble_eq_true rfl)⟩ hl.1 (Nat.le_of_ble_eq_true rfl) dX7_init_77 (fun H locs hB => ?_)
  have hB : Bq E s b (.inr (7, [.ref (b + 1), .ref (b + 2), .ref (b + 3), .ref (b + 4), .int (1 : Int32), .int (2 : Int32), .int (16 : Int32)]) :: [.inl (cy E 0, 8, .inl (fun _ => 0)), .inl (cy E 0, 8, .inl (fun _ => 0)), .inl (cy E 3, 3, .inr (.inr (.inr (.inr (fun _ => none))))), .inl (cy E 0, 256, .inl (ff (fun _ => 0) 256 (-1 : Int32))), .inr (2, [.ref (b + 6), .ref (b + 7), .ref (b + 8), .ref (b + 9), .ref (b + 10), .int (0 : Int32)]), .inl (cy E 0, 200, .inl (fun _ => 0)), .inl (cy E 0, 200, .inl (fun _ => 0)), .inl (cy E 0, 200, .inl (fun _ => 0)), .inl (cy E 0, 200, .inl (fun _ => 0)), .inr (4, [.ref (b + 11), .ref (b + 12), .ref (b + 13), .int (-2 : Int32), .int (0 : Int32)]), .inl (cy E 0, 8, .inl (fun _ => 0)), .inl (cy E 0, 8, .inl (fun _ => 0)), .inl (cy E 0, 4, .inl (ff (fun _ => 0) 4 (-2 : Int32)))]) 13 H _ := hB
  refine bk_aast (q := 3) (n := 3) (t0 := 3) (qk := 5) (ci := 2) (r := (RX2, TX2, 6)) (f := (fun _ => none)) (rest := []) (fun _ => rfl) rfl C hB rfl rfl (by unfold vp_in; decide) dX7_init_80 (fun H locs hB => ?_)
  have hB : Bq E s b (.inr (7, [.ref (b + 1), .ref (b + 2), .ref (b + 3), .ref (b + 4), .int (1 : Int32), .int (2 : Int32), .int (16 : Int32)]) :: [.inl (cy E 0, 8, .inl (fun _ => 0)), .inl (cy E 0, 8, .inl (fun _ => 0)), .inl (cy E 3, 3, .inr (.inr (.inr (.inr (va_up (fun _ => none) 0 (some (b + 5))))))), .inl (cy E 0, 256, .inl (ff (fun _ => 0) 256 (-1 : Int32))), .inr (2, [.ref (b + 6), .ref (b + 7), .ref (b + 8), .ref (b + 9), .ref (b + 10), .int (0 : Int32)]), .inl (cy E 0, 200, .inl (fun _ => 0)), .inl (cy E 0, 200, .inl (fun _ => 0)), .inl (cy E 0, 200, .inl (fun _ => 0)), .inl (cy E 0, 200, .inl (fun _ => 0)), .inr (4, [.ref (b + 11), .ref (b + 12), .ref (b + 13), .int (-2 : Int32), .int (0 : Int32)]), .inl (cy E 0, 8, .inl (fun _ => 0)), .inl (cy E 0, 8, .inl (fun _ => 0)), .inl (cy E 0, 4, .inl (ff (fun _ => 0) 4 (-2 : Int32)))]) 13 H _ := hB
  refine lv_iinc (v := (1 : Int32)) hx hb dX7_init_81 hl (k := 0) rfl (by decide) (by decide) rfl (fun ls hl => ?_)
  have hl : lv_has ls 2 [(1, .int (1 : Int32)), (0, .ref b)] := hl
  refine lv_goto (tgt := 63) hx hb dX7_init_84 rfl ?_
  refine lv_iload_n hx hb dX7_init_63 rfl (lv_at hl 0 rfl) ?_
  refine lv_iconst (v := (3 : Int32)) hx hb dX7_init_64 (by decide) ?_
  refine lv_icmp_ge (tgt := 87) hx hb dX7_init_65 rfl (fun hc => absurd hc (by decide)) (fun hc => ?_)
  refine lv_aload_n hx hb dX7_init_68 rfl (lv_at hl 1 rfl) ?_
  refine bk_get (q := 0) (T := TX7) (N := 7) (ci := 7) (f := 2) (fs := [.ref (b + 1), .ref (b + 2), .ref (b + 3), .ref (b + 4), .int (1 : Int32), .int (2 : Int32), .int (16 : Int32)]) (v := .ref (b + 3)) uw_7 rfl (by decide) rfl C hB rfl rfl fl_X7_20 dX7_init_69 ?_
  refine lv_iload_n hx hb dX7_init_72 rfl (lv_at hl 0 rfl) ?_
  refine bk_new (Cn := RX2) (T := TX2) (N := 6) (ci := 2) (ty0 := tyX2) (fs := [.null, .null, .null, .null, .null, .int 0]) uw_2 tyX2_ok rfl (by decide) (n9 := 14) rfl C hB cl_X7_18 it_X2 in_X2 (Nat.le_of_ble_eq_true rfl) (Nat.le_of_ble_eq_true rfl) dX7_init_73 (fun H hB => ?_)
  refine lv_dup hx hb dX7_init_76 rfl ?_
  refine bk_initN (es := (.inr (7, [.ref (b + 1), .ref (b + 2), .ref (b + 3), .ref (b + 4), .int (1 : Int32), .int (2 : Int32), .int (16 : Int32)]) :: [.inl (cy E 0, 8, .inl (fun _ => 0)), .inl (cy E 0, 8, .inl (fun _ => 0)), .inl (cy E 3, 3, .inr (.inr (.inr (.inr (va_up (fun _ => none) 0 (some (b + 5))))))), .inl (cy E 0, 256, .inl (ff (fun _ => 0) 256 (-1 : Int32))), .inr (2, [.ref (b + 6), .ref (b + 7), .ref (b + 8), .ref (b + 9), .ref (b + 10), .int (0 : Int32)]), .inl (cy E 0, 200, .inl (fun _ => 0)), .inl (cy E 0, 200, .inl (fun _ => 0)), .inl (cy E 0, 200, .inl (fun _ => 0)), .inl (cy E 0, 200, .inl (fun _ => 0)), .inr (4, [.ref (b + 11), .ref (b + 12), .ref (b + 13), .int (-2 : Int32), .int (0 : Int32)]), .inl (cy E 0, 8, .inl (fun _ => 0)), .inl (cy E 0, 8, .inl (fun _ => 0)), .inl (cy E 0, 4, .inl (ff (fun _ => 0) 4 (-2 : Int32)))])) (rest := [.ref (b + 14), .int (1 : Int32), .ref (b + 3)]) (es1 := kb2 E (b + 14)) (n9 := 14) rfl (c_X2_init l E hE (b + 14)) rfl C hN hB (by decide) in_X2 cw_X2 im_X2 (by decide +kernel) ⟨(Nat.le_of_ble_eq_true rfl), (Nat.le_of_ble_eq_true rfl)⟩ ⟨(Nat.le_of_ble_eq_true rfl), (Nat.le_of_ble_eq_true rfl)⟩ hl.1 (Nat.le_of_ble_eq_true rfl) dX7_init_77 (fun H locs hB => ?_)
  have hB : Bq E s b (.inr (7, [.ref (b + 1), .ref (b + 2), .ref (b + 3), .ref (b + 4), .int (1 : Int32), .int (2 : Int32), .int (16 : Int32)]) :: [.inl (cy E 0, 8, .inl (fun _ => 0)), .inl (cy E 0, 8, .inl (fun _ => 0)), .inl (cy E 3, 3, .inr (.inr (.inr (.inr (va_up (fun _ => none) 0 (some (b + 5))))))), .inl (cy E 0, 256, .inl (ff (fun _ => 0) 256 (-1 : Int32))), .inr (2, [.ref (b + 6), .ref (b + 7), .ref (b + 8), .ref (b + 9), .ref (b + 10), .int (0 : Int32)]), .inl (cy E 0, 200, .inl (fun _ => 0)), .inl (cy E 0, 200, .inl (fun _ => 0)), .inl (cy E 0, 200, .inl (fun _ => 0)), .inl (cy E 0, 200, .inl (fun _ => 0)), .inr (4, [.ref (b + 11), .ref (b + 12), .ref (b + 13), .int (-2 : Int32), .int (0 : Int32)]), .inl (cy E 0, 8, .inl (fun _ => 0)), .inl (cy E 0, 8, .inl (fun _ => 0)), .inl (cy E 0, 4, .inl (ff (fun _ => 0) 4 (-2 : Int32))), .inr (2, [.ref (b + 15), .ref (b + 16), .ref (b + 17), .ref (b + 18), .ref (b + 19), .int (0 : Int32)]), .inl (cy E 0, 200, .inl (fun _ => 0)), .inl (cy E 0, 200, .inl (fun _ => 0)), .inl (cy E 0, 200, .inl (fun _ => 0)), .inl (cy E 0, 200, .inl (fun _ => 0)), .inr (4, [.ref (b + 20), .ref (b + 21), .ref (b + 22), .int (-2 : Int32), .int (0 : Int32)]), .inl (cy E 0, 8, .inl (fun _ => 0)), .inl (cy E 0, 8, .inl (fun _ => 0)), .inl (cy E 0, 4, .inl (ff (fun _ => 0) 4 (-2 : Int32)))]) 22 H _ := hB
  refine bk_aast (q := 3) (n := 3) (t0 := 3) (qk := 14) (ci := 2) (r := (RX2, TX2, 6)) (f := (va_up (fun _ => none) 0 (some (b + 5)))) (rest := []) (fun _ => rfl) rfl C hB rfl rfl (by unfold vp_in; decide) dX7_init_80 (fun H locs hB => ?_)
  have hB : Bq E s b (.inr (7, [.ref (b + 1), .ref (b + 2), .ref (b + 3), .ref (b + 4), .int (1 : Int32), .int (2 : Int32), .int (16 : Int32)]) :: [.inl (cy E 0, 8, .inl (fun _ => 0)), .inl (cy E 0, 8, .inl (fun _ => 0)), .inl (cy E 3, 3, .inr (.inr (.inr (.inr (va_up (va_up (fun _ => none) 0 (some (b + 5))) 1 (some (b + 14))))))), .inl (cy E 0, 256, .inl (ff (fun _ => 0) 256 (-1 : Int32))), .inr (2, [.ref (b + 6), .ref (b + 7), .ref (b + 8), .ref (b + 9), .ref (b + 10), .int (0 : Int32)]), .inl (cy E 0, 200, .inl (fun _ => 0)), .inl (cy E 0, 200, .inl (fun _ => 0)), .inl (cy E 0, 200, .inl (fun _ => 0)), .inl (cy E 0, 200, .inl (fun _ => 0)), .inr (4, [.ref (b + 11), .ref (b + 12), .ref (b + 13), .int (-2 : Int32), .int (0 : Int32)]), .inl (cy E 0, 8, .inl (fun _ => 0)), .inl (cy E 0, 8, .inl (fun _ => 0)), .inl (cy E 0, 4, .inl (ff (fun _ => 0) 4 (-2 : Int32))), .inr (2, [.ref (b + 15), .ref (b + 16), .ref (b + 17), .ref (b + 18), .ref (b + 19), .int (0 : Int32)]), .inl (cy E 0, 200, .inl (fun _ => 0)), .inl (cy E 0, 200, .inl (fun _ => 0)), .inl (cy E 0, 200, .inl (fun _ => 0)), .inl (cy E 0, 200, .inl (fun _ => 0)), .inr (4, [.ref (b + 20), .ref (b + 21), .ref (b + 22), .int (-2 : Int32), .int (0 : Int32)]), .inl (cy E 0, 8, .inl (fun _ => 0)), .inl (cy E 0, 8, .inl (fun _ => 0)), .inl (cy E 0, 4, .inl (ff (fun _ => 0) 4 (-2 : Int32)))]) 22 H _ := hB
  refine lv_iinc (v := (2 : Int32)) hx hb dX7_init_81 hl (k := 0) rfl (by decide) (by decide) rfl (fun ls hl => ?_)
  have hl : lv_has ls 2 [(1, .int (2 : Int32)), (0, .ref b)] := hl
  refine lv_goto (tgt := 63) hx hb dX7_init_84 rfl ?_
  refine lv_iload_n hx hb dX7_init_63 rfl (lv_at hl 0 rfl) ?_
  refine lv_iconst (v := (3 : Int32)) hx hb dX7_init_64 (by decide) ?_
  refine lv_icmp_ge (tgt := 87) hx hb dX7_init_65 rfl (fun hc => absurd hc (by decide)) (fun hc => ?_)
  refine lv_aload_n hx hb dX7_init_68 rfl (lv_at hl 1 rfl) ?_
  refine bk_get (q := 0) (T := TX7) (N := 7) (ci := 7) (f := 2) (fs := [.ref (b + 1), .ref (b + 2), .ref (b + 3), .ref (b + 4), .int (1 : Int32), .int (2 : Int32), .int (16 : Int32)]) (v := .ref (b + 3)) uw_7 rfl (by decide) rfl C hB rfl rfl fl_X7_20 dX7_init_69 ?_
  refine lv_iload_n hx hb dX7_init_72 rfl (lv_at hl 0 rfl) ?_
  refine bk_new (Cn := RX2) (T := TX2) (N := 6) (ci := 2) (ty0 := tyX2) (fs := [.null, .null, .null, .null, .null, .int 0]) uw_2 tyX2_ok rfl (by decide) (n9 := 23) rfl C hB cl_X7_18 it_X2 in_X2 (Nat.le_of_ble_eq_true rfl) (Nat.le_of_ble_eq_true rfl) dX7_init_73 (fun H hB => ?_)
  refine lv_dup hx hb dX7_init_76 rfl ?_
  refine bk_initN (es := (.inr (7, [.ref (b + 1), .ref (b + 2), .ref (b + 3), .ref (b + 4), .int (1 : Int32), .int (2 : Int32), .int (16 : Int32)]) :: [.inl (cy E 0, 8, .inl (fun _ => 0)), .inl (cy E 0, 8, .inl (fun _ => 0)), .inl (cy E 3, 3, .inr (.inr (.inr (.inr (va_up (va_up (fun _ => none) 0 (some (b + 5))) 1 (some (b + 14))))))), .inl (cy E 0, 256, .inl (ff (fun _ => 0) 256 (-1 : Int32))), .inr (2, [.ref (b + 6), .ref (b + 7), .ref (b + 8), .ref (b + 9), .ref (b + 10), .int (0 : Int32)]), .inl (cy E 0, 200, .inl (fun _ => 0)), .inl (cy E 0, 200, .inl (fun _ => 0)), .inl (cy E 0, 200, .inl (fun _ => 0)), .inl (cy E 0, 200, .inl (fun _ => 0)), .inr (4, [.ref (b + 11), .ref (b + 12), .ref (b + 13), .int (-2 : Int32), .int (0 : Int32)]), .inl (cy E 0, 8, .inl (fun _ => 0)), .inl (cy E 0, 8, .inl (fun _ => 0)), .inl (cy E 0, 4, .inl (ff (fun _ => 0) 4 (-2 : Int32))), .inr (2, [.ref (b + 15), .ref (b + 16), .ref (b + 17), .ref (b + 18), .ref (b + 19), .int (0 : Int32)]), .inl (cy E 0, 200, .inl (fun _ => 0)), .inl (cy E 0, 200, .inl (fun _ => 0)), .inl (cy E 0, 200, .inl (fun _ => 0)), .inl (cy E 0, 200, .inl (fun _ => 0)), .inr (4, [.ref (b + 20), .ref (b + 21), .ref (b + 22), .int (-2 : Int32), .int (0 : Int32)]), .inl (cy E 0, 8, .inl (fun _ => 0)), .inl (cy E 0, 8, .inl (fun _ => 0)), .inl (cy E 0, 4, .inl (ff (fun _ => 0) 4 (-2 : Int32)))])) (rest := [.ref (b + 23), .int (2 : Int32), .ref (b + 3)]) (es1 := kb2 E (b + 23)) (n9 := 23) rfl (c_X2_init l E hE (b + 23)) rfl C hN hB (by decide) in_X2 cw_X2 im_X2 (by decide +kernel) ⟨(Nat.le_of_ble_eq_true rfl), (Nat.le_of_ble_eq_true rfl)⟩ ⟨(Nat.le_of_ble_eq_true rfl), (Nat.le_of_ble_eq_true rfl)⟩ hl.1 (Nat.le_of_ble_eq_true rfl) dX7_init_77 (fun H locs hB => ?_)
  have hB : Bq E s b (.inr (7, [.ref (b + 1), .ref (b + 2), .ref (b + 3), .ref (b + 4), .int (1 : Int32), .int (2 : Int32), .int (16 : Int32)]) :: [.inl (cy E 0, 8, .inl (fun _ => 0)), .inl (cy E 0, 8, .inl (fun _ => 0)), .inl (cy E 3, 3, .inr (.inr (.inr (.inr (va_up (va_up (fun _ => none) 0 (some (b + 5))) 1 (some (b + 14))))))), .inl (cy E 0, 256, .inl (ff (fun _ => 0) 256 (-1 : Int32))), .inr (2, [.ref (b + 6), .ref (b + 7), .ref (b + 8), .ref (b + 9), .ref (b + 10), .int (0 : Int32)]), .inl (cy E 0, 200, .inl (fun _ => 0)), .inl (cy E 0, 200, .inl (fun _ => 0)), .inl (cy E 0, 200, .inl (fun _ => 0)), .inl (cy E 0, 200, .inl (fun _ => 0)), .inr (4, [.ref (b + 11), .ref (b + 12), .ref (b + 13), .int (-2 : Int32), .int (0 : Int32)]), .inl (cy E 0, 8, .inl (fun _ => 0)), .inl (cy E 0, 8, .inl (fun _ => 0)), .inl (cy E 0, 4, .inl (ff (fun _ => 0) 4 (-2 : Int32))), .inr (2, [.ref (b + 15), .ref (b + 16), .ref (b + 17), .ref (b + 18), .ref (b + 19), .int (0 : Int32)]), .inl (cy E 0, 200, .inl (fun _ => 0)), .inl (cy E 0, 200, .inl (fun _ => 0)), .inl (cy E 0, 200, .inl (fun _ => 0)), .inl (cy E 0, 200, .inl (fun _ => 0)), .inr (4, [.ref (b + 20), .ref (b + 21), .ref (b + 22), .int (-2 : Int32), .int (0 : Int32)]), .inl (cy E 0, 8, .inl (fun _ => 0)), .inl (cy E 0, 8, .inl (fun _ => 0)), .inl (cy E 0, 4, .inl (ff (fun _ => 0) 4 (-2 : Int32))), .inr (2, [.ref (b + 24), .ref (b + 25), .ref (b + 26), .ref (b + 27), .ref (b + 28), .int (0 : Int32)]), .inl (cy E 0, 200, .inl (fun _ => 0)), .inl (cy E 0, 200, .inl (fun _ => 0)), .inl (cy E 0, 200, .inl (fun _ => 0)), .inl (cy E 0, 200, .inl (fun _ => 0)), .inr (4, [.ref (b + 29), .ref (b + 30), .ref (b + 31), .int (-2 : Int32), .int (0 : Int32)]), .inl (cy E 0, 8, .inl (fun _ => 0)), .inl (cy E 0, 8, .inl (fun _ => 0)), .inl (cy E 0, 4, .inl (ff (fun _ => 0) 4 (-2 : Int32)))]) 31 H _ := hB
  refine bk_aast (q := 3) (n := 3) (t0 := 3) (qk := 23) (ci := 2) (r := (RX2, TX2, 6)) (f := (va_up (va_up (fun _ => none) 0 (some (b + 5))) 1 (some (b + 14)))) (rest := []) (fun _ => rfl) rfl C hB rfl rfl (by unfold vp_in; decide) dX7_init_80 (fun H locs hB => ?_)
  have hB : Bq E s b (.inr (7, [.ref (b + 1), .ref (b + 2), .ref (b + 3), .ref (b + 4), .int (1 : Int32), .int (2 : Int32), .int (16 : Int32)]) :: [.inl (cy E 0, 8, .inl (fun _ => 0)), .inl (cy E 0, 8, .inl (fun _ => 0)), .inl (cy E 3, 3, .inr (.inr (.inr (.inr (va_up (va_up (va_up (fun _ => none) 0 (some (b + 5))) 1 (some (b + 14))) 2 (some (b + 23))))))), .inl (cy E 0, 256, .inl (ff (fun _ => 0) 256 (-1 : Int32))), .inr (2, [.ref (b + 6), .ref (b + 7), .ref (b + 8), .ref (b + 9), .ref (b + 10), .int (0 : Int32)]), .inl (cy E 0, 200, .inl (fun _ => 0)), .inl (cy E 0, 200, .inl (fun _ => 0)), .inl (cy E 0, 200, .inl (fun _ => 0)), .inl (cy E 0, 200, .inl (fun _ => 0)), .inr (4, [.ref (b + 11), .ref (b + 12), .ref (b + 13), .int (-2 : Int32), .int (0 : Int32)]), .inl (cy E 0, 8, .inl (fun _ => 0)), .inl (cy E 0, 8, .inl (fun _ => 0)), .inl (cy E 0, 4, .inl (ff (fun _ => 0) 4 (-2 : Int32))), .inr (2, [.ref (b + 15), .ref (b + 16), .ref (b + 17), .ref (b + 18), .ref (b + 19), .int (0 : Int32)]), .inl (cy E 0, 200, .inl (fun _ => 0)), .inl (cy E 0, 200, .inl (fun _ => 0)), .inl (cy E 0, 200, .inl (fun _ => 0)), .inl (cy E 0, 200, .inl (fun _ => 0)), .inr (4, [.ref (b + 20), .ref (b + 21), .ref (b + 22), .int (-2 : Int32), .int (0 : Int32)]), .inl (cy E 0, 8, .inl (fun _ => 0)), .inl (cy E 0, 8, .inl (fun _ => 0)), .inl (cy E 0, 4, .inl (ff (fun _ => 0) 4 (-2 : Int32))), .inr (2, [.ref (b + 24), .ref (b + 25), .ref (b + 26), .ref (b + 27), .ref (b + 28), .int (0 : Int32)]), .inl (cy E 0, 200, .inl (fun _ => 0)), .inl (cy E 0, 200, .inl (fun _ => 0)), .inl (cy E 0, 200, .inl (fun _ => 0)), .inl (cy E 0, 200, .inl (fun _ => 0)), .inr (4, [.ref (b + 29), .ref (b + 30), .ref (b + 31), .int (-2 : Int32), .int (0 : Int32)]), .inl (cy E 0, 8, .inl (fun _ => 0)), .inl (cy E 0, 8, .inl (fun _ => 0)), .inl (cy E 0, 4, .inl (ff (fun _ => 0) 4 (-2 : Int32)))]) 31 H _ := hB
  refine lv_iinc (v := (3 : Int32)) hx hb dX7_init_81 hl (k := 0) rfl (by decide) (by decide) rfl (fun ls hl => ?_)
  have hl : lv_has ls 2 [(1, .int (3 : Int32)), (0, .ref b)] := hl
  refine lv_goto (tgt := 63) hx hb dX7_init_84 rfl ?_
  refine lv_iload_n hx hb dX7_init_63 rfl (lv_at hl 0 rfl) ?_
  refine lv_iconst (v := (3 : Int32)) hx hb dX7_init_64 (by decide) ?_
  refine lv_icmp_ge (tgt := 87) hx hb dX7_init_65 rfl (fun hc => ?_) (fun hc => absurd hc (by decide))
  exact bk_vret C hr hlk hB dX7_init_87
theorem dX6_init_0 : decode cX6_init 0 = .ok (.aload_n 0, 1) := by decide +kernel
theorem dX6_init_1 : decode cX6_init 1 = .ok (.invokespecial 3, 3) := by decide +kernel
theorem dX6_init_4 : decode cX6_init 4 = .ok (.aload_n 0, 1) := by decide +kernel
theorem dX6_init_5 : decode cX6_init 5 = .ok (.bipush 100, 2) := by decide +kernel
theorem dX6_init_7 : decode cX6_init 7 = .ok (.newarray .long, 2) := by decide +kernel
theorem dX6_init_9 : decode cX6_init 9 = .ok (.putfield 9, 3) := by decide +kernel
theorem dX6_init_12 : decode cX6_init 12 = .ok (.aload_n 0, 1) := by decide +kernel
theorem dX6_init_13 : decode cX6_init 13 = .ok (.iconst 0, 1) := by decide +kernel
theorem dX6_init_14 : decode cX6_init 14 = .ok (.putfield 15, 3) := by decide +kernel
theorem dX6_init_17 : decode cX6_init 17 = .ok (.aload_n 0, 1) := by decide +kernel
theorem dX6_init_18 : decode cX6_init 18 = .ok (.iconst 0, 1) := by decide +kernel
theorem dX6_init_19 : decode cX6_init 19 = .ok (.putfield 19, 3) := by decide +kernel
theorem dX6_init_22 : decode cX6_init 22 = .ok (.aload_n 0, 1) := by decide +kernel
theorem dX6_init_23 : decode cX6_init 23 = .ok (.aconst_null, 1) := by decide +kernel
theorem dX6_init_24 : decode cX6_init 24 = .ok (.putfield 22, 3) := by decide +kernel
theorem dX6_init_27 : decode cX6_init 27 = .ok (.return_, 1) := by decide +kernel
theorem ol_X6 : Cond.methodLink RX6 3 objectInit ∈ T1 := T1_of 341 (by decide +kernel) rfl
theorem ax_long : Cond.arrayClass .long ∈ T1 := T1_of 335 (by decide +kernel) rfl
def kb6 (E : En) (b : Nat) : List va_E := (.inr (6, [.ref (b + 1), .int (0 : Int32), .int (0 : Int32), .null]) :: [.inl (cy E 2, 100, .inr (.inl (fun _ => 0)))])
theorem kbl_6 (E : En) (b : Nat) : (kb6 E b).length = 2 := rfl
set_option maxHeartbeats 4000000 in
set_option maxRecDepth 100000 in
theorem c_X6_init (l : Launch) (E : En) (hE : Dj E) (b : Nat) : Met l yX6_init (wt yX6_init cX6_init 1 none) { frames := 1, cells := 1, slots := 100, locals := 20 } (Pk E b 6 [.null, .int 0, .int 0, .null]) (Qk E b (kb6 E b)) 1 100 (fun q => b ≤ q) := by
  refine kmet_of (cc := cX6_init) (nL := 1) (rm := { frames := 1, cells := 1, slots := 100, locals := 20 }) (by decide) hE (by decide) ?_
  intro p e s m below meth c C hr hlk hin2 hN hB ls hl
  have hx := C.1.1
  have hb := C.1.2.1
  have hl : lv_has ls 1 [(0, .ref b)] := hl
  have hB : Bq E s b (.inr (6, [.null, .int 0, .int 0, .null]) :: []) 0 s.heap _ := hB
  refine lv_aload_n hx hb dX6_init_0 rfl (lv_at hl 0 rfl) ?_
  refine bk_obj ol_X6 oi_ oc_ C hl.1 (Nat.le_of_ble_eq_true rfl) (Nat.le_of_ble_eq_true rfl) dX6_init_1 ?_
  refine lv_aload_n hx hb dX6_init_4 rfl (lv_at hl 0 rfl) ?_
  refine lv_bipush (v := (100 : Int32)) hx hb dX6_init_5 (by decide) ?_
  refine bk_newa (atype := .long) (t0 := 2) (ty := .long) (N := 100) (a0 := (100, .inr (.inl (fun _ => 0)))) rfl (fun _ => rfl) (fun _ => rfl) (by decide) rfl (by decide) (n9 := 1) rfl C hB ax_long (Nat.le_of_ble_eq_true rfl) (Nat.le_of_ble_eq_true rfl) dX6_init_7 (fun H hB => ?_)
  have hB : Bq E s b (.inr (6, [.null, .int 0, .int 0, .null]) :: [.inl (cy E 2, 100, .inr (.inl (fun _ => 0)))]) 1 H _ := hB
  refine bk_putF (q := 0) (T := TX6) (N := 4) (ci := 6) (f := 0) (fs := [.null, .int 0, .int 0, .null]) (ty := (.array .long)) uw_6 tyX6_ok nmX6 rfl (by decide) rfl rfl rfl (by decide +kernel) (Nat.le_of_ble_eq_true rfl) rfl rfl C hin2 hB rfl fl_X6_9 dX6_init_9 (fun H locs hB => ?_)
  have hB : Bq E s b (.inr (6, [.ref (b + 1), .int 0, .int 0, .null]) :: [.inl (cy E 2, 100, .inr (.inl (fun _ => 0)))]) 1 H _ := hB
  refine lv_aload_n hx hb dX6_init_12 rfl (lv_at hl 0 rfl) ?_
  refine lv_iconst (v := (0 : Int32)) hx hb dX6_init_13 (by decide) ?_
  refine bk_put (q := 0) (T := TX6) (N := 4) (ci := 6) (f := 1) (fs := [.ref (b + 1), .int 0, .int 0, .null]) (ty := .int) uw_6 tyX6_ok nmX6 rfl (by decide) rfl rfl (by decide +kernel) (Nat.le_of_ble_eq_true rfl) (by first | rfl | decide) (by first | rfl | decide) C hB rfl fl_X6_15 dX6_init_14 (fun H locs hB => ?_)
  have hB : Bq E s b (.inr (6, [.ref (b + 1), .int (0 : Int32), .int 0, .null]) :: [.inl (cy E 2, 100, .inr (.inl (fun _ => 0)))]) 1 H _ := hB
  refine lv_aload_n hx hb dX6_init_17 rfl (lv_at hl 0 rfl) ?_
  refine lv_iconst (v := (0 : Int32)) hx hb dX6_init_18 (by decide) ?_
  refine bk_put (q := 0) (T := TX6) (N := 4) (ci := 6) (f := 2) (fs := [.ref (b + 1), .int (0 : Int32), .int 0, .null]) (ty := .int) uw_6 tyX6_ok nmX6 rfl (by decide) rfl rfl (by decide +kernel) (Nat.le_of_ble_eq_true rfl) (by first | rfl | decide) (by first | rfl | decide) C hB rfl fl_X6_19 dX6_init_19 (fun H locs hB => ?_)
  have hB : Bq E s b (.inr (6, [.ref (b + 1), .int (0 : Int32), .int (0 : Int32), .null]) :: [.inl (cy E 2, 100, .inr (.inl (fun _ => 0)))]) 1 H _ := hB
  refine lv_aload_n hx hb dX6_init_22 rfl (lv_at hl 0 rfl) ?_
  refine lv_null hx hb dX6_init_23 ?_
  refine bk_put (q := 0) (T := TX6) (N := 4) (ci := 6) (f := 3) (fs := [.ref (b + 1), .int (0 : Int32), .int (0 : Int32), .null]) (ty := (.object RX7)) uw_6 tyX6_ok nmX6 rfl (by decide) rfl rfl (by decide +kernel) (Nat.le_of_ble_eq_true rfl) (by first | rfl | decide) (by first | rfl | decide) C hB rfl fl_X6_22 dX6_init_24 (fun H locs hB => ?_)
  have hB : Bq E s b (.inr (6, [.ref (b + 1), .int (0 : Int32), .int (0 : Int32), .null]) :: [.inl (cy E 2, 100, .inr (.inl (fun _ => 0)))]) 1 H _ := hB
  exact bk_vret C hr hlk hB dX6_init_27
theorem dX0_init_0 : decode cX0_init 0 = .ok (.aload_n 0, 1) := by decide +kernel
theorem dX0_init_1 : decode cX0_init 1 = .ok (.invokespecial 3, 3) := by decide +kernel
theorem dX0_init_4 : decode cX0_init 4 = .ok (.aload_n 0, 1) := by decide +kernel
theorem dX0_init_5 : decode cX0_init 5 = .ok (.sipush 200, 3) := by decide +kernel
theorem dX0_init_8 : decode cX0_init 8 = .ok (.newarray .int, 2) := by decide +kernel
theorem dX0_init_10 : decode cX0_init 10 = .ok (.putfield 9, 3) := by decide +kernel
theorem dX0_init_13 : decode cX0_init 13 = .ok (.aload_n 0, 1) := by decide +kernel
theorem dX0_init_14 : decode cX0_init 14 = .ok (.sipush 200, 3) := by decide +kernel
theorem dX0_init_17 : decode cX0_init 17 = .ok (.newarray .int, 2) := by decide +kernel
theorem dX0_init_19 : decode cX0_init 19 = .ok (.putfield 15, 3) := by decide +kernel
theorem dX0_init_22 : decode cX0_init 22 = .ok (.aload_n 0, 1) := by decide +kernel
theorem dX0_init_23 : decode cX0_init 23 = .ok (.iconst 0, 1) := by decide +kernel
theorem dX0_init_24 : decode cX0_init 24 = .ok (.putfield 18, 3) := by decide +kernel
theorem dX0_init_27 : decode cX0_init 27 = .ok (.aload_n 0, 1) := by decide +kernel
theorem dX0_init_28 : decode cX0_init 28 = .ok (.iconst 0, 1) := by decide +kernel
theorem dX0_init_29 : decode cX0_init 29 = .ok (.putfield 22, 3) := by decide +kernel
theorem dX0_init_32 : decode cX0_init 32 = .ok (.return_, 1) := by decide +kernel
theorem ol_X0 : Cond.methodLink RX0 3 objectInit ∈ T1 := T1_of 309 (by decide +kernel) rfl
def kb0 (E : En) (b : Nat) : List va_E := (.inr (0, [.ref (b + 1), .ref (b + 2), .int (0 : Int32), .int (0 : Int32)]) :: [.inl (cy E 0, 200, .inl (fun _ => 0)), .inl (cy E 0, 200, .inl (fun _ => 0))])
theorem kbl_0 (E : En) (b : Nat) : (kb0 E b).length = 3 := rfl
set_option maxHeartbeats 4000000 in
set_option maxRecDepth 100000 in
theorem c_X0_init (l : Launch) (E : En) (hE : Dj E) (b : Nat) : Met l yX0_init (wt yX0_init cX0_init 1 none) { frames := 1, cells := 2, slots := 400, locals := 20 } (Pk E b 0 [.null, .null, .int 0, .int 0]) (Qk E b (kb0 E b)) 2 400 (fun q => b ≤ q) := by
  refine kmet_of (cc := cX0_init) (nL := 1) (rm := { frames := 1, cells := 2, slots := 400, locals := 20 }) (by decide) hE (by decide) ?_
  intro p e s m below meth c C hr hlk hin2 hN hB ls hl
  have hx := C.1.1
  have hb := C.1.2.1
  have hl : lv_has ls 1 [(0, .ref b)] := hl
  have hB : Bq E s b (.inr (0, [.null, .null, .int 0, .int 0]) :: []) 0 s.heap _ := hB
  refine lv_aload_n hx hb dX0_init_0 rfl (lv_at hl 0 rfl) ?_
  refine bk_obj ol_X0 oi_ oc_ C hl.1 (Nat.le_of_ble_eq_true rfl) (Nat.le_of_ble_eq_true rfl) dX0_init_1 ?_
  refine lv_aload_n hx hb dX0_init_4 rfl (lv_at hl 0 rfl) ?_
  refine lv_sipush (v := (200 : Int32)) hx hb dX0_init_5 (by decide) ?_
  refine bk_newa (atype := .int) (t0 := 0) (ty := .int) (N := 200) (a0 := (200, .inl (fun _ => 0))) rfl (fun _ => rfl) (fun _ => rfl) (by decide) rfl (by decide) (n9 := 1) rfl C hB ax_int (Nat.le_of_ble_eq_true rfl) (Nat.le_of_ble_eq_true rfl) dX0_init_8 (fun H hB => ?_)
  have hB : Bq E s b (.inr (0, [.null, .null, .int 0, .int 0]) :: [.inl (cy E 0, 200, .inl (fun _ => 0))]) 1 H _ := hB
  refine bk_putF (q := 0) (T := TX0) (N := 4) (ci := 0) (f := 0) (fs := [.null, .null, .int 0, .int 0]) (ty := (.array .int)) uw_0 tyX0_ok nmX0 rfl (by decide) rfl rfl rfl (by decide +kernel) (Nat.le_of_ble_eq_true rfl) rfl rfl C hin2 hB rfl fl_X0_9 dX0_init_10 (fun H locs hB => ?_)
  have hB : Bq E s b (.inr (0, [.ref (b + 1), .null, .int 0, .int 0]) :: [.inl (cy E 0, 200, .inl (fun _ => 0))]) 1 H _ := hB
  refine lv_aload_n hx hb dX0_init_13 rfl (lv_at hl 0 rfl) ?_
  refine lv_sipush (v := (200 : Int32)) hx hb dX0_init_14 (by decide) ?_
  refine bk_newa (atype := .int) (t0 := 0) (ty := .int) (N := 200) (a0 := (200, .inl (fun _ => 0))) rfl (fun _ => rfl) (fun _ => rfl) (by decide) rfl (by decide) (n9 := 2) rfl C hB ax_int (Nat.le_of_ble_eq_true rfl) (Nat.le_of_ble_eq_true rfl) dX0_init_17 (fun H hB => ?_)
  have hB : Bq E s b (.inr (0, [.ref (b + 1), .null, .int 0, .int 0]) :: [.inl (cy E 0, 200, .inl (fun _ => 0)), .inl (cy E 0, 200, .inl (fun _ => 0))]) 2 H _ := hB
  refine bk_putF (q := 0) (T := TX0) (N := 4) (ci := 0) (f := 1) (fs := [.ref (b + 1), .null, .int 0, .int 0]) (ty := (.array .int)) uw_0 tyX0_ok nmX0 rfl (by decide) rfl rfl rfl (by decide +kernel) (Nat.le_of_ble_eq_true rfl) rfl rfl C hin2 hB rfl fl_X0_15 dX0_init_19 (fun H locs hB => ?_)
  have hB : Bq E s b (.inr (0, [.ref (b + 1), .ref (b + 2), .int 0, .int 0]) :: [.inl (cy E 0, 200, .inl (fun _ => 0)), .inl (cy E 0, 200, .inl (fun _ => 0))]) 2 H _ := hB
  refine lv_aload_n hx hb dX0_init_22 rfl (lv_at hl 0 rfl) ?_
  refine lv_iconst (v := (0 : Int32)) hx hb dX0_init_23 (by decide) ?_
  refine bk_put (q := 0) (T := TX0) (N := 4) (ci := 0) (f := 2) (fs := [.ref (b + 1), .ref (b + 2), .int 0, .int 0]) (ty := .int) uw_0 tyX0_ok nmX0 rfl (by decide) rfl rfl (by decide +kernel) (Nat.le_of_ble_eq_true rfl) (by first | rfl | decide) (by first | rfl | decide) C hB rfl fl_X0_18 dX0_init_24 (fun H locs hB => ?_)
  have hB : Bq E s b (.inr (0, [.ref (b + 1), .ref (b + 2), .int (0 : Int32), .int 0]) :: [.inl (cy E 0, 200, .inl (fun _ => 0)), .inl (cy E 0, 200, .inl (fun _ => 0))]) 2 H _ := hB
  refine lv_aload_n hx hb dX0_init_27 rfl (lv_at hl 0 rfl) ?_
  refine lv_iconst (v := (0 : Int32)) hx hb dX0_init_28 (by decide) ?_
  refine bk_put (q := 0) (T := TX0) (N := 4) (ci := 0) (f := 3) (fs := [.ref (b + 1), .ref (b + 2), .int (0 : Int32), .int 0]) (ty := .int) uw_0 tyX0_ok nmX0 rfl (by decide) rfl rfl (by decide +kernel) (Nat.le_of_ble_eq_true rfl) (by first | rfl | decide) (by first | rfl | decide) C hB rfl fl_X0_22 dX0_init_29 (fun H locs hB => ?_)
  have hB : Bq E s b (.inr (0, [.ref (b + 1), .ref (b + 2), .int (0 : Int32), .int (0 : Int32)]) :: [.inl (cy E 0, 200, .inl (fun _ => 0)), .inl (cy E 0, 200, .inl (fun _ => 0))]) 2 H _ := hB
  exact bk_vret C hr hlk hB dX0_init_32
theorem dX1_init_0 : decode cX1_init 0 = .ok (.aload_n 0, 1) := by decide +kernel
theorem dX1_init_1 : decode cX1_init 1 = .ok (.invokespecial 3, 3) := by decide +kernel
theorem dX1_init_4 : decode cX1_init 4 = .ok (.aload_n 0, 1) := by decide +kernel
theorem dX1_init_5 : decode cX1_init 5 = .ok (.bipush 67, 2) := by decide +kernel
theorem dX1_init_7 : decode cX1_init 7 = .ok (.newarray .int, 2) := by decide +kernel
theorem dX1_init_9 : decode cX1_init 9 = .ok (.putfield 9, 3) := by decide +kernel
theorem dX1_init_12 : decode cX1_init 12 = .ok (.aload_n 0, 1) := by decide +kernel
theorem dX1_init_13 : decode cX1_init 13 = .ok (.bipush 67, 2) := by decide +kernel
theorem dX1_init_15 : decode cX1_init 15 = .ok (.newarray .int, 2) := by decide +kernel
theorem dX1_init_17 : decode cX1_init 17 = .ok (.putfield 15, 3) := by decide +kernel
theorem dX1_init_20 : decode cX1_init 20 = .ok (.aload_n 0, 1) := by decide +kernel
theorem dX1_init_21 : decode cX1_init 21 = .ok (.bipush 67, 2) := by decide +kernel
theorem dX1_init_23 : decode cX1_init 23 = .ok (.newarray .int, 2) := by decide +kernel
theorem dX1_init_25 : decode cX1_init 25 = .ok (.putfield 18, 3) := by decide +kernel
theorem dX1_init_28 : decode cX1_init 28 = .ok (.aload_n 0, 1) := by decide +kernel
theorem dX1_init_29 : decode cX1_init 29 = .ok (.bipush 67, 2) := by decide +kernel
theorem dX1_init_31 : decode cX1_init 31 = .ok (.newarray .int, 2) := by decide +kernel
theorem dX1_init_33 : decode cX1_init 33 = .ok (.putfield 21, 3) := by decide +kernel
theorem dX1_init_36 : decode cX1_init 36 = .ok (.aload_n 0, 1) := by decide +kernel
theorem dX1_init_37 : decode cX1_init 37 = .ok (.bipush 67, 2) := by decide +kernel
theorem dX1_init_39 : decode cX1_init 39 = .ok (.newarray .int, 2) := by decide +kernel
theorem dX1_init_41 : decode cX1_init 41 = .ok (.putfield 24, 3) := by decide +kernel
theorem dX1_init_44 : decode cX1_init 44 = .ok (.aload_n 0, 1) := by decide +kernel
theorem dX1_init_45 : decode cX1_init 45 = .ok (.bipush 67, 2) := by decide +kernel
theorem dX1_init_47 : decode cX1_init 47 = .ok (.newarray .int, 2) := by decide +kernel
theorem dX1_init_49 : decode cX1_init 49 = .ok (.putfield 27, 3) := by decide +kernel
theorem dX1_init_52 : decode cX1_init 52 = .ok (.aload_n 0, 1) := by decide +kernel
theorem dX1_init_53 : decode cX1_init 53 = .ok (.bipush 67, 2) := by decide +kernel
theorem dX1_init_55 : decode cX1_init 55 = .ok (.newarray .int, 2) := by decide +kernel
theorem dX1_init_57 : decode cX1_init 57 = .ok (.putfield 30, 3) := by decide +kernel
theorem dX1_init_60 : decode cX1_init 60 = .ok (.aload_n 0, 1) := by decide +kernel
theorem dX1_init_61 : decode cX1_init 61 = .ok (.bipush 67, 2) := by decide +kernel
theorem dX1_init_63 : decode cX1_init 63 = .ok (.newarray .int, 2) := by decide +kernel
theorem dX1_init_65 : decode cX1_init 65 = .ok (.putfield 33, 3) := by decide +kernel
theorem dX1_init_68 : decode cX1_init 68 = .ok (.aload_n 0, 1) := by decide +kernel
theorem dX1_init_69 : decode cX1_init 69 = .ok (.bipush 8, 2) := by decide +kernel
theorem dX1_init_71 : decode cX1_init 71 = .ok (.newarray .int, 2) := by decide +kernel
theorem dX1_init_73 : decode cX1_init 73 = .ok (.putfield 36, 3) := by decide +kernel
theorem dX1_init_76 : decode cX1_init 76 = .ok (.aload_n 0, 1) := by decide +kernel
theorem dX1_init_77 : decode cX1_init 77 = .ok (.bipush 8, 2) := by decide +kernel
theorem dX1_init_79 : decode cX1_init 79 = .ok (.newarray .int, 2) := by decide +kernel
theorem dX1_init_81 : decode cX1_init 81 = .ok (.putfield 39, 3) := by decide +kernel
theorem dX1_init_84 : decode cX1_init 84 = .ok (.aload_n 0, 1) := by decide +kernel
theorem dX1_init_85 : decode cX1_init 85 = .ok (.bipush 8, 2) := by decide +kernel
theorem dX1_init_87 : decode cX1_init 87 = .ok (.newarray .int, 2) := by decide +kernel
theorem dX1_init_89 : decode cX1_init 89 = .ok (.putfield 42, 3) := by decide +kernel
theorem dX1_init_92 : decode cX1_init 92 = .ok (.aload_n 0, 1) := by decide +kernel
theorem dX1_init_93 : decode cX1_init 93 = .ok (.iconst 0, 1) := by decide +kernel
theorem dX1_init_94 : decode cX1_init 94 = .ok (.putfield 45, 3) := by decide +kernel
theorem dX1_init_97 : decode cX1_init 97 = .ok (.return_, 1) := by decide +kernel
theorem ol_X1 : Cond.methodLink RX1 3 objectInit ∈ T1 := T1_of 260 (by decide +kernel) rfl
def kb1 (E : En) (b : Nat) : List va_E := (.inr (1, [.ref (b + 1), .ref (b + 2), .ref (b + 3), .ref (b + 4), .ref (b + 5), .ref (b + 6), .ref (b + 7), .ref (b + 8), .ref (b + 9), .ref (b + 10), .ref (b + 11), .int (0 : Int32)]) :: [.inl (cy E 0, 67, .inl (fun _ => 0)), .inl (cy E 0, 67, .inl (fun _ => 0)), .inl (cy E 0, 67, .inl (fun _ => 0)), .inl (cy E 0, 67, .inl (fun _ => 0)), .inl (cy E 0, 67, .inl (fun _ => 0)), .inl (cy E 0, 67, .inl (fun _ => 0)), .inl (cy E 0, 67, .inl (fun _ => 0)), .inl (cy E 0, 67, .inl (fun _ => 0)), .inl (cy E 0, 8, .inl (fun _ => 0)), .inl (cy E 0, 8, .inl (fun _ => 0)), .inl (cy E 0, 8, .inl (fun _ => 0))])
theorem kbl_1 (E : En) (b : Nat) : (kb1 E b).length = 12 := rfl
set_option maxHeartbeats 4000000 in
set_option maxRecDepth 100000 in
theorem c_X1_init (l : Launch) (E : En) (hE : Dj E) (b : Nat) : Met l yX1_init (wt yX1_init cX1_init 1 none) { frames := 1, cells := 11, slots := 560, locals := 20 } (Pk E b 1 [.null, .null, .null, .null, .null, .null, .null, .null, .null, .null, .null, .int 0]) (Qk E b (kb1 E b)) 11 560 (fun q => b ≤ q) := by
  refine kmet_of (cc := cX1_init) (nL := 1) (rm := { frames := 1, cells := 11, slots := 560, locals := 20 }) (by decide) hE (by decide) ?_
  intro p e s m below meth c C hr hlk hin2 hN hB ls hl
  have hx := C.1.1
  have hb := C.1.2.1
  have hl : lv_has ls 1 [(0, .ref b)] := hl
  have hB : Bq E s b (.inr (1, [.null, .null, .null, .null, .null, .null, .null, .null, .null, .null, .null, .int 0]) :: []) 0 s.heap _ := hB
  refine lv_aload_n hx hb dX1_init_0 rfl (lv_at hl 0 rfl) ?_
  refine bk_obj ol_X1 oi_ oc_ C hl.1 (Nat.le_of_ble_eq_true rfl) (Nat.le_of_ble_eq_true rfl) dX1_init_1 ?_
  refine lv_aload_n hx hb dX1_init_4 rfl (lv_at hl 0 rfl) ?_
  refine lv_bipush (v := (67 : Int32)) hx hb dX1_init_5 (by decide) ?_
  refine bk_newa (atype := .int) (t0 := 0) (ty := .int) (N := 67) (a0 := (67, .inl (fun _ => 0))) rfl (fun _ => rfl) (fun _ => rfl) (by decide) rfl (by decide) (n9 := 1) rfl C hB ax_int (Nat.le_of_ble_eq_true rfl) (Nat.le_of_ble_eq_true rfl) dX1_init_7 (fun H hB => ?_)
  have hB : Bq E s b (.inr (1, [.null, .null, .null, .null, .null, .null, .null, .null, .null, .null, .null, .int 0]) :: [.inl (cy E 0, 67, .inl (fun _ => 0))]) 1 H _ := hB
  refine bk_putF (q := 0) (T := TX1) (N := 12) (ci := 1) (f := 0) (fs := [.null, .null, .null, .null, .null, .null, .null, .null, .null, .null, .null, .int 0]) (ty := (.array .int)) uw_1 tyX1_ok nmX1 rfl (by decide) rfl rfl rfl (by decide +kernel) (Nat.le_of_ble_eq_true rfl) rfl rfl C hin2 hB rfl fl_X1_9 dX1_init_9 (fun H locs hB => ?_)
  have hB : Bq E s b (.inr (1, [.ref (b + 1), .null, .null, .null, .null, .null, .null, .null, .null, .null, .null, .int 0]) :: [.inl (cy E 0, 67, .inl (fun _ => 0))]) 1 H _ := hB
  refine lv_aload_n hx hb dX1_init_12 rfl (lv_at hl 0 rfl) ?_
  refine lv_bipush (v := (67 : Int32)) hx hb dX1_init_13 (by decide) ?_
  refine bk_newa (atype := .int) (t0 := 0) (ty := .int) (N := 67) (a0 := (67, .inl (fun _ => 0))) rfl (fun _ => rfl) (fun _ => rfl) (by decide) rfl (by decide) (n9 := 2) rfl C hB ax_int (Nat.le_of_ble_eq_true rfl) (Nat.le_of_ble_eq_true rfl) dX1_init_15 (fun H hB => ?_)
  have hB : Bq E s b (.inr (1, [.ref (b + 1), .null, .null, .null, .null, .null, .null, .null, .null, .null, .null, .int 0]) :: [.inl (cy E 0, 67, .inl (fun _ => 0)), .inl (cy E 0, 67, .inl (fun _ => 0))]) 2 H _ := hB
  refine bk_putF (q := 0) (T := TX1) (N := 12) (ci := 1) (f := 1) (fs := [.ref (b + 1), .null, .null, .null, .null, .null, .null, .null, .null, .null, .null, .int 0]) (ty := (.array .int)) uw_1 tyX1_ok nmX1 rfl (by decide) rfl rfl rfl (by decide +kernel) (Nat.le_of_ble_eq_true rfl) rfl rfl C hin2 hB rfl fl_X1_15 dX1_init_17 (fun H locs hB => ?_)
  have hB : Bq E s b (.inr (1, [.ref (b + 1), .ref (b + 2), .null, .null, .null, .null, .null, .null, .null, .null, .null, .int 0]) :: [.inl (cy E 0, 67, .inl (fun _ => 0)), .inl (cy E 0, 67, .inl (fun _ => 0))]) 2 H _ := hB
  refine lv_aload_n hx hb dX1_init_20 rfl (lv_at hl 0 rfl) ?_
  refine lv_bipush (v := (67 : Int32)) hx hb dX1_init_21 (by decide) ?_
  refine bk_newa (atype := .int) (t0 := 0) (ty := .int) (N := 67) (a0 := (67, .inl (fun _ => 0))) rfl (fun _ => rfl) (fun _ => rfl) (by decide) rfl (by decide) (n9 := 3) rfl C hB ax_int (Nat.le_of_ble_eq_true rfl) (Nat.le_of_ble_eq_true rfl) dX1_init_23 (fun H hB => ?_)
  have hB : Bq E s b (.inr (1, [.ref (b + 1), .ref (b + 2), .null, .null, .null, .null, .null, .null, .null, .null, .null, .int 0]) :: [.inl (cy E 0, 67, .inl (fun _ => 0)), .inl (cy E 0, 67, .inl (fun _ => 0)), .inl (cy E 0, 67, .inl (fun _ => 0))]) 3 H _ := hB
  refine bk_putF (q := 0) (T := TX1) (N := 12) (ci := 1) (f := 2) (fs := [.ref (b + 1), .ref (b + 2), .null, .null, .null, .null, .null, .null, .null, .null, .null, .int 0]) (ty := (.array .int)) uw_1 tyX1_ok nmX1 rfl (by decide) rfl rfl rfl (by decide +kernel) (Nat.le_of_ble_eq_true rfl) rfl rfl C hin2 hB rfl fl_X1_18 dX1_init_25 (fun H locs hB => ?_)
  have hB : Bq E s b (.inr (1, [.ref (b + 1), .ref (b + 2), .ref (b + 3), .null, .null, .null, .null, .null, .null, .null, .null, .int 0]) :: [.inl (cy E 0, 67, .inl (fun _ => 0)), .inl (cy E 0, 67, .inl (fun _ => 0)), .inl (cy E 0, 67, .inl (fun _ => 0))]) 3 H _ := hB
  refine lv_aload_n hx hb dX1_init_28 rfl (lv_at hl 0 rfl) ?_
  refine lv_bipush (v := (67 : Int32)) hx hb dX1_init_29 (by decide) ?_
  refine bk_newa (atype := .int) (t0 := 0) (ty := .int) (N := 67) (a0 := (67, .inl (fun _ => 0))) rfl (fun _ => rfl) (fun _ => rfl) (by decide) rfl (by decide) (n9 := 4) rfl C hB ax_int (Nat.le_of_ble_eq_true rfl) (Nat.le_of_ble_eq_true rfl) dX1_init_31 (fun H hB => ?_)
  have hB : Bq E s b (.inr (1, [.ref (b + 1), .ref (b + 2), .ref (b + 3), .null, .null, .null, .null, .null, .null, .null, .null, .int 0]) :: [.inl (cy E 0, 67, .inl (fun _ => 0)), .inl (cy E 0, 67, .inl (fun _ => 0)), .inl (cy E 0, 67, .inl (fun _ => 0)), .inl (cy E 0, 67, .inl (fun _ => 0))]) 4 H _ := hB
  refine bk_putF (q := 0) (T := TX1) (N := 12) (ci := 1) (f := 3) (fs := [.ref (b + 1), .ref (b + 2), .ref (b + 3), .null, .null, .null, .null, .null, .null, .null, .null, .int 0]) (ty := (.array .int)) uw_1 tyX1_ok nmX1 rfl (by decide) rfl rfl rfl (by decide +kernel) (Nat.le_of_ble_eq_true rfl) rfl rfl C hin2 hB rfl fl_X1_21 dX1_init_33 (fun H locs hB => ?_)
  have hB : Bq E s b (.inr (1, [.ref (b + 1), .ref (b + 2), .ref (b + 3), .ref (b + 4), .null, .null, .null, .null, .null, .null, .null, .int 0]) :: [.inl (cy E 0, 67, .inl (fun _ => 0)), .inl (cy E 0, 67, .inl (fun _ => 0)), .inl (cy E 0, 67, .inl (fun _ => 0)), .inl (cy E 0, 67, .inl (fun _ => 0))]) 4 H _ := hB
  refine lv_aload_n hx hb dX1_init_36 rfl (lv_at hl 0 rfl) ?_
  refine lv_bipush (v := (67 : Int32)) hx hb dX1_init_37 (by decide) ?_
  refine bk_newa (atype := .int) (t0 := 0) (ty := .int) (N := 67) (a0 := (67, .inl (fun _ => 0))) rfl (fun _ => rfl) (fun _ => rfl) (by decide) rfl (by decide) (n9 := 5) rfl C hB ax_int (Nat.le_of_ble_eq_true rfl) (Nat.le_of_ble_eq_true rfl) dX1_init_39 (fun H hB => ?_)
  have hB : Bq E s b (.inr (1, [.ref (b + 1), .ref (b + 2), .ref (b + 3), .ref (b + 4), .null, .null, .null, .null, .null, .null, .null, .int 0]) :: [.inl (cy E 0, 67, .inl (fun _ => 0)), .inl (cy E 0, 67, .inl (fun _ => 0)), .inl (cy E 0, 67, .inl (fun _ => 0)), .inl (cy E 0, 67, .inl (fun _ => 0)), .inl (cy E 0, 67, .inl (fun _ => 0))]) 5 H _ := hB
  refine bk_putF (q := 0) (T := TX1) (N := 12) (ci := 1) (f := 4) (fs := [.ref (b + 1), .ref (b + 2), .ref (b + 3), .ref (b + 4), .null, .null, .null, .null, .null, .null, .null, .int 0]) (ty := (.array .int)) uw_1 tyX1_ok nmX1 rfl (by decide) rfl rfl rfl (by decide +kernel) (Nat.le_of_ble_eq_true rfl) rfl rfl C hin2 hB rfl fl_X1_24 dX1_init_41 (fun H locs hB => ?_)
  have hB : Bq E s b (.inr (1, [.ref (b + 1), .ref (b + 2), .ref (b + 3), .ref (b + 4), .ref (b + 5), .null, .null, .null, .null, .null, .null, .int 0]) :: [.inl (cy E 0, 67, .inl (fun _ => 0)), .inl (cy E 0, 67, .inl (fun _ => 0)), .inl (cy E 0, 67, .inl (fun _ => 0)), .inl (cy E 0, 67, .inl (fun _ => 0)), .inl (cy E 0, 67, .inl (fun _ => 0))]) 5 H _ := hB
  refine lv_aload_n hx hb dX1_init_44 rfl (lv_at hl 0 rfl) ?_
  refine lv_bipush (v := (67 : Int32)) hx hb dX1_init_45 (by decide) ?_
  refine bk_newa (atype := .int) (t0 := 0) (ty := .int) (N := 67) (a0 := (67, .inl (fun _ => 0))) rfl (fun _ => rfl) (fun _ => rfl) (by decide) rfl (by decide) (n9 := 6) rfl C hB ax_int (Nat.le_of_ble_eq_true rfl) (Nat.le_of_ble_eq_true rfl) dX1_init_47 (fun H hB => ?_)
  have hB : Bq E s b (.inr (1, [.ref (b + 1), .ref (b + 2), .ref (b + 3), .ref (b + 4), .ref (b + 5), .null, .null, .null, .null, .null, .null, .int 0]) :: [.inl (cy E 0, 67, .inl (fun _ => 0)), .inl (cy E 0, 67, .inl (fun _ => 0)), .inl (cy E 0, 67, .inl (fun _ => 0)), .inl (cy E 0, 67, .inl (fun _ => 0)), .inl (cy E 0, 67, .inl (fun _ => 0)), .inl (cy E 0, 67, .inl (fun _ => 0))]) 6 H _ := hB
  refine bk_putF (q := 0) (T := TX1) (N := 12) (ci := 1) (f := 5) (fs := [.ref (b + 1), .ref (b + 2), .ref (b + 3), .ref (b + 4), .ref (b + 5), .null, .null, .null, .null, .null, .null, .int 0]) (ty := (.array .int)) uw_1 tyX1_ok nmX1 rfl (by decide) rfl rfl rfl (by decide +kernel) (Nat.le_of_ble_eq_true rfl) rfl rfl C hin2 hB rfl fl_X1_27 dX1_init_49 (fun H locs hB => ?_)
  have hB : Bq E s b (.inr (1, [.ref (b + 1), .ref (b + 2), .ref (b + 3), .ref (b + 4), .ref (b + 5), .ref (b + 6), .null, .null, .null, .null, .null, .int 0]) :: [.inl (cy E 0, 67, .inl (fun _ => 0)), .inl (cy E 0, 67, .inl (fun _ => 0)), .inl (cy E 0, 67, .inl (fun _ => 0)), .inl (cy E 0, 67, .inl (fun _ => 0)), .inl (cy E 0, 67, .inl (fun _ => 0)), .inl (cy E 0, 67, .inl (fun _ => 0))]) 6 H _ := hB
  refine lv_aload_n hx hb dX1_init_52 rfl (lv_at hl 0 rfl) ?_
  refine lv_bipush (v := (67 : Int32)) hx hb dX1_init_53 (by decide) ?_
  refine bk_newa (atype := .int) (t0 := 0) (ty := .int) (N := 67) (a0 := (67, .inl (fun _ => 0))) rfl (fun _ => rfl) (fun _ => rfl) (by decide) rfl (by decide) (n9 := 7) rfl C hB ax_int (Nat.le_of_ble_eq_true rfl) (Nat.le_of_ble_eq_true rfl) dX1_init_55 (fun H hB => ?_)
  have hB : Bq E s b (.inr (1, [.ref (b + 1), .ref (b + 2), .ref (b + 3), .ref (b + 4), .ref (b + 5), .ref (b + 6), .null, .null, .null, .null, .null, .int 0]) :: [.inl (cy E 0, 67, .inl (fun _ => 0)), .inl (cy E 0, 67, .inl (fun _ => 0)), .inl (cy E 0, 67, .inl (fun _ => 0)), .inl (cy E 0, 67, .inl (fun _ => 0)), .inl (cy E 0, 67, .inl (fun _ => 0)), .inl (cy E 0, 67, .inl (fun _ => 0)), .inl (cy E 0, 67, .inl (fun _ => 0))]) 7 H _ := hB
  refine bk_putF (q := 0) (T := TX1) (N := 12) (ci := 1) (f := 6) (fs := [.ref (b + 1), .ref (b + 2), .ref (b + 3), .ref (b + 4), .ref (b + 5), .ref (b + 6), .null, .null, .null, .null, .null, .int 0]) (ty := (.array .int)) uw_1 tyX1_ok nmX1 rfl (by decide) rfl rfl rfl (by decide +kernel) (Nat.le_of_ble_eq_true rfl) rfl rfl C hin2 hB rfl fl_X1_30 dX1_init_57 (fun H locs hB => ?_)
  have hB : Bq E s b (.inr (1, [.ref (b + 1), .ref (b + 2), .ref (b + 3), .ref (b + 4), .ref (b + 5), .ref (b + 6), .ref (b + 7), .null, .null, .null, .null, .int 0]) :: [.inl (cy E 0, 67, .inl (fun _ => 0)), .inl (cy E 0, 67, .inl (fun _ => 0)), .inl (cy E 0, 67, .inl (fun _ => 0)), .inl (cy E 0, 67, .inl (fun _ => 0)), .inl (cy E 0, 67, .inl (fun _ => 0)), .inl (cy E 0, 67, .inl (fun _ => 0)), .inl (cy E 0, 67, .inl (fun _ => 0))]) 7 H _ := hB
  refine lv_aload_n hx hb dX1_init_60 rfl (lv_at hl 0 rfl) ?_
  refine lv_bipush (v := (67 : Int32)) hx hb dX1_init_61 (by decide) ?_
  refine bk_newa (atype := .int) (t0 := 0) (ty := .int) (N := 67) (a0 := (67, .inl (fun _ => 0))) rfl (fun _ => rfl) (fun _ => rfl) (by decide) rfl (by decide) (n9 := 8) rfl C hB ax_int (Nat.le_of_ble_eq_true rfl) (Nat.le_of_ble_eq_true rfl) dX1_init_63 (fun H hB => ?_)
  have hB : Bq E s b (.inr (1, [.ref (b + 1), .ref (b + 2), .ref (b + 3), .ref (b + 4), .ref (b + 5), .ref (b + 6), .ref (b + 7), .null, .null, .null, .null, .int 0]) :: [.inl (cy E 0, 67, .inl (fun _ => 0)), .inl (cy E 0, 67, .inl (fun _ => 0)), .inl (cy E 0, 67, .inl (fun _ => 0)), .inl (cy E 0, 67, .inl (fun _ => 0)), .inl (cy E 0, 67, .inl (fun _ => 0)), .inl (cy E 0, 67, .inl (fun _ => 0)), .inl (cy E 0, 67, .inl (fun _ => 0)), .inl (cy E 0, 67, .inl (fun _ => 0))]) 8 H _ := hB
  refine bk_putF (q := 0) (T := TX1) (N := 12) (ci := 1) (f := 7) (fs := [.ref (b + 1), .ref (b + 2), .ref (b + 3), .ref (b + 4), .ref (b + 5), .ref (b + 6), .ref (b + 7), .null, .null, .null, .null, .int 0]) (ty := (.array .int)) uw_1 tyX1_ok nmX1 rfl (by decide) rfl rfl rfl (by decide +kernel) (Nat.le_of_ble_eq_true rfl) rfl rfl C hin2 hB rfl fl_X1_33 dX1_init_65 (fun H locs hB => ?_)
  have hB : Bq E s b (.inr (1, [.ref (b + 1), .ref (b + 2), .ref (b + 3), .ref (b + 4), .ref (b + 5), .ref (b + 6), .ref (b + 7), .ref (b + 8), .null, .null, .null, .int 0]) :: [.inl (cy E 0, 67, .inl (fun _ => 0)), .inl (cy E 0, 67, .inl (fun _ => 0)), .inl (cy E 0, 67, .inl (fun _ => 0)), .inl (cy E 0, 67, .inl (fun _ => 0)), .inl (cy E 0, 67, .inl (fun _ => 0)), .inl (cy E 0, 67, .inl (fun _ => 0)), .inl (cy E 0, 67, .inl (fun _ => 0)), .inl (cy E 0, 67, .inl (fun _ => 0))]) 8 H _ := hB
  refine lv_aload_n hx hb dX1_init_68 rfl (lv_at hl 0 rfl) ?_
  refine lv_bipush (v := (8 : Int32)) hx hb dX1_init_69 (by decide) ?_
  refine bk_newa (atype := .int) (t0 := 0) (ty := .int) (N := 8) (a0 := (8, .inl (fun _ => 0))) rfl (fun _ => rfl) (fun _ => rfl) (by decide) rfl (by decide) (n9 := 9) rfl C hB ax_int (Nat.le_of_ble_eq_true rfl) (Nat.le_of_ble_eq_true rfl) dX1_init_71 (fun H hB => ?_)
  have hB : Bq E s b (.inr (1, [.ref (b + 1), .ref (b + 2), .ref (b + 3), .ref (b + 4), .ref (b + 5), .ref (b + 6), .ref (b + 7), .ref (b + 8), .null, .null, .null, .int 0]) :: [.inl (cy E 0, 67, .inl (fun _ => 0)), .inl (cy E 0, 67, .inl (fun _ => 0)), .inl (cy E 0, 67, .inl (fun _ => 0)), .inl (cy E 0, 67, .inl (fun _ => 0)), .inl (cy E 0, 67, .inl (fun _ => 0)), .inl (cy E 0, 67, .inl (fun _ => 0)), .inl (cy E 0, 67, .inl (fun _ => 0)), .inl (cy E 0, 67, .inl (fun _ => 0)), .inl (cy E 0, 8, .inl (fun _ => 0))]) 9 H _ := hB
  refine bk_putF (q := 0) (T := TX1) (N := 12) (ci := 1) (f := 8) (fs := [.ref (b + 1), .ref (b + 2), .ref (b + 3), .ref (b + 4), .ref (b + 5), .ref (b + 6), .ref (b + 7), .ref (b + 8), .null, .null, .null, .int 0]) (ty := (.array .int)) uw_1 tyX1_ok nmX1 rfl (by decide) rfl rfl rfl (by decide +kernel) (Nat.le_of_ble_eq_true rfl) rfl rfl C hin2 hB rfl fl_X1_36 dX1_init_73 (fun H locs hB => ?_)
  have hB : Bq E s b (.inr (1, [.ref (b + 1), .ref (b + 2), .ref (b + 3), .ref (b + 4), .ref (b + 5), .ref (b + 6), .ref (b + 7), .ref (b + 8), .ref (b + 9), .null, .null, .int 0]) :: [.inl (cy E 0, 67, .inl (fun _ => 0)), .inl (cy E 0, 67, .inl (fun _ => 0)), .inl (cy E 0, 67, .inl (fun _ => 0)), .inl (cy E 0, 67, .inl (fun _ => 0)), .inl (cy E 0, 67, .inl (fun _ => 0)), .inl (cy E 0, 67, .inl (fun _ => 0)), .inl (cy E 0, 67, .inl (fun _ => 0)), .inl (cy E 0, 67, .inl (fun _ => 0)), .inl (cy E 0, 8, .inl (fun _ => 0))]) 9 H _ := hB
  refine lv_aload_n hx hb dX1_init_76 rfl (lv_at hl 0 rfl) ?_
  refine lv_bipush (v := (8 : Int32)) hx hb dX1_init_77 (by decide) ?_
  refine bk_newa (atype := .int) (t0 := 0) (ty := .int) (N := 8) (a0 := (8, .inl (fun _ => 0))) rfl (fun _ => rfl) (fun _ => rfl) (by decide) rfl (by decide) (n9 := 10) rfl C hB ax_int (Nat.le_of_ble_eq_true rfl) (Nat.le_of_ble_eq_true rfl) dX1_init_79 (fun H hB => ?_)
  have hB : Bq E s b (.inr (1, [.ref (b + 1), .ref (b + 2), .ref (b + 3), .ref (b + 4), .ref (b + 5), .ref (b + 6), .ref (b + 7), .ref (b + 8), .ref (b + 9), .null, .null, .int 0]) :: [.inl (cy E 0, 67, .inl (fun _ => 0)), .inl (cy E 0, 67, .inl (fun _ => 0)), .inl (cy E 0, 67, .inl (fun _ => 0)), .inl (cy E 0, 67, .inl (fun _ => 0)), .inl (cy E 0, 67, .inl (fun _ => 0)), .inl (cy E 0, 67, .inl (fun _ => 0)), .inl (cy E 0, 67, .inl (fun _ => 0)), .inl (cy E 0, 67, .inl (fun _ => 0)), .inl (cy E 0, 8, .inl (fun _ => 0)), .inl (cy E 0, 8, .inl (fun _ => 0))]) 10 H _ := hB
  refine bk_putF (q := 0) (T := TX1) (N := 12) (ci := 1) (f := 9) (fs := [.ref (b + 1), .ref (b + 2), .ref (b + 3), .ref (b + 4), .ref (b + 5), .ref (b + 6), .ref (b + 7), .ref (b + 8), .ref (b + 9), .null, .null, .int 0]) (ty := (.array .int)) uw_1 tyX1_ok nmX1 rfl (by decide) rfl rfl rfl (by decide +kernel) (Nat.le_of_ble_eq_true rfl) rfl rfl C hin2 hB rfl fl_X1_39 dX1_init_81 (fun H locs hB => ?_)
  have hB : Bq E s b (.inr (1, [.ref (b + 1), .ref (b + 2), .ref (b + 3), .ref (b + 4), .ref (b + 5), .ref (b + 6), .ref (b + 7), .ref (b + 8), .ref (b + 9), .ref (b + 10), .null, .int 0]) :: [.inl (cy E 0, 67, .inl (fun _ => 0)), .inl (cy E 0, 67, .inl (fun _ => 0)), .inl (cy E 0, 67, .inl (fun _ => 0)), .inl (cy E 0, 67, .inl (fun _ => 0)), .inl (cy E 0, 67, .inl (fun _ => 0)), .inl (cy E 0, 67, .inl (fun _ => 0)), .inl (cy E 0, 67, .inl (fun _ => 0)), .inl (cy E 0, 67, .inl (fun _ => 0)), .inl (cy E 0, 8, .inl (fun _ => 0)), .inl (cy E 0, 8, .inl (fun _ => 0))]) 10 H _ := hB
  refine lv_aload_n hx hb dX1_init_84 rfl (lv_at hl 0 rfl) ?_
  refine lv_bipush (v := (8 : Int32)) hx hb dX1_init_85 (by decide) ?_
  refine bk_newa (atype := .int) (t0 := 0) (ty := .int) (N := 8) (a0 := (8, .inl (fun _ => 0))) rfl (fun _ => rfl) (fun _ => rfl) (by decide) rfl (by decide) (n9 := 11) rfl C hB ax_int (Nat.le_of_ble_eq_true rfl) (Nat.le_of_ble_eq_true rfl) dX1_init_87 (fun H hB => ?_)
  have hB : Bq E s b (.inr (1, [.ref (b + 1), .ref (b + 2), .ref (b + 3), .ref (b + 4), .ref (b + 5), .ref (b + 6), .ref (b + 7), .ref (b + 8), .ref (b + 9), .ref (b + 10), .null, .int 0]) :: [.inl (cy E 0, 67, .inl (fun _ => 0)), .inl (cy E 0, 67, .inl (fun _ => 0)), .inl (cy E 0, 67, .inl (fun _ => 0)), .inl (cy E 0, 67, .inl (fun _ => 0)), .inl (cy E 0, 67, .inl (fun _ => 0)), .inl (cy E 0, 67, .inl (fun _ => 0)), .inl (cy E 0, 67, .inl (fun _ => 0)), .inl (cy E 0, 67, .inl (fun _ => 0)), .inl (cy E 0, 8, .inl (fun _ => 0)), .inl (cy E 0, 8, .inl (fun _ => 0)), .inl (cy E 0, 8, .inl (fun _ => 0))]) 11 H _ := hB
  refine bk_putF (q := 0) (T := TX1) (N := 12) (ci := 1) (f := 10) (fs := [.ref (b + 1), .ref (b + 2), .ref (b + 3), .ref (b + 4), .ref (b + 5), .ref (b + 6), .ref (b + 7), .ref (b + 8), .ref (b + 9), .ref (b + 10), .null, .int 0]) (ty := (.array .int)) uw_1 tyX1_ok nmX1 rfl (by decide) rfl rfl rfl (by decide +kernel) (Nat.le_of_ble_eq_true rfl) rfl rfl C hin2 hB rfl fl_X1_42 dX1_init_89 (fun H locs hB => ?_)
  have hB : Bq E s b (.inr (1, [.ref (b + 1), .ref (b + 2), .ref (b + 3), .ref (b + 4), .ref (b + 5), .ref (b + 6), .ref (b + 7), .ref (b + 8), .ref (b + 9), .ref (b + 10), .ref (b + 11), .int 0]) :: [.inl (cy E 0, 67, .inl (fun _ => 0)), .inl (cy E 0, 67, .inl (fun _ => 0)), .inl (cy E 0, 67, .inl (fun _ => 0)), .inl (cy E 0, 67, .inl (fun _ => 0)), .inl (cy E 0, 67, .inl (fun _ => 0)), .inl (cy E 0, 67, .inl (fun _ => 0)), .inl (cy E 0, 67, .inl (fun _ => 0)), .inl (cy E 0, 67, .inl (fun _ => 0)), .inl (cy E 0, 8, .inl (fun _ => 0)), .inl (cy E 0, 8, .inl (fun _ => 0)), .inl (cy E 0, 8, .inl (fun _ => 0))]) 11 H _ := hB
  refine lv_aload_n hx hb dX1_init_92 rfl (lv_at hl 0 rfl) ?_
  refine lv_iconst (v := (0 : Int32)) hx hb dX1_init_93 (by decide) ?_
  refine bk_put (q := 0) (T := TX1) (N := 12) (ci := 1) (f := 11) (fs := [.ref (b + 1), .ref (b + 2), .ref (b + 3), .ref (b + 4), .ref (b + 5), .ref (b + 6), .ref (b + 7), .ref (b + 8), .ref (b + 9), .ref (b + 10), .ref (b + 11), .int 0]) (ty := .int) uw_1 tyX1_ok nmX1 rfl (by decide) rfl rfl (by decide +kernel) (Nat.le_of_ble_eq_true rfl) (by first | rfl | decide) (by first | rfl | decide) C hB rfl fl_X1_45 dX1_init_94 (fun H locs hB => ?_)
  have hB : Bq E s b (.inr (1, [.ref (b + 1), .ref (b + 2), .ref (b + 3), .ref (b + 4), .ref (b + 5), .ref (b + 6), .ref (b + 7), .ref (b + 8), .ref (b + 9), .ref (b + 10), .ref (b + 11), .int (0 : Int32)]) :: [.inl (cy E 0, 67, .inl (fun _ => 0)), .inl (cy E 0, 67, .inl (fun _ => 0)), .inl (cy E 0, 67, .inl (fun _ => 0)), .inl (cy E 0, 67, .inl (fun _ => 0)), .inl (cy E 0, 67, .inl (fun _ => 0)), .inl (cy E 0, 67, .inl (fun _ => 0)), .inl (cy E 0, 67, .inl (fun _ => 0)), .inl (cy E 0, 67, .inl (fun _ => 0)), .inl (cy E 0, 8, .inl (fun _ => 0)), .inl (cy E 0, 8, .inl (fun _ => 0)), .inl (cy E 0, 8, .inl (fun _ => 0))]) 11 H _ := hB
  exact bk_vret C hr hlk hB dX1_init_97
theorem dX3_init_0 : decode cX3_init 0 = .ok (.aload_n 0, 1) := by decide +kernel
theorem dX3_init_1 : decode cX3_init 1 = .ok (.invokespecial 3, 3) := by decide +kernel
theorem dX3_init_4 : decode cX3_init 4 = .ok (.aload_n 0, 1) := by decide +kernel
theorem dX3_init_5 : decode cX3_init 5 = .ok (.bipush 8, 2) := by decide +kernel
theorem dX3_init_7 : decode cX3_init 7 = .ok (.newarray .int, 2) := by decide +kernel
theorem dX3_init_9 : decode cX3_init 9 = .ok (.putfield 9, 3) := by decide +kernel
theorem dX3_init_12 : decode cX3_init 12 = .ok (.aload_n 0, 1) := by decide +kernel
theorem dX3_init_13 : decode cX3_init 13 = .ok (.bipush 8, 2) := by decide +kernel
theorem dX3_init_15 : decode cX3_init 15 = .ok (.newarray .int, 2) := by decide +kernel
theorem dX3_init_17 : decode cX3_init 17 = .ok (.putfield 15, 3) := by decide +kernel
theorem dX3_init_20 : decode cX3_init 20 = .ok (.aload_n 0, 1) := by decide +kernel
theorem dX3_init_21 : decode cX3_init 21 = .ok (.bipush 8, 2) := by decide +kernel
theorem dX3_init_23 : decode cX3_init 23 = .ok (.newarray .int, 2) := by decide +kernel
theorem dX3_init_25 : decode cX3_init 25 = .ok (.putfield 18, 3) := by decide +kernel
theorem dX3_init_28 : decode cX3_init 28 = .ok (.aload_n 0, 1) := by decide +kernel
theorem dX3_init_29 : decode cX3_init 29 = .ok (.bipush 8, 2) := by decide +kernel
theorem dX3_init_31 : decode cX3_init 31 = .ok (.newarray .int, 2) := by decide +kernel
theorem dX3_init_33 : decode cX3_init 33 = .ok (.putfield 21, 3) := by decide +kernel
theorem dX3_init_36 : decode cX3_init 36 = .ok (.aload_n 0, 1) := by decide +kernel
theorem dX3_init_37 : decode cX3_init 37 = .ok (.iconst 0, 1) := by decide +kernel
theorem dX3_init_38 : decode cX3_init 38 = .ok (.putfield 24, 3) := by decide +kernel
theorem dX3_init_41 : decode cX3_init 41 = .ok (.return_, 1) := by decide +kernel
theorem ol_X3 : Cond.methodLink RX3 3 objectInit ∈ T1 := T1_of 209 (by decide +kernel) rfl
def kb3 (E : En) (b : Nat) : List va_E := (.inr (3, [.ref (b + 1), .ref (b + 2), .ref (b + 3), .ref (b + 4), .int (0 : Int32)]) :: [.inl (cy E 0, 8, .inl (fun _ => 0)), .inl (cy E 0, 8, .inl (fun _ => 0)), .inl (cy E 0, 8, .inl (fun _ => 0)), .inl (cy E 0, 8, .inl (fun _ => 0))])
theorem kbl_3 (E : En) (b : Nat) : (kb3 E b).length = 5 := rfl
set_option maxHeartbeats 4000000 in
set_option maxRecDepth 100000 in
theorem c_X3_init (l : Launch) (E : En) (hE : Dj E) (b : Nat) : Met l yX3_init (wt yX3_init cX3_init 1 none) { frames := 1, cells := 4, slots := 32, locals := 20 } (Pk E b 3 [.null, .null, .null, .null, .int 0]) (Qk E b (kb3 E b)) 4 32 (fun q => b ≤ q) := by
  refine kmet_of (cc := cX3_init) (nL := 1) (rm := { frames := 1, cells := 4, slots := 32, locals := 20 }) (by decide) hE (by decide) ?_
  intro p e s m below meth c C hr hlk hin2 hN hB ls hl
  have hx := C.1.1
  have hb := C.1.2.1
  have hl : lv_has ls 1 [(0, .ref b)] := hl
  have hB : Bq E s b (.inr (3, [.null, .null, .null, .null, .int 0]) :: []) 0 s.heap _ := hB
  refine lv_aload_n hx hb dX3_init_0 rfl (lv_at hl 0 rfl) ?_
  refine bk_obj ol_X3 oi_ oc_ C hl.1 (Nat.le_of_ble_eq_true rfl) (Nat.le_of_ble_eq_true rfl) dX3_init_1 ?_
  refine lv_aload_n hx hb dX3_init_4 rfl (lv_at hl 0 rfl) ?_
  refine lv_bipush (v := (8 : Int32)) hx hb dX3_init_5 (by decide) ?_
  refine bk_newa (atype := .int) (t0 := 0) (ty := .int) (N := 8) (a0 := (8, .inl (fun _ => 0))) rfl (fun _ => rfl) (fun _ => rfl) (by decide) rfl (by decide) (n9 := 1) rfl C hB ax_int (Nat.le_of_ble_eq_true rfl) (Nat.le_of_ble_eq_true rfl) dX3_init_7 (fun H hB => ?_)
  have hB : Bq E s b (.inr (3, [.null, .null, .null, .null, .int 0]) :: [.inl (cy E 0, 8, .inl (fun _ => 0))]) 1 H _ := hB
  refine bk_putF (q := 0) (T := TX3) (N := 5) (ci := 3) (f := 0) (fs := [.null, .null, .null, .null, .int 0]) (ty := (.array .int)) uw_3 tyX3_ok nmX3 rfl (by decide) rfl rfl rfl (by decide +kernel) (Nat.le_of_ble_eq_true rfl) rfl rfl C hin2 hB rfl fl_X3_9 dX3_init_9 (fun H locs hB => ?_)
  have hB : Bq E s b (.inr (3, [.ref (b + 1), .null, .null, .null, .int 0]) :: [.inl (cy E 0, 8, .inl (fun _ => 0))]) 1 H _ := hB
  refine lv_aload_n hx hb dX3_init_12 rfl (lv_at hl 0 rfl) ?_
  refine lv_bipush (v := (8 : Int32)) hx hb dX3_init_13 (by decide) ?_
  refine bk_newa (atype := .int) (t0 := 0) (ty := .int) (N := 8) (a0 := (8, .inl (fun _ => 0))) rfl (fun _ => rfl) (fun _ => rfl) (by decide) rfl (by decide) (n9 := 2) rfl C hB ax_int (Nat.le_of_ble_eq_true rfl) (Nat.le_of_ble_eq_true rfl) dX3_init_15 (fun H hB => ?_)
  have hB : Bq E s b (.inr (3, [.ref (b + 1), .null, .null, .null, .int 0]) :: [.inl (cy E 0, 8, .inl (fun _ => 0)), .inl (cy E 0, 8, .inl (fun _ => 0))]) 2 H _ := hB
  refine bk_putF (q := 0) (T := TX3) (N := 5) (ci := 3) (f := 1) (fs := [.ref (b + 1), .null, .null, .null, .int 0]) (ty := (.array .int)) uw_3 tyX3_ok nmX3 rfl (by decide) rfl rfl rfl (by decide +kernel) (Nat.le_of_ble_eq_true rfl) rfl rfl C hin2 hB rfl fl_X3_15 dX3_init_17 (fun H locs hB => ?_)
  have hB : Bq E s b (.inr (3, [.ref (b + 1), .ref (b + 2), .null, .null, .int 0]) :: [.inl (cy E 0, 8, .inl (fun _ => 0)), .inl (cy E 0, 8, .inl (fun _ => 0))]) 2 H _ := hB
  refine lv_aload_n hx hb dX3_init_20 rfl (lv_at hl 0 rfl) ?_
  refine lv_bipush (v := (8 : Int32)) hx hb dX3_init_21 (by decide) ?_
  refine bk_newa (atype := .int) (t0 := 0) (ty := .int) (N := 8) (a0 := (8, .inl (fun _ => 0))) rfl (fun _ => rfl) (fun _ => rfl) (by decide) rfl (by decide) (n9 := 3) rfl C hB ax_int (Nat.le_of_ble_eq_true rfl) (Nat.le_of_ble_eq_true rfl) dX3_init_23 (fun H hB => ?_)
  have hB : Bq E s b (.inr (3, [.ref (b + 1), .ref (b + 2), .null, .null, .int 0]) :: [.inl (cy E 0, 8, .inl (fun _ => 0)), .inl (cy E 0, 8, .inl (fun _ => 0)), .inl (cy E 0, 8, .inl (fun _ => 0))]) 3 H _ := hB
  refine bk_putF (q := 0) (T := TX3) (N := 5) (ci := 3) (f := 2) (fs := [.ref (b + 1), .ref (b + 2), .null, .null, .int 0]) (ty := (.array .int)) uw_3 tyX3_ok nmX3 rfl (by decide) rfl rfl rfl (by decide +kernel) (Nat.le_of_ble_eq_true rfl) rfl rfl C hin2 hB rfl fl_X3_18 dX3_init_25 (fun H locs hB => ?_)
  have hB : Bq E s b (.inr (3, [.ref (b + 1), .ref (b + 2), .ref (b + 3), .null, .int 0]) :: [.inl (cy E 0, 8, .inl (fun _ => 0)), .inl (cy E 0, 8, .inl (fun _ => 0)), .inl (cy E 0, 8, .inl (fun _ => 0))]) 3 H _ := hB
  refine lv_aload_n hx hb dX3_init_28 rfl (lv_at hl 0 rfl) ?_
  refine lv_bipush (v := (8 : Int32)) hx hb dX3_init_29 (by decide) ?_
  refine bk_newa (atype := .int) (t0 := 0) (ty := .int) (N := 8) (a0 := (8, .inl (fun _ => 0))) rfl (fun _ => rfl) (fun _ => rfl) (by decide) rfl (by decide) (n9 := 4) rfl C hB ax_int (Nat.le_of_ble_eq_true rfl) (Nat.le_of_ble_eq_true rfl) dX3_init_31 (fun H hB => ?_)
  have hB : Bq E s b (.inr (3, [.ref (b + 1), .ref (b + 2), .ref (b + 3), .null, .int 0]) :: [.inl (cy E 0, 8, .inl (fun _ => 0)), .inl (cy E 0, 8, .inl (fun _ => 0)), .inl (cy E 0, 8, .inl (fun _ => 0)), .inl (cy E 0, 8, .inl (fun _ => 0))]) 4 H _ := hB
  refine bk_putF (q := 0) (T := TX3) (N := 5) (ci := 3) (f := 3) (fs := [.ref (b + 1), .ref (b + 2), .ref (b + 3), .null, .int 0]) (ty := (.array .int)) uw_3 tyX3_ok nmX3 rfl (by decide) rfl rfl rfl (by decide +kernel) (Nat.le_of_ble_eq_true rfl) rfl rfl C hin2 hB rfl fl_X3_21 dX3_init_33 (fun H locs hB => ?_)
  have hB : Bq E s b (.inr (3, [.ref (b + 1), .ref (b + 2), .ref (b + 3), .ref (b + 4), .int 0]) :: [.inl (cy E 0, 8, .inl (fun _ => 0)), .inl (cy E 0, 8, .inl (fun _ => 0)), .inl (cy E 0, 8, .inl (fun _ => 0)), .inl (cy E 0, 8, .inl (fun _ => 0))]) 4 H _ := hB
  refine lv_aload_n hx hb dX3_init_36 rfl (lv_at hl 0 rfl) ?_
  refine lv_iconst (v := (0 : Int32)) hx hb dX3_init_37 (by decide) ?_
  refine bk_put (q := 0) (T := TX3) (N := 5) (ci := 3) (f := 4) (fs := [.ref (b + 1), .ref (b + 2), .ref (b + 3), .ref (b + 4), .int 0]) (ty := .int) uw_3 tyX3_ok nmX3 rfl (by decide) rfl rfl (by decide +kernel) (Nat.le_of_ble_eq_true rfl) (by first | rfl | decide) (by first | rfl | decide) C hB rfl fl_X3_24 dX3_init_38 (fun H locs hB => ?_)
  have hB : Bq E s b (.inr (3, [.ref (b + 1), .ref (b + 2), .ref (b + 3), .ref (b + 4), .int (0 : Int32)]) :: [.inl (cy E 0, 8, .inl (fun _ => 0)), .inl (cy E 0, 8, .inl (fun _ => 0)), .inl (cy E 0, 8, .inl (fun _ => 0)), .inl (cy E 0, 8, .inl (fun _ => 0))]) 4 H _ := hB
  exact bk_vret C hr hlk hB dX3_init_41
theorem dX5_init_0 : decode cX5_init 0 = .ok (.aload_n 0, 1) := by decide +kernel
theorem dX5_init_1 : decode cX5_init 1 = .ok (.invokespecial 3, 3) := by decide +kernel
theorem dX5_init_4 : decode cX5_init 4 = .ok (.aload_n 0, 1) := by decide +kernel
theorem dX5_init_5 : decode cX5_init 5 = .ok (.bipush 9, 2) := by decide +kernel
theorem dX5_init_7 : decode cX5_init 7 = .ok (.newarray .long, 2) := by decide +kernel
theorem dX5_init_9 : decode cX5_init 9 = .ok (.putfield 9, 3) := by decide +kernel
theorem dX5_init_12 : decode cX5_init 12 = .ok (.return_, 1) := by decide +kernel
theorem ol_X5 : Cond.methodLink RX5 3 objectInit ∈ T1 := T1_of 330 (by decide +kernel) rfl
def kb5 (E : En) (b : Nat) : List va_E := (.inr (5, [.ref (b + 1)]) :: [.inl (cy E 2, 9, .inr (.inl (fun _ => 0)))])
theorem kbl_5 (E : En) (b : Nat) : (kb5 E b).length = 2 := rfl
set_option maxHeartbeats 4000000 in
set_option maxRecDepth 100000 in
theorem c_X5_init (l : Launch) (E : En) (hE : Dj E) (b : Nat) : Met l yX5_init (wt yX5_init cX5_init 1 none) { frames := 1, cells := 1, slots := 9, locals := 20 } (Pk E b 5 [.null]) (Qk E b (kb5 E b)) 1 9 (fun q => b ≤ q) := by
  refine kmet_of (cc := cX5_init) (nL := 1) (rm := { frames := 1, cells := 1, slots := 9, locals := 20 }) (by decide) hE (by decide) ?_
  intro p e s m below meth c C hr hlk hin2 hN hB ls hl
  have hx := C.1.1
  have hb := C.1.2.1
  have hl : lv_has ls 1 [(0, .ref b)] := hl
  have hB : Bq E s b (.inr (5, [.null]) :: []) 0 s.heap _ := hB
  refine lv_aload_n hx hb dX5_init_0 rfl (lv_at hl 0 rfl) ?_
  refine bk_obj ol_X5 oi_ oc_ C hl.1 (Nat.le_of_ble_eq_true rfl) (Nat.le_of_ble_eq_true rfl) dX5_init_1 ?_
  refine lv_aload_n hx hb dX5_init_4 rfl (lv_at hl 0 rfl) ?_
  refine lv_bipush (v := (9 : Int32)) hx hb dX5_init_5 (by decide) ?_
  refine bk_newa (atype := .long) (t0 := 2) (ty := .long) (N := 9) (a0 := (9, .inr (.inl (fun _ => 0)))) rfl (fun _ => rfl) (fun _ => rfl) (by decide) rfl (by decide) (n9 := 1) rfl C hB ax_long (Nat.le_of_ble_eq_true rfl) (Nat.le_of_ble_eq_true rfl) dX5_init_7 (fun H hB => ?_)
  have hB : Bq E s b (.inr (5, [.null]) :: [.inl (cy E 2, 9, .inr (.inl (fun _ => 0)))]) 1 H _ := hB
  refine bk_putF (q := 0) (T := TX5) (N := 1) (ci := 5) (f := 0) (fs := [.null]) (ty := (.array .long)) uw_5 tyX5_ok nmX5 rfl (by decide) rfl rfl rfl (by decide +kernel) (Nat.le_of_ble_eq_true rfl) rfl rfl C hin2 hB rfl fl_X5_9 dX5_init_9 (fun H locs hB => ?_)
  have hB : Bq E s b (.inr (5, [.ref (b + 1)]) :: [.inl (cy E 2, 9, .inr (.inl (fun _ => 0)))]) 1 H _ := hB
  exact bk_vret C hr hlk hB dX5_init_12
theorem dX8_init_0 : decode cX8_init 0 = .ok (.aload_n 0, 1) := by decide +kernel
theorem dX8_init_1 : decode cX8_init 1 = .ok (.invokespecial 3, 3) := by decide +kernel
theorem dX8_init_4 : decode cX8_init 4 = .ok (.aload_n 0, 1) := by decide +kernel
theorem dX8_init_5 : decode cX8_init 5 = .ok (.new 9, 3) := by decide +kernel
theorem dX8_init_8 : decode cX8_init 8 = .ok (.dup, 1) := by decide +kernel
theorem dX8_init_9 : decode cX8_init 9 = .ok (.invokespecial 11, 3) := by decide +kernel
theorem dX8_init_12 : decode cX8_init 12 = .ok (.putfield 12, 3) := by decide +kernel
theorem dX8_init_15 : decode cX8_init 15 = .ok (.aload_n 0, 1) := by decide +kernel
theorem dX8_init_16 : decode cX8_init 16 = .ok (.iconst 0, 1) := by decide +kernel
theorem dX8_init_17 : decode cX8_init 17 = .ok (.putfield 18, 3) := by decide +kernel
theorem dX8_init_20 : decode cX8_init 20 = .ok (.aload_n 0, 1) := by decide +kernel
theorem dX8_init_21 : decode cX8_init 21 = .ok (.iconst 0, 1) := by decide +kernel
theorem dX8_init_22 : decode cX8_init 22 = .ok (.putfield 22, 3) := by decide +kernel
theorem dX8_init_25 : decode cX8_init 25 = .ok (.return_, 1) := by decide +kernel
theorem ol_X8 : Cond.methodLink RX8 3 objectInit ∈ T1 := T1_of 238 (by decide +kernel) rfl
theorem cl_X8_9 : Cond.classLink RX8 9 RX4 ∈ T1 := T1_of 239 (by decide +kernel) rfl
def kb8 (E : En) (b : Nat) : List va_E := (.inr (8, [.ref (b + 1), .int (0 : Int32), .int (0 : Int32)]) :: [.inr (4, [.ref (b + 2), .ref (b + 3), .ref (b + 4), .int (-2 : Int32), .int (0 : Int32)]), .inl (cy E 0, 8, .inl (fun _ => 0)), .inl (cy E 0, 8, .inl (fun _ => 0)), .inl (cy E 0, 4, .inl (ff (fun _ => 0) 4 (-2 : Int32)))])
theorem kbl_8 (E : En) (b : Nat) : (kb8 E b).length = 5 := rfl
set_option maxHeartbeats 4000000 in
set_option maxRecDepth 100000 in
theorem c_X8_init (l : Launch) (E : En) (hE : Dj E) (b : Nat) : Met l yX8_init (wt yX8_init cX8_init 1 none) { frames := 2, cells := 4, slots := 25, locals := 43 } (Pk E b 8 [.null, .int 0, .int 0]) (Qk E b (kb8 E b)) 4 25 (fun q => b ≤ q) := by
  refine kmet_of (cc := cX8_init) (nL := 1) (rm := { frames := 2, cells := 4, slots := 25, locals := 43 }) (by decide) hE (by decide) ?_
  intro p e s m below meth c C hr hlk hin2 hN hB ls hl
  have hx := C.1.1
  have hb := C.1.2.1
  have hl : lv_has ls 1 [(0, .ref b)] := hl
  have hB : Bq E s b (.inr (8, [.null, .int 0, .int 0]) :: []) 0 s.heap _ := hB
  refine lv_aload_n hx hb dX8_init_0 rfl (lv_at hl 0 rfl) ?_
  refine bk_obj ol_X8 oi_ oc_ C hl.1 (Nat.le_of_ble_eq_true rfl) (Nat.le_of_ble_eq_true rfl) dX8_init_1 ?_
  refine lv_aload_n hx hb dX8_init_4 rfl (lv_at hl 0 rfl) ?_
  refine bk_new (Cn := RX4) (T := TX4) (N := 5) (ci := 4) (ty0 := tyX4) (fs := [.null, .null, .null, .int 0, .int 0]) uw_4 tyX4_ok rfl (by decide) (n9 := 1) rfl C hB cl_X8_9 it_X4 in_X4 (Nat.le_of_ble_eq_true rfl) (Nat.le_of_ble_eq_true rfl) dX8_init_5 (fun H hB => ?_)
  refine lv_dup hx hb dX8_init_8 rfl ?_
  refine bk_init (es := (.inr (8, [.null, .int 0, .int 0]) :: [])) (rest := [.ref (b + 1), .ref b]) (es1 := kb4 E (b + 1)) (n9 := 1) rfl (c_X4_init l E hE (b + 1)) rfl C hN hB ml_X8_11 in_X4 cw_X4 im_X4 (by decide +kernel) ⟨(Nat.le_of_ble_eq_true rfl), (Nat.le_of_ble_eq_true rfl)⟩ ⟨(Nat.le_of_ble_eq_true rfl), (Nat.le_of_ble_eq_true rfl)⟩ hl.1 (Nat.le_of_ble_eq_true rfl) dX8_init_9 (fun H locs hB => ?_)
  have hB : Bq E s b (.inr (8, [.null, .int 0, .int 0]) :: [.inr (4, [.ref (b + 2), .ref (b + 3), .ref (b + 4), .int (-2 : Int32), .int (0 : Int32)]), .inl (cy E 0, 8, .inl (fun _ => 0)), .inl (cy E 0, 8, .inl (fun _ => 0)), .inl (cy E 0, 4, .inl (ff (fun _ => 0) 4 (-2 : Int32)))]) 4 H _ := hB
  refine bk_putF (q := 0) (T := TX8) (N := 3) (ci := 8) (f := 0) (fs := [.null, .int 0, .int 0]) (ty := (.object RX4)) uw_8 tyX8_ok nmX8 rfl (by decide) rfl rfl rfl (by decide +kernel) (Nat.le_of_ble_eq_true rfl) rfl rfl C hin2 hB rfl fl_X8_12 dX8_init_12 (fun H locs hB => ?_)
  have hB : Bq E s b (.inr (8, [.ref (b + 1), .int 0, .int 0]) :: [.inr (4, [.ref (b + 2), .ref (b + 3), .ref (b + 4), .int (-2 : Int32), .int (0 : Int32)]), .inl (cy E 0, 8, .inl (fun _ => 0)), .inl (cy E 0, 8, .inl (fun _ => 0)), .inl (cy E 0, 4, .inl (ff (fun _ => 0) 4 (-2 : Int32)))]) 4 H _ := hB
  refine lv_aload_n hx hb dX8_init_15 rfl (lv_at hl 0 rfl) ?_
  refine lv_iconst (v := (0 : Int32)) hx hb dX8_init_16 (by decide) ?_
  refine bk_put (q := 0) (T := TX8) (N := 3) (ci := 8) (f := 1) (fs := [.ref (b + 1), .int 0, .int 0]) (ty := .int) uw_8 tyX8_ok nmX8 rfl (by decide) rfl rfl (by decide +kernel) (Nat.le_of_ble_eq_true rfl) (by first | rfl | decide) (by first | rfl | decide) C hB rfl fl_X8_18 dX8_init_17 (fun H locs hB => ?_)
  have hB : Bq E s b (.inr (8, [.ref (b + 1), .int (0 : Int32), .int 0]) :: [.inr (4, [.ref (b + 2), .ref (b + 3), .ref (b + 4), .int (-2 : Int32), .int (0 : Int32)]), .inl (cy E 0, 8, .inl (fun _ => 0)), .inl (cy E 0, 8, .inl (fun _ => 0)), .inl (cy E 0, 4, .inl (ff (fun _ => 0) 4 (-2 : Int32)))]) 4 H _ := hB
  refine lv_aload_n hx hb dX8_init_20 rfl (lv_at hl 0 rfl) ?_
  refine lv_iconst (v := (0 : Int32)) hx hb dX8_init_21 (by decide) ?_
  refine bk_put (q := 0) (T := TX8) (N := 3) (ci := 8) (f := 2) (fs := [.ref (b + 1), .int (0 : Int32), .int 0]) (ty := .boolean) uw_8 tyX8_ok nmX8 rfl (by decide) rfl rfl (by decide +kernel) (Nat.le_of_ble_eq_true rfl) (by first | rfl | decide) (by first | rfl | decide) C hB rfl fl_X8_22 dX8_init_22 (fun H locs hB => ?_)
  have hB : Bq E s b (.inr (8, [.ref (b + 1), .int (0 : Int32), .int (0 : Int32)]) :: [.inr (4, [.ref (b + 2), .ref (b + 3), .ref (b + 4), .int (-2 : Int32), .int (0 : Int32)]), .inl (cy E 0, 8, .inl (fun _ => 0)), .inl (cy E 0, 8, .inl (fun _ => 0)), .inl (cy E 0, 4, .inl (ff (fun _ => 0) 4 (-2 : Int32)))]) 4 H _ := hB
  exact bk_vret C hr hlk hB dX8_init_25
