theorem dX8_start_0 : decode cX8_start 0 = .ok (.aload_n 0, 1) := by decide +kernel
theorem dX8_start_1 : decode cX8_start 1 = .ok (.getfield 12, 3) := by decide +kernel
theorem dX8_start_4 : decode cX8_start 4 = .ok (.invokevirtual 26, 3) := by decide +kernel
theorem dX8_start_7 : decode cX8_start 7 = .ok (.aload_n 0, 1) := by decide +kernel
theorem dX8_start_8 : decode cX8_start 8 = .ok (.iconst 0, 1) := by decide +kernel
theorem dX8_start_9 : decode cX8_start 9 = .ok (.putfield 18, 3) := by decide +kernel
theorem dX8_start_12 : decode cX8_start 12 = .ok (.aload_n 0, 1) := by decide +kernel
theorem dX8_start_13 : decode cX8_start 13 = .ok (.iconst 0, 1) := by decide +kernel
theorem dX8_start_14 : decode cX8_start 14 = .ok (.putfield 22, 3) := by decide +kernel
theorem dX8_start_17 : decode cX8_start 17 = .ok (.return_, 1) := by decide +kernel
def f_X8_start (μ : Mm) : Option Mm :=
 (f_X4_reset μ 21).bind fun q7 =>
 (wf q7 800 0 1 (0 : Int32)).bind fun m9 =>
 (wf m9 800 0 2 (0 : Int32)).bind fun m11 =>
 some m11
set_option maxHeartbeats 4000000 in
set_option maxRecDepth 100000 in
theorem c_X8_start (l : Launch) (E : En) {μ : Mm} (h0 : l8 E 0) {z : Mm} (hf : f_X8_start μ = some z) : Met l yX8_start (wt yX8_start cX8_start 1 (none : Option FieldType)) { frames := 2, cells := 0, slots := 0, locals := 43 } (Pm E [.ref (ad E 800 0)] μ) (Qm E none z) 0 0 (Ad E) := by
  unfold f_X8_start at hf
  refine met_of (cc := cX8_start) (nL := 1) (ret := (none : Option FieldType)) (by decide) _ (Nat.le_of_ble_eq_true rfl) ?_
  intro p e s m below meth c C hr hlk hI ls hl
  have hx := C.1.1
  have hb := C.1.2.1
  have hl : lv_has ls 1 [(0, .ref (ad E 800 0))] := hl
  refine lv_aload_n hx hb dX8_start_0 rfl (lv_at hl 0 rfl) ?_
  refine gf_8_0 C hI h0.1 fl_X8_12 dX8_start_1 ?_
  obtain ⟨q7, e8, hf⟩ := ob hf
  refine mcV (As := []) (rest := []) C hI (c_X4_reset l E h0.2 e8) ml_X8_26 kv_X4_reset (m_recv C hI h0.2.1 (ce_400 E _ _ _) rfl) rfl rfl ⟨Nat.le_of_ble_eq_true rfl, Nat.le_of_ble_eq_true rfl⟩ ⟨Nat.zero_le _, Nat.zero_le _⟩ rfl rfl hl.1 (Nat.le_of_ble_eq_true rfl) dX8_start_4 (st1 := []) rfl (fun H locs hI => ?_)
  refine lv_aload_n hx hb dX8_start_7 rfl (lv_at hl 0 rfl) ?_
  refine lv_iconst (v := (0 : Int32)) hx hb dX8_start_8 kc_0 ?_
  obtain ⟨m9, e10, hf⟩ := ob hf
  refine pf_8_1 C hI h0.1 fl_X8_18 e10 dX8_start_9 (fun H locs hI => ?_)
  refine lv_aload_n hx hb dX8_start_12 rfl (lv_at hl 0 rfl) ?_
  refine lv_iconst (v := (0 : Int32)) hx hb dX8_start_13 kc_0 ?_
  obtain ⟨m11, e12, hf⟩ := ob hf
  refine pf_8_2 C hI h0.1 (by decide) (by decide) fl_X8_22 e12 dX8_start_14 (fun H locs hI => ?_)
  obtain rfl := Option.some.inj hf
  exact m_vret C hr hlk hI dX8_start_17

theorem dX8_countsAs_0 : decode cX8_countsAs 0 = .ok (.aload_n 0, 1) := by decide +kernel
theorem dX8_countsAs_1 : decode cX8_countsAs 1 = .ok (.getfield 22, 3) := by decide +kernel
theorem dX8_countsAs_4 : decode cX8_countsAs 4 = .ok (.ifCond .eq 5, 3) := by decide +kernel
theorem dX8_countsAs_7 : decode cX8_countsAs 7 = .ok (.iconst 4, 1) := by decide +kernel
theorem dX8_countsAs_8 : decode cX8_countsAs 8 = .ok (.ireturn, 1) := by decide +kernel
theorem dX8_countsAs_9 : decode cX8_countsAs 9 = .ok (.aload_n 0, 1) := by decide +kernel
theorem dX8_countsAs_10 : decode cX8_countsAs 10 = .ok (.getfield 12, 3) := by decide +kernel
theorem dX8_countsAs_13 : decode cX8_countsAs 13 = .ok (.iload_n 1, 1) := by decide +kernel
theorem dX8_countsAs_14 : decode cX8_countsAs 14 = .ok (.invokevirtual 55, 3) := by decide +kernel
theorem dX8_countsAs_17 : decode cX8_countsAs 17 = .ok (.istore_n 2, 1) := by decide +kernel
theorem dX8_countsAs_18 : decode cX8_countsAs 18 = .ok (.iload_n 2, 1) := by decide +kernel
theorem dX8_countsAs_19 : decode cX8_countsAs 19 = .ok (.iconst 2, 1) := by decide +kernel
theorem dX8_countsAs_20 : decode cX8_countsAs 20 = .ok (.if_icmp .ne 17, 3) := by decide +kernel
theorem dX8_countsAs_23 : decode cX8_countsAs 23 = .ok (.aload_n 0, 1) := by decide +kernel
theorem dX8_countsAs_24 : decode cX8_countsAs 24 = .ok (.getfield 12, 3) := by decide +kernel
theorem dX8_countsAs_27 : decode cX8_countsAs 27 = .ok (.getfield 58, 3) := by decide +kernel
theorem dX8_countsAs_30 : decode cX8_countsAs 30 = .ok (.ifCond .eq 7, 3) := by decide +kernel
theorem dX8_countsAs_33 : decode cX8_countsAs 33 = .ok (.iconst 1, 1) := by decide +kernel
theorem dX8_countsAs_34 : decode cX8_countsAs 34 = .ok (.goto 4, 3) := by decide +kernel
theorem dX8_countsAs_37 : decode cX8_countsAs 37 = .ok (.iload_n 2, 1) := by decide +kernel
theorem dX8_countsAs_38 : decode cX8_countsAs 38 = .ok (.ireturn, 1) := by decide +kernel
def f_X8_countsAs (μ : Mm) (p1 : Int32) : Option Int32 :=
 if (μ.1 800 0 2) = 0 then
 (f_X4_stateOf μ 21 p1).bind fun q3 =>
 if q3 = (2 : Int32) then
 if (μ.1 400 21 4) = 0 then
 some q3
 else
 some (1 : Int32)
 else
 some q3
 else
 some (4 : Int32)
set_option maxHeartbeats 4000000 in
set_option maxRecDepth 100000 in
theorem c_X8_countsAs (l : Launch) (E : En) {μ : Mm} {p1 : Int32} (h0 : l8 E 0) {z : Int32} (hf : f_X8_countsAs μ p1 = some z) : Met l yX8_countsAs (wt yX8_countsAs cX8_countsAs 3 (some .int)) { frames := 1, cells := 0, slots := 0, locals := 21 } (Pm E [.ref (ad E 800 0), .int p1] μ) (Qm E (some (.int z)) μ) 0 0 (Ad E) := by
  unfold f_X8_countsAs at hf
  refine met_of (cc := cX8_countsAs) (nL := 3) (ret := (some .int)) (by decide) _ (Nat.le_of_ble_eq_true rfl) ?_
  intro p e s m below meth c C hr hlk hI ls hl
  have hx := C.1.1
  have hb := C.1.2.1
  have hl : lv_has ls 3 [(0, .ref (ad E 800 0)), (1, .int p1)] := hl
  refine lv_aload_n hx hb dX8_countsAs_0 rfl (lv_at hl 0 rfl) ?_
  refine gf_8_2 C hI h0.1 fl_X8_22 dX8_countsAs_1 ?_
  refine lv_if_eq (tgt := 9) hx hb dX8_countsAs_4 rfl (fun hc => ?_) (fun hc => ?_)
  · replace hf := it hf hc
    refine lv_aload_n hx hb dX8_countsAs_9 rfl (lv_at hl 0 rfl) ?_
    refine gf_8_0 C hI h0.1 fl_X8_12 dX8_countsAs_10 ?_
    refine lv_iload_n hx hb dX8_countsAs_13 rfl (lv_at hl 1 rfl) ?_
    obtain ⟨q3, e4, hf⟩ := ob hf
    refine mcV (As := [.int p1]) (rest := []) C hI (c_X4_stateOf l E h0.2 e4) ml_X8_55 kv_X4_stateOf (m_recv C hI h0.2.1 (ce_400 E _ _ _) rfl) rfl rfl ⟨Nat.le_of_ble_eq_true rfl, Nat.le_of_ble_eq_true rfl⟩ ⟨Nat.zero_le _, Nat.zero_le _⟩ rfl rfl hl.1 (Nat.le_of_ble_eq_true rfl) dX8_countsAs_14 (st1 := [.int q3]) rfl (fun H locs hI => ?_)
    refine lv_istore_n hx hb dX8_countsAs_17 rfl hl (by decide) rfl (fun ls hl => ?_)
    have hl : lv_has ls 3 [(2, .int q3), (0, .ref (ad E 800 0)), (1, .int p1)] := hl
    refine lv_iload_n hx hb dX8_countsAs_18 rfl (lv_at hl 0 rfl) ?_
    refine lv_iconst (v := (2 : Int32)) hx hb dX8_countsAs_19 kc_2 ?_
    refine lv_icmp_ne (tgt := 37) hx hb dX8_countsAs_20 rfl (fun hc => ?_) (fun hc => ?_)
    · replace hf := ie hf hc
      refine lv_iload_n hx hb dX8_countsAs_37 rfl (lv_at hl 0 rfl) ?_
      obtain rfl := Option.some.inj hf
      exact m_iret C hr hlk hI dX8_countsAs_38
    · replace hf := it hf hc
      refine lv_aload_n hx hb dX8_countsAs_23 rfl (lv_at hl 1 rfl) ?_
      refine gf_8_0 C hI h0.1 fl_X8_12 dX8_countsAs_24 ?_
      refine gf_4_4 C hI h0.2.1 fl_X8_58 dX8_countsAs_27 ?_
      refine lv_if_eq (tgt := 37) hx hb dX8_countsAs_30 rfl (fun hc => ?_) (fun hc => ?_)
      · replace hf := it hf hc
        refine lv_iload_n hx hb dX8_countsAs_37 rfl (lv_at hl 0 rfl) ?_
        obtain rfl := Option.some.inj hf
        exact m_iret C hr hlk hI dX8_countsAs_38
      · replace hf := ie hf hc
        refine lv_iconst (v := (1 : Int32)) hx hb dX8_countsAs_33 kc_1 ?_
        refine lv_goto (tgt := 38) hx hb dX8_countsAs_34 rfl ?_
        obtain rfl := Option.some.inj hf
        exact m_iret C hr hlk hI dX8_countsAs_38
  · replace hf := ie hf hc
    refine lv_iconst (v := (4 : Int32)) hx hb dX8_countsAs_7 kc_4 ?_
    obtain rfl := Option.some.inj hf
    exact m_iret C hr hlk hI dX8_countsAs_8

theorem dX8_doing_0 : decode cX8_doing 0 = .ok (.aload_n 0, 1) := by decide +kernel
theorem dX8_doing_1 : decode cX8_doing 1 = .ok (.getfield 22, 3) := by decide +kernel
theorem dX8_doing_4 : decode cX8_doing 4 = .ok (.ifCond .eq 5, 3) := by decide +kernel
theorem dX8_doing_7 : decode cX8_doing 7 = .ok (.iconst 3, 1) := by decide +kernel
theorem dX8_doing_8 : decode cX8_doing 8 = .ok (.ireturn, 1) := by decide +kernel
theorem dX8_doing_9 : decode cX8_doing 9 = .ok (.aload_n 0, 1) := by decide +kernel
theorem dX8_doing_10 : decode cX8_doing 10 = .ok (.getfield 12, 3) := by decide +kernel
theorem dX8_doing_13 : decode cX8_doing 13 = .ok (.getfield 58, 3) := by decide +kernel
theorem dX8_doing_16 : decode cX8_doing 16 = .ok (.ifCond .eq 5, 3) := by decide +kernel
theorem dX8_doing_19 : decode cX8_doing 19 = .ok (.iconst 1, 1) := by decide +kernel
theorem dX8_doing_20 : decode cX8_doing 20 = .ok (.ireturn, 1) := by decide +kernel
theorem dX8_doing_21 : decode cX8_doing 21 = .ok (.aload_n 0, 1) := by decide +kernel
theorem dX8_doing_22 : decode cX8_doing 22 = .ok (.getfield 12, 3) := by decide +kernel
theorem dX8_doing_25 : decode cX8_doing 25 = .ok (.getfield 52, 3) := by decide +kernel
theorem dX8_doing_28 : decode cX8_doing 28 = .ok (.ifCond .lt 7, 3) := by decide +kernel
theorem dX8_doing_31 : decode cX8_doing 31 = .ok (.iconst 2, 1) := by decide +kernel
theorem dX8_doing_32 : decode cX8_doing 32 = .ok (.goto 4, 3) := by decide +kernel
theorem dX8_doing_35 : decode cX8_doing 35 = .ok (.iconst 0, 1) := by decide +kernel
theorem dX8_doing_36 : decode cX8_doing 36 = .ok (.ireturn, 1) := by decide +kernel
def f_X8_doing (μ : Mm) : Option Int32 :=
 if (μ.1 800 0 2) = 0 then
 if (μ.1 400 21 4) = 0 then
 if (μ.1 400 21 3) < 0 then
 some (0 : Int32)
 else
 some (2 : Int32)
 else
 some (1 : Int32)
 else
 some (3 : Int32)
set_option maxHeartbeats 4000000 in
set_option maxRecDepth 100000 in
theorem c_X8_doing (l : Launch) (E : En) {μ : Mm} (h0 : l8 E 0) {z : Int32} (hf : f_X8_doing μ = some z) : Met l yX8_doing (wt yX8_doing cX8_doing 1 (some .int)) { frames := 0, cells := 0, slots := 0, locals := 0 } (Pm E [.ref (ad E 800 0)] μ) (Qm E (some (.int z)) μ) 0 0 (Ad E) := by
  unfold f_X8_doing at hf
  refine met_of (cc := cX8_doing) (nL := 1) (ret := (some .int)) (by decide) _ (Nat.le_of_ble_eq_true rfl) ?_
  intro p e s m below meth c C hr hlk hI ls hl
  have hx := C.1.1
  have hb := C.1.2.1
  have hl : lv_has ls 1 [(0, .ref (ad E 800 0))] := hl
  refine lv_aload_n hx hb dX8_doing_0 rfl (lv_at hl 0 rfl) ?_
  refine gf_8_2 C hI h0.1 fl_X8_22 dX8_doing_1 ?_
  refine lv_if_eq (tgt := 9) hx hb dX8_doing_4 rfl (fun hc => ?_) (fun hc => ?_)
  · replace hf := it hf hc
    refine lv_aload_n hx hb dX8_doing_9 rfl (lv_at hl 0 rfl) ?_
    refine gf_8_0 C hI h0.1 fl_X8_12 dX8_doing_10 ?_
    refine gf_4_4 C hI h0.2.1 fl_X8_58 dX8_doing_13 ?_
    refine lv_if_eq (tgt := 21) hx hb dX8_doing_16 rfl (fun hc => ?_) (fun hc => ?_)
    · replace hf := it hf hc
      refine lv_aload_n hx hb dX8_doing_21 rfl (lv_at hl 0 rfl) ?_
      refine gf_8_0 C hI h0.1 fl_X8_12 dX8_doing_22 ?_
      refine gf_4_3 C hI h0.2.1 fl_X8_52 dX8_doing_25 ?_
      refine lv_if_lt (tgt := 35) hx hb dX8_doing_28 rfl (fun hc => ?_) (fun hc => ?_)
      · replace hf := it hf hc
        refine lv_iconst (v := (0 : Int32)) hx hb dX8_doing_35 kc_0 ?_
        obtain rfl := Option.some.inj hf
        exact m_iret C hr hlk hI dX8_doing_36
      · replace hf := ie hf hc
        refine lv_iconst (v := (2 : Int32)) hx hb dX8_doing_31 kc_2 ?_
        refine lv_goto (tgt := 36) hx hb dX8_doing_32 rfl ?_
        obtain rfl := Option.some.inj hf
        exact m_iret C hr hlk hI dX8_doing_36
    · replace hf := ie hf hc
      refine lv_iconst (v := (1 : Int32)) hx hb dX8_doing_19 kc_1 ?_
      obtain rfl := Option.some.inj hf
      exact m_iret C hr hlk hI dX8_doing_20
  · replace hf := ie hf hc
    refine lv_iconst (v := (3 : Int32)) hx hb dX8_doing_7 kc_3 ?_
    obtain rfl := Option.some.inj hf
    exact m_iret C hr hlk hI dX8_doing_8

theorem dX8_wantingBy_0 : decode cX8_wantingBy 0 = .ok (.aload_n 0, 1) := by decide +kernel
theorem dX8_wantingBy_1 : decode cX8_wantingBy 1 = .ok (.getfield 12, 3) := by decide +kernel
theorem dX8_wantingBy_4 : decode cX8_wantingBy 4 = .ok (.getfield 58, 3) := by decide +kernel
theorem dX8_wantingBy_7 : decode cX8_wantingBy 7 = .ok (.ifCond .eq 5, 3) := by decide +kernel
theorem dX8_wantingBy_10 : decode cX8_wantingBy 10 = .ok (.iconst 0, 1) := by decide +kernel
theorem dX8_wantingBy_11 : decode cX8_wantingBy 11 = .ok (.ireturn, 1) := by decide +kernel
theorem dX8_wantingBy_12 : decode cX8_wantingBy 12 = .ok (.aload_n 0, 1) := by decide +kernel
theorem dX8_wantingBy_13 : decode cX8_wantingBy 13 = .ok (.getfield 12, 3) := by decide +kernel
theorem dX8_wantingBy_16 : decode cX8_wantingBy 16 = .ok (.iload_n 1, 1) := by decide +kernel
theorem dX8_wantingBy_17 : decode cX8_wantingBy 17 = .ok (.invokevirtual 72, 3) := by decide +kernel
theorem dX8_wantingBy_20 : decode cX8_wantingBy 20 = .ok (.istore_n 3, 1) := by decide +kernel
theorem dX8_wantingBy_21 : decode cX8_wantingBy 21 = .ok (.iload_n 3, 1) := by decide +kernel
theorem dX8_wantingBy_22 : decode cX8_wantingBy 22 = .ok (.bipush (-2), 2) := by decide +kernel
theorem dX8_wantingBy_24 : decode cX8_wantingBy 24 = .ok (.if_icmp .ne 6, 3) := by decide +kernel
theorem dX8_wantingBy_27 : decode cX8_wantingBy 27 = .ok (.bipush 6, 2) := by decide +kernel
theorem dX8_wantingBy_29 : decode cX8_wantingBy 29 = .ok (.ireturn, 1) := by decide +kernel
theorem dX8_wantingBy_30 : decode cX8_wantingBy 30 = .ok (.iload_n 3, 1) := by decide +kernel
theorem dX8_wantingBy_31 : decode cX8_wantingBy 31 = .ok (.aload_n 0, 1) := by decide +kernel
theorem dX8_wantingBy_32 : decode cX8_wantingBy 32 = .ok (.getfield 12, 3) := by decide +kernel
theorem dX8_wantingBy_35 : decode cX8_wantingBy 35 = .ok (.getfield 52, 3) := by decide +kernel
theorem dX8_wantingBy_38 : decode cX8_wantingBy 38 = .ok (.if_icmp .ne 5, 3) := by decide +kernel
theorem dX8_wantingBy_41 : decode cX8_wantingBy 41 = .ok (.iconst 1, 1) := by decide +kernel
theorem dX8_wantingBy_42 : decode cX8_wantingBy 42 = .ok (.ireturn, 1) := by decide +kernel
theorem dX8_wantingBy_43 : decode cX8_wantingBy 43 = .ok (.aload_n 0, 1) := by decide +kernel
theorem dX8_wantingBy_44 : decode cX8_wantingBy 44 = .ok (.getfield 12, 3) := by decide +kernel
theorem dX8_wantingBy_47 : decode cX8_wantingBy 47 = .ok (.iload_n 3, 1) := by decide +kernel
theorem dX8_wantingBy_48 : decode cX8_wantingBy 48 = .ok (.invokevirtual 55, 3) := by decide +kernel
theorem dX8_wantingBy_51 : decode cX8_wantingBy 51 = .ok (.iconst 3, 1) := by decide +kernel
theorem dX8_wantingBy_52 : decode cX8_wantingBy 52 = .ok (.if_icmp .ne 5, 3) := by decide +kernel
theorem dX8_wantingBy_55 : decode cX8_wantingBy 55 = .ok (.iconst 2, 1) := by decide +kernel
theorem dX8_wantingBy_56 : decode cX8_wantingBy 56 = .ok (.ireturn, 1) := by decide +kernel
theorem dX8_wantingBy_57 : decode cX8_wantingBy 57 = .ok (.aload_n 0, 1) := by decide +kernel
theorem dX8_wantingBy_58 : decode cX8_wantingBy 58 = .ok (.getfield 12, 3) := by decide +kernel
theorem dX8_wantingBy_61 : decode cX8_wantingBy 61 = .ok (.getfield 52, 3) := by decide +kernel
theorem dX8_wantingBy_64 : decode cX8_wantingBy 64 = .ok (.ifCond .ge 5, 3) := by decide +kernel
theorem dX8_wantingBy_67 : decode cX8_wantingBy 67 = .ok (.iconst 5, 1) := by decide +kernel
theorem dX8_wantingBy_68 : decode cX8_wantingBy 68 = .ok (.ireturn, 1) := by decide +kernel
theorem dX8_wantingBy_69 : decode cX8_wantingBy 69 = .ok (.aload_n 2, 1) := by decide +kernel
theorem dX8_wantingBy_70 : decode cX8_wantingBy 70 = .ok (.aload_n 0, 1) := by decide +kernel
theorem dX8_wantingBy_71 : decode cX8_wantingBy 71 = .ok (.getfield 12, 3) := by decide +kernel
theorem dX8_wantingBy_74 : decode cX8_wantingBy 74 = .ok (.getfield 52, 3) := by decide +kernel
theorem dX8_wantingBy_77 : decode cX8_wantingBy 77 = .ok (.invokevirtual 61, 3) := by decide +kernel
theorem dX8_wantingBy_80 : decode cX8_wantingBy 80 = .ok (.aload_n 2, 1) := by decide +kernel
theorem dX8_wantingBy_81 : decode cX8_wantingBy 81 = .ok (.iload_n 1, 1) := by decide +kernel
theorem dX8_wantingBy_82 : decode cX8_wantingBy 82 = .ok (.invokevirtual 61, 3) := by decide +kernel
theorem dX8_wantingBy_85 : decode cX8_wantingBy 85 = .ok (.if_icmp .lt 7, 3) := by decide +kernel
theorem dX8_wantingBy_88 : decode cX8_wantingBy 88 = .ok (.iconst 3, 1) := by decide +kernel
theorem dX8_wantingBy_89 : decode cX8_wantingBy 89 = .ok (.goto 4, 3) := by decide +kernel
theorem dX8_wantingBy_92 : decode cX8_wantingBy 92 = .ok (.iconst 4, 1) := by decide +kernel
theorem dX8_wantingBy_93 : decode cX8_wantingBy 93 = .ok (.ireturn, 1) := by decide +kernel
def f_X8_wantingBy (μ : Mm) (p1 : Int32) (n2 : Nat) : Option Int32 :=
 if (μ.1 400 21 4) = 0 then
 (f_X4_holderAgainst μ 21 p1).bind fun q9 =>
 if q9 = (-2 : Int32) then
 some (6 : Int32)
 else
 if q9 = (μ.1 400 21 3) then
 some (1 : Int32)
 else
 (f_X4_stateOf μ 21 q9).bind fun q11 =>
 if q11 = (3 : Int32) then
 some (2 : Int32)
 else
 if 0 ≤ (μ.1 400 21 3) then
 (f_X7_rankOf μ n2 (μ.1 400 21 3)).bind fun q13 =>
 (f_X7_rankOf μ n2 p1).bind fun q15 =>
 if q13 < q15 then
 some (4 : Int32)
 else
 some (3 : Int32)
 else
 some (5 : Int32)
 else
 some (0 : Int32)
set_option maxHeartbeats 4000000 in
set_option maxRecDepth 100000 in
theorem c_X8_wantingBy (l : Launch) (E : En) {μ : Mm} {p1 : Int32} {n2 : Nat} (h0 : l8 E 0) (h2 : l7 E n2) {z : Int32} (hf : f_X8_wantingBy μ p1 n2 = some z) : Met l yX8_wantingBy (wt yX8_wantingBy cX8_wantingBy 4 (some .int)) { frames := 2, cells := 0, slots := 0, locals := 42 } (Pm E [.ref (ad E 800 0), .int p1, .ref (ad E 700 n2)] μ) (Qm E (some (.int z)) μ) 0 0 (Ad E) := by
  unfold f_X8_wantingBy at hf
  refine met_of (cc := cX8_wantingBy) (nL := 4) (ret := (some .int)) (by decide) _ (Nat.le_of_ble_eq_true rfl) ?_
  intro p e s m below meth c C hr hlk hI ls hl
  have hx := C.1.1
  have hb := C.1.2.1
  have hl : lv_has ls 4 [(0, .ref (ad E 800 0)), (1, .int p1), (2, .ref (ad E 700 n2))] := hl
  refine lv_aload_n hx hb dX8_wantingBy_0 rfl (lv_at hl 0 rfl) ?_
  refine gf_8_0 C hI h0.1 fl_X8_12 dX8_wantingBy_1 ?_
  refine gf_4_4 C hI h0.2.1 fl_X8_58 dX8_wantingBy_4 ?_
  refine lv_if_eq (tgt := 12) hx hb dX8_wantingBy_7 rfl (fun hc => ?_) (fun hc => ?_)
  · replace hf := it hf hc
    refine lv_aload_n hx hb dX8_wantingBy_12 rfl (lv_at hl 0 rfl) ?_
    refine gf_8_0 C hI h0.1 fl_X8_12 dX8_wantingBy_13 ?_
    refine lv_iload_n hx hb dX8_wantingBy_16 rfl (lv_at hl 1 rfl) ?_
    obtain ⟨q9, e10, hf⟩ := ob hf
    refine mcV (As := [.int p1]) (rest := []) C hI (c_X4_holderAgainst l E h0.2 e10) ml_X8_72 kv_X4_holderAgainst (m_recv C hI h0.2.1 (ce_400 E _ _ _) rfl) rfl rfl ⟨Nat.le_of_ble_eq_true rfl, Nat.le_of_ble_eq_true rfl⟩ ⟨Nat.zero_le _, Nat.zero_le _⟩ rfl rfl hl.1 (Nat.le_of_ble_eq_true rfl) dX8_wantingBy_17 (st1 := [.int q9]) rfl (fun H locs hI => ?_)
    refine lv_istore_n hx hb dX8_wantingBy_20 rfl hl (by decide) rfl (fun ls hl => ?_)
    have hl : lv_has ls 4 [(3, .int q9), (0, .ref (ad E 800 0)), (1, .int p1), (2, .ref (ad E 700 n2))] := hl
    refine lv_iload_n hx hb dX8_wantingBy_21 rfl (lv_at hl 0 rfl) ?_
    refine lv_bipush (v := (-2 : Int32)) hx hb dX8_wantingBy_22 kb_m2 ?_
    refine lv_icmp_ne (tgt := 30) hx hb dX8_wantingBy_24 rfl (fun hc => ?_) (fun hc => ?_)
    · replace hf := ie hf hc
      refine lv_iload_n hx hb dX8_wantingBy_30 rfl (lv_at hl 0 rfl) ?_
      refine lv_aload_n hx hb dX8_wantingBy_31 rfl (lv_at hl 1 rfl) ?_
      refine gf_8_0 C hI h0.1 fl_X8_12 dX8_wantingBy_32 ?_
      refine gf_4_3 C hI h0.2.1 fl_X8_52 dX8_wantingBy_35 ?_
      refine lv_icmp_ne (tgt := 43) hx hb dX8_wantingBy_38 rfl (fun hc => ?_) (fun hc => ?_)
      · replace hf := ie hf hc
        refine lv_aload_n hx hb dX8_wantingBy_43 rfl (lv_at hl 1 rfl) ?_
        refine gf_8_0 C hI h0.1 fl_X8_12 dX8_wantingBy_44 ?_
        refine lv_iload_n hx hb dX8_wantingBy_47 rfl (lv_at hl 0 rfl) ?_
        obtain ⟨q11, e12, hf⟩ := ob hf
        refine mcV (As := [.int q9]) (rest := []) C hI (c_X4_stateOf l E h0.2 e12) ml_X8_55 kv_X4_stateOf (m_recv C hI h0.2.1 (ce_400 E _ _ _) rfl) rfl rfl ⟨Nat.le_of_ble_eq_true rfl, Nat.le_of_ble_eq_true rfl⟩ ⟨Nat.zero_le _, Nat.zero_le _⟩ rfl rfl hl.1 (Nat.le_of_ble_eq_true rfl) dX8_wantingBy_48 (st1 := [.int q11]) rfl (fun H locs hI => ?_)
        refine lv_iconst (v := (3 : Int32)) hx hb dX8_wantingBy_51 kc_3 ?_
        refine lv_icmp_ne (tgt := 57) hx hb dX8_wantingBy_52 rfl (fun hc => ?_) (fun hc => ?_)
        · replace hf := ie hf hc
          refine lv_aload_n hx hb dX8_wantingBy_57 rfl (lv_at hl 1 rfl) ?_
          refine gf_8_0 C hI h0.1 fl_X8_12 dX8_wantingBy_58 ?_
          refine gf_4_3 C hI h0.2.1 fl_X8_52 dX8_wantingBy_61 ?_
          refine lv_if_ge (tgt := 69) hx hb dX8_wantingBy_64 rfl (fun hc => ?_) (fun hc => ?_)
          · replace hf := it hf hc
            refine lv_aload_n hx hb dX8_wantingBy_69 rfl (lv_at hl 3 rfl) ?_
            refine lv_aload_n hx hb dX8_wantingBy_70 rfl (lv_at hl 1 rfl) ?_
            refine gf_8_0 C hI h0.1 fl_X8_12 dX8_wantingBy_71 ?_
            refine gf_4_3 C hI h0.2.1 fl_X8_52 dX8_wantingBy_74 ?_
            obtain ⟨q13, e14, hf⟩ := ob hf
            refine mcV (As := [.int (μ.1 400 21 3)]) (rest := []) C hI (c_X7_rankOf l E h2 e14) ml_X8_61 kv_X7_rankOf (m_recv C hI h2.1 (ce_700 E _ _ _) rfl) rfl rfl ⟨Nat.le_of_ble_eq_true rfl, Nat.le_of_ble_eq_true rfl⟩ ⟨Nat.zero_le _, Nat.zero_le _⟩ rfl rfl hl.1 (Nat.le_of_ble_eq_true rfl) dX8_wantingBy_77 (st1 := [.int q13]) rfl (fun H locs hI => ?_)
            refine lv_aload_n hx hb dX8_wantingBy_80 rfl (lv_at hl 3 rfl) ?_
            refine lv_iload_n hx hb dX8_wantingBy_81 rfl (lv_at hl 2 rfl) ?_
            obtain ⟨q15, e16, hf⟩ := ob hf
            refine mcV (As := [.int p1]) (rest := [.int q13]) C hI (c_X7_rankOf l E h2 e16) ml_X8_61 kv_X7_rankOf (m_recv C hI h2.1 (ce_700 E _ _ _) rfl) rfl rfl ⟨Nat.le_of_ble_eq_true rfl, Nat.le_of_ble_eq_true rfl⟩ ⟨Nat.zero_le _, Nat.zero_le _⟩ rfl rfl hl.1 (Nat.le_of_ble_eq_true rfl) dX8_wantingBy_82 (st1 := [.int q15, .int q13]) rfl (fun H locs hI => ?_)
            refine lv_icmp_lt (tgt := 92) hx hb dX8_wantingBy_85 rfl (fun hc => ?_) (fun hc => ?_)
            · replace hf := it hf hc
              refine lv_iconst (v := (4 : Int32)) hx hb dX8_wantingBy_92 kc_4 ?_
              obtain rfl := Option.some.inj hf
              exact m_iret C hr hlk hI dX8_wantingBy_93
            · replace hf := ie hf hc
              refine lv_iconst (v := (3 : Int32)) hx hb dX8_wantingBy_88 kc_3 ?_
              refine lv_goto (tgt := 93) hx hb dX8_wantingBy_89 rfl ?_
              obtain rfl := Option.some.inj hf
              exact m_iret C hr hlk hI dX8_wantingBy_93
          · replace hf := ie hf hc
            refine lv_iconst (v := (5 : Int32)) hx hb dX8_wantingBy_67 kc_5 ?_
            obtain rfl := Option.some.inj hf
            exact m_iret C hr hlk hI dX8_wantingBy_68
        · replace hf := it hf hc
          refine lv_iconst (v := (2 : Int32)) hx hb dX8_wantingBy_55 kc_2 ?_
          obtain rfl := Option.some.inj hf
          exact m_iret C hr hlk hI dX8_wantingBy_56
      · replace hf := it hf hc
        refine lv_iconst (v := (1 : Int32)) hx hb dX8_wantingBy_41 kc_1 ?_
        obtain rfl := Option.some.inj hf
        exact m_iret C hr hlk hI dX8_wantingBy_42
    · replace hf := it hf hc
      refine lv_bipush (v := (6 : Int32)) hx hb dX8_wantingBy_27 kb_6 ?_
      obtain rfl := Option.some.inj hf
      exact m_iret C hr hlk hI dX8_wantingBy_29
  · replace hf := ie hf hc
    refine lv_iconst (v := (0 : Int32)) hx hb dX8_wantingBy_10 kc_0 ?_
    obtain rfl := Option.some.inj hf
    exact m_iret C hr hlk hI dX8_wantingBy_11

theorem dX8_wastes_0 : decode cX8_wastes 0 = .ok (.aload_n 0, 1) := by decide +kernel
theorem dX8_wastes_1 : decode cX8_wastes 1 = .ok (.getfield 18, 3) := by decide +kernel
theorem dX8_wastes_4 : decode cX8_wastes 4 = .ok (.ifCond .le 10, 3) := by decide +kernel
theorem dX8_wastes_7 : decode cX8_wastes 7 = .ok (.aload_n 0, 1) := by decide +kernel
theorem dX8_wastes_8 : decode cX8_wastes 8 = .ok (.invokevirtual 75, 3) := by decide +kernel
theorem dX8_wastes_11 : decode cX8_wastes 11 = .ok (.ifCond .eq 5, 3) := by decide +kernel
theorem dX8_wastes_14 : decode cX8_wastes 14 = .ok (.iconst 0, 1) := by decide +kernel
theorem dX8_wastes_15 : decode cX8_wastes 15 = .ok (.ireturn, 1) := by decide +kernel
theorem dX8_wastes_16 : decode cX8_wastes 16 = .ok (.iconst 0, 1) := by decide +kernel
theorem dX8_wastes_17 : decode cX8_wastes 17 = .ok (.istore_n 1, 1) := by decide +kernel
theorem dX8_wastes_18 : decode cX8_wastes 18 = .ok (.iload_n 1, 1) := by decide +kernel
theorem dX8_wastes_19 : decode cX8_wastes 19 = .ok (.bipush 8, 2) := by decide +kernel
theorem dX8_wastes_21 : decode cX8_wastes 21 = .ok (.if_icmp .ge 20, 3) := by decide +kernel
theorem dX8_wastes_24 : decode cX8_wastes 24 = .ok (.aload_n 0, 1) := by decide +kernel
theorem dX8_wastes_25 : decode cX8_wastes 25 = .ok (.iload_n 1, 1) := by decide +kernel
theorem dX8_wastes_26 : decode cX8_wastes 26 = .ok (.invokevirtual 79, 3) := by decide +kernel
theorem dX8_wastes_29 : decode cX8_wastes 29 = .ok (.iconst 1, 1) := by decide +kernel
theorem dX8_wastes_30 : decode cX8_wastes 30 = .ok (.if_icmp .ne 5, 3) := by decide +kernel
theorem dX8_wastes_33 : decode cX8_wastes 33 = .ok (.iconst 1, 1) := by decide +kernel
theorem dX8_wastes_34 : decode cX8_wastes 34 = .ok (.ireturn, 1) := by decide +kernel
theorem dX8_wastes_35 : decode cX8_wastes 35 = .ok (.iinc 1 1, 3) := by decide +kernel
theorem dX8_wastes_38 : decode cX8_wastes 38 = .ok (.goto (-20), 3) := by decide +kernel
theorem dX8_wastes_41 : decode cX8_wastes 41 = .ok (.iconst 0, 1) := by decide +kernel
theorem dX8_wastes_42 : decode cX8_wastes 42 = .ok (.ireturn, 1) := by decide +kernel
def f_X8_wastes_b18 (F : Nat) (μ : Mm) : Nat → Int32 → Option Int32
 | 0, _ => none
 | N + 1, a1 =>
 if (8 : Int32) ≤ a1 then
 some (0 : Int32)
 else
 (f_X8_countsAs μ a1).bind fun q5 =>
 if q5 = (1 : Int32) then
 some (1 : Int32)
 else
 f_X8_wastes_b18 F μ N (a1 + (1 : Int32))
set_option maxHeartbeats 4000000 in
set_option maxRecDepth 100000 in
theorem cb_X8_wastes_18 {l : Launch} {E : En} {p : Program} {e : Env} {s : State} {m : MethodId} {av : Array Value} {below : List Frame} {meth : Method} {c : Code} (C : Cx E p s m av c cX8_wastes 2 yX8_wastes.cls) (hr : meth.sig.returnType = (some .boolean)) (hlk : meth.locks = false) {F : Nat} {μ : Mm} {z : Int32} : ∀ (N : Nat) (a1 : Int32) (h_a0 : l8 E 0), f_X8_wastes_b18 F μ N a1 = some z → ∀ {H : Heap} {locs : List Loc} {ls : Array Slot}, Iv E s μ H locs → lv_has ls 2 [(0, .ref (ad E 800 0)), (1, .int a1)] → W p l e { frames := 2, cells := 0, slots := 0, locals := 43 } s m av below meth c H locs 0 0 (MQ below (Qm E (some (.int z)) μ) av s 0 0 (Ad E)) (F0 m 18 ls []) := by
  have hx := C.1.1
  have hb := C.1.2.1
  intro N
  induction N with
  | zero => intro a1 h_a0 hf; cases hf
  | succ N ih =>
    intro a1 h_a0 hf H locs ls hI hl
    rw [f_X8_wastes_b18] at hf
    refine lv_iload_n hx hb dX8_wastes_18 rfl (lv_at hl 1 rfl) ?_
    refine lv_bipush (v := (8 : Int32)) hx hb dX8_wastes_19 kb_8 ?_
    refine lv_icmp_ge (tgt := 41) hx hb dX8_wastes_21 rfl (fun hc => ?_) (fun hc => ?_)
    · replace hf := it hf hc
      refine lv_iconst (v := (0 : Int32)) hx hb dX8_wastes_41 kc_0 ?_
      obtain rfl := Option.some.inj hf
      exact m_zret C hr hlk hI (by decide) dX8_wastes_42
    · replace hf := ie hf hc
      refine lv_aload_n hx hb dX8_wastes_24 rfl (lv_at hl 0 rfl) ?_
      refine lv_iload_n hx hb dX8_wastes_25 rfl (lv_at hl 1 rfl) ?_
      obtain ⟨q5, e6, hf⟩ := ob hf
      refine mcV (As := [.int a1]) (rest := []) C hI (c_X8_countsAs l E h_a0 e6) ml_X8_79 kv_X8_countsAs (m_recv C hI h_a0.1 (ce_800 E _ _ _) rfl) rfl rfl ⟨Nat.le_of_ble_eq_true rfl, Nat.le_of_ble_eq_true rfl⟩ ⟨Nat.zero_le _, Nat.zero_le _⟩ rfl rfl hl.1 (Nat.le_of_ble_eq_true rfl) dX8_wastes_26 (st1 := [.int q5]) rfl (fun H locs hI => ?_)
      refine lv_iconst (v := (1 : Int32)) hx hb dX8_wastes_29 kc_1 ?_
      refine lv_icmp_ne (tgt := 35) hx hb dX8_wastes_30 rfl (fun hc => ?_) (fun hc => ?_)
      · replace hf := ie hf hc
        refine lv_iinc (v := a1 + (1 : Int32)) hx hb dX8_wastes_35 hl (k := 1) rfl (ki_1 _) (by decide) rfl (fun ls hl => ?_)
        have hl : lv_has ls 2 [(1, .int (a1 + (1 : Int32))), (0, .ref (ad E 800 0))] := hl
        refine lv_goto (tgt := 18) hx hb dX8_wastes_38 rfl ?_
        exact ih _ h_a0 hf hI (lv_sub hl [1, 0] rfl)
      · replace hf := it hf hc
        refine lv_iconst (v := (1 : Int32)) hx hb dX8_wastes_33 kc_1 ?_
        obtain rfl := Option.some.inj hf
        exact m_zret C hr hlk hI (by decide) dX8_wastes_34
def f_X8_wastes (F : Nat) (μ : Mm) : Option Int32 :=
 if (μ.1 800 0 1) ≤ 0 then
 some (0 : Int32)
 else
 (f_X8_doing μ).bind fun q7 =>
 if q7 = 0 then
 f_X8_wastes_b18 F μ F (0 : Int32)
 else
 some (0 : Int32)
set_option maxHeartbeats 4000000 in
set_option maxRecDepth 100000 in
theorem c_X8_wastes (l : Launch) (E : En) {F : Nat} {μ : Mm} (h0 : l8 E 0) {z : Int32} (hf : f_X8_wastes F μ = some z) : Met l yX8_wastes (wt yX8_wastes cX8_wastes 2 (some .boolean)) { frames := 2, cells := 0, slots := 0, locals := 43 } (Pm E [.ref (ad E 800 0)] μ) (Qm E (some (.int z)) μ) 0 0 (Ad E) := by
  unfold f_X8_wastes at hf
  refine met_of (cc := cX8_wastes) (nL := 2) (ret := (some .boolean)) (by decide) _ (Nat.le_of_ble_eq_true rfl) ?_
  intro p e s m below meth c C hr hlk hI ls hl
  have hx := C.1.1
  have hb := C.1.2.1
  have hl : lv_has ls 2 [(0, .ref (ad E 800 0))] := hl
  refine lv_aload_n hx hb dX8_wastes_0 rfl (lv_at hl 0 rfl) ?_
  refine gf_8_1 C hI h0.1 fl_X8_18 dX8_wastes_1 ?_
  refine lv_if_le (tgt := 14) hx hb dX8_wastes_4 rfl (fun hc => ?_) (fun hc => ?_)
  · replace hf := it hf hc
    refine lv_iconst (v := (0 : Int32)) hx hb dX8_wastes_14 kc_0 ?_
    obtain rfl := Option.some.inj hf
    exact m_zret C hr hlk hI (by decide) dX8_wastes_15
  · replace hf := ie hf hc
    refine lv_aload_n hx hb dX8_wastes_7 rfl (lv_at hl 0 rfl) ?_
    obtain ⟨q7, e8, hf⟩ := ob hf
    refine mcV (As := []) (rest := []) C hI (c_X8_doing l E h0 e8) ml_X8_75 kv_X8_doing (m_recv C hI h0.1 (ce_800 E _ _ _) rfl) rfl rfl ⟨Nat.le_of_ble_eq_true rfl, Nat.le_of_ble_eq_true rfl⟩ ⟨Nat.zero_le _, Nat.zero_le _⟩ rfl rfl hl.1 (Nat.le_of_ble_eq_true rfl) dX8_wastes_8 (st1 := [.int q7]) rfl (fun H locs hI => ?_)
    refine lv_if_eq (tgt := 16) hx hb dX8_wastes_11 rfl (fun hc => ?_) (fun hc => ?_)
    · replace hf := it hf hc
      refine lv_iconst (v := (0 : Int32)) hx hb dX8_wastes_16 kc_0 ?_
      refine lv_istore_n hx hb dX8_wastes_17 rfl hl (by decide) rfl (fun ls hl => ?_)
      have hl : lv_has ls 2 [(1, .int (0 : Int32)), (0, .ref (ad E 800 0))] := hl
      exact cb_X8_wastes_18 C hr hlk  _ _ h0 hf hI (lv_sub hl [1, 0] rfl)
    · replace hf := ie hf hc
      refine lv_iconst (v := (0 : Int32)) hx hb dX8_wastes_14 kc_0 ?_
      obtain rfl := Option.some.inj hf
      exact m_zret C hr hlk hI (by decide) dX8_wastes_15

theorem dX8_step_0 : decode cX8_step 0 = .ok (.aload_n 0, 1) := by decide +kernel
theorem dX8_step_1 : decode cX8_step 1 = .ok (.getfield 12, 3) := by decide +kernel
theorem dX8_step_4 : decode cX8_step 4 = .ok (.aload_n 1, 1) := by decide +kernel
theorem dX8_step_5 : decode cX8_step 5 = .ok (.iload_n 2, 1) := by decide +kernel
theorem dX8_step_6 : decode cX8_step 6 = .ok (.invokevirtual 29, 3) := by decide +kernel
theorem dX8_step_9 : decode cX8_step 9 = .ok (.aload_n 1, 1) := by decide +kernel
theorem dX8_step_10 : decode cX8_step 10 = .ok (.iload_n 2, 1) := by decide +kernel
theorem dX8_step_11 : decode cX8_step 11 = .ok (.invokevirtual 35, 3) := by decide +kernel
theorem dX8_step_14 : decode cX8_step 14 = .ok (.aload_n 1, 1) := by decide +kernel
theorem dX8_step_15 : decode cX8_step 15 = .ok (.iload_n 2, 1) := by decide +kernel
theorem dX8_step_16 : decode cX8_step 16 = .ok (.invokevirtual 38, 3) := by decide +kernel
theorem dX8_step_19 : decode cX8_step 19 = .ok (.invokevirtual 41, 3) := by decide +kernel
theorem dX8_step_22 : decode cX8_step 22 = .ok (.aload_n 0, 1) := by decide +kernel
theorem dX8_step_23 : decode cX8_step 23 = .ok (.aload_n 1, 1) := by decide +kernel
theorem dX8_step_24 : decode cX8_step 24 = .ok (.iload_n 2, 1) := by decide +kernel
theorem dX8_step_25 : decode cX8_step 25 = .ok (.iconst 1, 1) := by decide +kernel
theorem dX8_step_26 : decode cX8_step 26 = .ok (.iadd, 1) := by decide +kernel
theorem dX8_step_27 : decode cX8_step 27 = .ok (.invokevirtual 45, 3) := by decide +kernel
theorem dX8_step_30 : decode cX8_step 30 = .ok (.ifCond .eq 19, 3) := by decide +kernel
theorem dX8_step_33 : decode cX8_step 33 = .ok (.aload_n 1, 1) := by decide +kernel
theorem dX8_step_34 : decode cX8_step 34 = .ok (.iload_n 2, 1) := by decide +kernel
theorem dX8_step_35 : decode cX8_step 35 = .ok (.iconst 1, 1) := by decide +kernel
theorem dX8_step_36 : decode cX8_step 36 = .ok (.iadd, 1) := by decide +kernel
theorem dX8_step_37 : decode cX8_step 37 = .ok (.invokevirtual 49, 3) := by decide +kernel
theorem dX8_step_40 : decode cX8_step 40 = .ok (.aload_n 1, 1) := by decide +kernel
theorem dX8_step_41 : decode cX8_step 41 = .ok (.iload_n 2, 1) := by decide +kernel
theorem dX8_step_42 : decode cX8_step 42 = .ok (.invokevirtual 49, 3) := by decide +kernel
theorem dX8_step_45 : decode cX8_step 45 = .ok (.isub, 1) := by decide +kernel
theorem dX8_step_46 : decode cX8_step 46 = .ok (.goto 4, 3) := by decide +kernel
theorem dX8_step_49 : decode cX8_step 49 = .ok (.iconst 0, 1) := by decide +kernel
theorem dX8_step_50 : decode cX8_step 50 = .ok (.putfield 18, 3) := by decide +kernel
theorem dX8_step_53 : decode cX8_step 53 = .ok (.aload_n 0, 1) := by decide +kernel
theorem dX8_step_54 : decode cX8_step 54 = .ok (.aload_n 1, 1) := by decide +kernel
theorem dX8_step_55 : decode cX8_step 55 = .ok (.iload_n 2, 1) := by decide +kernel
theorem dX8_step_56 : decode cX8_step 56 = .ok (.iconst 1, 1) := by decide +kernel
theorem dX8_step_57 : decode cX8_step 57 = .ok (.iadd, 1) := by decide +kernel
theorem dX8_step_58 : decode cX8_step 58 = .ok (.invokevirtual 29, 3) := by decide +kernel
theorem dX8_step_61 : decode cX8_step 61 = .ok (.bipush 8, 2) := by decide +kernel
theorem dX8_step_63 : decode cX8_step 63 = .ok (.if_icmp .eq 15, 3) := by decide +kernel
theorem dX8_step_66 : decode cX8_step 66 = .ok (.aload_n 0, 1) := by decide +kernel
theorem dX8_step_67 : decode cX8_step 67 = .ok (.getfield 12, 3) := by decide +kernel
theorem dX8_step_70 : decode cX8_step 70 = .ok (.getfield 52, 3) := by decide +kernel
theorem dX8_step_73 : decode cX8_step 73 = .ok (.bipush (-3), 2) := by decide +kernel
theorem dX8_step_75 : decode cX8_step 75 = .ok (.if_icmp .ne 7, 3) := by decide +kernel
theorem dX8_step_78 : decode cX8_step 78 = .ok (.iconst 1, 1) := by decide +kernel
theorem dX8_step_79 : decode cX8_step 79 = .ok (.goto 4, 3) := by decide +kernel
theorem dX8_step_82 : decode cX8_step 82 = .ok (.iconst 0, 1) := by decide +kernel
theorem dX8_step_83 : decode cX8_step 83 = .ok (.putfield 22, 3) := by decide +kernel
theorem dX8_step_86 : decode cX8_step 86 = .ok (.return_, 1) := by decide +kernel
def f_X8_step_b50 (μ : Mm) (a1 : Nat) (a2 : Int32) (s0 : Int32) : Option Mm :=
 (wf μ 800 0 1 s0).bind fun m21 =>
 (f_X2_kindOf m21 a1 (a2 + (1 : Int32))).bind fun q23 =>
 if q23 = (8 : Int32) then
 (wf m21 800 0 2 (1 : Int32)).bind fun m25 =>
 some m25
 else
 if (m21.1 400 21 3) = (-3 : Int32) then
 (wf m21 800 0 2 (1 : Int32)).bind fun m29 =>
 some m29
 else
 (wf m21 800 0 2 (0 : Int32)).bind fun m27 =>
 some m27
set_option maxHeartbeats 4000000 in
set_option maxRecDepth 100000 in
theorem cb_X8_step_50 {l : Launch} {E : En} {p : Program} {e : Env} {s : State} {m : MethodId} {av : Array Value} {below : List Frame} {meth : Method} {c : Code} (C : Cx E p s m av c cX8_step 3 yX8_step.cls) (hr : meth.sig.returnType = (none : Option FieldType)) (hlk : meth.locks = false) {z : Mm} : ∀ (μ : Mm) (a1 : Nat) (a2 : Int32) (s0 : Int32) (h_a0 : l8 E 0) (h_a1 : l2 E a1) (h_s1 : l8 E 0), f_X8_step_b50 μ a1 a2 s0 = some z → ∀ {H : Heap} {locs : List Loc} {ls : Array Slot}, Iv E s μ H locs → lv_has ls 3 [(0, .ref (ad E 800 0)), (1, .ref (ad E 200 a1)), (2, .int a2)] → W p l e { frames := 3, cells := 0, slots := 0, locals := 67 } s m av below meth c H locs 0 0 (MQ below (Qm E none z) av s 0 0 (Ad E)) (F0 m 50 ls [.int s0, .ref (ad E 800 0)]) := by
  have hx := C.1.1
  have hb := C.1.2.1
  intro μ a1 a2 s0 h_a0 h_a1 h_s1 hf H locs ls hI hl
  unfold f_X8_step_b50 at hf
  obtain ⟨m21, e22, hf⟩ := ob hf
  refine pf_8_1 C hI h_s1.1 fl_X8_18 e22 dX8_step_50 (fun H locs hI => ?_)
  refine lv_aload_n hx hb dX8_step_53 rfl (lv_at hl 0 rfl) ?_
  refine lv_aload_n hx hb dX8_step_54 rfl (lv_at hl 1 rfl) ?_
  refine lv_iload_n hx hb dX8_step_55 rfl (lv_at hl 2 rfl) ?_
  refine lv_iconst (v := (1 : Int32)) hx hb dX8_step_56 kc_1 ?_
  refine lv_iadd hx hb dX8_step_57 ?_
  obtain ⟨q23, e24, hf⟩ := ob hf
  refine mcV (As := [.int (a2 + (1 : Int32))]) (rest := [.ref (ad E 800 0)]) C hI (c_X2_kindOf l E h_a1 e24) ml_X8_29 kv_X2_kindOf (m_recv C hI h_a1.1 (ce_200 E _ _ _) rfl) rfl rfl ⟨Nat.le_of_ble_eq_true rfl, Nat.le_of_ble_eq_true rfl⟩ ⟨Nat.zero_le _, Nat.zero_le _⟩ rfl rfl hl.1 (Nat.le_of_ble_eq_true rfl) dX8_step_58 (st1 := [.int q23, .ref (ad E 800 0)]) rfl (fun H locs hI => ?_)
  refine lv_bipush (v := (8 : Int32)) hx hb dX8_step_61 kb_8 ?_
  refine lv_icmp_eq (tgt := 78) hx hb dX8_step_63 rfl (fun hc => ?_) (fun hc => ?_)
  · replace hf := it hf hc
    refine lv_iconst (v := (1 : Int32)) hx hb dX8_step_78 kc_1 ?_
    refine lv_goto (tgt := 83) hx hb dX8_step_79 rfl ?_
    obtain ⟨m25, e26, hf⟩ := ob hf
    refine pf_8_2 C hI h_a0.1 (by decide) (by decide) fl_X8_22 e26 dX8_step_83 (fun H locs hI => ?_)
    obtain rfl := Option.some.inj hf
    exact m_vret C hr hlk hI dX8_step_86
  · replace hf := ie hf hc
    refine lv_aload_n hx hb dX8_step_66 rfl (lv_at hl 0 rfl) ?_
    refine gf_8_0 C hI h_a0.1 fl_X8_12 dX8_step_67 ?_
    refine gf_4_3 C hI h_a0.2.1 fl_X8_52 dX8_step_70 ?_
    refine lv_bipush (v := (-3 : Int32)) hx hb dX8_step_73 kb_m3 ?_
    refine lv_icmp_ne (tgt := 82) hx hb dX8_step_75 rfl (fun hc => ?_) (fun hc => ?_)
    · replace hf := ie hf hc
      refine lv_iconst (v := (0 : Int32)) hx hb dX8_step_82 kc_0 ?_
      obtain ⟨m27, e28, hf⟩ := ob hf
      refine pf_8_2 C hI h_a0.1 (by decide) (by decide) fl_X8_22 e28 dX8_step_83 (fun H locs hI => ?_)
      obtain rfl := Option.some.inj hf
      exact m_vret C hr hlk hI dX8_step_86
    · replace hf := it hf hc
      refine lv_iconst (v := (1 : Int32)) hx hb dX8_step_78 kc_1 ?_
      refine lv_goto (tgt := 83) hx hb dX8_step_79 rfl ?_
      obtain ⟨m29, e30, hf⟩ := ob hf
      refine pf_8_2 C hI h_a0.1 (by decide) (by decide) fl_X8_22 e30 dX8_step_83 (fun H locs hI => ?_)
      obtain rfl := Option.some.inj hf
      exact m_vret C hr hlk hI dX8_step_86
def f_X8_step (μ : Mm) (n1 : Nat) (p2 : Int32) : Option Mm :=
 (f_X2_kindOf μ n1 p2).bind fun q31 =>
 (f_X2_taskOf μ n1 p2).bind fun q33 =>
 (f_X2_numberOf μ n1 p2).bind fun q35 =>
 (f_X4_apply μ 21 q31 q33 q35).bind fun q37 =>
 (f_X2_has q37 n1 (p2 + (1 : Int32))).bind fun q39 =>
 if q39 = 0 then
 f_X8_step_b50 q37 n1 p2 (0 : Int32)
 else
 (f_X2_timeOf q37 n1 (p2 + (1 : Int32))).bind fun q41 =>
 (f_X2_timeOf q37 n1 p2).bind fun q43 =>
 f_X8_step_b50 q37 n1 p2 (q41 - q43)
set_option maxHeartbeats 4000000 in
set_option maxRecDepth 100000 in
theorem c_X8_step (l : Launch) (E : En) {μ : Mm} {n1 : Nat} {p2 : Int32} (h0 : l8 E 0) (h1 : l2 E n1) {z : Mm} (hf : f_X8_step μ n1 p2 = some z) : Met l yX8_step (wt yX8_step cX8_step 3 (none : Option FieldType)) { frames := 3, cells := 0, slots := 0, locals := 67 } (Pm E [.ref (ad E 800 0), .ref (ad E 200 n1), .int p2] μ) (Qm E none z) 0 0 (Ad E) := by
  unfold f_X8_step at hf
  refine met_of (cc := cX8_step) (nL := 3) (ret := (none : Option FieldType)) (by decide) _ (Nat.le_of_ble_eq_true rfl) ?_
  intro p e s m below meth c C hr hlk hI ls hl
  have hx := C.1.1
  have hb := C.1.2.1
  have hl : lv_has ls 3 [(0, .ref (ad E 800 0)), (1, .ref (ad E 200 n1)), (2, .int p2)] := hl
  refine lv_aload_n hx hb dX8_step_0 rfl (lv_at hl 0 rfl) ?_
  refine gf_8_0 C hI h0.1 fl_X8_12 dX8_step_1 ?_
  refine lv_aload_n hx hb dX8_step_4 rfl (lv_at hl 1 rfl) ?_
  refine lv_iload_n hx hb dX8_step_5 rfl (lv_at hl 2 rfl) ?_
  obtain ⟨q31, e32, hf⟩ := ob hf
  refine mcV (As := [.int p2]) (rest := [.ref (ad E 400 21)]) C hI (c_X2_kindOf l E h1 e32) ml_X8_29 kv_X2_kindOf (m_recv C hI h1.1 (ce_200 E _ _ _) rfl) rfl rfl ⟨Nat.le_of_ble_eq_true rfl, Nat.le_of_ble_eq_true rfl⟩ ⟨Nat.zero_le _, Nat.zero_le _⟩ rfl rfl hl.1 (Nat.le_of_ble_eq_true rfl) dX8_step_6 (st1 := [.int q31, .ref (ad E 400 21)]) rfl (fun H locs hI => ?_)
  refine lv_aload_n hx hb dX8_step_9 rfl (lv_at hl 1 rfl) ?_
  refine lv_iload_n hx hb dX8_step_10 rfl (lv_at hl 2 rfl) ?_
  obtain ⟨q33, e34, hf⟩ := ob hf
  refine mcV (As := [.int p2]) (rest := [.int q31, .ref (ad E 400 21)]) C hI (c_X2_taskOf l E h1 e34) ml_X8_35 kv_X2_taskOf (m_recv C hI h1.1 (ce_200 E _ _ _) rfl) rfl rfl ⟨Nat.le_of_ble_eq_true rfl, Nat.le_of_ble_eq_true rfl⟩ ⟨Nat.zero_le _, Nat.zero_le _⟩ rfl rfl hl.1 (Nat.le_of_ble_eq_true rfl) dX8_step_11 (st1 := [.int q33, .int q31, .ref (ad E 400 21)]) rfl (fun H locs hI => ?_)
  refine lv_aload_n hx hb dX8_step_14 rfl (lv_at hl 1 rfl) ?_
  refine lv_iload_n hx hb dX8_step_15 rfl (lv_at hl 2 rfl) ?_
  obtain ⟨q35, e36, hf⟩ := ob hf
  refine mcV (As := [.int p2]) (rest := [.int q33, .int q31, .ref (ad E 400 21)]) C hI (c_X2_numberOf l E h1 e36) ml_X8_38 kv_X2_numberOf (m_recv C hI h1.1 (ce_200 E _ _ _) rfl) rfl rfl ⟨Nat.le_of_ble_eq_true rfl, Nat.le_of_ble_eq_true rfl⟩ ⟨Nat.zero_le _, Nat.zero_le _⟩ rfl rfl hl.1 (Nat.le_of_ble_eq_true rfl) dX8_step_16 (st1 := [.int q35, .int q33, .int q31, .ref (ad E 400 21)]) rfl (fun H locs hI => ?_)
  obtain ⟨q37, e38, hf⟩ := ob hf
  refine mcV (As := [.int q31, .int q33, .int q35]) (rest := []) C hI (c_X4_apply l E h0.2 e38) ml_X8_41 kv_X4_apply (m_recv C hI h0.2.1 (ce_400 E _ _ _) rfl) rfl rfl ⟨Nat.le_of_ble_eq_true rfl, Nat.le_of_ble_eq_true rfl⟩ ⟨Nat.zero_le _, Nat.zero_le _⟩ rfl rfl hl.1 (Nat.le_of_ble_eq_true rfl) dX8_step_19 (st1 := []) rfl (fun H locs hI => ?_)
  refine lv_aload_n hx hb dX8_step_22 rfl (lv_at hl 0 rfl) ?_
  refine lv_aload_n hx hb dX8_step_23 rfl (lv_at hl 1 rfl) ?_
  refine lv_iload_n hx hb dX8_step_24 rfl (lv_at hl 2 rfl) ?_
  refine lv_iconst (v := (1 : Int32)) hx hb dX8_step_25 kc_1 ?_
  refine lv_iadd hx hb dX8_step_26 ?_
  obtain ⟨q39, e40, hf⟩ := ob hf
  refine mcV (As := [.int (p2 + (1 : Int32))]) (rest := [.ref (ad E 800 0)]) C hI (c_X2_has l E h1 e40) ml_X8_45 kv_X2_has (m_recv C hI h1.1 (ce_200 E _ _ _) rfl) rfl rfl ⟨Nat.le_of_ble_eq_true rfl, Nat.le_of_ble_eq_true rfl⟩ ⟨Nat.zero_le _, Nat.zero_le _⟩ rfl rfl hl.1 (Nat.le_of_ble_eq_true rfl) dX8_step_27 (st1 := [.int q39, .ref (ad E 800 0)]) rfl (fun H locs hI => ?_)
  refine lv_if_eq (tgt := 49) hx hb dX8_step_30 rfl (fun hc => ?_) (fun hc => ?_)
  · replace hf := it hf hc
    refine lv_iconst (v := (0 : Int32)) hx hb dX8_step_49 kc_0 ?_
    exact cb_X8_step_50 C hr hlk  _ _ _ _ h0 h1 h0 hf hI (lv_sub hl [0, 1, 2] rfl)
  · replace hf := ie hf hc
    refine lv_aload_n hx hb dX8_step_33 rfl (lv_at hl 1 rfl) ?_
    refine lv_iload_n hx hb dX8_step_34 rfl (lv_at hl 2 rfl) ?_
    refine lv_iconst (v := (1 : Int32)) hx hb dX8_step_35 kc_1 ?_
    refine lv_iadd hx hb dX8_step_36 ?_
    obtain ⟨q41, e42, hf⟩ := ob hf
    refine mcV (As := [.int (p2 + (1 : Int32))]) (rest := [.ref (ad E 800 0)]) C hI (c_X2_timeOf l E h1 e42) ml_X8_49 kv_X2_timeOf (m_recv C hI h1.1 (ce_200 E _ _ _) rfl) rfl rfl ⟨Nat.le_of_ble_eq_true rfl, Nat.le_of_ble_eq_true rfl⟩ ⟨Nat.zero_le _, Nat.zero_le _⟩ rfl rfl hl.1 (Nat.le_of_ble_eq_true rfl) dX8_step_37 (st1 := [.int q41, .ref (ad E 800 0)]) rfl (fun H locs hI => ?_)
    refine lv_aload_n hx hb dX8_step_40 rfl (lv_at hl 1 rfl) ?_
    refine lv_iload_n hx hb dX8_step_41 rfl (lv_at hl 2 rfl) ?_
    obtain ⟨q43, e44, hf⟩ := ob hf
    refine mcV (As := [.int p2]) (rest := [.int q41, .ref (ad E 800 0)]) C hI (c_X2_timeOf l E h1 e44) ml_X8_49 kv_X2_timeOf (m_recv C hI h1.1 (ce_200 E _ _ _) rfl) rfl rfl ⟨Nat.le_of_ble_eq_true rfl, Nat.le_of_ble_eq_true rfl⟩ ⟨Nat.zero_le _, Nat.zero_le _⟩ rfl rfl hl.1 (Nat.le_of_ble_eq_true rfl) dX8_step_42 (st1 := [.int q43, .int q41, .ref (ad E 800 0)]) rfl (fun H locs hI => ?_)
    refine lv_isub hx hb dX8_step_45 ?_
    refine lv_goto (tgt := 50) hx hb dX8_step_46 rfl ?_
    exact cb_X8_step_50 C hr hlk  _ _ _ _ h0 h1 h0 hf hI (lv_sub hl [0, 1, 2] rfl)

theorem dX8_readyBy_0 : decode cX8_readyBy 0 = .ok (.aload_n 0, 1) := by decide +kernel
theorem dX8_readyBy_1 : decode cX8_readyBy 1 = .ok (.getfield 12, 3) := by decide +kernel
theorem dX8_readyBy_4 : decode cX8_readyBy 4 = .ok (.getfield 58, 3) := by decide +kernel
theorem dX8_readyBy_7 : decode cX8_readyBy 7 = .ok (.ifCond .eq 5, 3) := by decide +kernel
theorem dX8_readyBy_10 : decode cX8_readyBy 10 = .ok (.iconst 0, 1) := by decide +kernel
theorem dX8_readyBy_11 : decode cX8_readyBy 11 = .ok (.ireturn, 1) := by decide +kernel
theorem dX8_readyBy_12 : decode cX8_readyBy 12 = .ok (.aload_n 0, 1) := by decide +kernel
theorem dX8_readyBy_13 : decode cX8_readyBy 13 = .ok (.getfield 12, 3) := by decide +kernel
theorem dX8_readyBy_16 : decode cX8_readyBy 16 = .ok (.getfield 52, 3) := by decide +kernel
theorem dX8_readyBy_19 : decode cX8_readyBy 19 = .ok (.ifCond .ge 5, 3) := by decide +kernel
theorem dX8_readyBy_22 : decode cX8_readyBy 22 = .ok (.iconst 4, 1) := by decide +kernel
theorem dX8_readyBy_23 : decode cX8_readyBy 23 = .ok (.ireturn, 1) := by decide +kernel
theorem dX8_readyBy_24 : decode cX8_readyBy 24 = .ok (.aload_n 2, 1) := by decide +kernel
theorem dX8_readyBy_25 : decode cX8_readyBy 25 = .ok (.aload_n 0, 1) := by decide +kernel
theorem dX8_readyBy_26 : decode cX8_readyBy 26 = .ok (.getfield 12, 3) := by decide +kernel
theorem dX8_readyBy_29 : decode cX8_readyBy 29 = .ok (.getfield 52, 3) := by decide +kernel
theorem dX8_readyBy_32 : decode cX8_readyBy 32 = .ok (.invokevirtual 61, 3) := by decide +kernel
theorem dX8_readyBy_35 : decode cX8_readyBy 35 = .ok (.aload_n 2, 1) := by decide +kernel
theorem dX8_readyBy_36 : decode cX8_readyBy 36 = .ok (.iload_n 1, 1) := by decide +kernel
theorem dX8_readyBy_37 : decode cX8_readyBy 37 = .ok (.invokevirtual 61, 3) := by decide +kernel
theorem dX8_readyBy_40 : decode cX8_readyBy 40 = .ok (.invokestatic 66, 3) := by decide +kernel
theorem dX8_readyBy_43 : decode cX8_readyBy 43 = .ok (.istore_n 3, 1) := by decide +kernel
theorem dX8_readyBy_44 : decode cX8_readyBy 44 = .ok (.iload_n 3, 1) := by decide +kernel
theorem dX8_readyBy_45 : decode cX8_readyBy 45 = .ok (.ifCond .ne 5, 3) := by decide +kernel
theorem dX8_readyBy_48 : decode cX8_readyBy 48 = .ok (.iconst 2, 1) := by decide +kernel
theorem dX8_readyBy_49 : decode cX8_readyBy 49 = .ok (.ireturn, 1) := by decide +kernel
theorem dX8_readyBy_50 : decode cX8_readyBy 50 = .ok (.iload_n 3, 1) := by decide +kernel
theorem dX8_readyBy_51 : decode cX8_readyBy 51 = .ok (.ifCond .le 7, 3) := by decide +kernel
theorem dX8_readyBy_54 : decode cX8_readyBy 54 = .ok (.iconst 1, 1) := by decide +kernel
theorem dX8_readyBy_55 : decode cX8_readyBy 55 = .ok (.goto 4, 3) := by decide +kernel
theorem dX8_readyBy_58 : decode cX8_readyBy 58 = .ok (.iconst 3, 1) := by decide +kernel
theorem dX8_readyBy_59 : decode cX8_readyBy 59 = .ok (.ireturn, 1) := by decide +kernel
def f_X8_readyBy (μ : Mm) (p1 : Int32) (n2 : Nat) : Option Int32 :=
 if (μ.1 400 21 4) = 0 then
 if 0 ≤ (μ.1 400 21 3) then
 (f_X7_rankOf μ n2 (μ.1 400 21 3)).bind fun q7 =>
 (f_X7_rankOf μ n2 p1).bind fun q9 =>
 (f_J6_compare_7cf53 μ q7 q9).bind fun q11 =>
 if q11 = 0 then
 some (2 : Int32)
 else
 if q11 ≤ 0 then
 some (3 : Int32)
 else
 some (1 : Int32)
 else
 some (4 : Int32)
 else
 some (0 : Int32)
set_option maxHeartbeats 4000000 in
set_option maxRecDepth 100000 in
theorem c_X8_readyBy (l : Launch) (E : En) {μ : Mm} {p1 : Int32} {n2 : Nat} (h0 : l8 E 0) (h2 : l7 E n2) {z : Int32} (hf : f_X8_readyBy μ p1 n2 = some z) : Met l yX8_readyBy (wt yX8_readyBy cX8_readyBy 4 (some .int)) { frames := 1, cells := 0, slots := 0, locals := 21 } (Pm E [.ref (ad E 800 0), .int p1, .ref (ad E 700 n2)] μ) (Qm E (some (.int z)) μ) 0 0 (Ad E) := by
  unfold f_X8_readyBy at hf
  refine met_of (cc := cX8_readyBy) (nL := 4) (ret := (some .int)) (by decide) _ (Nat.le_of_ble_eq_true rfl) ?_
  intro p e s m below meth c C hr hlk hI ls hl
  have hx := C.1.1
  have hb := C.1.2.1
  have hl : lv_has ls 4 [(0, .ref (ad E 800 0)), (1, .int p1), (2, .ref (ad E 700 n2))] := hl
  refine lv_aload_n hx hb dX8_readyBy_0 rfl (lv_at hl 0 rfl) ?_
  refine gf_8_0 C hI h0.1 fl_X8_12 dX8_readyBy_1 ?_
  refine gf_4_4 C hI h0.2.1 fl_X8_58 dX8_readyBy_4 ?_
  refine lv_if_eq (tgt := 12) hx hb dX8_readyBy_7 rfl (fun hc => ?_) (fun hc => ?_)
  · replace hf := it hf hc
    refine lv_aload_n hx hb dX8_readyBy_12 rfl (lv_at hl 0 rfl) ?_
    refine gf_8_0 C hI h0.1 fl_X8_12 dX8_readyBy_13 ?_
    refine gf_4_3 C hI h0.2.1 fl_X8_52 dX8_readyBy_16 ?_
    refine lv_if_ge (tgt := 24) hx hb dX8_readyBy_19 rfl (fun hc => ?_) (fun hc => ?_)
    · replace hf := it hf hc
      refine lv_aload_n hx hb dX8_readyBy_24 rfl (lv_at hl 2 rfl) ?_
      refine lv_aload_n hx hb dX8_readyBy_25 rfl (lv_at hl 0 rfl) ?_
      refine gf_8_0 C hI h0.1 fl_X8_12 dX8_readyBy_26 ?_
      refine gf_4_3 C hI h0.2.1 fl_X8_52 dX8_readyBy_29 ?_
      obtain ⟨q7, e8, hf⟩ := ob hf
      refine mcV (As := [.int (μ.1 400 21 3)]) (rest := []) C hI (c_X7_rankOf l E h2 e8) ml_X8_61 kv_X7_rankOf (m_recv C hI h2.1 (ce_700 E _ _ _) rfl) rfl rfl ⟨Nat.le_of_ble_eq_true rfl, Nat.le_of_ble_eq_true rfl⟩ ⟨Nat.zero_le _, Nat.zero_le _⟩ rfl rfl hl.1 (Nat.le_of_ble_eq_true rfl) dX8_readyBy_32 (st1 := [.int q7]) rfl (fun H locs hI => ?_)
      refine lv_aload_n hx hb dX8_readyBy_35 rfl (lv_at hl 2 rfl) ?_
      refine lv_iload_n hx hb dX8_readyBy_36 rfl (lv_at hl 1 rfl) ?_
      obtain ⟨q9, e10, hf⟩ := ob hf
      refine mcV (As := [.int p1]) (rest := [.int q7]) C hI (c_X7_rankOf l E h2 e10) ml_X8_61 kv_X7_rankOf (m_recv C hI h2.1 (ce_700 E _ _ _) rfl) rfl rfl ⟨Nat.le_of_ble_eq_true rfl, Nat.le_of_ble_eq_true rfl⟩ ⟨Nat.zero_le _, Nat.zero_le _⟩ rfl rfl hl.1 (Nat.le_of_ble_eq_true rfl) dX8_readyBy_37 (st1 := [.int q9, .int q7]) rfl (fun H locs hI => ?_)
      obtain ⟨q11, e12, hf⟩ := ob hf
      refine mcS (As := [.int q7, .int q9]) (rest := []) C hI (c_J6_compare_7cf53 l E  e12) ml_X8_66 ks_J6_compare_7cf53 rfl rfl ⟨Nat.le_of_ble_eq_true rfl, Nat.le_of_ble_eq_true rfl⟩ ⟨Nat.zero_le _, Nat.zero_le _⟩ rfl rfl hl.1 (Nat.le_of_ble_eq_true rfl) dX8_readyBy_40 (st1 := [.int q11]) rfl (fun H locs hI => ?_)
      refine lv_istore_n hx hb dX8_readyBy_43 rfl hl (by decide) rfl (fun ls hl => ?_)
      have hl : lv_has ls 4 [(3, .int q11), (0, .ref (ad E 800 0)), (1, .int p1), (2, .ref (ad E 700 n2))] := hl
      refine lv_iload_n hx hb dX8_readyBy_44 rfl (lv_at hl 0 rfl) ?_
      refine lv_if_ne (tgt := 50) hx hb dX8_readyBy_45 rfl (fun hc => ?_) (fun hc => ?_)
      · replace hf := ie hf hc
        refine lv_iload_n hx hb dX8_readyBy_50 rfl (lv_at hl 0 rfl) ?_
        refine lv_if_le (tgt := 58) hx hb dX8_readyBy_51 rfl (fun hc => ?_) (fun hc => ?_)
        · replace hf := it hf hc
          refine lv_iconst (v := (3 : Int32)) hx hb dX8_readyBy_58 kc_3 ?_
          obtain rfl := Option.some.inj hf
          exact m_iret C hr hlk hI dX8_readyBy_59
        · replace hf := ie hf hc
          refine lv_iconst (v := (1 : Int32)) hx hb dX8_readyBy_54 kc_1 ?_
          refine lv_goto (tgt := 59) hx hb dX8_readyBy_55 rfl ?_
          obtain rfl := Option.some.inj hf
          exact m_iret C hr hlk hI dX8_readyBy_59
      · replace hf := it hf hc
        refine lv_iconst (v := (2 : Int32)) hx hb dX8_readyBy_48 kc_2 ?_
        obtain rfl := Option.some.inj hf
        exact m_iret C hr hlk hI dX8_readyBy_49
    · replace hf := ie hf hc
      refine lv_iconst (v := (4 : Int32)) hx hb dX8_readyBy_22 kc_4 ?_
      obtain rfl := Option.some.inj hf
      exact m_iret C hr hlk hI dX8_readyBy_23
  · replace hf := ie hf hc
    refine lv_iconst (v := (0 : Int32)) hx hb dX8_readyBy_10 kc_0 ?_
    obtain rfl := Option.some.inj hf
    exact m_iret C hr hlk hI dX8_readyBy_11
