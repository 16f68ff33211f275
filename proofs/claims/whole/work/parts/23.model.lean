theorem dX10_toss_0 : decode cX10_toss 0 = .ok (.aload_n 0, 1) := by decide +kernel
theorem dX10_toss_1 : decode cX10_toss 1 = .ok (.iload_n 1, 1) := by decide +kernel
theorem dX10_toss_2 : decode cX10_toss 2 = .ok (.invokevirtual 339, 3) := by decide +kernel
theorem dX10_toss_5 : decode cX10_toss 5 = .ok (.istore_n 2, 1) := by decide +kernel
theorem dX10_toss_6 : decode cX10_toss 6 = .ok (.iload_n 2, 1) := by decide +kernel
theorem dX10_toss_7 : decode cX10_toss 7 = .ok (.ifCond .eq 5, 3) := by decide +kernel
theorem dX10_toss_10 : decode cX10_toss 10 = .ok (.iload_n 2, 1) := by decide +kernel
theorem dX10_toss_11 : decode cX10_toss 11 = .ok (.ireturn, 1) := by decide +kernel
theorem dX10_toss_12 : decode cX10_toss 12 = .ok (.aload_n 0, 1) := by decide +kernel
theorem dX10_toss_13 : decode cX10_toss 13 = .ok (.iload_n 1, 1) := by decide +kernel
theorem dX10_toss_14 : decode cX10_toss 14 = .ok (.invokevirtual 345, 3) := by decide +kernel
theorem dX10_toss_17 : decode cX10_toss 17 = .ok (.ifCond .ne 12, 3) := by decide +kernel
theorem dX10_toss_20 : decode cX10_toss 20 = .ok (.aload_n 0, 1) := by decide +kernel
theorem dX10_toss_21 : decode cX10_toss 21 = .ok (.bipush (-15), 2) := by decide +kernel
theorem dX10_toss_23 : decode cX10_toss 23 = .ok (.invokevirtual 333, 3) := by decide +kernel
theorem dX10_toss_26 : decode cX10_toss 26 = .ok (.goto 8, 3) := by decide +kernel
theorem dX10_toss_29 : decode cX10_toss 29 = .ok (.aload_n 0, 1) := by decide +kernel
theorem dX10_toss_30 : decode cX10_toss 30 = .ok (.iload_n 1, 1) := by decide +kernel
theorem dX10_toss_31 : decode cX10_toss 31 = .ok (.invokevirtual 345, 3) := by decide +kernel
theorem dX10_toss_34 : decode cX10_toss 34 = .ok (.ireturn, 1) := by decide +kernel
def f_X10_toss (μ : Mm) (p1 : Int32) : Option (Int32 × Mm) :=
 (f_X10_lacks μ p1).bind fun q9 =>
 if q9.1 = 0 then
 (f_X10_kept q9.2 p1).bind fun q11 =>
 if q11 = 0 then
 (f_X10_refuse q9.2 (-15 : Int32)).bind fun q15 =>
 some (q15.1, q15.2)
 else
 (f_X10_kept q9.2 p1).bind fun q13 =>
 some (q13, q9.2)
 else
 some (q9.1, q9.2)
set_option maxHeartbeats 4000000 in
set_option maxRecDepth 100000 in
theorem c_X10_toss (l : Launch) (E : En) {μ : Mm} {p1 : Int32} (h0 : l10 E 0) {z : Int32 × Mm} (hf : f_X10_toss μ p1 = some z) : Met l yX10_toss (wt yX10_toss cX10_toss 3 (some .int)) { frames := 3, cells := 0, slots := 0, locals := 63 } (Pm E [.ref (ad E 1000 0), .int p1] μ) (Qm E (some (.int z.1)) z.2) 0 0 (Ad E) := by
  unfold f_X10_toss at hf
  refine met_of (cc := cX10_toss) (nL := 3) (ret := (some .int)) (by decide) _ (Nat.le_of_ble_eq_true rfl) ?_
  intro p e s m below meth c C hr hlk hI ls hl
  have hx := C.1.1
  have hb := C.1.2.1
  have hl : lv_has ls 3 [(0, .ref (ad E 1000 0)), (1, .int p1)] := hl
  refine lv_aload_n hx hb dX10_toss_0 rfl (lv_at hl 0 rfl) ?_
  refine lv_iload_n hx hb dX10_toss_1 rfl (lv_at hl 1 rfl) ?_
  obtain ⟨q9, e10, hf⟩ := ob hf
  refine mcV (As := [.int p1]) (rest := []) C hI (c_X10_lacks l E h0 e10) ml_X10_339 kv_X10_lacks (m_recv C hI h0.1 (ce_1000 E _ _ _) rfl) rfl rfl ⟨Nat.le_of_ble_eq_true rfl, Nat.le_of_ble_eq_true rfl⟩ ⟨Nat.zero_le _, Nat.zero_le _⟩ rfl rfl hl.1 (Nat.le_of_ble_eq_true rfl) dX10_toss_2 (st1 := [.int q9.1]) rfl (fun H locs hI => ?_)
  refine lv_istore_n hx hb dX10_toss_5 rfl hl (by decide) rfl (fun ls hl => ?_)
  have hl : lv_has ls 3 [(2, .int q9.1), (0, .ref (ad E 1000 0)), (1, .int p1)] := hl
  refine lv_iload_n hx hb dX10_toss_6 rfl (lv_at hl 0 rfl) ?_
  refine lv_if_eq (tgt := 12) hx hb dX10_toss_7 rfl (fun hc => ?_) (fun hc => ?_)
  · replace hf := it hf hc
    refine lv_aload_n hx hb dX10_toss_12 rfl (lv_at hl 1 rfl) ?_
    refine lv_iload_n hx hb dX10_toss_13 rfl (lv_at hl 2 rfl) ?_
    obtain ⟨q11, e12, hf⟩ := ob hf
    refine mcV (As := [.int p1]) (rest := []) C hI (c_X10_kept l E h0 e12) ml_X10_345 kv_X10_kept (m_recv C hI h0.1 (ce_1000 E _ _ _) rfl) rfl rfl ⟨Nat.le_of_ble_eq_true rfl, Nat.le_of_ble_eq_true rfl⟩ ⟨Nat.zero_le _, Nat.zero_le _⟩ rfl rfl hl.1 (Nat.le_of_ble_eq_true rfl) dX10_toss_14 (st1 := [.int q11]) rfl (fun H locs hI => ?_)
    refine lv_if_ne (tgt := 29) hx hb dX10_toss_17 rfl (fun hc => ?_) (fun hc => ?_)
    · replace hf := ie hf hc
      refine lv_aload_n hx hb dX10_toss_29 rfl (lv_at hl 1 rfl) ?_
      refine lv_iload_n hx hb dX10_toss_30 rfl (lv_at hl 2 rfl) ?_
      obtain ⟨q13, e14, hf⟩ := ob hf
      refine mcV (As := [.int p1]) (rest := []) C hI (c_X10_kept l E h0 e14) ml_X10_345 kv_X10_kept (m_recv C hI h0.1 (ce_1000 E _ _ _) rfl) rfl rfl ⟨Nat.le_of_ble_eq_true rfl, Nat.le_of_ble_eq_true rfl⟩ ⟨Nat.zero_le _, Nat.zero_le _⟩ rfl rfl hl.1 (Nat.le_of_ble_eq_true rfl) dX10_toss_31 (st1 := [.int q13]) rfl (fun H locs hI => ?_)
      obtain rfl := Option.some.inj hf
      exact m_iret C hr hlk hI dX10_toss_34
    · replace hf := it hf hc
      refine lv_aload_n hx hb dX10_toss_20 rfl (lv_at hl 1 rfl) ?_
      refine lv_bipush (v := (-15 : Int32)) hx hb dX10_toss_21 kb_m15 ?_
      obtain ⟨q15, e16, hf⟩ := ob hf
      refine mcV (As := [.int (-15 : Int32)]) (rest := []) C hI (c_X10_refuse l E h0 e16) ml_X10_333 kv_X10_refuse (m_recv C hI h0.1 (ce_1000 E _ _ _) rfl) rfl rfl ⟨Nat.le_of_ble_eq_true rfl, Nat.le_of_ble_eq_true rfl⟩ ⟨Nat.zero_le _, Nat.zero_le _⟩ rfl rfl hl.1 (Nat.le_of_ble_eq_true rfl) dX10_toss_23 (st1 := [.int q15.1]) rfl (fun H locs hI => ?_)
      refine lv_goto (tgt := 34) hx hb dX10_toss_26 rfl ?_
      obtain rfl := Option.some.inj hf
      exact m_iret C hr hlk hI dX10_toss_34
  · replace hf := ie hf hc
    refine lv_iload_n hx hb dX10_toss_10 rfl (lv_at hl 0 rfl) ?_
    obtain rfl := Option.some.inj hf
    exact m_iret C hr hlk hI dX10_toss_11

theorem dX10_isIn_0 : decode cX10_isIn 0 = .ok (.iload_n 2, 1) := by decide +kernel
theorem dX10_isIn_1 : decode cX10_isIn 1 = .ok (.iconst 0, 1) := by decide +kernel
theorem dX10_isIn_2 : decode cX10_isIn 2 = .ok (.aload_n 0, 1) := by decide +kernel
theorem dX10_isIn_3 : decode cX10_isIn 3 = .ok (.getfield 60, 3) := by decide +kernel
theorem dX10_isIn_6 : decode cX10_isIn 6 = .ok (.iload_n 1, 1) := by decide +kernel
theorem dX10_isIn_7 : decode cX10_isIn 7 = .ok (.iaload, 1) := by decide +kernel
theorem dX10_isIn_8 : decode cX10_isIn 8 = .ok (.iconst 1, 1) := by decide +kernel
theorem dX10_isIn_9 : decode cX10_isIn 9 = .ok (.isub, 1) := by decide +kernel
theorem dX10_isIn_10 : decode cX10_isIn 10 = .ok (.invokestatic 136, 3) := by decide +kernel
theorem dX10_isIn_13 : decode cX10_isIn 13 = .ok (.ireturn, 1) := by decide +kernel
def f_X10_isIn (μ : Mm) (p1 : Int32) (p2 : Int32) : Option Int32 :=
 (ra μ 1021 0 6 p1).bind fun v5 =>
 (f_X10_in μ p2 (0 : Int32) (v5 - (1 : Int32))).bind fun q7 =>
 gz q7
set_option maxHeartbeats 4000000 in
set_option maxRecDepth 100000 in
theorem c_X10_isIn (l : Launch) (E : En) {μ : Mm} {p1 : Int32} {p2 : Int32} (h0 : l10 E 0) {z : Int32} (hf : f_X10_isIn μ p1 p2 = some z) : Met l yX10_isIn (wt yX10_isIn cX10_isIn 3 (some .boolean)) { frames := 1, cells := 0, slots := 0, locals := 22 } (Pm E [.ref (ad E 1000 0), .int p1, .int p2] μ) (Qm E (some (.int z)) μ) 0 0 (Ad E) := by
  unfold f_X10_isIn at hf
  refine met_of (cc := cX10_isIn) (nL := 3) (ret := (some .boolean)) (by decide) _ (Nat.le_of_ble_eq_true rfl) ?_
  intro p e s m below meth c C hr hlk hI ls hl
  have hx := C.1.1
  have hb := C.1.2.1
  have hl : lv_has ls 3 [(0, .ref (ad E 1000 0)), (1, .int p1), (2, .int p2)] := hl
  refine lv_iload_n hx hb dX10_isIn_0 rfl (lv_at hl 2 rfl) ?_
  refine lv_iconst (v := (0 : Int32)) hx hb dX10_isIn_1 kc_0 ?_
  refine lv_aload_n hx hb dX10_isIn_2 rfl (lv_at hl 0 rfl) ?_
  refine gf_10_20 C hI h0.1 fl_X10_60 dX10_isIn_3 ?_
  refine lv_iload_n hx hb dX10_isIn_6 rfl (lv_at hl 1 rfl) ?_
  obtain ⟨v5, e6, hf⟩ := ob hf
  refine m_iald C hI h0.2.2.2.2.2.2.2.2.2.2.2.2.2.2.1 (ce_1021 E _ _ _) e6 dX10_isIn_7 ?_
  refine lv_iconst (v := (1 : Int32)) hx hb dX10_isIn_8 kc_1 ?_
  refine lv_isub hx hb dX10_isIn_9 ?_
  obtain ⟨q7, e8, hf⟩ := ob hf
  refine mcS (As := [.int p2, .int (0 : Int32), .int (v5 - (1 : Int32))]) (rest := []) C hI (c_X10_in l E  e8) ml_X10_136 ks_X10_in rfl rfl ⟨Nat.le_of_ble_eq_true rfl, Nat.le_of_ble_eq_true rfl⟩ ⟨Nat.zero_le _, Nat.zero_le _⟩ rfl rfl hl.1 (Nat.le_of_ble_eq_true rfl) dX10_isIn_10 (st1 := [.int q7]) rfl (fun H locs hI => ?_)
  obtain ⟨rfl, hn, -⟩ := gz_ok hf
  exact m_zret C hr hlk hI hn dX10_isIn_13

theorem dX10_clear_0 : decode cX10_clear 0 = .ok (.iload_n 1, 1) := by decide +kernel
theorem dX10_clear_1 : decode cX10_clear 1 = .ok (.invokestatic 330, 3) := by decide +kernel
theorem dX10_clear_4 : decode cX10_clear 4 = .ok (.ifCond .ne 5, 3) := by decide +kernel
theorem dX10_clear_7 : decode cX10_clear 7 = .ok (.iconst (-1), 1) := by decide +kernel
theorem dX10_clear_8 : decode cX10_clear 8 = .ok (.ireturn, 1) := by decide +kernel
theorem dX10_clear_9 : decode cX10_clear 9 = .ok (.aload_n 0, 1) := by decide +kernel
theorem dX10_clear_10 : decode cX10_clear 10 = .ok (.getfield 57, 3) := by decide +kernel
theorem dX10_clear_13 : decode cX10_clear 13 = .ok (.iload_n 1, 1) := by decide +kernel
theorem dX10_clear_14 : decode cX10_clear 14 = .ok (.iaload, 1) := by decide +kernel
theorem dX10_clear_15 : decode cX10_clear 15 = .ok (.istore_n 2, 1) := by decide +kernel
theorem dX10_clear_16 : decode cX10_clear 16 = .ok (.aload_n 0, 1) := by decide +kernel
theorem dX10_clear_17 : decode cX10_clear 17 = .ok (.getfield 57, 3) := by decide +kernel
theorem dX10_clear_20 : decode cX10_clear 20 = .ok (.iload_n 1, 1) := by decide +kernel
theorem dX10_clear_21 : decode cX10_clear 21 = .ok (.iconst 0, 1) := by decide +kernel
theorem dX10_clear_22 : decode cX10_clear 22 = .ok (.iastore, 1) := by decide +kernel
theorem dX10_clear_23 : decode cX10_clear 23 = .ok (.iload_n 2, 1) := by decide +kernel
theorem dX10_clear_24 : decode cX10_clear 24 = .ok (.ireturn, 1) := by decide +kernel
def f_X10_clear (μ : Mm) (p1 : Int32) : Option (Int32 × Mm) :=
 (f_X10_isTape μ p1).bind fun q7 =>
 if q7 = 0 then
 some ((-1 : Int32), μ)
 else
 (ra μ 1020 0 6 p1).bind fun v9 =>
 (wa μ 1020 0 6 p1 (0 : Int32)).bind fun m11 =>
 some (v9, m11)
set_option maxHeartbeats 4000000 in
set_option maxRecDepth 100000 in
theorem c_X10_clear (l : Launch) (E : En) {μ : Mm} {p1 : Int32} (h0 : l10 E 0) {z : Int32 × Mm} (hf : f_X10_clear μ p1 = some z) : Met l yX10_clear (wt yX10_clear cX10_clear 3 (some .int)) { frames := 2, cells := 0, slots := 0, locals := 42 } (Pm E [.ref (ad E 1000 0), .int p1] μ) (Qm E (some (.int z.1)) z.2) 0 0 (Ad E) := by
  unfold f_X10_clear at hf
  refine met_of (cc := cX10_clear) (nL := 3) (ret := (some .int)) (by decide) _ (Nat.le_of_ble_eq_true rfl) ?_
  intro p e s m below meth c C hr hlk hI ls hl
  have hx := C.1.1
  have hb := C.1.2.1
  have hl : lv_has ls 3 [(0, .ref (ad E 1000 0)), (1, .int p1)] := hl
  refine lv_iload_n hx hb dX10_clear_0 rfl (lv_at hl 1 rfl) ?_
  obtain ⟨q7, e8, hf⟩ := ob hf
  refine mcS (As := [.int p1]) (rest := []) C hI (c_X10_isTape l E  e8) ml_X10_330 ks_X10_isTape rfl rfl ⟨Nat.le_of_ble_eq_true rfl, Nat.le_of_ble_eq_true rfl⟩ ⟨Nat.zero_le _, Nat.zero_le _⟩ rfl rfl hl.1 (Nat.le_of_ble_eq_true rfl) dX10_clear_1 (st1 := [.int q7]) rfl (fun H locs hI => ?_)
  refine lv_if_ne (tgt := 9) hx hb dX10_clear_4 rfl (fun hc => ?_) (fun hc => ?_)
  · replace hf := ie hf hc
    refine lv_aload_n hx hb dX10_clear_9 rfl (lv_at hl 0 rfl) ?_
    refine gf_10_19 C hI h0.1 fl_X10_57 dX10_clear_10 ?_
    refine lv_iload_n hx hb dX10_clear_13 rfl (lv_at hl 1 rfl) ?_
    obtain ⟨v9, e10, hf⟩ := ob hf
    refine m_iald C hI h0.2.2.2.2.2.2.2.2.2.2.2.2.2.1 (ce_1020 E _ _ _) e10 dX10_clear_14 ?_
    refine lv_istore_n hx hb dX10_clear_15 rfl hl (by decide) rfl (fun ls hl => ?_)
    have hl : lv_has ls 3 [(2, .int v9), (0, .ref (ad E 1000 0)), (1, .int p1)] := hl
    refine lv_aload_n hx hb dX10_clear_16 rfl (lv_at hl 1 rfl) ?_
    refine gf_10_19 C hI h0.1 fl_X10_57 dX10_clear_17 ?_
    refine lv_iload_n hx hb dX10_clear_20 rfl (lv_at hl 2 rfl) ?_
    refine lv_iconst (v := (0 : Int32)) hx hb dX10_clear_21 kc_0 ?_
    obtain ⟨m11, e12, hf⟩ := ob hf
    refine m_iast C hI h0.2.2.2.2.2.2.2.2.2.2.2.2.2.1 (ce_1020 E _) e12 dX10_clear_22 (fun H locs hI => ?_)
    refine lv_iload_n hx hb dX10_clear_23 rfl (lv_at hl 0 rfl) ?_
    obtain rfl := Option.some.inj hf
    exact m_iret C hr hlk hI dX10_clear_24
  · replace hf := it hf hc
    refine lv_iconst (v := (-1 : Int32)) hx hb dX10_clear_7 kc_m1 ?_
    obtain rfl := Option.some.inj hf
    exact m_iret C hr hlk hI dX10_clear_8

theorem dX10_narrowed_0 : decode cX10_narrowed 0 = .ok (.iload_n 0, 1) := by decide +kernel
theorem dX10_narrowed_1 : decode cX10_narrowed 1 = .ok (.iconst 1, 1) := by decide +kernel
theorem dX10_narrowed_2 : decode cX10_narrowed 2 = .ok (.if_icmp .ne 10, 3) := by decide +kernel
theorem dX10_narrowed_5 : decode cX10_narrowed 5 = .ok (.lload_n 1, 1) := by decide +kernel
theorem dX10_narrowed_6 : decode cX10_narrowed 6 = .ok (.l2i, 1) := by decide +kernel
theorem dX10_narrowed_7 : decode cX10_narrowed 7 = .ok (.i2b, 1) := by decide +kernel
theorem dX10_narrowed_8 : decode cX10_narrowed 8 = .ok (.i2l, 1) := by decide +kernel
theorem dX10_narrowed_9 : decode cX10_narrowed 9 = .ok (.goto 27, 3) := by decide +kernel
theorem dX10_narrowed_12 : decode cX10_narrowed 12 = .ok (.iload_n 0, 1) := by decide +kernel
theorem dX10_narrowed_13 : decode cX10_narrowed 13 = .ok (.iconst 2, 1) := by decide +kernel
theorem dX10_narrowed_14 : decode cX10_narrowed 14 = .ok (.if_icmp .ne 10, 3) := by decide +kernel
theorem dX10_narrowed_17 : decode cX10_narrowed 17 = .ok (.lload_n 1, 1) := by decide +kernel
theorem dX10_narrowed_18 : decode cX10_narrowed 18 = .ok (.l2i, 1) := by decide +kernel
theorem dX10_narrowed_19 : decode cX10_narrowed 19 = .ok (.i2s, 1) := by decide +kernel
theorem dX10_narrowed_20 : decode cX10_narrowed 20 = .ok (.i2l, 1) := by decide +kernel
theorem dX10_narrowed_21 : decode cX10_narrowed 21 = .ok (.goto 15, 3) := by decide +kernel
theorem dX10_narrowed_24 : decode cX10_narrowed 24 = .ok (.iload_n 0, 1) := by decide +kernel
theorem dX10_narrowed_25 : decode cX10_narrowed 25 = .ok (.iconst 3, 1) := by decide +kernel
theorem dX10_narrowed_26 : decode cX10_narrowed 26 = .ok (.if_icmp .ne 9, 3) := by decide +kernel
theorem dX10_narrowed_29 : decode cX10_narrowed 29 = .ok (.lload_n 1, 1) := by decide +kernel
theorem dX10_narrowed_30 : decode cX10_narrowed 30 = .ok (.l2i, 1) := by decide +kernel
theorem dX10_narrowed_31 : decode cX10_narrowed 31 = .ok (.i2l, 1) := by decide +kernel
theorem dX10_narrowed_32 : decode cX10_narrowed 32 = .ok (.goto 4, 3) := by decide +kernel
theorem dX10_narrowed_35 : decode cX10_narrowed 35 = .ok (.lload_n 1, 1) := by decide +kernel
theorem dX10_narrowed_36 : decode cX10_narrowed 36 = .ok (.lreturn, 1) := by decide +kernel
def f_X10_narrowed (μ : Mm) (p0 : Int32) (p1 : Int64) : Option Int64 :=
 if p0 = (1 : Int32) then
 some p1.toInt32.toInt8.toInt32.toInt64
 else
 if p0 = (2 : Int32) then
 some p1.toInt32.toInt16.toInt32.toInt64
 else
 if p0 = (3 : Int32) then
 some p1.toInt32.toInt64
 else
 some p1
set_option maxHeartbeats 4000000 in
set_option maxRecDepth 100000 in
theorem c_X10_narrowed (l : Launch) (E : En) {μ : Mm} {p0 : Int32} {p1 : Int64} {z : Int64} (hf : f_X10_narrowed μ p0 p1 = some z) : Met l yX10_narrowed (wt yX10_narrowed cX10_narrowed 3 (some .long)) { frames := 0, cells := 0, slots := 0, locals := 0 } (Pm E [.int p0, .long p1] μ) (Qm E (some (.long z)) μ) 0 0 (Ad E) := by
  unfold f_X10_narrowed at hf
  refine met_of (cc := cX10_narrowed) (nL := 3) (ret := (some .long)) (by decide) _ (Nat.le_of_ble_eq_true rfl) ?_
  intro p e s m below meth c C hr hlk hI ls hl
  have hx := C.1.1
  have hb := C.1.2.1
  have hl : lv_has ls 3 [(0, .int p0), (1, .long p1)] := hl
  refine lv_iload_n hx hb dX10_narrowed_0 rfl (lv_at hl 0 rfl) ?_
  refine lv_iconst (v := (1 : Int32)) hx hb dX10_narrowed_1 kc_1 ?_
  refine lv_icmp_ne (tgt := 12) hx hb dX10_narrowed_2 rfl (fun hc => ?_) (fun hc => ?_)
  · replace hf := ie hf hc
    refine lv_iload_n hx hb dX10_narrowed_12 rfl (lv_at hl 0 rfl) ?_
    refine lv_iconst (v := (2 : Int32)) hx hb dX10_narrowed_13 kc_2 ?_
    refine lv_icmp_ne (tgt := 24) hx hb dX10_narrowed_14 rfl (fun hc => ?_) (fun hc => ?_)
    · replace hf := ie hf hc
      refine lv_iload_n hx hb dX10_narrowed_24 rfl (lv_at hl 0 rfl) ?_
      refine lv_iconst (v := (3 : Int32)) hx hb dX10_narrowed_25 kc_3 ?_
      refine lv_icmp_ne (tgt := 35) hx hb dX10_narrowed_26 rfl (fun hc => ?_) (fun hc => ?_)
      · replace hf := ie hf hc
        refine lv_lload_n hx hb dX10_narrowed_35 rfl (lv_at hl 1 rfl) ?_
        obtain rfl := Option.some.inj hf
        exact m_lret C hr hlk hI dX10_narrowed_36
      · replace hf := it hf hc
        refine lv_lload_n hx hb dX10_narrowed_29 rfl (lv_at hl 1 rfl) ?_
        refine lv_l2i (v := p1.toInt32) hx hb dX10_narrowed_30 rfl ?_
        refine lv_i2l (v := p1.toInt32.toInt64) hx hb dX10_narrowed_31 rfl ?_
        refine lv_goto (tgt := 36) hx hb dX10_narrowed_32 rfl ?_
        obtain rfl := Option.some.inj hf
        exact m_lret C hr hlk hI dX10_narrowed_36
    · replace hf := it hf hc
      refine lv_lload_n hx hb dX10_narrowed_17 rfl (lv_at hl 1 rfl) ?_
      refine lv_l2i (v := p1.toInt32) hx hb dX10_narrowed_18 rfl ?_
      refine lv_i2s (v := p1.toInt32.toInt16.toInt32) hx hb dX10_narrowed_19 rfl ?_
      refine lv_i2l (v := p1.toInt32.toInt16.toInt32.toInt64) hx hb dX10_narrowed_20 rfl ?_
      refine lv_goto (tgt := 36) hx hb dX10_narrowed_21 rfl ?_
      obtain rfl := Option.some.inj hf
      exact m_lret C hr hlk hI dX10_narrowed_36
  · replace hf := it hf hc
    refine lv_lload_n hx hb dX10_narrowed_5 rfl (lv_at hl 1 rfl) ?_
    refine lv_l2i (v := p1.toInt32) hx hb dX10_narrowed_6 rfl ?_
    refine lv_i2b (v := p1.toInt32.toInt8.toInt32) hx hb dX10_narrowed_7 rfl ?_
    refine lv_i2l (v := p1.toInt32.toInt8.toInt32.toInt64) hx hb dX10_narrowed_8 rfl ?_
    refine lv_goto (tgt := 36) hx hb dX10_narrowed_9 rfl ?_
    obtain rfl := Option.some.inj hf
    exact m_lret C hr hlk hI dX10_narrowed_36

theorem dX10_put_0 : decode cX10_put 0 = .ok (.iload_n 1, 1) := by decide +kernel
theorem dX10_put_1 : decode cX10_put 1 = .ok (.invokestatic 330, 3) := by decide +kernel
theorem dX10_put_4 : decode cX10_put 4 = .ok (.ifCond .ne 5, 3) := by decide +kernel
theorem dX10_put_7 : decode cX10_put 7 = .ok (.iconst (-1), 1) := by decide +kernel
theorem dX10_put_8 : decode cX10_put 8 = .ok (.ireturn, 1) := by decide +kernel
theorem dX10_put_9 : decode cX10_put 9 = .ok (.aload_n 0, 1) := by decide +kernel
theorem dX10_put_10 : decode cX10_put 10 = .ok (.getfield 57, 3) := by decide +kernel
theorem dX10_put_13 : decode cX10_put 13 = .ok (.iload_n 1, 1) := by decide +kernel
theorem dX10_put_14 : decode cX10_put 14 = .ok (.iaload, 1) := by decide +kernel
theorem dX10_put_15 : decode cX10_put 15 = .ok (.ifCond .ne 10, 3) := by decide +kernel
theorem dX10_put_18 : decode cX10_put 18 = .ok (.aload_n 0, 1) := by decide +kernel
theorem dX10_put_19 : decode cX10_put 19 = .ok (.bipush (-11), 2) := by decide +kernel
theorem dX10_put_21 : decode cX10_put 21 = .ok (.invokevirtual 333, 3) := by decide +kernel
theorem dX10_put_24 : decode cX10_put 24 = .ok (.ireturn, 1) := by decide +kernel
theorem dX10_put_25 : decode cX10_put 25 = .ok (.aload_n 0, 1) := by decide +kernel
theorem dX10_put_26 : decode cX10_put 26 = .ok (.getfield 57, 3) := by decide +kernel
theorem dX10_put_29 : decode cX10_put 29 = .ok (.iload_n 1, 1) := by decide +kernel
theorem dX10_put_30 : decode cX10_put 30 = .ok (.iaload, 1) := by decide +kernel
theorem dX10_put_31 : decode cX10_put 31 = .ok (.iconst 5, 1) := by decide +kernel
theorem dX10_put_32 : decode cX10_put 32 = .ok (.if_icmp .ne 10, 3) := by decide +kernel
theorem dX10_put_35 : decode cX10_put 35 = .ok (.aload_n 0, 1) := by decide +kernel
theorem dX10_put_36 : decode cX10_put 36 = .ok (.bipush (-12), 2) := by decide +kernel
theorem dX10_put_38 : decode cX10_put 38 = .ok (.invokevirtual 333, 3) := by decide +kernel
theorem dX10_put_41 : decode cX10_put 41 = .ok (.ireturn, 1) := by decide +kernel
theorem dX10_put_42 : decode cX10_put 42 = .ok (.aload_n 0, 1) := by decide +kernel
theorem dX10_put_43 : decode cX10_put 43 = .ok (.iload_n 1, 1) := by decide +kernel
theorem dX10_put_44 : decode cX10_put 44 = .ok (.iload_n 2, 1) := by decide +kernel
theorem dX10_put_45 : decode cX10_put 45 = .ok (.invokevirtual 348, 3) := by decide +kernel
theorem dX10_put_48 : decode cX10_put 48 = .ok (.ifCond .ne 10, 3) := by decide +kernel
theorem dX10_put_51 : decode cX10_put 51 = .ok (.aload_n 0, 1) := by decide +kernel
theorem dX10_put_52 : decode cX10_put 52 = .ok (.bipush (-13), 2) := by decide +kernel
theorem dX10_put_54 : decode cX10_put 54 = .ok (.invokevirtual 333, 3) := by decide +kernel
theorem dX10_put_57 : decode cX10_put 57 = .ok (.ireturn, 1) := by decide +kernel
theorem dX10_put_58 : decode cX10_put 58 = .ok (.aload_n 0, 1) := by decide +kernel
theorem dX10_put_59 : decode cX10_put 59 = .ok (.getfield 63, 3) := by decide +kernel
theorem dX10_put_62 : decode cX10_put 62 = .ok (.bipush 100, 2) := by decide +kernel
theorem dX10_put_64 : decode cX10_put 64 = .ok (.iload_n 1, 1) := by decide +kernel
theorem dX10_put_65 : decode cX10_put 65 = .ok (.imul, 1) := by decide +kernel
theorem dX10_put_66 : decode cX10_put 66 = .ok (.iload_n 2, 1) := by decide +kernel
theorem dX10_put_67 : decode cX10_put 67 = .ok (.iadd, 1) := by decide +kernel
theorem dX10_put_68 : decode cX10_put 68 = .ok (.aload_n 0, 1) := by decide +kernel
theorem dX10_put_69 : decode cX10_put 69 = .ok (.getfield 57, 3) := by decide +kernel
theorem dX10_put_72 : decode cX10_put 72 = .ok (.iload_n 1, 1) := by decide +kernel
theorem dX10_put_73 : decode cX10_put 73 = .ok (.iaload, 1) := by decide +kernel
theorem dX10_put_74 : decode cX10_put 74 = .ok (.lload_n 3, 1) := by decide +kernel
theorem dX10_put_75 : decode cX10_put 75 = .ok (.invokestatic 350, 3) := by decide +kernel
theorem dX10_put_78 : decode cX10_put 78 = .ok (.lastore, 1) := by decide +kernel
theorem dX10_put_79 : decode cX10_put 79 = .ok (.iconst 1, 1) := by decide +kernel
theorem dX10_put_80 : decode cX10_put 80 = .ok (.ireturn, 1) := by decide +kernel
def f_X10_put (μ : Mm) (p1 : Int32) (p2 : Int32) (p3 : Int64) : Option (Int32 × Mm) :=
 (f_X10_isTape μ p1).bind fun q21 =>
 if q21 = 0 then
 some ((-1 : Int32), μ)
 else
 (ra μ 1020 0 6 p1).bind fun v23 =>
 if v23 = 0 then
 (f_X10_refuse μ (-11 : Int32)).bind fun q39 =>
 some (q39.1, q39.2)
 else
 (ra μ 1020 0 6 p1).bind fun v25 =>
 if v25 = (5 : Int32) then
 (f_X10_refuse μ (-12 : Int32)).bind fun q37 =>
 some (q37.1, q37.2)
 else
 (f_X10_isIn μ p1 p2).bind fun q27 =>
 if q27 = 0 then
 (f_X10_refuse μ (-13 : Int32)).bind fun q35 =>
 some (q35.1, q35.2)
 else
 (ra μ 1020 0 6 p1).bind fun v29 =>
 (f_X10_narrowed μ v29 p3).bind fun q31 =>
 (wg μ 1022 0 600 (((100 : Int32) * p1) + p2) q31).bind fun m33 =>
 some ((1 : Int32), m33)
set_option maxHeartbeats 4000000 in
set_option maxRecDepth 100000 in
theorem c_X10_put (l : Launch) (E : En) {μ : Mm} {p1 : Int32} {p2 : Int32} {p3 : Int64} (h0 : l10 E 0) {z : Int32 × Mm} (hf : f_X10_put μ p1 p2 p3 = some z) : Met l yX10_put (wt yX10_put cX10_put 5 (some .int)) { frames := 2, cells := 0, slots := 0, locals := 44 } (Pm E [.ref (ad E 1000 0), .int p1, .int p2, .long p3] μ) (Qm E (some (.int z.1)) z.2) 0 0 (Ad E) := by
  unfold f_X10_put at hf
  refine met_of (cc := cX10_put) (nL := 5) (ret := (some .int)) (by decide) _ (Nat.le_of_ble_eq_true rfl) ?_
  intro p e s m below meth c C hr hlk hI ls hl
  have hx := C.1.1
  have hb := C.1.2.1
  have hl : lv_has ls 5 [(0, .ref (ad E 1000 0)), (1, .int p1), (2, .int p2), (3, .long p3)] := hl
  refine lv_iload_n hx hb dX10_put_0 rfl (lv_at hl 1 rfl) ?_
  obtain ⟨q21, e22, hf⟩ := ob hf
  refine mcS (As := [.int p1]) (rest := []) C hI (c_X10_isTape l E  e22) ml_X10_330 ks_X10_isTape rfl rfl ⟨Nat.le_of_ble_eq_true rfl, Nat.le_of_ble_eq_true rfl⟩ ⟨Nat.zero_le _, Nat.zero_le _⟩ rfl rfl hl.1 (Nat.le_of_ble_eq_true rfl) dX10_put_1 (st1 := [.int q21]) rfl (fun H locs hI => ?_)
  refine lv_if_ne (tgt := 9) hx hb dX10_put_4 rfl (fun hc => ?_) (fun hc => ?_)
  · replace hf := ie hf hc
    refine lv_aload_n hx hb dX10_put_9 rfl (lv_at hl 0 rfl) ?_
    refine gf_10_19 C hI h0.1 fl_X10_57 dX10_put_10 ?_
    refine lv_iload_n hx hb dX10_put_13 rfl (lv_at hl 1 rfl) ?_
    obtain ⟨v23, e24, hf⟩ := ob hf
    refine m_iald C hI h0.2.2.2.2.2.2.2.2.2.2.2.2.2.1 (ce_1020 E _ _ _) e24 dX10_put_14 ?_
    refine lv_if_ne (tgt := 25) hx hb dX10_put_15 rfl (fun hc => ?_) (fun hc => ?_)
    · replace hf := ie hf hc
      refine lv_aload_n hx hb dX10_put_25 rfl (lv_at hl 0 rfl) ?_
      refine gf_10_19 C hI h0.1 fl_X10_57 dX10_put_26 ?_
      refine lv_iload_n hx hb dX10_put_29 rfl (lv_at hl 1 rfl) ?_
      obtain ⟨v25, e26, hf⟩ := ob hf
      refine m_iald C hI h0.2.2.2.2.2.2.2.2.2.2.2.2.2.1 (ce_1020 E _ _ _) e26 dX10_put_30 ?_
      refine lv_iconst (v := (5 : Int32)) hx hb dX10_put_31 kc_5 ?_
      refine lv_icmp_ne (tgt := 42) hx hb dX10_put_32 rfl (fun hc => ?_) (fun hc => ?_)
      · replace hf := ie hf hc
        refine lv_aload_n hx hb dX10_put_42 rfl (lv_at hl 0 rfl) ?_
        refine lv_iload_n hx hb dX10_put_43 rfl (lv_at hl 1 rfl) ?_
        refine lv_iload_n hx hb dX10_put_44 rfl (lv_at hl 2 rfl) ?_
        obtain ⟨q27, e28, hf⟩ := ob hf
        refine mcV (As := [.int p1, .int p2]) (rest := []) C hI (c_X10_isIn l E h0 e28) ml_X10_348 kv_X10_isIn (m_recv C hI h0.1 (ce_1000 E _ _ _) rfl) rfl rfl ⟨Nat.le_of_ble_eq_true rfl, Nat.le_of_ble_eq_true rfl⟩ ⟨Nat.zero_le _, Nat.zero_le _⟩ rfl rfl hl.1 (Nat.le_of_ble_eq_true rfl) dX10_put_45 (st1 := [.int q27]) rfl (fun H locs hI => ?_)
        refine lv_if_ne (tgt := 58) hx hb dX10_put_48 rfl (fun hc => ?_) (fun hc => ?_)
        · replace hf := ie hf hc
          refine lv_aload_n hx hb dX10_put_58 rfl (lv_at hl 0 rfl) ?_
          refine gf_10_21 C hI h0.1 fl_X10_63 dX10_put_59 ?_
          refine lv_bipush (v := (100 : Int32)) hx hb dX10_put_62 kb_100 ?_
          refine lv_iload_n hx hb dX10_put_64 rfl (lv_at hl 1 rfl) ?_
          refine lv_imul hx hb dX10_put_65 ?_
          refine lv_iload_n hx hb dX10_put_66 rfl (lv_at hl 2 rfl) ?_
          refine lv_iadd hx hb dX10_put_67 ?_
          refine lv_aload_n hx hb dX10_put_68 rfl (lv_at hl 0 rfl) ?_
          refine gf_10_19 C hI h0.1 fl_X10_57 dX10_put_69 ?_
          refine lv_iload_n hx hb dX10_put_72 rfl (lv_at hl 1 rfl) ?_
          obtain ⟨v29, e30, hf⟩ := ob hf
          refine m_iald C hI h0.2.2.2.2.2.2.2.2.2.2.2.2.2.1 (ce_1020 E _ _ _) e30 dX10_put_73 ?_
          refine lv_lload_n hx hb dX10_put_74 rfl (lv_at hl 3 rfl) ?_
          obtain ⟨q31, e32, hf⟩ := ob hf
          refine mcS (As := [.int v29, .long p3]) (rest := [.int (((100 : Int32) * p1) + p2), .ref (ad E 1022 0)]) C hI (c_X10_narrowed l E  e32) ml_X10_350 ks_X10_narrowed rfl rfl ⟨Nat.le_of_ble_eq_true rfl, Nat.le_of_ble_eq_true rfl⟩ ⟨Nat.zero_le _, Nat.zero_le _⟩ rfl rfl hl.1 (Nat.le_of_ble_eq_true rfl) dX10_put_75 (st1 := [.long q31, .int (((100 : Int32) * p1) + p2), .ref (ad E 1022 0)]) rfl (fun H locs hI => ?_)
          obtain ⟨m33, e34, hf⟩ := ob hf
          refine m_last C hI h0.2.2.2.2.2.2.2.2.2.2.2.2.2.2.2.1 (ce_1022 E _) e34 dX10_put_78 (fun H locs hI => ?_)
          refine lv_iconst (v := (1 : Int32)) hx hb dX10_put_79 kc_1 ?_
          obtain rfl := Option.some.inj hf
          exact m_iret C hr hlk hI dX10_put_80
        · replace hf := it hf hc
          refine lv_aload_n hx hb dX10_put_51 rfl (lv_at hl 0 rfl) ?_
          refine lv_bipush (v := (-13 : Int32)) hx hb dX10_put_52 kb_m13 ?_
          obtain ⟨q35, e36, hf⟩ := ob hf
          refine mcV (As := [.int (-13 : Int32)]) (rest := []) C hI (c_X10_refuse l E h0 e36) ml_X10_333 kv_X10_refuse (m_recv C hI h0.1 (ce_1000 E _ _ _) rfl) rfl rfl ⟨Nat.le_of_ble_eq_true rfl, Nat.le_of_ble_eq_true rfl⟩ ⟨Nat.zero_le _, Nat.zero_le _⟩ rfl rfl hl.1 (Nat.le_of_ble_eq_true rfl) dX10_put_54 (st1 := [.int q35.1]) rfl (fun H locs hI => ?_)
          obtain rfl := Option.some.inj hf
          exact m_iret C hr hlk hI dX10_put_57
      · replace hf := it hf hc
        refine lv_aload_n hx hb dX10_put_35 rfl (lv_at hl 0 rfl) ?_
        refine lv_bipush (v := (-12 : Int32)) hx hb dX10_put_36 kb_m12 ?_
        obtain ⟨q37, e38, hf⟩ := ob hf
        refine mcV (As := [.int (-12 : Int32)]) (rest := []) C hI (c_X10_refuse l E h0 e38) ml_X10_333 kv_X10_refuse (m_recv C hI h0.1 (ce_1000 E _ _ _) rfl) rfl rfl ⟨Nat.le_of_ble_eq_true rfl, Nat.le_of_ble_eq_true rfl⟩ ⟨Nat.zero_le _, Nat.zero_le _⟩ rfl rfl hl.1 (Nat.le_of_ble_eq_true rfl) dX10_put_38 (st1 := [.int q37.1]) rfl (fun H locs hI => ?_)
        obtain rfl := Option.some.inj hf
        exact m_iret C hr hlk hI dX10_put_41
    · replace hf := it hf hc
      refine lv_aload_n hx hb dX10_put_18 rfl (lv_at hl 0 rfl) ?_
      refine lv_bipush (v := (-11 : Int32)) hx hb dX10_put_19 kb_m11 ?_
      obtain ⟨q39, e40, hf⟩ := ob hf
      refine mcV (As := [.int (-11 : Int32)]) (rest := []) C hI (c_X10_refuse l E h0 e40) ml_X10_333 kv_X10_refuse (m_recv C hI h0.1 (ce_1000 E _ _ _) rfl) rfl rfl ⟨Nat.le_of_ble_eq_true rfl, Nat.le_of_ble_eq_true rfl⟩ ⟨Nat.zero_le _, Nat.zero_le _⟩ rfl rfl hl.1 (Nat.le_of_ble_eq_true rfl) dX10_put_21 (st1 := [.int q39.1]) rfl (fun H locs hI => ?_)
      obtain rfl := Option.some.inj hf
      exact m_iret C hr hlk hI dX10_put_24
  · replace hf := it hf hc
    refine lv_iconst (v := (-1 : Int32)) hx hb dX10_put_7 kc_m1 ?_
    obtain rfl := Option.some.inj hf
    exact m_iret C hr hlk hI dX10_put_8

theorem dX10_at_0 : decode cX10_at 0 = .ok (.aload_n 0, 1) := by decide +kernel
theorem dX10_at_1 : decode cX10_at 1 = .ok (.iload_n 1, 1) := by decide +kernel
theorem dX10_at_2 : decode cX10_at 2 = .ok (.invokestatic 330, 3) := by decide +kernel
theorem dX10_at_5 : decode cX10_at 5 = .ok (.ifCond .ne 7, 3) := by decide +kernel
theorem dX10_at_8 : decode cX10_at 8 = .ok (.iconst 1, 1) := by decide +kernel
theorem dX10_at_9 : decode cX10_at 9 = .ok (.goto 36, 3) := by decide +kernel
theorem dX10_at_12 : decode cX10_at 12 = .ok (.aload_n 0, 1) := by decide +kernel
theorem dX10_at_13 : decode cX10_at 13 = .ok (.getfield 57, 3) := by decide +kernel
theorem dX10_at_16 : decode cX10_at 16 = .ok (.iload_n 1, 1) := by decide +kernel
theorem dX10_at_17 : decode cX10_at 17 = .ok (.iaload, 1) := by decide +kernel
theorem dX10_at_18 : decode cX10_at 18 = .ok (.ifCond .eq 22, 3) := by decide +kernel
theorem dX10_at_21 : decode cX10_at 21 = .ok (.aload_n 0, 1) := by decide +kernel
theorem dX10_at_22 : decode cX10_at 22 = .ok (.getfield 57, 3) := by decide +kernel
theorem dX10_at_25 : decode cX10_at 25 = .ok (.iload_n 1, 1) := by decide +kernel
theorem dX10_at_26 : decode cX10_at 26 = .ok (.iaload, 1) := by decide +kernel
theorem dX10_at_27 : decode cX10_at 27 = .ok (.iconst 5, 1) := by decide +kernel
theorem dX10_at_28 : decode cX10_at 28 = .ok (.if_icmp .eq 12, 3) := by decide +kernel
theorem dX10_at_31 : decode cX10_at 31 = .ok (.aload_n 0, 1) := by decide +kernel
theorem dX10_at_32 : decode cX10_at 32 = .ok (.iload_n 1, 1) := by decide +kernel
theorem dX10_at_33 : decode cX10_at 33 = .ok (.iload_n 2, 1) := by decide +kernel
theorem dX10_at_34 : decode cX10_at 34 = .ok (.invokevirtual 348, 3) := by decide +kernel
theorem dX10_at_37 : decode cX10_at 37 = .ok (.ifCond .ne 7, 3) := by decide +kernel
theorem dX10_at_40 : decode cX10_at 40 = .ok (.iconst 2, 1) := by decide +kernel
theorem dX10_at_41 : decode cX10_at 41 = .ok (.goto 4, 3) := by decide +kernel
theorem dX10_at_44 : decode cX10_at 44 = .ok (.iconst 0, 1) := by decide +kernel
theorem dX10_at_45 : decode cX10_at 45 = .ok (.putfield 133, 3) := by decide +kernel
theorem dX10_at_48 : decode cX10_at 48 = .ok (.aload_n 0, 1) := by decide +kernel
theorem dX10_at_49 : decode cX10_at 49 = .ok (.getfield 133, 3) := by decide +kernel
theorem dX10_at_52 : decode cX10_at 52 = .ok (.ifCond .ne 17, 3) := by decide +kernel
theorem dX10_at_55 : decode cX10_at 55 = .ok (.aload_n 0, 1) := by decide +kernel
theorem dX10_at_56 : decode cX10_at 56 = .ok (.getfield 63, 3) := by decide +kernel
theorem dX10_at_59 : decode cX10_at 59 = .ok (.bipush 100, 2) := by decide +kernel
theorem dX10_at_61 : decode cX10_at 61 = .ok (.iload_n 1, 1) := by decide +kernel
theorem dX10_at_62 : decode cX10_at 62 = .ok (.imul, 1) := by decide +kernel
theorem dX10_at_63 : decode cX10_at 63 = .ok (.iload_n 2, 1) := by decide +kernel
theorem dX10_at_64 : decode cX10_at 64 = .ok (.iadd, 1) := by decide +kernel
theorem dX10_at_65 : decode cX10_at 65 = .ok (.laload, 1) := by decide +kernel
theorem dX10_at_66 : decode cX10_at 66 = .ok (.goto 4, 3) := by decide +kernel
theorem dX10_at_69 : decode cX10_at 69 = .ok (.lconst 0, 1) := by decide +kernel
theorem dX10_at_70 : decode cX10_at 70 = .ok (.lreturn, 1) := by decide +kernel
def f_X10_at_b45 (μ : Mm) (a1 : Int32) (a2 : Int32) (s0 : Int32) : Option (Int64 × Mm) :=
 (wf μ 1000 0 0 s0).bind fun m13 =>
 if (m13.1 1000 0 0) = 0 then
 (rl m13 1022 0 600 (((100 : Int32) * a1) + a2)).bind fun v15 =>
 some (v15, m13)
 else
 some ((0 : Int64), m13)
set_option maxHeartbeats 4000000 in
set_option maxRecDepth 100000 in
theorem cb_X10_at_45 {l : Launch} {E : En} {p : Program} {e : Env} {s : State} {m : MethodId} {av : Array Value} {below : List Frame} {meth : Method} {c : Code} (C : Cx E p s m av c cX10_at 3 yX10_at.cls) (hr : meth.sig.returnType = (some .long)) (hlk : meth.locks = false) {z : Int64 × Mm} : ∀ (μ : Mm) (a1 : Int32) (a2 : Int32) (s0 : Int32) (h_a0 : l10 E 0) (h_s1 : l10 E 0), f_X10_at_b45 μ a1 a2 s0 = some z → ∀ {H : Heap} {locs : List Loc} {ls : Array Slot}, Iv E s μ H locs → lv_has ls 3 [(0, .ref (ad E 1000 0)), (1, .int a1), (2, .int a2)] → W p l e { frames := 2, cells := 0, slots := 0, locals := 44 } s m av below meth c H locs 0 0 (MQ below (Qm E (some (.long z.1)) z.2) av s 0 0 (Ad E)) (F0 m 45 ls [.int s0, .ref (ad E 1000 0)]) := by
  have hx := C.1.1
  have hb := C.1.2.1
  intro μ a1 a2 s0 h_a0 h_s1 hf H locs ls hI hl
  unfold f_X10_at_b45 at hf
  obtain ⟨m13, e14, hf⟩ := ob hf
  refine pf_10_0 C hI h_s1.1 fl_X10_133 e14 dX10_at_45 (fun H locs hI => ?_)
  refine lv_aload_n hx hb dX10_at_48 rfl (lv_at hl 0 rfl) ?_
  refine gf_10_0 C hI h_a0.1 fl_X10_133 dX10_at_49 ?_
  refine lv_if_ne (tgt := 69) hx hb dX10_at_52 rfl (fun hc => ?_) (fun hc => ?_)
  · replace hf := ie hf hc
    refine lv_lconst (v := (0 : Int64)) hx hb dX10_at_69 kl_0 ?_
    obtain rfl := Option.some.inj hf
    exact m_lret C hr hlk hI dX10_at_70
  · replace hf := it hf hc
    refine lv_aload_n hx hb dX10_at_55 rfl (lv_at hl 0 rfl) ?_
    refine gf_10_21 C hI h_a0.1 fl_X10_63 dX10_at_56 ?_
    refine lv_bipush (v := (100 : Int32)) hx hb dX10_at_59 kb_100 ?_
    refine lv_iload_n hx hb dX10_at_61 rfl (lv_at hl 1 rfl) ?_
    refine lv_imul hx hb dX10_at_62 ?_
    refine lv_iload_n hx hb dX10_at_63 rfl (lv_at hl 2 rfl) ?_
    refine lv_iadd hx hb dX10_at_64 ?_
    obtain ⟨v15, e16, hf⟩ := ob hf
    refine m_lald C hI h_a0.2.2.2.2.2.2.2.2.2.2.2.2.2.2.2.1 (ce_1022 E _ _ _) e16 dX10_at_65 ?_
    refine lv_goto (tgt := 70) hx hb dX10_at_66 rfl ?_
    obtain rfl := Option.some.inj hf
    exact m_lret C hr hlk hI dX10_at_70
def f_X10_at (μ : Mm) (p1 : Int32) (p2 : Int32) : Option (Int64 × Mm) :=
 (f_X10_isTape μ p1).bind fun q17 =>
 if q17 = 0 then
 f_X10_at_b45 μ p1 p2 (1 : Int32)
 else
 (ra μ 1020 0 6 p1).bind fun v19 =>
 if v19 = 0 then
 f_X10_at_b45 μ p1 p2 (2 : Int32)
 else
 (ra μ 1020 0 6 p1).bind fun v21 =>
 if v21 = (5 : Int32) then
 f_X10_at_b45 μ p1 p2 (2 : Int32)
 else
 (f_X10_isIn μ p1 p2).bind fun q23 =>
 if q23 = 0 then
 f_X10_at_b45 μ p1 p2 (2 : Int32)
 else
 f_X10_at_b45 μ p1 p2 (0 : Int32)
set_option maxHeartbeats 4000000 in
set_option maxRecDepth 100000 in
theorem c_X10_at (l : Launch) (E : En) {μ : Mm} {p1 : Int32} {p2 : Int32} (h0 : l10 E 0) {z : Int64 × Mm} (hf : f_X10_at μ p1 p2 = some z) : Met l yX10_at (wt yX10_at cX10_at 3 (some .long)) { frames := 2, cells := 0, slots := 0, locals := 44 } (Pm E [.ref (ad E 1000 0), .int p1, .int p2] μ) (Qm E (some (.long z.1)) z.2) 0 0 (Ad E) := by
  unfold f_X10_at at hf
  refine met_of (cc := cX10_at) (nL := 3) (ret := (some .long)) (by decide) _ (Nat.le_of_ble_eq_true rfl) ?_
  intro p e s m below meth c C hr hlk hI ls hl
  have hx := C.1.1
  have hb := C.1.2.1
  have hl : lv_has ls 3 [(0, .ref (ad E 1000 0)), (1, .int p1), (2, .int p2)] := hl
  refine lv_aload_n hx hb dX10_at_0 rfl (lv_at hl 0 rfl) ?_
  refine lv_iload_n hx hb dX10_at_1 rfl (lv_at hl 1 rfl) ?_
  obtain ⟨q17, e18, hf⟩ := ob hf
  refine mcS (As := [.int p1]) (rest := [.ref (ad E 1000 0)]) C hI (c_X10_isTape l E  e18) ml_X10_330 ks_X10_isTape rfl rfl ⟨Nat.le_of_ble_eq_true rfl, Nat.le_of_ble_eq_true rfl⟩ ⟨Nat.zero_le _, Nat.zero_le _⟩ rfl rfl hl.1 (Nat.le_of_ble_eq_true rfl) dX10_at_2 (st1 := [.int q17, .ref (ad E 1000 0)]) rfl (fun H locs hI => ?_)
  refine lv_if_ne (tgt := 12) hx hb dX10_at_5 rfl (fun hc => ?_) (fun hc => ?_)
  · replace hf := ie hf hc
    refine lv_aload_n hx hb dX10_at_12 rfl (lv_at hl 0 rfl) ?_
    refine gf_10_19 C hI h0.1 fl_X10_57 dX10_at_13 ?_
    refine lv_iload_n hx hb dX10_at_16 rfl (lv_at hl 1 rfl) ?_
    obtain ⟨v19, e20, hf⟩ := ob hf
    refine m_iald C hI h0.2.2.2.2.2.2.2.2.2.2.2.2.2.1 (ce_1020 E _ _ _) e20 dX10_at_17 ?_
    refine lv_if_eq (tgt := 40) hx hb dX10_at_18 rfl (fun hc => ?_) (fun hc => ?_)
    · replace hf := it hf hc
      refine lv_iconst (v := (2 : Int32)) hx hb dX10_at_40 kc_2 ?_
      refine lv_goto (tgt := 45) hx hb dX10_at_41 rfl ?_
      exact cb_X10_at_45 C hr hlk  _ _ _ _ h0 h0 hf hI (lv_sub hl [0, 1, 2] rfl)
    · replace hf := ie hf hc
      refine lv_aload_n hx hb dX10_at_21 rfl (lv_at hl 0 rfl) ?_
      refine gf_10_19 C hI h0.1 fl_X10_57 dX10_at_22 ?_
      refine lv_iload_n hx hb dX10_at_25 rfl (lv_at hl 1 rfl) ?_
      obtain ⟨v21, e22, hf⟩ := ob hf
      refine m_iald C hI h0.2.2.2.2.2.2.2.2.2.2.2.2.2.1 (ce_1020 E _ _ _) e22 dX10_at_26 ?_
      refine lv_iconst (v := (5 : Int32)) hx hb dX10_at_27 kc_5 ?_
      refine lv_icmp_eq (tgt := 40) hx hb dX10_at_28 rfl (fun hc => ?_) (fun hc => ?_)
      · replace hf := it hf hc
        refine lv_iconst (v := (2 : Int32)) hx hb dX10_at_40 kc_2 ?_
        refine lv_goto (tgt := 45) hx hb dX10_at_41 rfl ?_
        exact cb_X10_at_45 C hr hlk  _ _ _ _ h0 h0 hf hI (lv_sub hl [0, 1, 2] rfl)
      · replace hf := ie hf hc
        refine lv_aload_n hx hb dX10_at_31 rfl (lv_at hl 0 rfl) ?_
        refine lv_iload_n hx hb dX10_at_32 rfl (lv_at hl 1 rfl) ?_
        refine lv_iload_n hx hb dX10_at_33 rfl (lv_at hl 2 rfl) ?_
        obtain ⟨q23, e24, hf⟩ := ob hf
        refine mcV (As := [.int p1, .int p2]) (rest := [.ref (ad E 1000 0)]) C hI (c_X10_isIn l E h0 e24) ml_X10_348 kv_X10_isIn (m_recv C hI h0.1 (ce_1000 E _ _ _) rfl) rfl rfl ⟨Nat.le_of_ble_eq_true rfl, Nat.le_of_ble_eq_true rfl⟩ ⟨Nat.zero_le _, Nat.zero_le _⟩ rfl rfl hl.1 (Nat.le_of_ble_eq_true rfl) dX10_at_34 (st1 := [.int q23, .ref (ad E 1000 0)]) rfl (fun H locs hI => ?_)
        refine lv_if_ne (tgt := 44) hx hb dX10_at_37 rfl (fun hc => ?_) (fun hc => ?_)
        · replace hf := ie hf hc
          refine lv_iconst (v := (0 : Int32)) hx hb dX10_at_44 kc_0 ?_
          exact cb_X10_at_45 C hr hlk  _ _ _ _ h0 h0 hf hI (lv_sub hl [0, 1, 2] rfl)
        · replace hf := it hf hc
          refine lv_iconst (v := (2 : Int32)) hx hb dX10_at_40 kc_2 ?_
          refine lv_goto (tgt := 45) hx hb dX10_at_41 rfl ?_
          exact cb_X10_at_45 C hr hlk  _ _ _ _ h0 h0 hf hI (lv_sub hl [0, 1, 2] rfl)
  · replace hf := it hf hc
    refine lv_iconst (v := (1 : Int32)) hx hb dX10_at_8 kc_1 ?_
    refine lv_goto (tgt := 45) hx hb dX10_at_9 rfl ?_
    exact cb_X10_at_45 C hr hlk  _ _ _ _ h0 h0 hf hI (lv_sub hl [0, 1, 2] rfl)

theorem dX10_copy_0 : decode cX10_copy 0 = .ok (.iload_n 1, 1) := by decide +kernel
theorem dX10_copy_1 : decode cX10_copy 1 = .ok (.invokestatic 330, 3) := by decide +kernel
theorem dX10_copy_4 : decode cX10_copy 4 = .ok (.ifCond .eq 10, 3) := by decide +kernel
theorem dX10_copy_7 : decode cX10_copy 7 = .ok (.iload_n 3, 1) := by decide +kernel
theorem dX10_copy_8 : decode cX10_copy 8 = .ok (.invokestatic 330, 3) := by decide +kernel
theorem dX10_copy_11 : decode cX10_copy 11 = .ok (.ifCond .ne 5, 3) := by decide +kernel
theorem dX10_copy_14 : decode cX10_copy 14 = .ok (.iconst (-1), 1) := by decide +kernel
theorem dX10_copy_15 : decode cX10_copy 15 = .ok (.ireturn, 1) := by decide +kernel
theorem dX10_copy_16 : decode cX10_copy 16 = .ok (.aload_n 0, 1) := by decide +kernel
theorem dX10_copy_17 : decode cX10_copy 17 = .ok (.getfield 57, 3) := by decide +kernel
theorem dX10_copy_20 : decode cX10_copy 20 = .ok (.iload_n 1, 1) := by decide +kernel
theorem dX10_copy_21 : decode cX10_copy 21 = .ok (.iaload, 1) := by decide +kernel
theorem dX10_copy_22 : decode cX10_copy 22 = .ok (.ifCond .eq 12, 3) := by decide +kernel
theorem dX10_copy_25 : decode cX10_copy 25 = .ok (.aload_n 0, 1) := by decide +kernel
theorem dX10_copy_26 : decode cX10_copy 26 = .ok (.getfield 57, 3) := by decide +kernel
theorem dX10_copy_29 : decode cX10_copy 29 = .ok (.iload_n 3, 1) := by decide +kernel
theorem dX10_copy_30 : decode cX10_copy 30 = .ok (.iaload, 1) := by decide +kernel
theorem dX10_copy_31 : decode cX10_copy 31 = .ok (.ifCond .ne 10, 3) := by decide +kernel
theorem dX10_copy_34 : decode cX10_copy 34 = .ok (.aload_n 0, 1) := by decide +kernel
theorem dX10_copy_35 : decode cX10_copy 35 = .ok (.bipush (-11), 2) := by decide +kernel
theorem dX10_copy_37 : decode cX10_copy 37 = .ok (.invokevirtual 333, 3) := by decide +kernel
theorem dX10_copy_40 : decode cX10_copy 40 = .ok (.ireturn, 1) := by decide +kernel
theorem dX10_copy_41 : decode cX10_copy 41 = .ok (.aload_n 0, 1) := by decide +kernel
theorem dX10_copy_42 : decode cX10_copy 42 = .ok (.getfield 57, 3) := by decide +kernel
theorem dX10_copy_45 : decode cX10_copy 45 = .ok (.iload_n 1, 1) := by decide +kernel
theorem dX10_copy_46 : decode cX10_copy 46 = .ok (.iaload, 1) := by decide +kernel
theorem dX10_copy_47 : decode cX10_copy 47 = .ok (.iconst 5, 1) := by decide +kernel
theorem dX10_copy_48 : decode cX10_copy 48 = .ok (.if_icmp .eq 18, 3) := by decide +kernel
theorem dX10_copy_51 : decode cX10_copy 51 = .ok (.aload_n 0, 1) := by decide +kernel
theorem dX10_copy_52 : decode cX10_copy 52 = .ok (.getfield 57, 3) := by decide +kernel
theorem dX10_copy_55 : decode cX10_copy 55 = .ok (.iload_n 1, 1) := by decide +kernel
theorem dX10_copy_56 : decode cX10_copy 56 = .ok (.iaload, 1) := by decide +kernel
theorem dX10_copy_57 : decode cX10_copy 57 = .ok (.aload_n 0, 1) := by decide +kernel
theorem dX10_copy_58 : decode cX10_copy 58 = .ok (.getfield 57, 3) := by decide +kernel
theorem dX10_copy_61 : decode cX10_copy 61 = .ok (.iload_n 3, 1) := by decide +kernel
theorem dX10_copy_62 : decode cX10_copy 62 = .ok (.iaload, 1) := by decide +kernel
theorem dX10_copy_63 : decode cX10_copy 63 = .ok (.if_icmp .eq 10, 3) := by decide +kernel
theorem dX10_copy_66 : decode cX10_copy 66 = .ok (.aload_n 0, 1) := by decide +kernel
theorem dX10_copy_67 : decode cX10_copy 67 = .ok (.bipush (-12), 2) := by decide +kernel
theorem dX10_copy_69 : decode cX10_copy 69 = .ok (.invokevirtual 333, 3) := by decide +kernel
theorem dX10_copy_72 : decode cX10_copy 72 = .ok (.ireturn, 1) := by decide +kernel
theorem dX10_copy_73 : decode cX10_copy 73 = .ok (.iload 5, 2) := by decide +kernel
theorem dX10_copy_75 : decode cX10_copy 75 = .ok (.ifCond .lt 39, 3) := by decide +kernel
theorem dX10_copy_78 : decode cX10_copy 78 = .ok (.iload_n 2, 1) := by decide +kernel
theorem dX10_copy_79 : decode cX10_copy 79 = .ok (.ifCond .lt 35, 3) := by decide +kernel
theorem dX10_copy_82 : decode cX10_copy 82 = .ok (.iload 4, 2) := by decide +kernel
theorem dX10_copy_84 : decode cX10_copy 84 = .ok (.ifCond .lt 30, 3) := by decide +kernel
theorem dX10_copy_87 : decode cX10_copy 87 = .ok (.iload 5, 2) := by decide +kernel
theorem dX10_copy_89 : decode cX10_copy 89 = .ok (.aload_n 0, 1) := by decide +kernel
theorem dX10_copy_90 : decode cX10_copy 90 = .ok (.getfield 60, 3) := by decide +kernel
theorem dX10_copy_93 : decode cX10_copy 93 = .ok (.iload_n 1, 1) := by decide +kernel
theorem dX10_copy_94 : decode cX10_copy 94 = .ok (.iaload, 1) := by decide +kernel
theorem dX10_copy_95 : decode cX10_copy 95 = .ok (.iload_n 2, 1) := by decide +kernel
theorem dX10_copy_96 : decode cX10_copy 96 = .ok (.isub, 1) := by decide +kernel
theorem dX10_copy_97 : decode cX10_copy 97 = .ok (.if_icmp .gt 17, 3) := by decide +kernel
theorem dX10_copy_100 : decode cX10_copy 100 = .ok (.iload 5, 2) := by decide +kernel
theorem dX10_copy_102 : decode cX10_copy 102 = .ok (.aload_n 0, 1) := by decide +kernel
theorem dX10_copy_103 : decode cX10_copy 103 = .ok (.getfield 60, 3) := by decide +kernel
theorem dX10_copy_106 : decode cX10_copy 106 = .ok (.iload_n 3, 1) := by decide +kernel
theorem dX10_copy_107 : decode cX10_copy 107 = .ok (.iaload, 1) := by decide +kernel
theorem dX10_copy_108 : decode cX10_copy 108 = .ok (.iload 4, 2) := by decide +kernel
theorem dX10_copy_110 : decode cX10_copy 110 = .ok (.isub, 1) := by decide +kernel
theorem dX10_copy_111 : decode cX10_copy 111 = .ok (.if_icmp .le 10, 3) := by decide +kernel
theorem dX10_copy_114 : decode cX10_copy 114 = .ok (.aload_n 0, 1) := by decide +kernel
theorem dX10_copy_115 : decode cX10_copy 115 = .ok (.bipush (-13), 2) := by decide +kernel
theorem dX10_copy_117 : decode cX10_copy 117 = .ok (.invokevirtual 333, 3) := by decide +kernel
theorem dX10_copy_120 : decode cX10_copy 120 = .ok (.ireturn, 1) := by decide +kernel
theorem dX10_copy_121 : decode cX10_copy 121 = .ok (.iconst 0, 1) := by decide +kernel
theorem dX10_copy_122 : decode cX10_copy 122 = .ok (.istore 6, 2) := by decide +kernel
theorem dX10_copy_124 : decode cX10_copy 124 = .ok (.iload 6, 2) := by decide +kernel
theorem dX10_copy_126 : decode cX10_copy 126 = .ok (.iload 5, 2) := by decide +kernel
theorem dX10_copy_128 : decode cX10_copy 128 = .ok (.if_icmp .ge 30, 3) := by decide +kernel
theorem dX10_copy_131 : decode cX10_copy 131 = .ok (.aload_n 0, 1) := by decide +kernel
theorem dX10_copy_132 : decode cX10_copy 132 = .ok (.getfield 130, 3) := by decide +kernel
theorem dX10_copy_135 : decode cX10_copy 135 = .ok (.iload 6, 2) := by decide +kernel
theorem dX10_copy_137 : decode cX10_copy 137 = .ok (.aload_n 0, 1) := by decide +kernel
theorem dX10_copy_138 : decode cX10_copy 138 = .ok (.getfield 63, 3) := by decide +kernel
theorem dX10_copy_141 : decode cX10_copy 141 = .ok (.bipush 100, 2) := by decide +kernel
theorem dX10_copy_143 : decode cX10_copy 143 = .ok (.iload_n 1, 1) := by decide +kernel
theorem dX10_copy_144 : decode cX10_copy 144 = .ok (.imul, 1) := by decide +kernel
theorem dX10_copy_145 : decode cX10_copy 145 = .ok (.iload_n 2, 1) := by decide +kernel
theorem dX10_copy_146 : decode cX10_copy 146 = .ok (.iadd, 1) := by decide +kernel
theorem dX10_copy_147 : decode cX10_copy 147 = .ok (.iload 6, 2) := by decide +kernel
theorem dX10_copy_149 : decode cX10_copy 149 = .ok (.iadd, 1) := by decide +kernel
theorem dX10_copy_150 : decode cX10_copy 150 = .ok (.laload, 1) := by decide +kernel
theorem dX10_copy_151 : decode cX10_copy 151 = .ok (.lastore, 1) := by decide +kernel
theorem dX10_copy_152 : decode cX10_copy 152 = .ok (.iinc 6 1, 3) := by decide +kernel
theorem dX10_copy_155 : decode cX10_copy 155 = .ok (.goto (-31), 3) := by decide +kernel
theorem dX10_copy_158 : decode cX10_copy 158 = .ok (.iconst 0, 1) := by decide +kernel
theorem dX10_copy_159 : decode cX10_copy 159 = .ok (.istore 6, 2) := by decide +kernel
theorem dX10_copy_161 : decode cX10_copy 161 = .ok (.iload 6, 2) := by decide +kernel
theorem dX10_copy_163 : decode cX10_copy 163 = .ok (.iload 5, 2) := by decide +kernel
theorem dX10_copy_165 : decode cX10_copy 165 = .ok (.if_icmp .ge 31, 3) := by decide +kernel
theorem dX10_copy_168 : decode cX10_copy 168 = .ok (.aload_n 0, 1) := by decide +kernel
theorem dX10_copy_169 : decode cX10_copy 169 = .ok (.getfield 63, 3) := by decide +kernel
theorem dX10_copy_172 : decode cX10_copy 172 = .ok (.bipush 100, 2) := by decide +kernel
theorem dX10_copy_174 : decode cX10_copy 174 = .ok (.iload_n 3, 1) := by decide +kernel
theorem dX10_copy_175 : decode cX10_copy 175 = .ok (.imul, 1) := by decide +kernel
theorem dX10_copy_176 : decode cX10_copy 176 = .ok (.iload 4, 2) := by decide +kernel
theorem dX10_copy_178 : decode cX10_copy 178 = .ok (.iadd, 1) := by decide +kernel
theorem dX10_copy_179 : decode cX10_copy 179 = .ok (.iload 6, 2) := by decide +kernel
theorem dX10_copy_181 : decode cX10_copy 181 = .ok (.iadd, 1) := by decide +kernel
theorem dX10_copy_182 : decode cX10_copy 182 = .ok (.aload_n 0, 1) := by decide +kernel
theorem dX10_copy_183 : decode cX10_copy 183 = .ok (.getfield 130, 3) := by decide +kernel
theorem dX10_copy_186 : decode cX10_copy 186 = .ok (.iload 6, 2) := by decide +kernel
theorem dX10_copy_188 : decode cX10_copy 188 = .ok (.laload, 1) := by decide +kernel
theorem dX10_copy_189 : decode cX10_copy 189 = .ok (.lastore, 1) := by decide +kernel
theorem dX10_copy_190 : decode cX10_copy 190 = .ok (.iinc 6 1, 3) := by decide +kernel
theorem dX10_copy_193 : decode cX10_copy 193 = .ok (.goto (-32), 3) := by decide +kernel
theorem dX10_copy_196 : decode cX10_copy 196 = .ok (.iload 5, 2) := by decide +kernel
theorem dX10_copy_198 : decode cX10_copy 198 = .ok (.ireturn, 1) := by decide +kernel
def f_X10_copy_b114 (F : Nat) (μ : Mm) : Option (Int32 × Mm) :=
 (f_X10_refuse μ (-13 : Int32)).bind fun q33 =>
 some (q33.1, q33.2)
set_option maxHeartbeats 4000000 in
set_option maxRecDepth 100000 in
theorem cb_X10_copy_114 {l : Launch} {E : En} {p : Program} {e : Env} {s : State} {m : MethodId} {av : Array Value} {below : List Frame} {meth : Method} {c : Code} (C : Cx E p s m av c cX10_copy 7 yX10_copy.cls) (hr : meth.sig.returnType = (some .int)) (hlk : meth.locks = false) {F : Nat} {z : Int32 × Mm} : ∀ (μ : Mm) (h_a0 : l10 E 0), f_X10_copy_b114 F μ  = some z → ∀ {H : Heap} {locs : List Loc} {ls : Array Slot}, Iv E s μ H locs → lv_has ls 7 [(0, .ref (ad E 1000 0))] → W p l e { frames := 2, cells := 0, slots := 0, locals := 42 } s m av below meth c H locs 0 0 (MQ below (Qm E (some (.int z.1)) z.2) av s 0 0 (Ad E)) (F0 m 114 ls []) := by
  have hx := C.1.1
  have hb := C.1.2.1
  intro μ h_a0 hf H locs ls hI hl
  unfold f_X10_copy_b114 at hf
  refine lv_aload_n hx hb dX10_copy_114 rfl (lv_at hl 0 rfl) ?_
  refine lv_bipush (v := (-13 : Int32)) hx hb dX10_copy_115 kb_m13 ?_
  obtain ⟨q33, e34, hf⟩ := ob hf
  refine mcV (As := [.int (-13 : Int32)]) (rest := []) C hI (c_X10_refuse l E h_a0 e34) ml_X10_333 kv_X10_refuse (m_recv C hI h_a0.1 (ce_1000 E _ _ _) rfl) rfl rfl ⟨Nat.le_of_ble_eq_true rfl, Nat.le_of_ble_eq_true rfl⟩ ⟨Nat.zero_le _, Nat.zero_le _⟩ rfl rfl hl.1 (Nat.le_of_ble_eq_true rfl) dX10_copy_117 (st1 := [.int q33.1]) rfl (fun H locs hI => ?_)
  obtain rfl := Option.some.inj hf
  exact m_iret C hr hlk hI dX10_copy_120
def f_X10_copy_b161 (F : Nat) : Nat → Mm → Int32 → Int32 → Int32 → Int32 → Option (Int32 × Mm)
 | 0, _, _, _, _, _ => none
 | N + 1, μ, a3, a4, a5, a6 =>
 if a5 ≤ a6 then
 some (a5, μ)
 else
 (rl μ 1055 0 100 a6).bind fun v35 =>
 (wg μ 1022 0 600 ((((100 : Int32) * a3) + a4) + a6) v35).bind fun m37 =>
 f_X10_copy_b161 F N m37 a3 a4 a5 (a6 + (1 : Int32))
set_option maxHeartbeats 4000000 in
set_option maxRecDepth 100000 in
theorem cb_X10_copy_161 {l : Launch} {E : En} {p : Program} {e : Env} {s : State} {m : MethodId} {av : Array Value} {below : List Frame} {meth : Method} {c : Code} (C : Cx E p s m av c cX10_copy 7 yX10_copy.cls) (hr : meth.sig.returnType = (some .int)) (hlk : meth.locks = false) {F : Nat} {z : Int32 × Mm} : ∀ (N : Nat) (μ : Mm) (a3 : Int32) (a4 : Int32) (a5 : Int32) (a6 : Int32) (h_a0 : l10 E 0), f_X10_copy_b161 F N μ a3 a4 a5 a6 = some z → ∀ {H : Heap} {locs : List Loc} {ls : Array Slot}, Iv E s μ H locs → lv_has ls 7 [(0, .ref (ad E 1000 0)), (3, .int a3), (4, .int a4), (5, .int a5), (6, .int a6)] → W p l e { frames := 2, cells := 0, slots := 0, locals := 42 } s m av below meth c H locs 0 0 (MQ below (Qm E (some (.int z.1)) z.2) av s 0 0 (Ad E)) (F0 m 161 ls []) := by
  have hx := C.1.1
  have hb := C.1.2.1
  intro N
  induction N with
  | zero => intro μ a3 a4 a5 a6 h_a0 hf; cases hf
  | succ N ih =>
    intro μ a3 a4 a5 a6 h_a0 hf H locs ls hI hl
    rw [f_X10_copy_b161] at hf
    refine lv_iload hx hb dX10_copy_161 (lv_at hl 4 rfl) ?_
    refine lv_iload hx hb dX10_copy_163 (lv_at hl 3 rfl) ?_
    refine lv_icmp_ge (tgt := 196) hx hb dX10_copy_165 rfl (fun hc => ?_) (fun hc => ?_)
    · replace hf := it hf hc
      refine lv_iload hx hb dX10_copy_196 (lv_at hl 3 rfl) ?_
      obtain rfl := Option.some.inj hf
      exact m_iret C hr hlk hI dX10_copy_198
    · replace hf := ie hf hc
      refine lv_aload_n hx hb dX10_copy_168 rfl (lv_at hl 0 rfl) ?_
      refine gf_10_21 C hI h_a0.1 fl_X10_63 dX10_copy_169 ?_
      refine lv_bipush (v := (100 : Int32)) hx hb dX10_copy_172 kb_100 ?_
      refine lv_iload_n hx hb dX10_copy_174 rfl (lv_at hl 1 rfl) ?_
      refine lv_imul hx hb dX10_copy_175 ?_
      refine lv_iload hx hb dX10_copy_176 (lv_at hl 2 rfl) ?_
      refine lv_iadd hx hb dX10_copy_178 ?_
      refine lv_iload hx hb dX10_copy_179 (lv_at hl 4 rfl) ?_
      refine lv_iadd hx hb dX10_copy_181 ?_
      refine lv_aload_n hx hb dX10_copy_182 rfl (lv_at hl 0 rfl) ?_
      refine gf_10_54 C hI h_a0.1 fl_X10_130 dX10_copy_183 ?_
      refine lv_iload hx hb dX10_copy_186 (lv_at hl 4 rfl) ?_
      obtain ⟨v35, e36, hf⟩ := ob hf
      refine m_lald C hI h_a0.2.2.2.2.2.2.2.2.2.2.2.2.2.2.2.2.2.2.2.2.2.2.2.2.2.2.2.2.2.2.2.2.2.2.2.2.2 (ce_1055 E _ _ _) e36 dX10_copy_188 ?_
      obtain ⟨m37, e38, hf⟩ := ob hf
      refine m_last C hI h_a0.2.2.2.2.2.2.2.2.2.2.2.2.2.2.2.1 (ce_1022 E _) e38 dX10_copy_189 (fun H locs hI => ?_)
      refine lv_iinc (v := a6 + (1 : Int32)) hx hb dX10_copy_190 hl (k := 4) rfl (ki_1 _) (by decide) rfl (fun ls hl => ?_)
      have hl : lv_has ls 7 [(6, .int (a6 + (1 : Int32))), (0, .ref (ad E 1000 0)), (3, .int a3), (4, .int a4), (5, .int a5)] := hl
      refine lv_goto (tgt := 161) hx hb dX10_copy_193 rfl ?_
      exact ih _ _ _ _ _ h_a0 hf hI (lv_sub hl [1, 2, 3, 4, 0] rfl)
def f_X10_copy_b124 (F : Nat) : Nat → Mm → Int32 → Int32 → Int32 → Int32 → Int32 → Int32 → Option (Int32 × Mm)
 | 0, _, _, _, _, _, _, _ => none
 | N + 1, μ, a1, a2, a3, a4, a5, a6 =>
 if a5 ≤ a6 then
 f_X10_copy_b161 F F μ a3 a4 a5 (0 : Int32)
 else
 (rl μ 1022 0 600 ((((100 : Int32) * a1) + a2) + a6)).bind fun v39 =>
 (wg μ 1055 0 100 a6 v39).bind fun m41 =>
 f_X10_copy_b124 F N m41 a1 a2 a3 a4 a5 (a6 + (1 : Int32))
set_option maxHeartbeats 4000000 in
set_option maxRecDepth 100000 in
theorem cb_X10_copy_124 {l : Launch} {E : En} {p : Program} {e : Env} {s : State} {m : MethodId} {av : Array Value} {below : List Frame} {meth : Method} {c : Code} (C : Cx E p s m av c cX10_copy 7 yX10_copy.cls) (hr : meth.sig.returnType = (some .int)) (hlk : meth.locks = false) {F : Nat} {z : Int32 × Mm} : ∀ (N : Nat) (μ : Mm) (a1 : Int32) (a2 : Int32) (a3 : Int32) (a4 : Int32) (a5 : Int32) (a6 : Int32) (h_a0 : l10 E 0), f_X10_copy_b124 F N μ a1 a2 a3 a4 a5 a6 = some z → ∀ {H : Heap} {locs : List Loc} {ls : Array Slot}, Iv E s μ H locs → lv_has ls 7 [(0, .ref (ad E 1000 0)), (1, .int a1), (2, .int a2), (3, .int a3), (4, .int a4), (5, .int a5), (6, .int a6)] → W p l e { frames := 2, cells := 0, slots := 0, locals := 42 } s m av below meth c H locs 0 0 (MQ below (Qm E (some (.int z.1)) z.2) av s 0 0 (Ad E)) (F0 m 124 ls []) := by
  have hx := C.1.1
  have hb := C.1.2.1
  intro N
  induction N with
  | zero => intro μ a1 a2 a3 a4 a5 a6 h_a0 hf; cases hf
  | succ N ih =>
    intro μ a1 a2 a3 a4 a5 a6 h_a0 hf H locs ls hI hl
    rw [f_X10_copy_b124] at hf
    refine lv_iload hx hb dX10_copy_124 (lv_at hl 6 rfl) ?_
    refine lv_iload hx hb dX10_copy_126 (lv_at hl 5 rfl) ?_
    refine lv_icmp_ge (tgt := 158) hx hb dX10_copy_128 rfl (fun hc => ?_) (fun hc => ?_)
    · replace hf := it hf hc
      refine lv_iconst (v := (0 : Int32)) hx hb dX10_copy_158 kc_0 ?_
      refine lv_istore hx hb dX10_copy_159 hl (by decide) rfl (fun ls hl => ?_)
      have hl : lv_has ls 7 [(6, .int (0 : Int32)), (0, .ref (ad E 1000 0)), (1, .int a1), (2, .int a2), (3, .int a3), (4, .int a4), (5, .int a5)] := hl
      exact cb_X10_copy_161 C hr hlk  _ _ _ _ _ _ h_a0 hf hI (lv_sub hl [1, 4, 5, 6, 0] rfl)
    · replace hf := ie hf hc
      refine lv_aload_n hx hb dX10_copy_131 rfl (lv_at hl 0 rfl) ?_
      refine gf_10_54 C hI h_a0.1 fl_X10_130 dX10_copy_132 ?_
      refine lv_iload hx hb dX10_copy_135 (lv_at hl 6 rfl) ?_
      refine lv_aload_n hx hb dX10_copy_137 rfl (lv_at hl 0 rfl) ?_
      refine gf_10_21 C hI h_a0.1 fl_X10_63 dX10_copy_138 ?_
      refine lv_bipush (v := (100 : Int32)) hx hb dX10_copy_141 kb_100 ?_
      refine lv_iload_n hx hb dX10_copy_143 rfl (lv_at hl 1 rfl) ?_
      refine lv_imul hx hb dX10_copy_144 ?_
      refine lv_iload_n hx hb dX10_copy_145 rfl (lv_at hl 2 rfl) ?_
      refine lv_iadd hx hb dX10_copy_146 ?_
      refine lv_iload hx hb dX10_copy_147 (lv_at hl 6 rfl) ?_
      refine lv_iadd hx hb dX10_copy_149 ?_
      obtain ⟨v39, e40, hf⟩ := ob hf
      refine m_lald C hI h_a0.2.2.2.2.2.2.2.2.2.2.2.2.2.2.2.1 (ce_1022 E _ _ _) e40 dX10_copy_150 ?_
      obtain ⟨m41, e42, hf⟩ := ob hf
      refine m_last C hI h_a0.2.2.2.2.2.2.2.2.2.2.2.2.2.2.2.2.2.2.2.2.2.2.2.2.2.2.2.2.2.2.2.2.2.2.2.2.2 (ce_1055 E _) e42 dX10_copy_151 (fun H locs hI => ?_)
      refine lv_iinc (v := a6 + (1 : Int32)) hx hb dX10_copy_152 hl (k := 6) rfl (ki_1 _) (by decide) rfl (fun ls hl => ?_)
      have hl : lv_has ls 7 [(6, .int (a6 + (1 : Int32))), (0, .ref (ad E 1000 0)), (1, .int a1), (2, .int a2), (3, .int a3), (4, .int a4), (5, .int a5)] := hl
      refine lv_goto (tgt := 124) hx hb dX10_copy_155 rfl ?_
      exact ih _ _ _ _ _ _ _ h_a0 hf hI (lv_sub hl [1, 2, 3, 4, 5, 6, 0] rfl)
def f_X10_copy (F : Nat) (μ : Mm) (p1 : Int32) (p2 : Int32) (p3 : Int32) (p4 : Int32) (p5 : Int32) : Option (Int32 × Mm) :=
 (f_X10_isTape μ p1).bind fun q43 =>
 if q43 = 0 then
 some ((-1 : Int32), μ)
 else
 (f_X10_isTape μ p3).bind fun q45 =>
 if q45 = 0 then
 some ((-1 : Int32), μ)
 else
 (ra μ 1020 0 6 p1).bind fun v47 =>
 if v47 = 0 then
 (f_X10_refuse μ (-11 : Int32)).bind fun q49 =>
 some (q49.1, q49.2)
 else
 (ra μ 1020 0 6 p3).bind fun v51 =>
 if v51 = 0 then
 (f_X10_refuse μ (-11 : Int32)).bind fun q67 =>
 some (q67.1, q67.2)
 else
 (ra μ 1020 0 6 p1).bind fun v53 =>
 if v53 = (5 : Int32) then
 (f_X10_refuse μ (-12 : Int32)).bind fun q55 =>
 some (q55.1, q55.2)
 else
 (ra μ 1020 0 6 p1).bind fun v57 =>
 (ra μ 1020 0 6 p3).bind fun v59 =>
 if v57 = v59 then
 if p5 < 0 then
 f_X10_copy_b114 F μ 
 else
 if p2 < 0 then
 f_X10_copy_b114 F μ 
 else
 if p4 < 0 then
 f_X10_copy_b114 F μ 
 else
 (ra μ 1021 0 6 p1).bind fun v61 =>
 if (v61 - p2) < p5 then
 f_X10_copy_b114 F μ 
 else
 (ra μ 1021 0 6 p3).bind fun v63 =>
 if p5 ≤ (v63 - p4) then
 f_X10_copy_b124 F F μ p1 p2 p3 p4 p5 (0 : Int32)
 else
 f_X10_copy_b114 F μ 
 else
 (f_X10_refuse μ (-12 : Int32)).bind fun q65 =>
 some (q65.1, q65.2)
set_option maxHeartbeats 4000000 in
set_option maxRecDepth 100000 in
theorem c_X10_copy (l : Launch) (E : En) {F : Nat} {μ : Mm} {p1 : Int32} {p2 : Int32} {p3 : Int32} {p4 : Int32} {p5 : Int32} (h0 : l10 E 0) {z : Int32 × Mm} (hf : f_X10_copy F μ p1 p2 p3 p4 p5 = some z) : Met l yX10_copy (wt yX10_copy cX10_copy 7 (some .int)) { frames := 2, cells := 0, slots := 0, locals := 42 } (Pm E [.ref (ad E 1000 0), .int p1, .int p2, .int p3, .int p4, .int p5] μ) (Qm E (some (.int z.1)) z.2) 0 0 (Ad E) := by
  unfold f_X10_copy at hf
  refine met_of (cc := cX10_copy) (nL := 7) (ret := (some .int)) (by decide) _ (Nat.le_of_ble_eq_true rfl) ?_
  intro p e s m below meth c C hr hlk hI ls hl
  have hx := C.1.1
  have hb := C.1.2.1
  have hl : lv_has ls 7 [(0, .ref (ad E 1000 0)), (1, .int p1), (2, .int p2), (3, .int p3), (4, .int p4), (5, .int p5)] := hl
  refine lv_iload_n hx hb dX10_copy_0 rfl (lv_at hl 1 rfl) ?_
  obtain ⟨q43, e44, hf⟩ := ob hf
  refine mcS (As := [.int p1]) (rest := []) C hI (c_X10_isTape l E  e44) ml_X10_330 ks_X10_isTape rfl rfl ⟨Nat.le_of_ble_eq_true rfl, Nat.le_of_ble_eq_true rfl⟩ ⟨Nat.zero_le _, Nat.zero_le _⟩ rfl rfl hl.1 (Nat.le_of_ble_eq_true rfl) dX10_copy_1 (st1 := [.int q43]) rfl (fun H locs hI => ?_)
  refine lv_if_eq (tgt := 14) hx hb dX10_copy_4 rfl (fun hc => ?_) (fun hc => ?_)
  · replace hf := it hf hc
    refine lv_iconst (v := (-1 : Int32)) hx hb dX10_copy_14 kc_m1 ?_
    obtain rfl := Option.some.inj hf
    exact m_iret C hr hlk hI dX10_copy_15
  · replace hf := ie hf hc
    refine lv_iload_n hx hb dX10_copy_7 rfl (lv_at hl 3 rfl) ?_
    obtain ⟨q45, e46, hf⟩ := ob hf
    refine mcS (As := [.int p3]) (rest := []) C hI (c_X10_isTape l E  e46) ml_X10_330 ks_X10_isTape rfl rfl ⟨Nat.le_of_ble_eq_true rfl, Nat.le_of_ble_eq_true rfl⟩ ⟨Nat.zero_le _, Nat.zero_le _⟩ rfl rfl hl.1 (Nat.le_of_ble_eq_true rfl) dX10_copy_8 (st1 := [.int q45]) rfl (fun H locs hI => ?_)
    refine lv_if_ne (tgt := 16) hx hb dX10_copy_11 rfl (fun hc => ?_) (fun hc => ?_)
    · replace hf := ie hf hc
      refine lv_aload_n hx hb dX10_copy_16 rfl (lv_at hl 0 rfl) ?_
      refine gf_10_19 C hI h0.1 fl_X10_57 dX10_copy_17 ?_
      refine lv_iload_n hx hb dX10_copy_20 rfl (lv_at hl 1 rfl) ?_
      obtain ⟨v47, e48, hf⟩ := ob hf
      refine m_iald C hI h0.2.2.2.2.2.2.2.2.2.2.2.2.2.1 (ce_1020 E _ _ _) e48 dX10_copy_21 ?_
      refine lv_if_eq (tgt := 34) hx hb dX10_copy_22 rfl (fun hc => ?_) (fun hc => ?_)
      · replace hf := it hf hc
        refine lv_aload_n hx hb dX10_copy_34 rfl (lv_at hl 0 rfl) ?_
        refine lv_bipush (v := (-11 : Int32)) hx hb dX10_copy_35 kb_m11 ?_
        obtain ⟨q49, e50, hf⟩ := ob hf
        refine mcV (As := [.int (-11 : Int32)]) (rest := []) C hI (c_X10_refuse l E h0 e50) ml_X10_333 kv_X10_refuse (m_recv C hI h0.1 (ce_1000 E _ _ _) rfl) rfl rfl ⟨Nat.le_of_ble_eq_true rfl, Nat.le_of_ble_eq_true rfl⟩ ⟨Nat.zero_le _, Nat.zero_le _⟩ rfl rfl hl.1 (Nat.le_of_ble_eq_true rfl) dX10_copy_37 (st1 := [.int q49.1]) rfl (fun H locs hI => ?_)
        obtain rfl := Option.some.inj hf
        exact m_iret C hr hlk hI dX10_copy_40
      · replace hf := ie hf hc
        refine lv_aload_n hx hb dX10_copy_25 rfl (lv_at hl 0 rfl) ?_
        refine gf_10_19 C hI h0.1 fl_X10_57 dX10_copy_26 ?_
        refine lv_iload_n hx hb dX10_copy_29 rfl (lv_at hl 3 rfl) ?_
        obtain ⟨v51, e52, hf⟩ := ob hf
        refine m_iald C hI h0.2.2.2.2.2.2.2.2.2.2.2.2.2.1 (ce_1020 E _ _ _) e52 dX10_copy_30 ?_
        refine lv_if_ne (tgt := 41) hx hb dX10_copy_31 rfl (fun hc => ?_) (fun hc => ?_)
        · replace hf := ie hf hc
          refine lv_aload_n hx hb dX10_copy_41 rfl (lv_at hl 0 rfl) ?_
          refine gf_10_19 C hI h0.1 fl_X10_57 dX10_copy_42 ?_
          refine lv_iload_n hx hb dX10_copy_45 rfl (lv_at hl 1 rfl) ?_
          obtain ⟨v53, e54, hf⟩ := ob hf
          refine m_iald C hI h0.2.2.2.2.2.2.2.2.2.2.2.2.2.1 (ce_1020 E _ _ _) e54 dX10_copy_46 ?_
          refine lv_iconst (v := (5 : Int32)) hx hb dX10_copy_47 kc_5 ?_
          refine lv_icmp_eq (tgt := 66) hx hb dX10_copy_48 rfl (fun hc => ?_) (fun hc => ?_)
          · replace hf := it hf hc
            refine lv_aload_n hx hb dX10_copy_66 rfl (lv_at hl 0 rfl) ?_
            refine lv_bipush (v := (-12 : Int32)) hx hb dX10_copy_67 kb_m12 ?_
            obtain ⟨q55, e56, hf⟩ := ob hf
            refine mcV (As := [.int (-12 : Int32)]) (rest := []) C hI (c_X10_refuse l E h0 e56) ml_X10_333 kv_X10_refuse (m_recv C hI h0.1 (ce_1000 E _ _ _) rfl) rfl rfl ⟨Nat.le_of_ble_eq_true rfl, Nat.le_of_ble_eq_true rfl⟩ ⟨Nat.zero_le _, Nat.zero_le _⟩ rfl rfl hl.1 (Nat.le_of_ble_eq_true rfl) dX10_copy_69 (st1 := [.int q55.1]) rfl (fun H locs hI => ?_)
            obtain rfl := Option.some.inj hf
            exact m_iret C hr hlk hI dX10_copy_72
          · replace hf := ie hf hc
            refine lv_aload_n hx hb dX10_copy_51 rfl (lv_at hl 0 rfl) ?_
            refine gf_10_19 C hI h0.1 fl_X10_57 dX10_copy_52 ?_
            refine lv_iload_n hx hb dX10_copy_55 rfl (lv_at hl 1 rfl) ?_
            obtain ⟨v57, e58, hf⟩ := ob hf
            refine m_iald C hI h0.2.2.2.2.2.2.2.2.2.2.2.2.2.1 (ce_1020 E _ _ _) e58 dX10_copy_56 ?_
            refine lv_aload_n hx hb dX10_copy_57 rfl (lv_at hl 0 rfl) ?_
            refine gf_10_19 C hI h0.1 fl_X10_57 dX10_copy_58 ?_
            refine lv_iload_n hx hb dX10_copy_61 rfl (lv_at hl 3 rfl) ?_
            obtain ⟨v59, e60, hf⟩ := ob hf
            refine m_iald C hI h0.2.2.2.2.2.2.2.2.2.2.2.2.2.1 (ce_1020 E _ _ _) e60 dX10_copy_62 ?_
            refine lv_icmp_eq (tgt := 73) hx hb dX10_copy_63 rfl (fun hc => ?_) (fun hc => ?_)
            · replace hf := it hf hc
              refine lv_iload hx hb dX10_copy_73 (lv_at hl 5 rfl) ?_
              refine lv_if_lt (tgt := 114) hx hb dX10_copy_75 rfl (fun hc => ?_) (fun hc => ?_)
              · replace hf := it hf hc
                exact cb_X10_copy_114 C hr hlk  _  h0 hf hI (lv_sub hl [0] rfl)
              · replace hf := ie hf hc
                refine lv_iload_n hx hb dX10_copy_78 rfl (lv_at hl 2 rfl) ?_
                refine lv_if_lt (tgt := 114) hx hb dX10_copy_79 rfl (fun hc => ?_) (fun hc => ?_)
                · replace hf := it hf hc
                  exact cb_X10_copy_114 C hr hlk  _  h0 hf hI (lv_sub hl [0] rfl)
                · replace hf := ie hf hc
                  refine lv_iload hx hb dX10_copy_82 (lv_at hl 4 rfl) ?_
                  refine lv_if_lt (tgt := 114) hx hb dX10_copy_84 rfl (fun hc => ?_) (fun hc => ?_)
                  · replace hf := it hf hc
                    exact cb_X10_copy_114 C hr hlk  _  h0 hf hI (lv_sub hl [0] rfl)
                  · replace hf := ie hf hc
                    refine lv_iload hx hb dX10_copy_87 (lv_at hl 5 rfl) ?_
                    refine lv_aload_n hx hb dX10_copy_89 rfl (lv_at hl 0 rfl) ?_
                    refine gf_10_20 C hI h0.1 fl_X10_60 dX10_copy_90 ?_
                    refine lv_iload_n hx hb dX10_copy_93 rfl (lv_at hl 1 rfl) ?_
                    obtain ⟨v61, e62, hf⟩ := ob hf
                    refine m_iald C hI h0.2.2.2.2.2.2.2.2.2.2.2.2.2.2.1 (ce_1021 E _ _ _) e62 dX10_copy_94 ?_
                    refine lv_iload_n hx hb dX10_copy_95 rfl (lv_at hl 2 rfl) ?_
                    refine lv_isub hx hb dX10_copy_96 ?_
                    refine lv_icmp_gt (tgt := 114) hx hb dX10_copy_97 rfl (fun hc => ?_) (fun hc => ?_)
                    · replace hf := it hf hc
                      exact cb_X10_copy_114 C hr hlk  _  h0 hf hI (lv_sub hl [0] rfl)
                    · replace hf := ie hf hc
                      refine lv_iload hx hb dX10_copy_100 (lv_at hl 5 rfl) ?_
                      refine lv_aload_n hx hb dX10_copy_102 rfl (lv_at hl 0 rfl) ?_
                      refine gf_10_20 C hI h0.1 fl_X10_60 dX10_copy_103 ?_
                      refine lv_iload_n hx hb dX10_copy_106 rfl (lv_at hl 3 rfl) ?_
                      obtain ⟨v63, e64, hf⟩ := ob hf
                      refine m_iald C hI h0.2.2.2.2.2.2.2.2.2.2.2.2.2.2.1 (ce_1021 E _ _ _) e64 dX10_copy_107 ?_
                      refine lv_iload hx hb dX10_copy_108 (lv_at hl 4 rfl) ?_
                      refine lv_isub hx hb dX10_copy_110 ?_
                      refine lv_icmp_le (tgt := 121) hx hb dX10_copy_111 rfl (fun hc => ?_) (fun hc => ?_)
                      · replace hf := it hf hc
                        refine lv_iconst (v := (0 : Int32)) hx hb dX10_copy_121 kc_0 ?_
                        refine lv_istore hx hb dX10_copy_122 hl (by decide) rfl (fun ls hl => ?_)
                        have hl : lv_has ls 7 [(6, .int (0 : Int32)), (0, .ref (ad E 1000 0)), (1, .int p1), (2, .int p2), (3, .int p3), (4, .int p4), (5, .int p5)] := hl
                        exact cb_X10_copy_124 C hr hlk  _ _ _ _ _ _ _ _ h0 hf hI (lv_sub hl [1, 2, 3, 4, 5, 6, 0] rfl)
                      · replace hf := ie hf hc
                        exact cb_X10_copy_114 C hr hlk  _  h0 hf hI (lv_sub hl [0] rfl)
            · replace hf := ie hf hc
              refine lv_aload_n hx hb dX10_copy_66 rfl (lv_at hl 0 rfl) ?_
              refine lv_bipush (v := (-12 : Int32)) hx hb dX10_copy_67 kb_m12 ?_
              obtain ⟨q65, e66, hf⟩ := ob hf
              refine mcV (As := [.int (-12 : Int32)]) (rest := []) C hI (c_X10_refuse l E h0 e66) ml_X10_333 kv_X10_refuse (m_recv C hI h0.1 (ce_1000 E _ _ _) rfl) rfl rfl ⟨Nat.le_of_ble_eq_true rfl, Nat.le_of_ble_eq_true rfl⟩ ⟨Nat.zero_le _, Nat.zero_le _⟩ rfl rfl hl.1 (Nat.le_of_ble_eq_true rfl) dX10_copy_69 (st1 := [.int q65.1]) rfl (fun H locs hI => ?_)
              obtain rfl := Option.some.inj hf
              exact m_iret C hr hlk hI dX10_copy_72
        · replace hf := it hf hc
          refine lv_aload_n hx hb dX10_copy_34 rfl (lv_at hl 0 rfl) ?_
          refine lv_bipush (v := (-11 : Int32)) hx hb dX10_copy_35 kb_m11 ?_
          obtain ⟨q67, e68, hf⟩ := ob hf
          refine mcV (As := [.int (-11 : Int32)]) (rest := []) C hI (c_X10_refuse l E h0 e68) ml_X10_333 kv_X10_refuse (m_recv C hI h0.1 (ce_1000 E _ _ _) rfl) rfl rfl ⟨Nat.le_of_ble_eq_true rfl, Nat.le_of_ble_eq_true rfl⟩ ⟨Nat.zero_le _, Nat.zero_le _⟩ rfl rfl hl.1 (Nat.le_of_ble_eq_true rfl) dX10_copy_37 (st1 := [.int q67.1]) rfl (fun H locs hI => ?_)
          obtain rfl := Option.some.inj hf
          exact m_iret C hr hlk hI dX10_copy_40
    · replace hf := it hf hc
      refine lv_iconst (v := (-1 : Int32)) hx hb dX10_copy_14 kc_m1 ?_
      obtain rfl := Option.some.inj hf
      exact m_iret C hr hlk hI dX10_copy_15

theorem dX10_count_0 : decode cX10_count 0 = .ok (.iload_n 1, 1) := by decide +kernel
theorem dX10_count_1 : decode cX10_count 1 = .ok (.tableswitch 78 0 6 #[43, 48, 53, 58, 63, 68, 73], 43) := by decide +kernel
theorem dX10_count_44 : decode cX10_count 44 = .ok (.aload_n 0, 1) := by decide +kernel
theorem dX10_count_45 : decode cX10_count 45 = .ok (.getfield 7, 3) := by decide +kernel
theorem dX10_count_48 : decode cX10_count 48 = .ok (.ireturn, 1) := by decide +kernel
theorem dX10_count_49 : decode cX10_count 49 = .ok (.aload_n 0, 1) := by decide +kernel
theorem dX10_count_50 : decode cX10_count 50 = .ok (.getfield 13, 3) := by decide +kernel
theorem dX10_count_53 : decode cX10_count 53 = .ok (.ireturn, 1) := by decide +kernel
theorem dX10_count_54 : decode cX10_count 54 = .ok (.aload_n 0, 1) := by decide +kernel
theorem dX10_count_55 : decode cX10_count 55 = .ok (.getfield 16, 3) := by decide +kernel
theorem dX10_count_58 : decode cX10_count 58 = .ok (.ireturn, 1) := by decide +kernel
theorem dX10_count_59 : decode cX10_count 59 = .ok (.aload_n 0, 1) := by decide +kernel
theorem dX10_count_60 : decode cX10_count 60 = .ok (.invokevirtual 156, 3) := by decide +kernel
theorem dX10_count_63 : decode cX10_count 63 = .ok (.ireturn, 1) := by decide +kernel
theorem dX10_count_64 : decode cX10_count 64 = .ok (.aload_n 0, 1) := by decide +kernel
theorem dX10_count_65 : decode cX10_count 65 = .ok (.getfield 143, 3) := by decide +kernel
theorem dX10_count_68 : decode cX10_count 68 = .ok (.ireturn, 1) := by decide +kernel
theorem dX10_count_69 : decode cX10_count 69 = .ok (.aload_n 0, 1) := by decide +kernel
theorem dX10_count_70 : decode cX10_count 70 = .ok (.getfield 146, 3) := by decide +kernel
theorem dX10_count_73 : decode cX10_count 73 = .ok (.ireturn, 1) := by decide +kernel
theorem dX10_count_74 : decode cX10_count 74 = .ok (.aload_n 0, 1) := by decide +kernel
theorem dX10_count_75 : decode cX10_count 75 = .ok (.getfield 140, 3) := by decide +kernel
theorem dX10_count_78 : decode cX10_count 78 = .ok (.ireturn, 1) := by decide +kernel
theorem dX10_count_79 : decode cX10_count 79 = .ok (.aload_n 0, 1) := by decide +kernel
theorem dX10_count_80 : decode cX10_count 80 = .ok (.iload_n 1, 1) := by decide +kernel
theorem dX10_count_81 : decode cX10_count 81 = .ok (.bipush 10, 2) := by decide +kernel
theorem dX10_count_83 : decode cX10_count 83 = .ok (.isub, 1) := by decide +kernel
theorem dX10_count_84 : decode cX10_count 84 = .ok (.invokevirtual 153, 3) := by decide +kernel
theorem dX10_count_87 : decode cX10_count 87 = .ok (.ifCond .eq 15, 3) := by decide +kernel
theorem dX10_count_90 : decode cX10_count 90 = .ok (.aload_n 0, 1) := by decide +kernel
theorem dX10_count_91 : decode cX10_count 91 = .ok (.getfield 29, 3) := by decide +kernel
theorem dX10_count_94 : decode cX10_count 94 = .ok (.iload_n 1, 1) := by decide +kernel
theorem dX10_count_95 : decode cX10_count 95 = .ok (.bipush 10, 2) := by decide +kernel
theorem dX10_count_97 : decode cX10_count 97 = .ok (.isub, 1) := by decide +kernel
theorem dX10_count_98 : decode cX10_count 98 = .ok (.iaload, 1) := by decide +kernel
theorem dX10_count_99 : decode cX10_count 99 = .ok (.goto 4, 3) := by decide +kernel
theorem dX10_count_102 : decode cX10_count 102 = .ok (.iconst (-1), 1) := by decide +kernel
theorem dX10_count_103 : decode cX10_count 103 = .ok (.ireturn, 1) := by decide +kernel
def f_X10_count (μ : Mm) (p1 : Int32) : Option Int32 :=
 if p1 = (0 : Int32) then
 some (μ.1 1000 0 1)
 else
 if p1 = (1 : Int32) then
 some (μ.1 1000 0 2)
 else
 if p1 = (2 : Int32) then
 some (μ.1 1000 0 3)
 else
 if p1 = (3 : Int32) then
 (f_X10_all μ).bind fun q11 =>
 some q11
 else
 if p1 = (4 : Int32) then
 some (μ.1 1000 0 12)
 else
 if p1 = (5 : Int32) then
 some (μ.1 1000 0 17)
 else
 if p1 = (6 : Int32) then
 some (μ.1 1000 0 18)
 else
 (f_X10_isProcessor μ (p1 - (10 : Int32))).bind fun q7 =>
 if q7 = 0 then
 some (-1 : Int32)
 else
 (ra μ 1008 0 21 (p1 - (10 : Int32))).bind fun v9 =>
 some v9
set_option maxHeartbeats 4000000 in
set_option maxRecDepth 100000 in
theorem c_X10_count (l : Launch) (E : En) {μ : Mm} {p1 : Int32} (h0 : l10 E 0) {z : Int32} (hf : f_X10_count μ p1 = some z) : Met l yX10_count (wt yX10_count cX10_count 2 (some .int)) { frames := 2, cells := 0, slots := 0, locals := 43 } (Pm E [.ref (ad E 1000 0), .int p1] μ) (Qm E (some (.int z)) μ) 0 0 (Ad E) := by
  unfold f_X10_count at hf
  refine met_of (cc := cX10_count) (nL := 2) (ret := (some .int)) (by decide) _ (Nat.le_of_ble_eq_true rfl) ?_
  intro p e s m below meth c C hr hlk hI ls hl
  have hx := C.1.1
  have hb := C.1.2.1
  have hl : lv_has ls 2 [(0, .ref (ad E 1000 0)), (1, .int p1)] := hl
  refine lv_iload_n hx hb dX10_count_0 rfl (lv_at hl 1 rfl) ?_
  by_cases hn0 : p1 = (0 : Int32)
  · replace hf := it hf hn0
    refine lv_tableIn (tgt := 44) (off := 43) hx hb dX10_count_1 (by rw [hn0]; decide) (by rw [hn0]; decide) (by rw [hn0]; rfl) rfl ?_
    refine lv_aload_n hx hb dX10_count_44 rfl (lv_at hl 0 rfl) ?_
    refine gf_10_1 C hI h0.1 fl_X10_7 dX10_count_45 ?_
    obtain rfl := Option.some.inj hf
    exact m_iret C hr hlk hI dX10_count_48
  replace hf := ie hf hn0
  by_cases hn1 : p1 = (1 : Int32)
  · replace hf := it hf hn1
    refine lv_tableIn (tgt := 49) (off := 48) hx hb dX10_count_1 (by rw [hn1]; decide) (by rw [hn1]; decide) (by rw [hn1]; rfl) rfl ?_
    refine lv_aload_n hx hb dX10_count_49 rfl (lv_at hl 0 rfl) ?_
    refine gf_10_2 C hI h0.1 fl_X10_13 dX10_count_50 ?_
    obtain rfl := Option.some.inj hf
    exact m_iret C hr hlk hI dX10_count_53
  replace hf := ie hf hn1
  by_cases hn2 : p1 = (2 : Int32)
  · replace hf := it hf hn2
    refine lv_tableIn (tgt := 54) (off := 53) hx hb dX10_count_1 (by rw [hn2]; decide) (by rw [hn2]; decide) (by rw [hn2]; rfl) rfl ?_
    refine lv_aload_n hx hb dX10_count_54 rfl (lv_at hl 0 rfl) ?_
    refine gf_10_3 C hI h0.1 fl_X10_16 dX10_count_55 ?_
    obtain rfl := Option.some.inj hf
    exact m_iret C hr hlk hI dX10_count_58
  replace hf := ie hf hn2
  by_cases hn3 : p1 = (3 : Int32)
  · replace hf := it hf hn3
    refine lv_tableIn (tgt := 59) (off := 58) hx hb dX10_count_1 (by rw [hn3]; decide) (by rw [hn3]; decide) (by rw [hn3]; rfl) rfl ?_
    refine lv_aload_n hx hb dX10_count_59 rfl (lv_at hl 0 rfl) ?_
    obtain ⟨q11, e12, hf⟩ := ob hf
    refine mcV (As := []) (rest := []) C hI (c_X10_all l E h0 e12) ml_X10_156 kv_X10_all (m_recv C hI h0.1 (ce_1000 E _ _ _) rfl) rfl rfl ⟨Nat.le_of_ble_eq_true rfl, Nat.le_of_ble_eq_true rfl⟩ ⟨Nat.zero_le _, Nat.zero_le _⟩ rfl rfl hl.1 (Nat.le_of_ble_eq_true rfl) dX10_count_60 (st1 := [.int q11]) rfl (fun H locs hI => ?_)
    obtain rfl := Option.some.inj hf
    exact m_iret C hr hlk hI dX10_count_63
  replace hf := ie hf hn3
  by_cases hn4 : p1 = (4 : Int32)
  · replace hf := it hf hn4
    refine lv_tableIn (tgt := 64) (off := 63) hx hb dX10_count_1 (by rw [hn4]; decide) (by rw [hn4]; decide) (by rw [hn4]; rfl) rfl ?_
    refine lv_aload_n hx hb dX10_count_64 rfl (lv_at hl 0 rfl) ?_
    refine gf_10_12 C hI h0.1 fl_X10_143 dX10_count_65 ?_
    obtain rfl := Option.some.inj hf
    exact m_iret C hr hlk hI dX10_count_68
  replace hf := ie hf hn4
  by_cases hn5 : p1 = (5 : Int32)
  · replace hf := it hf hn5
    refine lv_tableIn (tgt := 69) (off := 68) hx hb dX10_count_1 (by rw [hn5]; decide) (by rw [hn5]; decide) (by rw [hn5]; rfl) rfl ?_
    refine lv_aload_n hx hb dX10_count_69 rfl (lv_at hl 0 rfl) ?_
    refine gf_10_17 C hI h0.1 fl_X10_146 dX10_count_70 ?_
    obtain rfl := Option.some.inj hf
    exact m_iret C hr hlk hI dX10_count_73
  replace hf := ie hf hn5
  by_cases hn6 : p1 = (6 : Int32)
  · replace hf := it hf hn6
    refine lv_tableIn (tgt := 74) (off := 73) hx hb dX10_count_1 (by rw [hn6]; decide) (by rw [hn6]; decide) (by rw [hn6]; rfl) rfl ?_
    refine lv_aload_n hx hb dX10_count_74 rfl (lv_at hl 0 rfl) ?_
    refine gf_10_18 C hI h0.1 fl_X10_140 dX10_count_75 ?_
    obtain rfl := Option.some.inj hf
    exact m_iret C hr hlk hI dX10_count_78
  replace hf := ie hf hn6
  have a0_ := ts_ne (n := 0) hn0 (by decide)
  have a1_ := ts_ne (n := 1) hn1 (by decide)
  have a2_ := ts_ne (n := 2) hn2 (by decide)
  have a3_ := ts_ne (n := 3) hn3 (by decide)
  have a4_ := ts_ne (n := 4) hn4 (by decide)
  have a5_ := ts_ne (n := 5) hn5 (by decide)
  have a6_ := ts_ne (n := 6) hn6 (by decide)
  refine lv_tableOut (tgt := 79) hx hb dX10_count_1 (by omega) rfl ?_
  refine lv_aload_n hx hb dX10_count_79 rfl (lv_at hl 0 rfl) ?_
  refine lv_iload_n hx hb dX10_count_80 rfl (lv_at hl 1 rfl) ?_
  refine lv_bipush (v := (10 : Int32)) hx hb dX10_count_81 kb_10 ?_
  refine lv_isub hx hb dX10_count_83 ?_
  obtain ⟨q7, e8, hf⟩ := ob hf
  refine mcV (As := [.int (p1 - (10 : Int32))]) (rest := []) C hI (c_X10_isProcessor l E h0 e8) ml_X10_153 kv_X10_isProcessor (m_recv C hI h0.1 (ce_1000 E _ _ _) rfl) rfl rfl ⟨Nat.le_of_ble_eq_true rfl, Nat.le_of_ble_eq_true rfl⟩ ⟨Nat.zero_le _, Nat.zero_le _⟩ rfl rfl hl.1 (Nat.le_of_ble_eq_true rfl) dX10_count_84 (st1 := [.int q7]) rfl (fun H locs hI => ?_)
  refine lv_if_eq (tgt := 102) hx hb dX10_count_87 rfl (fun hc => ?_) (fun hc => ?_)
  · replace hf := it hf hc
    refine lv_iconst (v := (-1 : Int32)) hx hb dX10_count_102 kc_m1 ?_
    obtain rfl := Option.some.inj hf
    exact m_iret C hr hlk hI dX10_count_103
  · replace hf := ie hf hc
    refine lv_aload_n hx hb dX10_count_90 rfl (lv_at hl 0 rfl) ?_
    refine gf_10_7 C hI h0.1 fl_X10_29 dX10_count_91 ?_
    refine lv_iload_n hx hb dX10_count_94 rfl (lv_at hl 1 rfl) ?_
    refine lv_bipush (v := (10 : Int32)) hx hb dX10_count_95 kb_10 ?_
    refine lv_isub hx hb dX10_count_97 ?_
    obtain ⟨v9, e10, hf⟩ := ob hf
    refine m_iald C hI h0.2.2.2.2.1 (ce_1008 E _ _ _) e10 dX10_count_98 ?_
    refine lv_goto (tgt := 103) hx hb dX10_count_99 rfl ?_
    obtain rfl := Option.some.inj hf
    exact m_iret C hr hlk hI dX10_count_103

theorem dX10_does_0 : decode cX10_does 0 = .ok (.iload_n 1, 1) := by decide +kernel
theorem dX10_does_1 : decode cX10_does 1 = .ok (.tableswitch 199 0 8 #[51, 61, 93, 108, 130, 166, 176, 184, 192], 51) := by decide +kernel
theorem dX10_does_52 : decode cX10_does 52 = .ok (.aload_n 0, 1) := by decide +kernel
theorem dX10_does_53 : decode cX10_does 53 = .ok (.getfield 82, 3) := by decide +kernel
theorem dX10_does_56 : decode cX10_does 56 = .ok (.iload_n 2, 1) := by decide +kernel
theorem dX10_does_57 : decode cX10_does 57 = .ok (.iconst 1, 1) := by decide +kernel
theorem dX10_does_58 : decode cX10_does 58 = .ok (.iastore, 1) := by decide +kernel
theorem dX10_does_59 : decode cX10_does 59 = .ok (.goto 141, 3) := by decide +kernel
theorem dX10_does_62 : decode cX10_does 62 = .ok (.aload_n 0, 1) := by decide +kernel
theorem dX10_does_63 : decode cX10_does 63 = .ok (.getfield 173, 3) := by decide +kernel
theorem dX10_does_66 : decode cX10_does 66 = .ok (.ifCond .lt 13, 3) := by decide +kernel
theorem dX10_does_69 : decode cX10_does 69 = .ok (.aload_n 0, 1) := by decide +kernel
theorem dX10_does_70 : decode cX10_does 70 = .ok (.getfield 82, 3) := by decide +kernel
theorem dX10_does_73 : decode cX10_does 73 = .ok (.aload_n 0, 1) := by decide +kernel
theorem dX10_does_74 : decode cX10_does 74 = .ok (.getfield 173, 3) := by decide +kernel
theorem dX10_does_77 : decode cX10_does 77 = .ok (.iconst 1, 1) := by decide +kernel
theorem dX10_does_78 : decode cX10_does 78 = .ok (.iastore, 1) := by decide +kernel
theorem dX10_does_79 : decode cX10_does 79 = .ok (.aload_n 0, 1) := by decide +kernel
theorem dX10_does_80 : decode cX10_does 80 = .ok (.getfield 82, 3) := by decide +kernel
theorem dX10_does_83 : decode cX10_does 83 = .ok (.iload_n 2, 1) := by decide +kernel
theorem dX10_does_84 : decode cX10_does 84 = .ok (.iconst 2, 1) := by decide +kernel
theorem dX10_does_85 : decode cX10_does 85 = .ok (.iastore, 1) := by decide +kernel
theorem dX10_does_86 : decode cX10_does 86 = .ok (.aload_n 0, 1) := by decide +kernel
theorem dX10_does_87 : decode cX10_does 87 = .ok (.iload_n 2, 1) := by decide +kernel
theorem dX10_does_88 : decode cX10_does 88 = .ok (.putfield 173, 3) := by decide +kernel
theorem dX10_does_91 : decode cX10_does 91 = .ok (.goto 109, 3) := by decide +kernel
theorem dX10_does_94 : decode cX10_does 94 = .ok (.aload_n 0, 1) := by decide +kernel
theorem dX10_does_95 : decode cX10_does 95 = .ok (.getfield 82, 3) := by decide +kernel
theorem dX10_does_98 : decode cX10_does 98 = .ok (.iload_n 2, 1) := by decide +kernel
theorem dX10_does_99 : decode cX10_does 99 = .ok (.iconst 0, 1) := by decide +kernel
theorem dX10_does_100 : decode cX10_does 100 = .ok (.iastore, 1) := by decide +kernel
theorem dX10_does_101 : decode cX10_does 101 = .ok (.aload_n 0, 1) := by decide +kernel
theorem dX10_does_102 : decode cX10_does 102 = .ok (.iconst (-1), 1) := by decide +kernel
theorem dX10_does_103 : decode cX10_does 103 = .ok (.putfield 173, 3) := by decide +kernel
theorem dX10_does_106 : decode cX10_does 106 = .ok (.goto 94, 3) := by decide +kernel
theorem dX10_does_109 : decode cX10_does 109 = .ok (.aload_n 0, 1) := by decide +kernel
theorem dX10_does_110 : decode cX10_does 110 = .ok (.getfield 82, 3) := by decide +kernel
theorem dX10_does_113 : decode cX10_does 113 = .ok (.iload_n 2, 1) := by decide +kernel
theorem dX10_does_114 : decode cX10_does 114 = .ok (.iconst 3, 1) := by decide +kernel
theorem dX10_does_115 : decode cX10_does 115 = .ok (.iastore, 1) := by decide +kernel
theorem dX10_does_116 : decode cX10_does 116 = .ok (.aload_n 0, 1) := by decide +kernel
theorem dX10_does_117 : decode cX10_does 117 = .ok (.getfield 85, 3) := by decide +kernel
theorem dX10_does_120 : decode cX10_does 120 = .ok (.iload_n 2, 1) := by decide +kernel
theorem dX10_does_121 : decode cX10_does 121 = .ok (.iload_n 3, 1) := by decide +kernel
theorem dX10_does_122 : decode cX10_does 122 = .ok (.iastore, 1) := by decide +kernel
theorem dX10_does_123 : decode cX10_does 123 = .ok (.aload_n 0, 1) := by decide +kernel
theorem dX10_does_124 : decode cX10_does 124 = .ok (.iconst (-1), 1) := by decide +kernel
theorem dX10_does_125 : decode cX10_does 125 = .ok (.putfield 173, 3) := by decide +kernel
theorem dX10_does_128 : decode cX10_does 128 = .ok (.goto 72, 3) := by decide +kernel
theorem dX10_does_131 : decode cX10_does 131 = .ok (.aload_n 0, 1) := by decide +kernel
theorem dX10_does_132 : decode cX10_does 132 = .ok (.getfield 88, 3) := by decide +kernel
theorem dX10_does_135 : decode cX10_does 135 = .ok (.iload_n 3, 1) := by decide +kernel
theorem dX10_does_136 : decode cX10_does 136 = .ok (.iload_n 2, 1) := by decide +kernel
theorem dX10_does_137 : decode cX10_does 137 = .ok (.iastore, 1) := by decide +kernel
theorem dX10_does_138 : decode cX10_does 138 = .ok (.aload_n 0, 1) := by decide +kernel
theorem dX10_does_139 : decode cX10_does 139 = .ok (.getfield 82, 3) := by decide +kernel
theorem dX10_does_142 : decode cX10_does 142 = .ok (.iload_n 2, 1) := by decide +kernel
theorem dX10_does_143 : decode cX10_does 143 = .ok (.aload_n 0, 1) := by decide +kernel
theorem dX10_does_144 : decode cX10_does 144 = .ok (.getfield 82, 3) := by decide +kernel
theorem dX10_does_147 : decode cX10_does 147 = .ok (.iload_n 2, 1) := by decide +kernel
theorem dX10_does_148 : decode cX10_does 148 = .ok (.iaload, 1) := by decide +kernel
theorem dX10_does_149 : decode cX10_does 149 = .ok (.iconst 3, 1) := by decide +kernel
theorem dX10_does_150 : decode cX10_does 150 = .ok (.if_icmp .ne 7, 3) := by decide +kernel
theorem dX10_does_153 : decode cX10_does 153 = .ok (.iconst 1, 1) := by decide +kernel
theorem dX10_does_154 : decode cX10_does 154 = .ok (.goto 9, 3) := by decide +kernel
theorem dX10_does_157 : decode cX10_does 157 = .ok (.aload_n 0, 1) := by decide +kernel
theorem dX10_does_158 : decode cX10_does 158 = .ok (.getfield 82, 3) := by decide +kernel
theorem dX10_does_161 : decode cX10_does 161 = .ok (.iload_n 2, 1) := by decide +kernel
theorem dX10_does_162 : decode cX10_does 162 = .ok (.iaload, 1) := by decide +kernel
theorem dX10_does_163 : decode cX10_does 163 = .ok (.iastore, 1) := by decide +kernel
theorem dX10_does_164 : decode cX10_does 164 = .ok (.goto 36, 3) := by decide +kernel
theorem dX10_does_167 : decode cX10_does 167 = .ok (.aload_n 0, 1) := by decide +kernel
theorem dX10_does_168 : decode cX10_does 168 = .ok (.getfield 88, 3) := by decide +kernel
theorem dX10_does_171 : decode cX10_does 171 = .ok (.iload_n 3, 1) := by decide +kernel
theorem dX10_does_172 : decode cX10_does 172 = .ok (.iconst (-1), 1) := by decide +kernel
theorem dX10_does_173 : decode cX10_does 173 = .ok (.iastore, 1) := by decide +kernel
theorem dX10_does_174 : decode cX10_does 174 = .ok (.goto 26, 3) := by decide +kernel
theorem dX10_does_177 : decode cX10_does 177 = .ok (.aload_n 0, 1) := by decide +kernel
theorem dX10_does_178 : decode cX10_does 178 = .ok (.iconst 1, 1) := by decide +kernel
theorem dX10_does_179 : decode cX10_does 179 = .ok (.putfield 176, 3) := by decide +kernel
theorem dX10_does_182 : decode cX10_does 182 = .ok (.goto 18, 3) := by decide +kernel
theorem dX10_does_185 : decode cX10_does 185 = .ok (.aload_n 0, 1) := by decide +kernel
theorem dX10_does_186 : decode cX10_does 186 = .ok (.iconst 0, 1) := by decide +kernel
theorem dX10_does_187 : decode cX10_does 187 = .ok (.putfield 176, 3) := by decide +kernel
theorem dX10_does_190 : decode cX10_does 190 = .ok (.goto 10, 3) := by decide +kernel
theorem dX10_does_193 : decode cX10_does 193 = .ok (.aload_n 0, 1) := by decide +kernel
theorem dX10_does_194 : decode cX10_does 194 = .ok (.invokevirtual 187, 3) := by decide +kernel
theorem dX10_does_197 : decode cX10_does 197 = .ok (.goto 3, 3) := by decide +kernel
theorem dX10_does_200 : decode cX10_does 200 = .ok (.return_, 1) := by decide +kernel
def f_X10_does_b79 (F : Nat) (μ : Mm) (a2 : Int32) : Option Mm :=
 (wa μ 1028 0 8 a2 (2 : Int32)).bind fun m35 =>
 (wf m35 1000 0 31 a2).bind fun m37 =>
 some m37
set_option maxHeartbeats 4000000 in
set_option maxRecDepth 100000 in
theorem cb_X10_does_79 {l : Launch} {E : En} {p : Program} {e : Env} {s : State} {m : MethodId} {av : Array Value} {below : List Frame} {meth : Method} {c : Code} (C : Cx E p s m av c cX10_does 4 yX10_does.cls) (hr : meth.sig.returnType = (none : Option FieldType)) (hlk : meth.locks = false) {F : Nat} {z : Mm} : ∀ (μ : Mm) (a2 : Int32) (h_a0 : l10 E 0), f_X10_does_b79 F μ a2 = some z → ∀ {H : Heap} {locs : List Loc} {ls : Array Slot}, Iv E s μ H locs → lv_has ls 4 [(0, .ref (ad E 1000 0)), (2, .int a2)] → W p l e { frames := 1, cells := 0, slots := 0, locals := 21 } s m av below meth c H locs 0 0 (MQ below (Qm E none z) av s 0 0 (Ad E)) (F0 m 79 ls []) := by
  have hx := C.1.1
  have hb := C.1.2.1
  intro μ a2 h_a0 hf H locs ls hI hl
  unfold f_X10_does_b79 at hf
  refine lv_aload_n hx hb dX10_does_79 rfl (lv_at hl 0 rfl) ?_
  refine gf_10_27 C hI h_a0.1 fl_X10_82 dX10_does_80 ?_
  refine lv_iload_n hx hb dX10_does_83 rfl (lv_at hl 1 rfl) ?_
  refine lv_iconst (v := (2 : Int32)) hx hb dX10_does_84 kc_2 ?_
  obtain ⟨m35, e36, hf⟩ := ob hf
  refine m_iast C hI h_a0.2.2.2.2.2.2.2.2.2.2.2.2.2.2.2.2.2.2.2.2.2.1 (ce_1028 E _) e36 dX10_does_85 (fun H locs hI => ?_)
  refine lv_aload_n hx hb dX10_does_86 rfl (lv_at hl 0 rfl) ?_
  refine lv_iload_n hx hb dX10_does_87 rfl (lv_at hl 1 rfl) ?_
  obtain ⟨m37, e38, hf⟩ := ob hf
  refine pf_10_31 C hI h_a0.1 fl_X10_173 e38 dX10_does_88 (fun H locs hI => ?_)
  refine lv_goto (tgt := 200) hx hb dX10_does_91 rfl ?_
  obtain rfl := Option.some.inj hf
  exact m_vret C hr hlk hI dX10_does_200
def f_X10_does (F : Nat) (μ : Mm) (p1 : Int32) (p2 : Int32) (p3 : Int32) : Option Mm :=
 if p1 = (0 : Int32) then
 (wa μ 1028 0 8 p2 (1 : Int32)).bind fun m39 =>
 some m39
 else
 if p1 = (1 : Int32) then
 if (μ.1 1000 0 31) < 0 then
 f_X10_does_b79 F μ p2
 else
 (wa μ 1028 0 8 (μ.1 1000 0 31) (1 : Int32)).bind fun m41 =>
 f_X10_does_b79 F m41 p2
 else
 if p1 = (2 : Int32) then
 (wa μ 1028 0 8 p2 (0 : Int32)).bind fun m43 =>
 (wf m43 1000 0 31 (-1 : Int32)).bind fun m45 =>
 some m45
 else
 if p1 = (3 : Int32) then
 (wa μ 1028 0 8 p2 (3 : Int32)).bind fun m47 =>
 (wa m47 1029 0 8 p2 p3).bind fun m49 =>
 (wf m49 1000 0 31 (-1 : Int32)).bind fun m51 =>
 some m51
 else
 if p1 = (4 : Int32) then
 (wa μ 1030 0 4 p3 p2).bind fun m53 =>
 (ra m53 1028 0 8 p2).bind fun v55 =>
 if v55 = (3 : Int32) then
 (wa m53 1028 0 8 p2 (1 : Int32)).bind fun m61 =>
 some m61
 else
 (ra m53 1028 0 8 p2).bind fun v57 =>
 (wa m53 1028 0 8 p2 v57).bind fun m59 =>
 some m59
 else
 if p1 = (5 : Int32) then
 (wa μ 1030 0 4 p3 (-1 : Int32)).bind fun m63 =>
 some m63
 else
 if p1 = (6 : Int32) then
 (wf μ 1000 0 32 (1 : Int32)).bind fun m65 =>
 some m65
 else
 if p1 = (7 : Int32) then
 (wf μ 1000 0 32 (0 : Int32)).bind fun m67 =>
 some m67
 else
 if p1 = (8 : Int32) then
 (f_X10_loses F μ).bind fun q69 =>
 some q69
 else
 some μ
set_option maxHeartbeats 4000000 in
set_option maxRecDepth 100000 in
theorem c_X10_does (l : Launch) (E : En) {F : Nat} {μ : Mm} {p1 : Int32} {p2 : Int32} {p3 : Int32} (h0 : l10 E 0) {z : Mm} (hf : f_X10_does F μ p1 p2 p3 = some z) : Met l yX10_does (wt yX10_does cX10_does 4 (none : Option FieldType)) { frames := 1, cells := 0, slots := 0, locals := 21 } (Pm E [.ref (ad E 1000 0), .int p1, .int p2, .int p3] μ) (Qm E none z) 0 0 (Ad E) := by
  unfold f_X10_does at hf
  refine met_of (cc := cX10_does) (nL := 4) (ret := (none : Option FieldType)) (by decide) _ (Nat.le_of_ble_eq_true rfl) ?_
  intro p e s m below meth c C hr hlk hI ls hl
  have hx := C.1.1
  have hb := C.1.2.1
  have hl : lv_has ls 4 [(0, .ref (ad E 1000 0)), (1, .int p1), (2, .int p2), (3, .int p3)] := hl
  refine lv_iload_n hx hb dX10_does_0 rfl (lv_at hl 1 rfl) ?_
  by_cases hn0 : p1 = (0 : Int32)
  · replace hf := it hf hn0
    refine lv_tableIn (tgt := 52) (off := 51) hx hb dX10_does_1 (by rw [hn0]; decide) (by rw [hn0]; decide) (by rw [hn0]; rfl) rfl ?_
    refine lv_aload_n hx hb dX10_does_52 rfl (lv_at hl 0 rfl) ?_
    refine gf_10_27 C hI h0.1 fl_X10_82 dX10_does_53 ?_
    refine lv_iload_n hx hb dX10_does_56 rfl (lv_at hl 2 rfl) ?_
    refine lv_iconst (v := (1 : Int32)) hx hb dX10_does_57 kc_1 ?_
    obtain ⟨m39, e40, hf⟩ := ob hf
    refine m_iast C hI h0.2.2.2.2.2.2.2.2.2.2.2.2.2.2.2.2.2.2.2.2.2.1 (ce_1028 E _) e40 dX10_does_58 (fun H locs hI => ?_)
    refine lv_goto (tgt := 200) hx hb dX10_does_59 rfl ?_
    obtain rfl := Option.some.inj hf
    exact m_vret C hr hlk hI dX10_does_200
  replace hf := ie hf hn0
  by_cases hn1 : p1 = (1 : Int32)
  · replace hf := it hf hn1
    refine lv_tableIn (tgt := 62) (off := 61) hx hb dX10_does_1 (by rw [hn1]; decide) (by rw [hn1]; decide) (by rw [hn1]; rfl) rfl ?_
    refine lv_aload_n hx hb dX10_does_62 rfl (lv_at hl 0 rfl) ?_
    refine gf_10_31 C hI h0.1 fl_X10_173 dX10_does_63 ?_
    refine lv_if_lt (tgt := 79) hx hb dX10_does_66 rfl (fun hc => ?_) (fun hc => ?_)
    · replace hf := it hf hc
      exact cb_X10_does_79 C hr hlk  _ _ h0 hf hI (lv_sub hl [0, 2] rfl)
    · replace hf := ie hf hc
      refine lv_aload_n hx hb dX10_does_69 rfl (lv_at hl 0 rfl) ?_
      refine gf_10_27 C hI h0.1 fl_X10_82 dX10_does_70 ?_
      refine lv_aload_n hx hb dX10_does_73 rfl (lv_at hl 0 rfl) ?_
      refine gf_10_31 C hI h0.1 fl_X10_173 dX10_does_74 ?_
      refine lv_iconst (v := (1 : Int32)) hx hb dX10_does_77 kc_1 ?_
      obtain ⟨m41, e42, hf⟩ := ob hf
      refine m_iast C hI h0.2.2.2.2.2.2.2.2.2.2.2.2.2.2.2.2.2.2.2.2.2.1 (ce_1028 E _) e42 dX10_does_78 (fun H locs hI => ?_)
      exact cb_X10_does_79 C hr hlk  _ _ h0 hf hI (lv_sub hl [0, 2] rfl)
  replace hf := ie hf hn1
  by_cases hn2 : p1 = (2 : Int32)
  · replace hf := it hf hn2
    refine lv_tableIn (tgt := 94) (off := 93) hx hb dX10_does_1 (by rw [hn2]; decide) (by rw [hn2]; decide) (by rw [hn2]; rfl) rfl ?_
    refine lv_aload_n hx hb dX10_does_94 rfl (lv_at hl 0 rfl) ?_
    refine gf_10_27 C hI h0.1 fl_X10_82 dX10_does_95 ?_
    refine lv_iload_n hx hb dX10_does_98 rfl (lv_at hl 2 rfl) ?_
    refine lv_iconst (v := (0 : Int32)) hx hb dX10_does_99 kc_0 ?_
    obtain ⟨m43, e44, hf⟩ := ob hf
    refine m_iast C hI h0.2.2.2.2.2.2.2.2.2.2.2.2.2.2.2.2.2.2.2.2.2.1 (ce_1028 E _) e44 dX10_does_100 (fun H locs hI => ?_)
    refine lv_aload_n hx hb dX10_does_101 rfl (lv_at hl 0 rfl) ?_
    refine lv_iconst (v := (-1 : Int32)) hx hb dX10_does_102 kc_m1 ?_
    obtain ⟨m45, e46, hf⟩ := ob hf
    refine pf_10_31 C hI h0.1 fl_X10_173 e46 dX10_does_103 (fun H locs hI => ?_)
    refine lv_goto (tgt := 200) hx hb dX10_does_106 rfl ?_
    obtain rfl := Option.some.inj hf
    exact m_vret C hr hlk hI dX10_does_200
  replace hf := ie hf hn2
  by_cases hn3 : p1 = (3 : Int32)
  · replace hf := it hf hn3
    refine lv_tableIn (tgt := 109) (off := 108) hx hb dX10_does_1 (by rw [hn3]; decide) (by rw [hn3]; decide) (by rw [hn3]; rfl) rfl ?_
    refine lv_aload_n hx hb dX10_does_109 rfl (lv_at hl 0 rfl) ?_
    refine gf_10_27 C hI h0.1 fl_X10_82 dX10_does_110 ?_
    refine lv_iload_n hx hb dX10_does_113 rfl (lv_at hl 2 rfl) ?_
    refine lv_iconst (v := (3 : Int32)) hx hb dX10_does_114 kc_3 ?_
    obtain ⟨m47, e48, hf⟩ := ob hf
    refine m_iast C hI h0.2.2.2.2.2.2.2.2.2.2.2.2.2.2.2.2.2.2.2.2.2.1 (ce_1028 E _) e48 dX10_does_115 (fun H locs hI => ?_)
    refine lv_aload_n hx hb dX10_does_116 rfl (lv_at hl 0 rfl) ?_
    refine gf_10_28 C hI h0.1 fl_X10_85 dX10_does_117 ?_
    refine lv_iload_n hx hb dX10_does_120 rfl (lv_at hl 2 rfl) ?_
    refine lv_iload_n hx hb dX10_does_121 rfl (lv_at hl 3 rfl) ?_
    obtain ⟨m49, e50, hf⟩ := ob hf
    refine m_iast C hI h0.2.2.2.2.2.2.2.2.2.2.2.2.2.2.2.2.2.2.2.2.2.2.1 (ce_1029 E _) e50 dX10_does_122 (fun H locs hI => ?_)
    refine lv_aload_n hx hb dX10_does_123 rfl (lv_at hl 0 rfl) ?_
    refine lv_iconst (v := (-1 : Int32)) hx hb dX10_does_124 kc_m1 ?_
    obtain ⟨m51, e52, hf⟩ := ob hf
    refine pf_10_31 C hI h0.1 fl_X10_173 e52 dX10_does_125 (fun H locs hI => ?_)
    refine lv_goto (tgt := 200) hx hb dX10_does_128 rfl ?_
    obtain rfl := Option.some.inj hf
    exact m_vret C hr hlk hI dX10_does_200
  replace hf := ie hf hn3
  by_cases hn4 : p1 = (4 : Int32)
  · replace hf := it hf hn4
    refine lv_tableIn (tgt := 131) (off := 130) hx hb dX10_does_1 (by rw [hn4]; decide) (by rw [hn4]; decide) (by rw [hn4]; rfl) rfl ?_
    refine lv_aload_n hx hb dX10_does_131 rfl (lv_at hl 0 rfl) ?_
    refine gf_10_29 C hI h0.1 fl_X10_88 dX10_does_132 ?_
    refine lv_iload_n hx hb dX10_does_135 rfl (lv_at hl 3 rfl) ?_
    refine lv_iload_n hx hb dX10_does_136 rfl (lv_at hl 2 rfl) ?_
    obtain ⟨m53, e54, hf⟩ := ob hf
    refine m_iast C hI h0.2.2.2.2.2.2.2.2.2.2.2.2.2.2.2.2.2.2.2.2.2.2.2.1 (ce_1030 E _) e54 dX10_does_137 (fun H locs hI => ?_)
    refine lv_aload_n hx hb dX10_does_138 rfl (lv_at hl 0 rfl) ?_
    refine gf_10_27 C hI h0.1 fl_X10_82 dX10_does_139 ?_
    refine lv_iload_n hx hb dX10_does_142 rfl (lv_at hl 2 rfl) ?_
    refine lv_aload_n hx hb dX10_does_143 rfl (lv_at hl 0 rfl) ?_
    refine gf_10_27 C hI h0.1 fl_X10_82 dX10_does_144 ?_
    refine lv_iload_n hx hb dX10_does_147 rfl (lv_at hl 2 rfl) ?_
    obtain ⟨v55, e56, hf⟩ := ob hf
    refine m_iald C hI h0.2.2.2.2.2.2.2.2.2.2.2.2.2.2.2.2.2.2.2.2.2.1 (ce_1028 E _ _ _) e56 dX10_does_148 ?_
    refine lv_iconst (v := (3 : Int32)) hx hb dX10_does_149 kc_3 ?_
    refine lv_icmp_ne (tgt := 157) hx hb dX10_does_150 rfl (fun hc => ?_) (fun hc => ?_)
    · replace hf := ie hf hc
      refine lv_aload_n hx hb dX10_does_157 rfl (lv_at hl 0 rfl) ?_
      refine gf_10_27 C hI h0.1 fl_X10_82 dX10_does_158 ?_
      refine lv_iload_n hx hb dX10_does_161 rfl (lv_at hl 2 rfl) ?_
      obtain ⟨v57, e58, hf⟩ := ob hf
      refine m_iald C hI h0.2.2.2.2.2.2.2.2.2.2.2.2.2.2.2.2.2.2.2.2.2.1 (ce_1028 E _ _ _) e58 dX10_does_162 ?_
      obtain ⟨m59, e60, hf⟩ := ob hf
      refine m_iast C hI h0.2.2.2.2.2.2.2.2.2.2.2.2.2.2.2.2.2.2.2.2.2.1 (ce_1028 E _) e60 dX10_does_163 (fun H locs hI => ?_)
      refine lv_goto (tgt := 200) hx hb dX10_does_164 rfl ?_
      obtain rfl := Option.some.inj hf
      exact m_vret C hr hlk hI dX10_does_200
    · replace hf := it hf hc
      refine lv_iconst (v := (1 : Int32)) hx hb dX10_does_153 kc_1 ?_
      refine lv_goto (tgt := 163) hx hb dX10_does_154 rfl ?_
      obtain ⟨m61, e62, hf⟩ := ob hf
      refine m_iast C hI h0.2.2.2.2.2.2.2.2.2.2.2.2.2.2.2.2.2.2.2.2.2.1 (ce_1028 E _) e62 dX10_does_163 (fun H locs hI => ?_)
      refine lv_goto (tgt := 200) hx hb dX10_does_164 rfl ?_
      obtain rfl := Option.some.inj hf
      exact m_vret C hr hlk hI dX10_does_200
  replace hf := ie hf hn4
  by_cases hn5 : p1 = (5 : Int32)
  · replace hf := it hf hn5
    refine lv_tableIn (tgt := 167) (off := 166) hx hb dX10_does_1 (by rw [hn5]; decide) (by rw [hn5]; decide) (by rw [hn5]; rfl) rfl ?_
    refine lv_aload_n hx hb dX10_does_167 rfl (lv_at hl 0 rfl) ?_
    refine gf_10_29 C hI h0.1 fl_X10_88 dX10_does_168 ?_
    refine lv_iload_n hx hb dX10_does_171 rfl (lv_at hl 3 rfl) ?_
    refine lv_iconst (v := (-1 : Int32)) hx hb dX10_does_172 kc_m1 ?_
    obtain ⟨m63, e64, hf⟩ := ob hf
    refine m_iast C hI h0.2.2.2.2.2.2.2.2.2.2.2.2.2.2.2.2.2.2.2.2.2.2.2.1 (ce_1030 E _) e64 dX10_does_173 (fun H locs hI => ?_)
    refine lv_goto (tgt := 200) hx hb dX10_does_174 rfl ?_
    obtain rfl := Option.some.inj hf
    exact m_vret C hr hlk hI dX10_does_200
  replace hf := ie hf hn5
  by_cases hn6 : p1 = (6 : Int32)
  · replace hf := it hf hn6
    refine lv_tableIn (tgt := 177) (off := 176) hx hb dX10_does_1 (by rw [hn6]; decide) (by rw [hn6]; decide) (by rw [hn6]; rfl) rfl ?_
    refine lv_aload_n hx hb dX10_does_177 rfl (lv_at hl 0 rfl) ?_
    refine lv_iconst (v := (1 : Int32)) hx hb dX10_does_178 kc_1 ?_
    obtain ⟨m65, e66, hf⟩ := ob hf
    refine pf_10_32 C hI h0.1 (by decide) (by decide) fl_X10_176 e66 dX10_does_179 (fun H locs hI => ?_)
    refine lv_goto (tgt := 200) hx hb dX10_does_182 rfl ?_
    obtain rfl := Option.some.inj hf
    exact m_vret C hr hlk hI dX10_does_200
  replace hf := ie hf hn6
  by_cases hn7 : p1 = (7 : Int32)
  · replace hf := it hf hn7
    refine lv_tableIn (tgt := 185) (off := 184) hx hb dX10_does_1 (by rw [hn7]; decide) (by rw [hn7]; decide) (by rw [hn7]; rfl) rfl ?_
    refine lv_aload_n hx hb dX10_does_185 rfl (lv_at hl 0 rfl) ?_
    refine lv_iconst (v := (0 : Int32)) hx hb dX10_does_186 kc_0 ?_
    obtain ⟨m67, e68, hf⟩ := ob hf
    refine pf_10_32 C hI h0.1 (by decide) (by decide) fl_X10_176 e68 dX10_does_187 (fun H locs hI => ?_)
    refine lv_goto (tgt := 200) hx hb dX10_does_190 rfl ?_
    obtain rfl := Option.some.inj hf
    exact m_vret C hr hlk hI dX10_does_200
  replace hf := ie hf hn7
  by_cases hn8 : p1 = (8 : Int32)
  · replace hf := it hf hn8
    refine lv_tableIn (tgt := 193) (off := 192) hx hb dX10_does_1 (by rw [hn8]; decide) (by rw [hn8]; decide) (by rw [hn8]; rfl) rfl ?_
    refine lv_aload_n hx hb dX10_does_193 rfl (lv_at hl 0 rfl) ?_
    obtain ⟨q69, e70, hf⟩ := ob hf
    refine mcV (As := []) (rest := []) C hI (c_X10_loses l E h0 e70) ml_X10_187 kv_X10_loses (m_recv C hI h0.1 (ce_1000 E _ _ _) rfl) rfl rfl ⟨Nat.le_of_ble_eq_true rfl, Nat.le_of_ble_eq_true rfl⟩ ⟨Nat.zero_le _, Nat.zero_le _⟩ rfl rfl hl.1 (Nat.le_of_ble_eq_true rfl) dX10_does_194 (st1 := []) rfl (fun H locs hI => ?_)
    refine lv_goto (tgt := 200) hx hb dX10_does_197 rfl ?_
    obtain rfl := Option.some.inj hf
    exact m_vret C hr hlk hI dX10_does_200
  replace hf := ie hf hn8
  have a0_ := ts_ne (n := 0) hn0 (by decide)
  have a1_ := ts_ne (n := 1) hn1 (by decide)
  have a2_ := ts_ne (n := 2) hn2 (by decide)
  have a3_ := ts_ne (n := 3) hn3 (by decide)
  have a4_ := ts_ne (n := 4) hn4 (by decide)
  have a5_ := ts_ne (n := 5) hn5 (by decide)
  have a6_ := ts_ne (n := 6) hn6 (by decide)
  have a7_ := ts_ne (n := 7) hn7 (by decide)
  have a8_ := ts_ne (n := 8) hn8 (by decide)
  refine lv_tableOut (tgt := 200) hx hb dX10_does_1 (by omega) rfl ?_
  obtain rfl := Option.some.inj hf
  exact m_vret C hr hlk hI dX10_does_200

theorem dX10_doesMark_0 : decode cX10_doesMark 0 = .ok (.aload_n 0, 1) := by decide +kernel
theorem dX10_doesMark_1 : decode cX10_doesMark 1 = .ok (.aload_n 0, 1) := by decide +kernel
theorem dX10_doesMark_2 : decode cX10_doesMark 2 = .ok (.getfield 32, 3) := by decide +kernel
theorem dX10_doesMark_5 : decode cX10_doesMark 5 = .ok (.aload_n 0, 1) := by decide +kernel
theorem dX10_doesMark_6 : decode cX10_doesMark 6 = .ok (.iload_n 1, 1) := by decide +kernel
theorem dX10_doesMark_7 : decode cX10_doesMark 7 = .ok (.invokevirtual 190, 3) := by decide +kernel
theorem dX10_doesMark_10 : decode cX10_doesMark 10 = .ok (.baload, 1) := by decide +kernel
theorem dX10_doesMark_11 : decode cX10_doesMark 11 = .ok (.aload_n 0, 1) := by decide +kernel
theorem dX10_doesMark_12 : decode cX10_doesMark 12 = .ok (.getfield 36, 3) := by decide +kernel
theorem dX10_doesMark_15 : decode cX10_doesMark 15 = .ok (.aload_n 0, 1) := by decide +kernel
theorem dX10_doesMark_16 : decode cX10_doesMark 16 = .ok (.iload_n 1, 1) := by decide +kernel
theorem dX10_doesMark_17 : decode cX10_doesMark 17 = .ok (.invokevirtual 190, 3) := by decide +kernel
theorem dX10_doesMark_20 : decode cX10_doesMark 20 = .ok (.baload, 1) := by decide +kernel
theorem dX10_doesMark_21 : decode cX10_doesMark 21 = .ok (.aload_n 0, 1) := by decide +kernel
theorem dX10_doesMark_22 : decode cX10_doesMark 22 = .ok (.getfield 39, 3) := by decide +kernel
theorem dX10_doesMark_25 : decode cX10_doesMark 25 = .ok (.aload_n 0, 1) := by decide +kernel
theorem dX10_doesMark_26 : decode cX10_doesMark 26 = .ok (.iload_n 1, 1) := by decide +kernel
theorem dX10_doesMark_27 : decode cX10_doesMark 27 = .ok (.invokevirtual 190, 3) := by decide +kernel
theorem dX10_doesMark_30 : decode cX10_doesMark 30 = .ok (.baload, 1) := by decide +kernel
theorem dX10_doesMark_31 : decode cX10_doesMark 31 = .ok (.invokevirtual 193, 3) := by decide +kernel
theorem dX10_doesMark_34 : decode cX10_doesMark 34 = .ok (.return_, 1) := by decide +kernel
def f_X10_doesMark (F : Nat) (μ : Mm) (p1 : Int32) : Option Mm :=
 (f_X10_spot μ p1).bind fun q15 =>
 (ra μ 1009 0 4200 q15).bind fun v17 =>
 (f_X10_spot μ p1).bind fun q19 =>
 (ra μ 1010 0 4200 q19).bind fun v21 =>
 (f_X10_spot μ p1).bind fun q23 =>
 (ra μ 1011 0 4200 q23).bind fun v25 =>
 (f_X10_does F μ v17 v21 v25).bind fun q27 =>
 some q27
set_option maxHeartbeats 4000000 in
set_option maxRecDepth 100000 in
theorem c_X10_doesMark (l : Launch) (E : En) {F : Nat} {μ : Mm} {p1 : Int32} (h0 : l10 E 0) {z : Mm} (hf : f_X10_doesMark F μ p1 = some z) : Met l yX10_doesMark (wt yX10_doesMark cX10_doesMark 2 (none : Option FieldType)) { frames := 2, cells := 0, slots := 0, locals := 44 } (Pm E [.ref (ad E 1000 0), .int p1] μ) (Qm E none z) 0 0 (Ad E) := by
  unfold f_X10_doesMark at hf
  refine met_of (cc := cX10_doesMark) (nL := 2) (ret := (none : Option FieldType)) (by decide) _ (Nat.le_of_ble_eq_true rfl) ?_
  intro p e s m below meth c C hr hlk hI ls hl
  have hx := C.1.1
  have hb := C.1.2.1
  have hl : lv_has ls 2 [(0, .ref (ad E 1000 0)), (1, .int p1)] := hl
  refine lv_aload_n hx hb dX10_doesMark_0 rfl (lv_at hl 0 rfl) ?_
  refine lv_aload_n hx hb dX10_doesMark_1 rfl (lv_at hl 0 rfl) ?_
  refine gf_10_8 C hI h0.1 fl_X10_32 dX10_doesMark_2 ?_
  refine lv_aload_n hx hb dX10_doesMark_5 rfl (lv_at hl 0 rfl) ?_
  refine lv_iload_n hx hb dX10_doesMark_6 rfl (lv_at hl 1 rfl) ?_
  obtain ⟨q15, e16, hf⟩ := ob hf
  refine mcV (As := [.int p1]) (rest := [.ref (ad E 1009 0), .ref (ad E 1000 0)]) C hI (c_X10_spot l E h0 e16) ml_X10_190 kv_X10_spot (m_recv C hI h0.1 (ce_1000 E _ _ _) rfl) rfl rfl ⟨Nat.le_of_ble_eq_true rfl, Nat.le_of_ble_eq_true rfl⟩ ⟨Nat.zero_le _, Nat.zero_le _⟩ rfl rfl hl.1 (Nat.le_of_ble_eq_true rfl) dX10_doesMark_7 (st1 := [.int q15, .ref (ad E 1009 0), .ref (ad E 1000 0)]) rfl (fun H locs hI => ?_)
  obtain ⟨v17, e18, hf⟩ := ob hf
  refine m_bald C hI h0.2.2.2.2.2.1 (ce_1009 E _ _ _) e18 dX10_doesMark_10 ?_
  refine lv_aload_n hx hb dX10_doesMark_11 rfl (lv_at hl 0 rfl) ?_
  refine gf_10_9 C hI h0.1 fl_X10_36 dX10_doesMark_12 ?_
  refine lv_aload_n hx hb dX10_doesMark_15 rfl (lv_at hl 0 rfl) ?_
  refine lv_iload_n hx hb dX10_doesMark_16 rfl (lv_at hl 1 rfl) ?_
  obtain ⟨q19, e20, hf⟩ := ob hf
  refine mcV (As := [.int p1]) (rest := [.ref (ad E 1010 0), .int v17, .ref (ad E 1000 0)]) C hI (c_X10_spot l E h0 e20) ml_X10_190 kv_X10_spot (m_recv C hI h0.1 (ce_1000 E _ _ _) rfl) rfl rfl ⟨Nat.le_of_ble_eq_true rfl, Nat.le_of_ble_eq_true rfl⟩ ⟨Nat.zero_le _, Nat.zero_le _⟩ rfl rfl hl.1 (Nat.le_of_ble_eq_true rfl) dX10_doesMark_17 (st1 := [.int q19, .ref (ad E 1010 0), .int v17, .ref (ad E 1000 0)]) rfl (fun H locs hI => ?_)
  obtain ⟨v21, e22, hf⟩ := ob hf
  refine m_bald C hI h0.2.2.2.2.2.2.1 (ce_1010 E _ _ _) e22 dX10_doesMark_20 ?_
  refine lv_aload_n hx hb dX10_doesMark_21 rfl (lv_at hl 0 rfl) ?_
  refine gf_10_10 C hI h0.1 fl_X10_39 dX10_doesMark_22 ?_
  refine lv_aload_n hx hb dX10_doesMark_25 rfl (lv_at hl 0 rfl) ?_
  refine lv_iload_n hx hb dX10_doesMark_26 rfl (lv_at hl 1 rfl) ?_
  obtain ⟨q23, e24, hf⟩ := ob hf
  refine mcV (As := [.int p1]) (rest := [.ref (ad E 1011 0), .int v21, .int v17, .ref (ad E 1000 0)]) C hI (c_X10_spot l E h0 e24) ml_X10_190 kv_X10_spot (m_recv C hI h0.1 (ce_1000 E _ _ _) rfl) rfl rfl ⟨Nat.le_of_ble_eq_true rfl, Nat.le_of_ble_eq_true rfl⟩ ⟨Nat.zero_le _, Nat.zero_le _⟩ rfl rfl hl.1 (Nat.le_of_ble_eq_true rfl) dX10_doesMark_27 (st1 := [.int q23, .ref (ad E 1011 0), .int v21, .int v17, .ref (ad E 1000 0)]) rfl (fun H locs hI => ?_)
  obtain ⟨v25, e26, hf⟩ := ob hf
  refine m_bald C hI h0.2.2.2.2.2.2.2.1 (ce_1011 E _ _ _) e26 dX10_doesMark_30 ?_
  obtain ⟨q27, e28, hf⟩ := ob hf
  refine mcV (As := [.int v17, .int v21, .int v25]) (rest := []) C hI (c_X10_does l E h0 e28) ml_X10_193 kv_X10_does (m_recv C hI h0.1 (ce_1000 E _ _ _) rfl) rfl rfl ⟨Nat.le_of_ble_eq_true rfl, Nat.le_of_ble_eq_true rfl⟩ ⟨Nat.zero_le _, Nat.zero_le _⟩ rfl rfl hl.1 (Nat.le_of_ble_eq_true rfl) dX10_doesMark_31 (st1 := []) rfl (fun H locs hI => ?_)
  obtain rfl := Option.some.inj hf
  exact m_vret C hr hlk hI dX10_doesMark_34

theorem dX10_ends_0 : decode cX10_ends 0 = .ok (.aload_n 0, 1) := by decide +kernel
theorem dX10_ends_1 : decode cX10_ends 1 = .ok (.iload_n 1, 1) := by decide +kernel
theorem dX10_ends_2 : decode cX10_ends 2 = .ok (.invokevirtual 196, 3) := by decide +kernel
theorem dX10_ends_5 : decode cX10_ends 5 = .ok (.iconst 0, 1) := by decide +kernel
theorem dX10_ends_6 : decode cX10_ends 6 = .ok (.istore_n 2, 1) := by decide +kernel
theorem dX10_ends_7 : decode cX10_ends 7 = .ok (.iload_n 2, 1) := by decide +kernel
theorem dX10_ends_8 : decode cX10_ends 8 = .ok (.aload_n 0, 1) := by decide +kernel
theorem dX10_ends_9 : decode cX10_ends 9 = .ok (.getfield 29, 3) := by decide +kernel
theorem dX10_ends_12 : decode cX10_ends 12 = .ok (.iload_n 1, 1) := by decide +kernel
theorem dX10_ends_13 : decode cX10_ends 13 = .ok (.iaload, 1) := by decide +kernel
theorem dX10_ends_14 : decode cX10_ends 14 = .ok (.if_icmp .ge 14, 3) := by decide +kernel
theorem dX10_ends_17 : decode cX10_ends 17 = .ok (.aload_n 0, 1) := by decide +kernel
theorem dX10_ends_18 : decode cX10_ends 18 = .ok (.iload_n 2, 1) := by decide +kernel
theorem dX10_ends_19 : decode cX10_ends 19 = .ok (.invokevirtual 200, 3) := by decide +kernel
theorem dX10_ends_22 : decode cX10_ends 22 = .ok (.iinc 2 1, 3) := by decide +kernel
theorem dX10_ends_25 : decode cX10_ends 25 = .ok (.goto (-18), 3) := by decide +kernel
theorem dX10_ends_28 : decode cX10_ends 28 = .ok (.return_, 1) := by decide +kernel
def f_X10_ends_b7 (F : Nat) : Nat → Mm → Int32 → Int32 → Option Mm
 | 0, _, _, _ => none
 | N + 1, μ, a1, a2 =>
 (ra μ 1008 0 21 a1).bind fun v7 =>
 if v7 ≤ a2 then
 some μ
 else
 (f_X10_doesMark F μ a2).bind fun q9 =>
 f_X10_ends_b7 F N q9 a1 (a2 + (1 : Int32))
set_option maxHeartbeats 4000000 in
set_option maxRecDepth 100000 in
theorem cb_X10_ends_7 {l : Launch} {E : En} {p : Program} {e : Env} {s : State} {m : MethodId} {av : Array Value} {below : List Frame} {meth : Method} {c : Code} (C : Cx E p s m av c cX10_ends 3 yX10_ends.cls) (hr : meth.sig.returnType = (none : Option FieldType)) (hlk : meth.locks = false) {F : Nat} {z : Mm} : ∀ (N : Nat) (μ : Mm) (a1 : Int32) (a2 : Int32) (h_a0 : l10 E 0), f_X10_ends_b7 F N μ a1 a2 = some z → ∀ {H : Heap} {locs : List Loc} {ls : Array Slot}, Iv E s μ H locs → lv_has ls 3 [(0, .ref (ad E 1000 0)), (1, .int a1), (2, .int a2)] → W p l e { frames := 3, cells := 0, slots := 0, locals := 65 } s m av below meth c H locs 0 0 (MQ below (Qm E none z) av s 0 0 (Ad E)) (F0 m 7 ls []) := by
  have hx := C.1.1
  have hb := C.1.2.1
  intro N
  induction N with
  | zero => intro μ a1 a2 h_a0 hf; cases hf
  | succ N ih =>
    intro μ a1 a2 h_a0 hf H locs ls hI hl
    rw [f_X10_ends_b7] at hf
    refine lv_iload_n hx hb dX10_ends_7 rfl (lv_at hl 2 rfl) ?_
    refine lv_aload_n hx hb dX10_ends_8 rfl (lv_at hl 0 rfl) ?_
    refine gf_10_7 C hI h_a0.1 fl_X10_29 dX10_ends_9 ?_
    refine lv_iload_n hx hb dX10_ends_12 rfl (lv_at hl 1 rfl) ?_
    obtain ⟨v7, e8, hf⟩ := ob hf
    refine m_iald C hI h_a0.2.2.2.2.1 (ce_1008 E _ _ _) e8 dX10_ends_13 ?_
    refine lv_icmp_ge (tgt := 28) hx hb dX10_ends_14 rfl (fun hc => ?_) (fun hc => ?_)
    · replace hf := it hf hc
      obtain rfl := Option.some.inj hf
      exact m_vret C hr hlk hI dX10_ends_28
    · replace hf := ie hf hc
      refine lv_aload_n hx hb dX10_ends_17 rfl (lv_at hl 0 rfl) ?_
      refine lv_iload_n hx hb dX10_ends_18 rfl (lv_at hl 2 rfl) ?_
      obtain ⟨q9, e10, hf⟩ := ob hf
      refine mcV (As := [.int a2]) (rest := []) C hI (c_X10_doesMark l E h_a0 e10) ml_X10_200 kv_X10_doesMark (m_recv C hI h_a0.1 (ce_1000 E _ _ _) rfl) rfl rfl ⟨Nat.le_of_ble_eq_true rfl, Nat.le_of_ble_eq_true rfl⟩ ⟨Nat.zero_le _, Nat.zero_le _⟩ rfl rfl hl.1 (Nat.le_of_ble_eq_true rfl) dX10_ends_19 (st1 := []) rfl (fun H locs hI => ?_)
      refine lv_iinc (v := a2 + (1 : Int32)) hx hb dX10_ends_22 hl (k := 2) rfl (ki_1 _) (by decide) rfl (fun ls hl => ?_)
      have hl : lv_has ls 3 [(2, .int (a2 + (1 : Int32))), (0, .ref (ad E 1000 0)), (1, .int a1)] := hl
      refine lv_goto (tgt := 7) hx hb dX10_ends_25 rfl ?_
      exact ih _ _ _ h_a0 hf hI (lv_sub hl [1, 2, 0] rfl)
def f_X10_ends (F : Nat) (μ : Mm) (p1 : Int32) : Option Mm :=
 (f_X10_startsNow F μ p1).bind fun q11 =>
 f_X10_ends_b7 F F q11 p1 (0 : Int32)
set_option maxHeartbeats 4000000 in
set_option maxRecDepth 100000 in
theorem c_X10_ends (l : Launch) (E : En) {F : Nat} {μ : Mm} {p1 : Int32} (h0 : l10 E 0) {z : Mm} (hf : f_X10_ends F μ p1 = some z) : Met l yX10_ends (wt yX10_ends cX10_ends 3 (none : Option FieldType)) { frames := 3, cells := 0, slots := 0, locals := 65 } (Pm E [.ref (ad E 1000 0), .int p1] μ) (Qm E none z) 0 0 (Ad E) := by
  unfold f_X10_ends at hf
  refine met_of (cc := cX10_ends) (nL := 3) (ret := (none : Option FieldType)) (by decide) _ (Nat.le_of_ble_eq_true rfl) ?_
  intro p e s m below meth c C hr hlk hI ls hl
  have hx := C.1.1
  have hb := C.1.2.1
  have hl : lv_has ls 3 [(0, .ref (ad E 1000 0)), (1, .int p1)] := hl
  refine lv_aload_n hx hb dX10_ends_0 rfl (lv_at hl 0 rfl) ?_
  refine lv_iload_n hx hb dX10_ends_1 rfl (lv_at hl 1 rfl) ?_
  obtain ⟨q11, e12, hf⟩ := ob hf
  refine mcV (As := [.int p1]) (rest := []) C hI (c_X10_startsNow l E h0 e12) ml_X10_196 kv_X10_startsNow (m_recv C hI h0.1 (ce_1000 E _ _ _) rfl) rfl rfl ⟨Nat.le_of_ble_eq_true rfl, Nat.le_of_ble_eq_true rfl⟩ ⟨Nat.zero_le _, Nat.zero_le _⟩ rfl rfl hl.1 (Nat.le_of_ble_eq_true rfl) dX10_ends_2 (st1 := []) rfl (fun H locs hI => ?_)
  refine lv_iconst (v := (0 : Int32)) hx hb dX10_ends_5 kc_0 ?_
  refine lv_istore_n hx hb dX10_ends_6 rfl hl (by decide) rfl (fun ls hl => ?_)
  have hl : lv_has ls 3 [(2, .int (0 : Int32)), (0, .ref (ad E 1000 0)), (1, .int p1)] := hl
  exact cb_X10_ends_7 C hr hlk  _ _ _ _ h0 hf hI (lv_sub hl [1, 2, 0] rfl)

theorem dX10_comes_0 : decode cX10_comes 0 = .ok (.aload_n 0, 1) := by decide +kernel
theorem dX10_comes_1 : decode cX10_comes 1 = .ok (.iload_n 1, 1) := by decide +kernel
theorem dX10_comes_2 : decode cX10_comes 2 = .ok (.iload_n 2, 1) := by decide +kernel
theorem dX10_comes_3 : decode cX10_comes 3 = .ok (.iload_n 3, 1) := by decide +kernel
theorem dX10_comes_4 : decode cX10_comes 4 = .ok (.iload 4, 2) := by decide +kernel
theorem dX10_comes_6 : decode cX10_comes 6 = .ok (.iload 5, 2) := by decide +kernel
theorem dX10_comes_8 : decode cX10_comes 8 = .ok (.invokevirtual 203, 3) := by decide +kernel
theorem dX10_comes_11 : decode cX10_comes 11 = .ok (.ifCond .ne 5, 3) := by decide +kernel
theorem dX10_comes_14 : decode cX10_comes 14 = .ok (.iconst (-1), 1) := by decide +kernel
theorem dX10_comes_15 : decode cX10_comes 15 = .ok (.ireturn, 1) := by decide +kernel
theorem dX10_comes_16 : decode cX10_comes 16 = .ok (.aload_n 0, 1) := by decide +kernel
theorem dX10_comes_17 : decode cX10_comes 17 = .ok (.iload_n 1, 1) := by decide +kernel
theorem dX10_comes_18 : decode cX10_comes 18 = .ok (.invokevirtual 207, 3) := by decide +kernel
theorem dX10_comes_21 : decode cX10_comes 21 = .ok (.iload_n 2, 1) := by decide +kernel
theorem dX10_comes_22 : decode cX10_comes 22 = .ok (.bipush 6, 2) := by decide +kernel
theorem dX10_comes_24 : decode cX10_comes 24 = .ok (.if_icmp .ge 13, 3) := by decide +kernel
theorem dX10_comes_27 : decode cX10_comes 27 = .ok (.aload_n 0, 1) := by decide +kernel
theorem dX10_comes_28 : decode cX10_comes 28 = .ok (.getfield 19, 3) := by decide +kernel
theorem dX10_comes_31 : decode cX10_comes 31 = .ok (.iload_n 3, 1) := by decide +kernel
theorem dX10_comes_32 : decode cX10_comes 32 = .ok (.iaload, 1) := by decide +kernel
theorem dX10_comes_33 : decode cX10_comes 33 = .ok (.iload_n 1, 1) := by decide +kernel
theorem dX10_comes_34 : decode cX10_comes 34 = .ok (.if_icmp .ne 14, 3) := by decide +kernel
theorem dX10_comes_37 : decode cX10_comes 37 = .ok (.aload_n 0, 1) := by decide +kernel
theorem dX10_comes_38 : decode cX10_comes 38 = .ok (.iload_n 2, 1) := by decide +kernel
theorem dX10_comes_39 : decode cX10_comes 39 = .ok (.iload_n 3, 1) := by decide +kernel
theorem dX10_comes_40 : decode cX10_comes 40 = .ok (.iload 4, 2) := by decide +kernel
theorem dX10_comes_42 : decode cX10_comes 42 = .ok (.invokevirtual 210, 3) := by decide +kernel
theorem dX10_comes_45 : decode cX10_comes 45 = .ok (.ifCond .ne 6, 3) := by decide +kernel
theorem dX10_comes_48 : decode cX10_comes 48 = .ok (.bipush (-3), 2) := by decide +kernel
theorem dX10_comes_50 : decode cX10_comes 50 = .ok (.ireturn, 1) := by decide +kernel
theorem dX10_comes_51 : decode cX10_comes 51 = .ok (.iload_n 2, 1) := by decide +kernel
theorem dX10_comes_52 : decode cX10_comes 52 = .ok (.bipush 9, 2) := by decide +kernel
theorem dX10_comes_54 : decode cX10_comes 54 = .ok (.if_icmp .lt 16, 3) := by decide +kernel
theorem dX10_comes_57 : decode cX10_comes 57 = .ok (.aload_n 0, 1) := by decide +kernel
theorem dX10_comes_58 : decode cX10_comes 58 = .ok (.iload_n 2, 1) := by decide +kernel
theorem dX10_comes_59 : decode cX10_comes 59 = .ok (.iload 4, 2) := by decide +kernel
theorem dX10_comes_61 : decode cX10_comes 61 = .ok (.invokevirtual 213, 3) := by decide +kernel
theorem dX10_comes_64 : decode cX10_comes 64 = .ok (.ifCond .eq 6, 3) := by decide +kernel
theorem dX10_comes_67 : decode cX10_comes 67 = .ok (.bipush (-5), 2) := by decide +kernel
theorem dX10_comes_69 : decode cX10_comes 69 = .ok (.ireturn, 1) := by decide +kernel
theorem dX10_comes_70 : decode cX10_comes 70 = .ok (.aload_n 0, 1) := by decide +kernel
theorem dX10_comes_71 : decode cX10_comes 71 = .ok (.getfield 29, 3) := by decide +kernel
theorem dX10_comes_74 : decode cX10_comes 74 = .ok (.iload_n 1, 1) := by decide +kernel
theorem dX10_comes_75 : decode cX10_comes 75 = .ok (.iaload, 1) := by decide +kernel
theorem dX10_comes_76 : decode cX10_comes 76 = .ok (.sipush 200, 3) := by decide +kernel
theorem dX10_comes_79 : decode cX10_comes 79 = .ok (.if_icmp .ne 6, 3) := by decide +kernel
theorem dX10_comes_82 : decode cX10_comes 82 = .ok (.bipush (-4), 2) := by decide +kernel
theorem dX10_comes_84 : decode cX10_comes 84 = .ok (.ireturn, 1) := by decide +kernel
theorem dX10_comes_85 : decode cX10_comes 85 = .ok (.sipush 200, 3) := by decide +kernel
theorem dX10_comes_88 : decode cX10_comes 88 = .ok (.iload_n 1, 1) := by decide +kernel
theorem dX10_comes_89 : decode cX10_comes 89 = .ok (.imul, 1) := by decide +kernel
theorem dX10_comes_90 : decode cX10_comes 90 = .ok (.aload_n 0, 1) := by decide +kernel
theorem dX10_comes_91 : decode cX10_comes 91 = .ok (.getfield 29, 3) := by decide +kernel
theorem dX10_comes_94 : decode cX10_comes 94 = .ok (.iload_n 1, 1) := by decide +kernel
theorem dX10_comes_95 : decode cX10_comes 95 = .ok (.iaload, 1) := by decide +kernel
theorem dX10_comes_96 : decode cX10_comes 96 = .ok (.iadd, 1) := by decide +kernel
theorem dX10_comes_97 : decode cX10_comes 97 = .ok (.istore 6, 2) := by decide +kernel
theorem dX10_comes_99 : decode cX10_comes 99 = .ok (.aload_n 0, 1) := by decide +kernel
theorem dX10_comes_100 : decode cX10_comes 100 = .ok (.getfield 29, 3) := by decide +kernel
theorem dX10_comes_103 : decode cX10_comes 103 = .ok (.iload_n 1, 1) := by decide +kernel
theorem dX10_comes_104 : decode cX10_comes 104 = .ok (.iaload, 1) := by decide +kernel
theorem dX10_comes_105 : decode cX10_comes 105 = .ok (.ifCond .ne 8, 3) := by decide +kernel
theorem dX10_comes_108 : decode cX10_comes 108 = .ok (.iload 5, 2) := by decide +kernel
theorem dX10_comes_110 : decode cX10_comes 110 = .ok (.goto 12, 3) := by decide +kernel
theorem dX10_comes_113 : decode cX10_comes 113 = .ok (.aload_n 0, 1) := by decide +kernel
theorem dX10_comes_114 : decode cX10_comes 114 = .ok (.getfield 42, 3) := by decide +kernel
theorem dX10_comes_117 : decode cX10_comes 117 = .ok (.iload 6, 2) := by decide +kernel
theorem dX10_comes_119 : decode cX10_comes 119 = .ok (.iconst 1, 1) := by decide +kernel
theorem dX10_comes_120 : decode cX10_comes 120 = .ok (.isub, 1) := by decide +kernel
theorem dX10_comes_121 : decode cX10_comes 121 = .ok (.iaload, 1) := by decide +kernel
theorem dX10_comes_122 : decode cX10_comes 122 = .ok (.istore 7, 2) := by decide +kernel
theorem dX10_comes_124 : decode cX10_comes 124 = .ok (.iload 5, 2) := by decide +kernel
theorem dX10_comes_126 : decode cX10_comes 126 = .ok (.iload 7, 2) := by decide +kernel
theorem dX10_comes_128 : decode cX10_comes 128 = .ok (.isub, 1) := by decide +kernel
theorem dX10_comes_129 : decode cX10_comes 129 = .ok (.iconst 1, 1) := by decide +kernel
theorem dX10_comes_130 : decode cX10_comes 130 = .ok (.aload_n 0, 1) := by decide +kernel
theorem dX10_comes_131 : decode cX10_comes 131 = .ok (.getfield 16, 3) := by decide +kernel
theorem dX10_comes_134 : decode cX10_comes 134 = .ok (.ishl, 1) := by decide +kernel
theorem dX10_comes_135 : decode cX10_comes 135 = .ok (.iconst 1, 1) := by decide +kernel
theorem dX10_comes_136 : decode cX10_comes 136 = .ok (.isub, 1) := by decide +kernel
theorem dX10_comes_137 : decode cX10_comes 137 = .ok (.iand, 1) := by decide +kernel
theorem dX10_comes_138 : decode cX10_comes 138 = .ok (.istore 8, 2) := by decide +kernel
theorem dX10_comes_140 : decode cX10_comes 140 = .ok (.aload_n 0, 1) := by decide +kernel
theorem dX10_comes_141 : decode cX10_comes 141 = .ok (.getfield 32, 3) := by decide +kernel
theorem dX10_comes_144 : decode cX10_comes 144 = .ok (.iload 6, 2) := by decide +kernel
theorem dX10_comes_146 : decode cX10_comes 146 = .ok (.iload_n 2, 1) := by decide +kernel
theorem dX10_comes_147 : decode cX10_comes 147 = .ok (.i2b, 1) := by decide +kernel
theorem dX10_comes_148 : decode cX10_comes 148 = .ok (.bastore, 1) := by decide +kernel
theorem dX10_comes_149 : decode cX10_comes 149 = .ok (.aload_n 0, 1) := by decide +kernel
theorem dX10_comes_150 : decode cX10_comes 150 = .ok (.getfield 36, 3) := by decide +kernel
theorem dX10_comes_153 : decode cX10_comes 153 = .ok (.iload 6, 2) := by decide +kernel
theorem dX10_comes_155 : decode cX10_comes 155 = .ok (.iload_n 3, 1) := by decide +kernel
theorem dX10_comes_156 : decode cX10_comes 156 = .ok (.i2b, 1) := by decide +kernel
theorem dX10_comes_157 : decode cX10_comes 157 = .ok (.bastore, 1) := by decide +kernel
theorem dX10_comes_158 : decode cX10_comes 158 = .ok (.aload_n 0, 1) := by decide +kernel
theorem dX10_comes_159 : decode cX10_comes 159 = .ok (.getfield 39, 3) := by decide +kernel
theorem dX10_comes_162 : decode cX10_comes 162 = .ok (.iload 6, 2) := by decide +kernel
theorem dX10_comes_164 : decode cX10_comes 164 = .ok (.iload 4, 2) := by decide +kernel
theorem dX10_comes_166 : decode cX10_comes 166 = .ok (.i2b, 1) := by decide +kernel
theorem dX10_comes_167 : decode cX10_comes 167 = .ok (.bastore, 1) := by decide +kernel
theorem dX10_comes_168 : decode cX10_comes 168 = .ok (.aload_n 0, 1) := by decide +kernel
theorem dX10_comes_169 : decode cX10_comes 169 = .ok (.getfield 42, 3) := by decide +kernel
theorem dX10_comes_172 : decode cX10_comes 172 = .ok (.iload 6, 2) := by decide +kernel
theorem dX10_comes_174 : decode cX10_comes 174 = .ok (.iload 7, 2) := by decide +kernel
theorem dX10_comes_176 : decode cX10_comes 176 = .ok (.iload 8, 2) := by decide +kernel
theorem dX10_comes_178 : decode cX10_comes 178 = .ok (.iadd, 1) := by decide +kernel
theorem dX10_comes_179 : decode cX10_comes 179 = .ok (.iastore, 1) := by decide +kernel
theorem dX10_comes_180 : decode cX10_comes 180 = .ok (.aload_n 0, 1) := by decide +kernel
theorem dX10_comes_181 : decode cX10_comes 181 = .ok (.getfield 29, 3) := by decide +kernel
theorem dX10_comes_184 : decode cX10_comes 184 = .ok (.iload_n 1, 1) := by decide +kernel
theorem dX10_comes_185 : decode cX10_comes 185 = .ok (.dup2, 1) := by decide +kernel
theorem dX10_comes_186 : decode cX10_comes 186 = .ok (.iaload, 1) := by decide +kernel
theorem dX10_comes_187 : decode cX10_comes 187 = .ok (.iconst 1, 1) := by decide +kernel
theorem dX10_comes_188 : decode cX10_comes 188 = .ok (.iadd, 1) := by decide +kernel
theorem dX10_comes_189 : decode cX10_comes 189 = .ok (.iastore, 1) := by decide +kernel
theorem dX10_comes_190 : decode cX10_comes 190 = .ok (.aload_n 0, 1) := by decide +kernel
theorem dX10_comes_191 : decode cX10_comes 191 = .ok (.getfield 29, 3) := by decide +kernel
theorem dX10_comes_194 : decode cX10_comes 194 = .ok (.iload_n 1, 1) := by decide +kernel
theorem dX10_comes_195 : decode cX10_comes 195 = .ok (.iaload, 1) := by decide +kernel
theorem dX10_comes_196 : decode cX10_comes 196 = .ok (.iconst 1, 1) := by decide +kernel
theorem dX10_comes_197 : decode cX10_comes 197 = .ok (.isub, 1) := by decide +kernel
theorem dX10_comes_198 : decode cX10_comes 198 = .ok (.ireturn, 1) := by decide +kernel
def f_X10_comes_b122 (F : Nat) (μ : Mm) (a1 : Int32) (a2 : Int32) (a3 : Int32) (a4 : Int32) (a5 : Int32) (a6 : Int32) (s0 : Int32) : Option (Int32 × Mm) :=
 (wb μ 1009 0 4200 a6 a2.toInt8.toInt32).bind fun m33 =>
 (wb m33 1010 0 4200 a6 a3.toInt8.toInt32).bind fun m35 =>
 (wb m35 1011 0 4200 a6 a4.toInt8.toInt32).bind fun m37 =>
 (wa m37 1012 0 4200 a6 (s0 + ((a5 - s0) &&& (((1 : Int32) <<< ((μ.1 1000 0 3) &&& 31)) - (1 : Int32))))).bind fun m39 =>
 (ra m39 1008 0 21 a1).bind fun v41 =>
 (wa m39 1008 0 21 a1 (v41 + (1 : Int32))).bind fun m43 =>
 (ra m43 1008 0 21 a1).bind fun v45 =>
 some (v45 - (1 : Int32), m43)
set_option maxHeartbeats 4000000 in
set_option maxRecDepth 100000 in
theorem cb_X10_comes_122 {l : Launch} {E : En} {p : Program} {e : Env} {s : State} {m : MethodId} {av : Array Value} {below : List Frame} {meth : Method} {c : Code} (C : Cx E p s m av c cX10_comes 9 yX10_comes.cls) (hr : meth.sig.returnType = (some .int)) (hlk : meth.locks = false) {F : Nat} {z : Int32 × Mm} : ∀ (μ : Mm) (a1 : Int32) (a2 : Int32) (a3 : Int32) (a4 : Int32) (a5 : Int32) (a6 : Int32) (s0 : Int32) (h_a0 : l10 E 0), f_X10_comes_b122 F μ a1 a2 a3 a4 a5 a6 s0 = some z → ∀ {H : Heap} {locs : List Loc} {ls : Array Slot}, Iv E s μ H locs → lv_has ls 9 [(0, .ref (ad E 1000 0)), (1, .int a1), (2, .int a2), (3, .int a3), (4, .int a4), (5, .int a5), (6, .int a6)] → W p l e { frames := 4, cells := 0, slots := 0, locals := 87 } s m av below meth c H locs 0 0 (MQ below (Qm E (some (.int z.1)) z.2) av s 0 0 (Ad E)) (F0 m 122 ls [.int s0]) := by
  have hx := C.1.1
  have hb := C.1.2.1
  intro μ a1 a2 a3 a4 a5 a6 s0 h_a0 hf H locs ls hI hl
  unfold f_X10_comes_b122 at hf
  refine lv_istore hx hb dX10_comes_122 hl (by decide) rfl (fun ls hl => ?_)
  have hl : lv_has ls 9 [(7, .int s0), (0, .ref (ad E 1000 0)), (1, .int a1), (2, .int a2), (3, .int a3), (4, .int a4), (5, .int a5), (6, .int a6)] := hl
  refine lv_iload hx hb dX10_comes_124 (lv_at hl 6 rfl) ?_
  refine lv_iload hx hb dX10_comes_126 (lv_at hl 0 rfl) ?_
  refine lv_isub hx hb dX10_comes_128 ?_
  refine lv_iconst (v := (1 : Int32)) hx hb dX10_comes_129 kc_1 ?_
  refine lv_aload_n hx hb dX10_comes_130 rfl (lv_at hl 1 rfl) ?_
  refine gf_10_3 C hI h_a0.1 fl_X10_16 dX10_comes_131 ?_
  refine lv_ishl hx hb dX10_comes_134 ?_
  refine lv_iconst (v := (1 : Int32)) hx hb dX10_comes_135 kc_1 ?_
  refine lv_isub hx hb dX10_comes_136 ?_
  refine lv_iand hx hb dX10_comes_137 ?_
  refine lv_istore hx hb dX10_comes_138 hl (by decide) rfl (fun ls hl => ?_)
  have hl : lv_has ls 9 [(8, .int ((a5 - s0) &&& (((1 : Int32) <<< ((μ.1 1000 0 3) &&& 31)) - (1 : Int32)))), (7, .int s0), (0, .ref (ad E 1000 0)), (1, .int a1), (2, .int a2), (3, .int a3), (4, .int a4), (5, .int a5), (6, .int a6)] := hl
  refine lv_aload_n hx hb dX10_comes_140 rfl (lv_at hl 2 rfl) ?_
  refine gf_10_8 C hI h_a0.1 fl_X10_32 dX10_comes_141 ?_
  refine lv_iload hx hb dX10_comes_144 (lv_at hl 8 rfl) ?_
  refine lv_iload_n hx hb dX10_comes_146 rfl (lv_at hl 4 rfl) ?_
  refine lv_i2b (v := a2.toInt8.toInt32) hx hb dX10_comes_147 rfl ?_
  obtain ⟨m33, e34, hf⟩ := ob hf
  refine m_bast C hI h_a0.2.2.2.2.2.1 (ce_1009 E _) e34 dX10_comes_148 (fun H locs hI => ?_)
  refine lv_aload_n hx hb dX10_comes_149 rfl (lv_at hl 2 rfl) ?_
  refine gf_10_9 C hI h_a0.1 fl_X10_36 dX10_comes_150 ?_
  refine lv_iload hx hb dX10_comes_153 (lv_at hl 8 rfl) ?_
  refine lv_iload_n hx hb dX10_comes_155 rfl (lv_at hl 5 rfl) ?_
  refine lv_i2b (v := a3.toInt8.toInt32) hx hb dX10_comes_156 rfl ?_
  obtain ⟨m35, e36, hf⟩ := ob hf
  refine m_bast C hI h_a0.2.2.2.2.2.2.1 (ce_1010 E _) e36 dX10_comes_157 (fun H locs hI => ?_)
  refine lv_aload_n hx hb dX10_comes_158 rfl (lv_at hl 2 rfl) ?_
  refine gf_10_10 C hI h_a0.1 fl_X10_39 dX10_comes_159 ?_
  refine lv_iload hx hb dX10_comes_162 (lv_at hl 8 rfl) ?_
  refine lv_iload hx hb dX10_comes_164 (lv_at hl 6 rfl) ?_
  refine lv_i2b (v := a4.toInt8.toInt32) hx hb dX10_comes_166 rfl ?_
  obtain ⟨m37, e38, hf⟩ := ob hf
  refine m_bast C hI h_a0.2.2.2.2.2.2.2.1 (ce_1011 E _) e38 dX10_comes_167 (fun H locs hI => ?_)
  refine lv_aload_n hx hb dX10_comes_168 rfl (lv_at hl 2 rfl) ?_
  refine gf_10_11 C hI h_a0.1 fl_X10_42 dX10_comes_169 ?_
  refine lv_iload hx hb dX10_comes_172 (lv_at hl 8 rfl) ?_
  refine lv_iload hx hb dX10_comes_174 (lv_at hl 1 rfl) ?_
  refine lv_iload hx hb dX10_comes_176 (lv_at hl 0 rfl) ?_
  refine lv_iadd hx hb dX10_comes_178 ?_
  obtain ⟨m39, e40, hf⟩ := ob hf
  refine m_iast C hI h_a0.2.2.2.2.2.2.2.2.1 (ce_1012 E _) e40 dX10_comes_179 (fun H locs hI => ?_)
  refine lv_aload_n hx hb dX10_comes_180 rfl (lv_at hl 2 rfl) ?_
  refine gf_10_7 C hI h_a0.1 fl_X10_29 dX10_comes_181 ?_
  refine lv_iload_n hx hb dX10_comes_184 rfl (lv_at hl 3 rfl) ?_
  refine lv_dup2_11 hx hb dX10_comes_185 rfl rfl ?_
  obtain ⟨v41, e42, hf⟩ := ob hf
  refine m_iald C hI h_a0.2.2.2.2.1 (ce_1008 E _ _ _) e42 dX10_comes_186 ?_
  refine lv_iconst (v := (1 : Int32)) hx hb dX10_comes_187 kc_1 ?_
  refine lv_iadd hx hb dX10_comes_188 ?_
  obtain ⟨m43, e44, hf⟩ := ob hf
  refine m_iast C hI h_a0.2.2.2.2.1 (ce_1008 E _) e44 dX10_comes_189 (fun H locs hI => ?_)
  refine lv_aload_n hx hb dX10_comes_190 rfl (lv_at hl 2 rfl) ?_
  refine gf_10_7 C hI h_a0.1 fl_X10_29 dX10_comes_191 ?_
  refine lv_iload_n hx hb dX10_comes_194 rfl (lv_at hl 3 rfl) ?_
  obtain ⟨v45, e46, hf⟩ := ob hf
  refine m_iald C hI h_a0.2.2.2.2.1 (ce_1008 E _ _ _) e46 dX10_comes_195 ?_
  refine lv_iconst (v := (1 : Int32)) hx hb dX10_comes_196 kc_1 ?_
  refine lv_isub hx hb dX10_comes_197 ?_
  obtain rfl := Option.some.inj hf
  exact m_iret C hr hlk hI dX10_comes_198
def f_X10_comes_b70 (F : Nat) (μ : Mm) (a1 : Int32) (a2 : Int32) (a3 : Int32) (a4 : Int32) (a5 : Int32) : Option (Int32 × Mm) :=
 (ra μ 1008 0 21 a1).bind fun v47 =>
 if v47 = (200 : Int32) then
 some ((-4 : Int32), μ)
 else
 (ra μ 1008 0 21 a1).bind fun v49 =>
 (ra μ 1008 0 21 a1).bind fun v51 =>
 if v51 = 0 then
 f_X10_comes_b122 F μ a1 a2 a3 a4 a5 (((200 : Int32) * a1) + v49) a5
 else
 (ra μ 1012 0 4200 ((((200 : Int32) * a1) + v49) - (1 : Int32))).bind fun v53 =>
 f_X10_comes_b122 F μ a1 a2 a3 a4 a5 (((200 : Int32) * a1) + v49) v53
set_option maxHeartbeats 4000000 in
set_option maxRecDepth 100000 in
theorem cb_X10_comes_70 {l : Launch} {E : En} {p : Program} {e : Env} {s : State} {m : MethodId} {av : Array Value} {below : List Frame} {meth : Method} {c : Code} (C : Cx E p s m av c cX10_comes 9 yX10_comes.cls) (hr : meth.sig.returnType = (some .int)) (hlk : meth.locks = false) {F : Nat} {z : Int32 × Mm} : ∀ (μ : Mm) (a1 : Int32) (a2 : Int32) (a3 : Int32) (a4 : Int32) (a5 : Int32) (h_a0 : l10 E 0), f_X10_comes_b70 F μ a1 a2 a3 a4 a5 = some z → ∀ {H : Heap} {locs : List Loc} {ls : Array Slot}, Iv E s μ H locs → lv_has ls 9 [(0, .ref (ad E 1000 0)), (1, .int a1), (2, .int a2), (3, .int a3), (4, .int a4), (5, .int a5)] → W p l e { frames := 4, cells := 0, slots := 0, locals := 87 } s m av below meth c H locs 0 0 (MQ below (Qm E (some (.int z.1)) z.2) av s 0 0 (Ad E)) (F0 m 70 ls []) := by
  have hx := C.1.1
  have hb := C.1.2.1
  intro μ a1 a2 a3 a4 a5 h_a0 hf H locs ls hI hl
  unfold f_X10_comes_b70 at hf
  refine lv_aload_n hx hb dX10_comes_70 rfl (lv_at hl 0 rfl) ?_
  refine gf_10_7 C hI h_a0.1 fl_X10_29 dX10_comes_71 ?_
  refine lv_iload_n hx hb dX10_comes_74 rfl (lv_at hl 1 rfl) ?_
  obtain ⟨v47, e48, hf⟩ := ob hf
  refine m_iald C hI h_a0.2.2.2.2.1 (ce_1008 E _ _ _) e48 dX10_comes_75 ?_
  refine lv_sipush (v := (200 : Int32)) hx hb dX10_comes_76 ks_200 ?_
  refine lv_icmp_ne (tgt := 85) hx hb dX10_comes_79 rfl (fun hc => ?_) (fun hc => ?_)
  · replace hf := ie hf hc
    refine lv_sipush (v := (200 : Int32)) hx hb dX10_comes_85 ks_200 ?_
    refine lv_iload_n hx hb dX10_comes_88 rfl (lv_at hl 1 rfl) ?_
    refine lv_imul hx hb dX10_comes_89 ?_
    refine lv_aload_n hx hb dX10_comes_90 rfl (lv_at hl 0 rfl) ?_
    refine gf_10_7 C hI h_a0.1 fl_X10_29 dX10_comes_91 ?_
    refine lv_iload_n hx hb dX10_comes_94 rfl (lv_at hl 1 rfl) ?_
    obtain ⟨v49, e50, hf⟩ := ob hf
    refine m_iald C hI h_a0.2.2.2.2.1 (ce_1008 E _ _ _) e50 dX10_comes_95 ?_
    refine lv_iadd hx hb dX10_comes_96 ?_
    refine lv_istore hx hb dX10_comes_97 hl (by decide) rfl (fun ls hl => ?_)
    have hl : lv_has ls 9 [(6, .int (((200 : Int32) * a1) + v49)), (0, .ref (ad E 1000 0)), (1, .int a1), (2, .int a2), (3, .int a3), (4, .int a4), (5, .int a5)] := hl
    refine lv_aload_n hx hb dX10_comes_99 rfl (lv_at hl 1 rfl) ?_
    refine gf_10_7 C hI h_a0.1 fl_X10_29 dX10_comes_100 ?_
    refine lv_iload_n hx hb dX10_comes_103 rfl (lv_at hl 2 rfl) ?_
    obtain ⟨v51, e52, hf⟩ := ob hf
    refine m_iald C hI h_a0.2.2.2.2.1 (ce_1008 E _ _ _) e52 dX10_comes_104 ?_
    refine lv_if_ne (tgt := 113) hx hb dX10_comes_105 rfl (fun hc => ?_) (fun hc => ?_)
    · replace hf := ie hf hc
      refine lv_aload_n hx hb dX10_comes_113 rfl (lv_at hl 1 rfl) ?_
      refine gf_10_11 C hI h_a0.1 fl_X10_42 dX10_comes_114 ?_
      refine lv_iload hx hb dX10_comes_117 (lv_at hl 0 rfl) ?_
      refine lv_iconst (v := (1 : Int32)) hx hb dX10_comes_119 kc_1 ?_
      refine lv_isub hx hb dX10_comes_120 ?_
      obtain ⟨v53, e54, hf⟩ := ob hf
      refine m_iald C hI h_a0.2.2.2.2.2.2.2.2.1 (ce_1012 E _ _ _) e54 dX10_comes_121 ?_
      exact cb_X10_comes_122 C hr hlk  _ _ _ _ _ _ _ _ h_a0 hf hI (lv_sub hl [1, 2, 3, 4, 5, 6, 0] rfl)
    · replace hf := it hf hc
      refine lv_iload hx hb dX10_comes_108 (lv_at hl 6 rfl) ?_
      refine lv_goto (tgt := 122) hx hb dX10_comes_110 rfl ?_
      exact cb_X10_comes_122 C hr hlk  _ _ _ _ _ _ _ _ h_a0 hf hI (lv_sub hl [1, 2, 3, 4, 5, 6, 0] rfl)
  · replace hf := it hf hc
    refine lv_bipush (v := (-4 : Int32)) hx hb dX10_comes_82 kb_m4 ?_
    obtain rfl := Option.some.inj hf
    exact m_iret C hr hlk hI dX10_comes_84
def f_X10_comes_b37 (F : Nat) (μ : Mm) (a1 : Int32) (a2 : Int32) (a3 : Int32) (a4 : Int32) (a5 : Int32) : Option (Int32 × Mm) :=
 (f_X10_fits μ a2 a3 a4).bind fun q55 =>
 if q55 = 0 then
 some ((-3 : Int32), μ)
 else
 if a2 < (9 : Int32) then
 f_X10_comes_b70 F μ a1 a2 a3 a4 a5
 else
 (f_X10_wasTold F μ a2 a4).bind fun q57 =>
 if q57 = 0 then
 f_X10_comes_b70 F μ a1 a2 a3 a4 a5
 else
 some ((-5 : Int32), μ)
set_option maxHeartbeats 4000000 in
set_option maxRecDepth 100000 in
theorem cb_X10_comes_37 {l : Launch} {E : En} {p : Program} {e : Env} {s : State} {m : MethodId} {av : Array Value} {below : List Frame} {meth : Method} {c : Code} (C : Cx E p s m av c cX10_comes 9 yX10_comes.cls) (hr : meth.sig.returnType = (some .int)) (hlk : meth.locks = false) {F : Nat} {z : Int32 × Mm} : ∀ (μ : Mm) (a1 : Int32) (a2 : Int32) (a3 : Int32) (a4 : Int32) (a5 : Int32) (h_a0 : l10 E 0), f_X10_comes_b37 F μ a1 a2 a3 a4 a5 = some z → ∀ {H : Heap} {locs : List Loc} {ls : Array Slot}, Iv E s μ H locs → lv_has ls 9 [(0, .ref (ad E 1000 0)), (1, .int a1), (2, .int a2), (3, .int a3), (4, .int a4), (5, .int a5)] → W p l e { frames := 4, cells := 0, slots := 0, locals := 87 } s m av below meth c H locs 0 0 (MQ below (Qm E (some (.int z.1)) z.2) av s 0 0 (Ad E)) (F0 m 37 ls []) := by
  have hx := C.1.1
  have hb := C.1.2.1
  intro μ a1 a2 a3 a4 a5 h_a0 hf H locs ls hI hl
  unfold f_X10_comes_b37 at hf
  refine lv_aload_n hx hb dX10_comes_37 rfl (lv_at hl 0 rfl) ?_
  refine lv_iload_n hx hb dX10_comes_38 rfl (lv_at hl 2 rfl) ?_
  refine lv_iload_n hx hb dX10_comes_39 rfl (lv_at hl 3 rfl) ?_
  refine lv_iload hx hb dX10_comes_40 (lv_at hl 4 rfl) ?_
  obtain ⟨q55, e56, hf⟩ := ob hf
  refine mcV (As := [.int a2, .int a3, .int a4]) (rest := []) C hI (c_X10_fits l E h_a0 e56) ml_X10_210 kv_X10_fits (m_recv C hI h_a0.1 (ce_1000 E _ _ _) rfl) rfl rfl ⟨Nat.le_of_ble_eq_true rfl, Nat.le_of_ble_eq_true rfl⟩ ⟨Nat.zero_le _, Nat.zero_le _⟩ rfl rfl hl.1 (Nat.le_of_ble_eq_true rfl) dX10_comes_42 (st1 := [.int q55]) rfl (fun H locs hI => ?_)
  refine lv_if_ne (tgt := 51) hx hb dX10_comes_45 rfl (fun hc => ?_) (fun hc => ?_)
  · replace hf := ie hf hc
    refine lv_iload_n hx hb dX10_comes_51 rfl (lv_at hl 2 rfl) ?_
    refine lv_bipush (v := (9 : Int32)) hx hb dX10_comes_52 kb_9 ?_
    refine lv_icmp_lt (tgt := 70) hx hb dX10_comes_54 rfl (fun hc => ?_) (fun hc => ?_)
    · replace hf := it hf hc
      exact cb_X10_comes_70 C hr hlk  _ _ _ _ _ _ h_a0 hf hI (lv_sub hl [0, 1, 2, 3, 4, 5] rfl)
    · replace hf := ie hf hc
      refine lv_aload_n hx hb dX10_comes_57 rfl (lv_at hl 0 rfl) ?_
      refine lv_iload_n hx hb dX10_comes_58 rfl (lv_at hl 2 rfl) ?_
      refine lv_iload hx hb dX10_comes_59 (lv_at hl 4 rfl) ?_
      obtain ⟨q57, e58, hf⟩ := ob hf
      refine mcV (As := [.int a2, .int a4]) (rest := []) C hI (c_X10_wasTold l E h_a0 e58) ml_X10_213 kv_X10_wasTold (m_recv C hI h_a0.1 (ce_1000 E _ _ _) rfl) rfl rfl ⟨Nat.le_of_ble_eq_true rfl, Nat.le_of_ble_eq_true rfl⟩ ⟨Nat.zero_le _, Nat.zero_le _⟩ rfl rfl hl.1 (Nat.le_of_ble_eq_true rfl) dX10_comes_61 (st1 := [.int q57]) rfl (fun H locs hI => ?_)
      refine lv_if_eq (tgt := 70) hx hb dX10_comes_64 rfl (fun hc => ?_) (fun hc => ?_)
      · replace hf := it hf hc
        exact cb_X10_comes_70 C hr hlk  _ _ _ _ _ _ h_a0 hf hI (lv_sub hl [0, 1, 2, 3, 4, 5] rfl)
      · replace hf := ie hf hc
        refine lv_bipush (v := (-5 : Int32)) hx hb dX10_comes_67 kb_m5 ?_
        obtain rfl := Option.some.inj hf
        exact m_iret C hr hlk hI dX10_comes_69
  · replace hf := it hf hc
    refine lv_bipush (v := (-3 : Int32)) hx hb dX10_comes_48 kb_m3 ?_
    obtain rfl := Option.some.inj hf
    exact m_iret C hr hlk hI dX10_comes_50
def f_X10_comes (F : Nat) (μ : Mm) (p1 : Int32) (p2 : Int32) (p3 : Int32) (p4 : Int32) (p5 : Int32) : Option (Int32 × Mm) :=
 (f_X10_isMark μ p1 p2 p3 p4 p5).bind fun q59 =>
 if q59 = 0 then
 some ((-1 : Int32), μ)
 else
 (f_X10_ends F μ p1).bind fun q61 =>
 if (6 : Int32) ≤ p2 then
 f_X10_comes_b37 F q61 p1 p2 p3 p4 p5
 else
 (ra q61 1005 0 8 p3).bind fun v63 =>
 if v63 = p1 then
 f_X10_comes_b37 F q61 p1 p2 p3 p4 p5
 else
 some ((-3 : Int32), q61)
set_option maxHeartbeats 4000000 in
set_option maxRecDepth 100000 in
theorem c_X10_comes (l : Launch) (E : En) {F : Nat} {μ : Mm} {p1 : Int32} {p2 : Int32} {p3 : Int32} {p4 : Int32} {p5 : Int32} (h0 : l10 E 0) {z : Int32 × Mm} (hf : f_X10_comes F μ p1 p2 p3 p4 p5 = some z) : Met l yX10_comes (wt yX10_comes cX10_comes 9 (some .int)) { frames := 4, cells := 0, slots := 0, locals := 87 } (Pm E [.ref (ad E 1000 0), .int p1, .int p2, .int p3, .int p4, .int p5] μ) (Qm E (some (.int z.1)) z.2) 0 0 (Ad E) := by
  unfold f_X10_comes at hf
  refine met_of (cc := cX10_comes) (nL := 9) (ret := (some .int)) (by decide) _ (Nat.le_of_ble_eq_true rfl) ?_
  intro p e s m below meth c C hr hlk hI ls hl
  have hx := C.1.1
  have hb := C.1.2.1
  have hl : lv_has ls 9 [(0, .ref (ad E 1000 0)), (1, .int p1), (2, .int p2), (3, .int p3), (4, .int p4), (5, .int p5)] := hl
  refine lv_aload_n hx hb dX10_comes_0 rfl (lv_at hl 0 rfl) ?_
  refine lv_iload_n hx hb dX10_comes_1 rfl (lv_at hl 1 rfl) ?_
  refine lv_iload_n hx hb dX10_comes_2 rfl (lv_at hl 2 rfl) ?_
  refine lv_iload_n hx hb dX10_comes_3 rfl (lv_at hl 3 rfl) ?_
  refine lv_iload hx hb dX10_comes_4 (lv_at hl 4 rfl) ?_
  refine lv_iload hx hb dX10_comes_6 (lv_at hl 5 rfl) ?_
  obtain ⟨q59, e60, hf⟩ := ob hf
  refine mcV (As := [.int p1, .int p2, .int p3, .int p4, .int p5]) (rest := []) C hI (c_X10_isMark l E h0 e60) ml_X10_203 kv_X10_isMark (m_recv C hI h0.1 (ce_1000 E _ _ _) rfl) rfl rfl ⟨Nat.le_of_ble_eq_true rfl, Nat.le_of_ble_eq_true rfl⟩ ⟨Nat.zero_le _, Nat.zero_le _⟩ rfl rfl hl.1 (Nat.le_of_ble_eq_true rfl) dX10_comes_8 (st1 := [.int q59]) rfl (fun H locs hI => ?_)
  refine lv_if_ne (tgt := 16) hx hb dX10_comes_11 rfl (fun hc => ?_) (fun hc => ?_)
  · replace hf := ie hf hc
    refine lv_aload_n hx hb dX10_comes_16 rfl (lv_at hl 0 rfl) ?_
    refine lv_iload_n hx hb dX10_comes_17 rfl (lv_at hl 1 rfl) ?_
    obtain ⟨q61, e62, hf⟩ := ob hf
    refine mcV (As := [.int p1]) (rest := []) C hI (c_X10_ends l E h0 e62) ml_X10_207 kv_X10_ends (m_recv C hI h0.1 (ce_1000 E _ _ _) rfl) rfl rfl ⟨Nat.le_of_ble_eq_true rfl, Nat.le_of_ble_eq_true rfl⟩ ⟨Nat.zero_le _, Nat.zero_le _⟩ rfl rfl hl.1 (Nat.le_of_ble_eq_true rfl) dX10_comes_18 (st1 := []) rfl (fun H locs hI => ?_)
    refine lv_iload_n hx hb dX10_comes_21 rfl (lv_at hl 2 rfl) ?_
    refine lv_bipush (v := (6 : Int32)) hx hb dX10_comes_22 kb_6 ?_
    refine lv_icmp_ge (tgt := 37) hx hb dX10_comes_24 rfl (fun hc => ?_) (fun hc => ?_)
    · replace hf := it hf hc
      exact cb_X10_comes_37 C hr hlk  _ _ _ _ _ _ h0 hf hI (lv_sub hl [0, 1, 2, 3, 4, 5] rfl)
    · replace hf := ie hf hc
      refine lv_aload_n hx hb dX10_comes_27 rfl (lv_at hl 0 rfl) ?_
      refine gf_10_4 C hI h0.1 fl_X10_19 dX10_comes_28 ?_
      refine lv_iload_n hx hb dX10_comes_31 rfl (lv_at hl 3 rfl) ?_
      obtain ⟨v63, e64, hf⟩ := ob hf
      refine m_iald C hI h0.2.1 (ce_1005 E _ _ _) e64 dX10_comes_32 ?_
      refine lv_iload_n hx hb dX10_comes_33 rfl (lv_at hl 1 rfl) ?_
      refine lv_icmp_ne (tgt := 48) hx hb dX10_comes_34 rfl (fun hc => ?_) (fun hc => ?_)
      · replace hf := ie hf hc
        refine lv_bipush (v := (-3 : Int32)) hx hb dX10_comes_48 kb_m3 ?_
        obtain rfl := Option.some.inj hf
        exact m_iret C hr hlk hI dX10_comes_50
      · replace hf := it hf hc
        exact cb_X10_comes_37 C hr hlk  _ _ _ _ _ _ h0 hf hI (lv_sub hl [0, 1, 2, 3, 4, 5] rfl)
  · replace hf := it hf hc
    refine lv_iconst (v := (-1 : Int32)) hx hb dX10_comes_14 kc_m1 ?_
    obtain rfl := Option.some.inj hf
    exact m_iret C hr hlk hI dX10_comes_15

theorem dX10_mark_0 : decode cX10_mark 0 = .ok (.aload_n 0, 1) := by decide +kernel
theorem dX10_mark_1 : decode cX10_mark 1 = .ok (.iload_n 1, 1) := by decide +kernel
theorem dX10_mark_2 : decode cX10_mark 2 = .ok (.iload_n 2, 1) := by decide +kernel
theorem dX10_mark_3 : decode cX10_mark 3 = .ok (.iload_n 3, 1) := by decide +kernel
theorem dX10_mark_4 : decode cX10_mark 4 = .ok (.iload 4, 2) := by decide +kernel
theorem dX10_mark_6 : decode cX10_mark 6 = .ok (.iload 5, 2) := by decide +kernel
theorem dX10_mark_8 : decode cX10_mark 8 = .ok (.invokevirtual 217, 3) := by decide +kernel
theorem dX10_mark_11 : decode cX10_mark 11 = .ok (.istore 6, 2) := by decide +kernel
theorem dX10_mark_13 : decode cX10_mark 13 = .ok (.aload_n 0, 1) := by decide +kernel
theorem dX10_mark_14 : decode cX10_mark 14 = .ok (.dup, 1) := by decide +kernel
theorem dX10_mark_15 : decode cX10_mark 15 = .ok (.getfield 146, 3) := by decide +kernel
theorem dX10_mark_18 : decode cX10_mark 18 = .ok (.iload 6, 2) := by decide +kernel
theorem dX10_mark_20 : decode cX10_mark 20 = .ok (.ifCond .ge 7, 3) := by decide +kernel
theorem dX10_mark_23 : decode cX10_mark 23 = .ok (.iconst 1, 1) := by decide +kernel
theorem dX10_mark_24 : decode cX10_mark 24 = .ok (.goto 4, 3) := by decide +kernel
theorem dX10_mark_27 : decode cX10_mark 27 = .ok (.iconst 0, 1) := by decide +kernel
theorem dX10_mark_28 : decode cX10_mark 28 = .ok (.iadd, 1) := by decide +kernel
theorem dX10_mark_29 : decode cX10_mark 29 = .ok (.putfield 146, 3) := by decide +kernel
theorem dX10_mark_32 : decode cX10_mark 32 = .ok (.iload 6, 2) := by decide +kernel
theorem dX10_mark_34 : decode cX10_mark 34 = .ok (.ireturn, 1) := by decide +kernel
def f_X10_mark (F : Nat) (μ : Mm) (p1 : Int32) (p2 : Int32) (p3 : Int32) (p4 : Int32) (p5 : Int32) : Option (Int32 × Mm) :=
 (f_X10_comes F μ p1 p2 p3 p4 p5).bind fun q5 =>
 if 0 ≤ q5.1 then
 (wf q5.2 1000 0 17 ((q5.2.1 1000 0 17) + (0 : Int32))).bind fun m7 =>
 some (q5.1, m7)
 else
 (wf q5.2 1000 0 17 ((q5.2.1 1000 0 17) + (1 : Int32))).bind fun m9 =>
 some (q5.1, m9)
set_option maxHeartbeats 4000000 in
set_option maxRecDepth 100000 in
theorem c_X10_mark (l : Launch) (E : En) {F : Nat} {μ : Mm} {p1 : Int32} {p2 : Int32} {p3 : Int32} {p4 : Int32} {p5 : Int32} (h0 : l10 E 0) {z : Int32 × Mm} (hf : f_X10_mark F μ p1 p2 p3 p4 p5 = some z) : Met l yX10_mark (wt yX10_mark cX10_mark 7 (some .int)) { frames := 5, cells := 0, slots := 0, locals := 115 } (Pm E [.ref (ad E 1000 0), .int p1, .int p2, .int p3, .int p4, .int p5] μ) (Qm E (some (.int z.1)) z.2) 0 0 (Ad E) := by
  unfold f_X10_mark at hf
  refine met_of (cc := cX10_mark) (nL := 7) (ret := (some .int)) (by decide) _ (Nat.le_of_ble_eq_true rfl) ?_
  intro p e s m below meth c C hr hlk hI ls hl
  have hx := C.1.1
  have hb := C.1.2.1
  have hl : lv_has ls 7 [(0, .ref (ad E 1000 0)), (1, .int p1), (2, .int p2), (3, .int p3), (4, .int p4), (5, .int p5)] := hl
  refine lv_aload_n hx hb dX10_mark_0 rfl (lv_at hl 0 rfl) ?_
  refine lv_iload_n hx hb dX10_mark_1 rfl (lv_at hl 1 rfl) ?_
  refine lv_iload_n hx hb dX10_mark_2 rfl (lv_at hl 2 rfl) ?_
  refine lv_iload_n hx hb dX10_mark_3 rfl (lv_at hl 3 rfl) ?_
  refine lv_iload hx hb dX10_mark_4 (lv_at hl 4 rfl) ?_
  refine lv_iload hx hb dX10_mark_6 (lv_at hl 5 rfl) ?_
  obtain ⟨q5, e6, hf⟩ := ob hf
  refine mcV (As := [.int p1, .int p2, .int p3, .int p4, .int p5]) (rest := []) C hI (c_X10_comes l E h0 e6) ml_X10_217 kv_X10_comes (m_recv C hI h0.1 (ce_1000 E _ _ _) rfl) rfl rfl ⟨Nat.le_of_ble_eq_true rfl, Nat.le_of_ble_eq_true rfl⟩ ⟨Nat.zero_le _, Nat.zero_le _⟩ rfl rfl hl.1 (Nat.le_of_ble_eq_true rfl) dX10_mark_8 (st1 := [.int q5.1]) rfl (fun H locs hI => ?_)
  refine lv_istore hx hb dX10_mark_11 hl (by decide) rfl (fun ls hl => ?_)
  have hl : lv_has ls 7 [(6, .int q5.1), (0, .ref (ad E 1000 0)), (1, .int p1), (2, .int p2), (3, .int p3), (4, .int p4), (5, .int p5)] := hl
  refine lv_aload_n hx hb dX10_mark_13 rfl (lv_at hl 1 rfl) ?_
  refine lv_dup hx hb dX10_mark_14 rfl ?_
  refine gf_10_17 C hI h0.1 fl_X10_146 dX10_mark_15 ?_
  refine lv_iload hx hb dX10_mark_18 (lv_at hl 0 rfl) ?_
  refine lv_if_ge (tgt := 27) hx hb dX10_mark_20 rfl (fun hc => ?_) (fun hc => ?_)
  · replace hf := it hf hc
    refine lv_iconst (v := (0 : Int32)) hx hb dX10_mark_27 kc_0 ?_
    refine lv_iadd hx hb dX10_mark_28 ?_
    obtain ⟨m7, e8, hf⟩ := ob hf
    refine pf_10_17 C hI h0.1 fl_X10_146 e8 dX10_mark_29 (fun H locs hI => ?_)
    refine lv_iload hx hb dX10_mark_32 (lv_at hl 0 rfl) ?_
    obtain rfl := Option.some.inj hf
    exact m_iret C hr hlk hI dX10_mark_34
  · replace hf := ie hf hc
    refine lv_iconst (v := (1 : Int32)) hx hb dX10_mark_23 kc_1 ?_
    refine lv_goto (tgt := 28) hx hb dX10_mark_24 rfl ?_
    refine lv_iadd hx hb dX10_mark_28 ?_
    obtain ⟨m9, e10, hf⟩ := ob hf
    refine pf_10_17 C hI h0.1 fl_X10_146 e10 dX10_mark_29 (fun H locs hI => ?_)
    refine lv_iload hx hb dX10_mark_32 (lv_at hl 0 rfl) ?_
    obtain rfl := Option.some.inj hf
    exact m_iret C hr hlk hI dX10_mark_34

theorem dX10_state_0 : decode cX10_state 0 = .ok (.aload_n 0, 1) := by decide +kernel
theorem dX10_state_1 : decode cX10_state 1 = .ok (.iload_n 1, 1) := by decide +kernel
theorem dX10_state_2 : decode cX10_state 2 = .ok (.invokevirtual 149, 3) := by decide +kernel
theorem dX10_state_5 : decode cX10_state 5 = .ok (.ifCond .ne 5, 3) := by decide +kernel
theorem dX10_state_8 : decode cX10_state 8 = .ok (.iconst (-1), 1) := by decide +kernel
theorem dX10_state_9 : decode cX10_state 9 = .ok (.ireturn, 1) := by decide +kernel
theorem dX10_state_10 : decode cX10_state 10 = .ok (.aload_n 0, 1) := by decide +kernel
theorem dX10_state_11 : decode cX10_state 11 = .ok (.aload_n 0, 1) := by decide +kernel
theorem dX10_state_12 : decode cX10_state 12 = .ok (.getfield 19, 3) := by decide +kernel
theorem dX10_state_15 : decode cX10_state 15 = .ok (.iload_n 1, 1) := by decide +kernel
theorem dX10_state_16 : decode cX10_state 16 = .ok (.iaload, 1) := by decide +kernel
theorem dX10_state_17 : decode cX10_state 17 = .ok (.invokevirtual 207, 3) := by decide +kernel
theorem dX10_state_20 : decode cX10_state 20 = .ok (.aload_n 0, 1) := by decide +kernel
theorem dX10_state_21 : decode cX10_state 21 = .ok (.getfield 82, 3) := by decide +kernel
theorem dX10_state_24 : decode cX10_state 24 = .ok (.iload_n 1, 1) := by decide +kernel
theorem dX10_state_25 : decode cX10_state 25 = .ok (.iaload, 1) := by decide +kernel
theorem dX10_state_26 : decode cX10_state 26 = .ok (.ireturn, 1) := by decide +kernel
def f_X10_state (F : Nat) (μ : Mm) (p1 : Int32) : Option (Int32 × Mm) :=
 (f_X10_isTask μ p1).bind fun q9 =>
 if q9 = 0 then
 some ((-1 : Int32), μ)
 else
 (ra μ 1005 0 8 p1).bind fun v11 =>
 (f_X10_ends F μ v11).bind fun q13 =>
 (ra q13 1028 0 8 p1).bind fun v15 =>
 some (v15, q13)
set_option maxHeartbeats 4000000 in
set_option maxRecDepth 100000 in
theorem c_X10_state (l : Launch) (E : En) {F : Nat} {μ : Mm} {p1 : Int32} (h0 : l10 E 0) {z : Int32 × Mm} (hf : f_X10_state F μ p1 = some z) : Met l yX10_state (wt yX10_state cX10_state 2 (some .int)) { frames := 4, cells := 0, slots := 0, locals := 87 } (Pm E [.ref (ad E 1000 0), .int p1] μ) (Qm E (some (.int z.1)) z.2) 0 0 (Ad E) := by
  unfold f_X10_state at hf
  refine met_of (cc := cX10_state) (nL := 2) (ret := (some .int)) (by decide) _ (Nat.le_of_ble_eq_true rfl) ?_
  intro p e s m below meth c C hr hlk hI ls hl
  have hx := C.1.1
  have hb := C.1.2.1
  have hl : lv_has ls 2 [(0, .ref (ad E 1000 0)), (1, .int p1)] := hl
  refine lv_aload_n hx hb dX10_state_0 rfl (lv_at hl 0 rfl) ?_
  refine lv_iload_n hx hb dX10_state_1 rfl (lv_at hl 1 rfl) ?_
  obtain ⟨q9, e10, hf⟩ := ob hf
  refine mcV (As := [.int p1]) (rest := []) C hI (c_X10_isTask l E h0 e10) ml_X10_149 kv_X10_isTask (m_recv C hI h0.1 (ce_1000 E _ _ _) rfl) rfl rfl ⟨Nat.le_of_ble_eq_true rfl, Nat.le_of_ble_eq_true rfl⟩ ⟨Nat.zero_le _, Nat.zero_le _⟩ rfl rfl hl.1 (Nat.le_of_ble_eq_true rfl) dX10_state_2 (st1 := [.int q9]) rfl (fun H locs hI => ?_)
  refine lv_if_ne (tgt := 10) hx hb dX10_state_5 rfl (fun hc => ?_) (fun hc => ?_)
  · replace hf := ie hf hc
    refine lv_aload_n hx hb dX10_state_10 rfl (lv_at hl 0 rfl) ?_
    refine lv_aload_n hx hb dX10_state_11 rfl (lv_at hl 0 rfl) ?_
    refine gf_10_4 C hI h0.1 fl_X10_19 dX10_state_12 ?_
    refine lv_iload_n hx hb dX10_state_15 rfl (lv_at hl 1 rfl) ?_
    obtain ⟨v11, e12, hf⟩ := ob hf
    refine m_iald C hI h0.2.1 (ce_1005 E _ _ _) e12 dX10_state_16 ?_
    obtain ⟨q13, e14, hf⟩ := ob hf
    refine mcV (As := [.int v11]) (rest := []) C hI (c_X10_ends l E h0 e14) ml_X10_207 kv_X10_ends (m_recv C hI h0.1 (ce_1000 E _ _ _) rfl) rfl rfl ⟨Nat.le_of_ble_eq_true rfl, Nat.le_of_ble_eq_true rfl⟩ ⟨Nat.zero_le _, Nat.zero_le _⟩ rfl rfl hl.1 (Nat.le_of_ble_eq_true rfl) dX10_state_17 (st1 := []) rfl (fun H locs hI => ?_)
    refine lv_aload_n hx hb dX10_state_20 rfl (lv_at hl 0 rfl) ?_
    refine gf_10_27 C hI h0.1 fl_X10_82 dX10_state_21 ?_
    refine lv_iload_n hx hb dX10_state_24 rfl (lv_at hl 1 rfl) ?_
    obtain ⟨v15, e16, hf⟩ := ob hf
    refine m_iald C hI h0.2.2.2.2.2.2.2.2.2.2.2.2.2.2.2.2.2.2.2.2.2.1 (ce_1028 E _ _ _) e16 dX10_state_25 ?_
    obtain rfl := Option.some.inj hf
    exact m_iret C hr hlk hI dX10_state_26
  · replace hf := it hf hc
    refine lv_iconst (v := (-1 : Int32)) hx hb dX10_state_8 kc_m1 ?_
    obtain rfl := Option.some.inj hf
    exact m_iret C hr hlk hI dX10_state_9

theorem dX10_holder_0 : decode cX10_holder 0 = .ok (.aload_n 0, 1) := by decide +kernel
theorem dX10_holder_1 : decode cX10_holder 1 = .ok (.iload_n 1, 1) := by decide +kernel
theorem dX10_holder_2 : decode cX10_holder 2 = .ok (.invokevirtual 153, 3) := by decide +kernel
theorem dX10_holder_5 : decode cX10_holder 5 = .ok (.ifCond .eq 12, 3) := by decide +kernel
theorem dX10_holder_8 : decode cX10_holder 8 = .ok (.iload_n 2, 1) := by decide +kernel
theorem dX10_holder_9 : decode cX10_holder 9 = .ok (.iconst 0, 1) := by decide +kernel
theorem dX10_holder_10 : decode cX10_holder 10 = .ok (.iconst 3, 1) := by decide +kernel
theorem dX10_holder_11 : decode cX10_holder 11 = .ok (.invokestatic 136, 3) := by decide +kernel
theorem dX10_holder_14 : decode cX10_holder 14 = .ok (.ifCond .ne 5, 3) := by decide +kernel
theorem dX10_holder_17 : decode cX10_holder 17 = .ok (.iconst (-1), 1) := by decide +kernel
theorem dX10_holder_18 : decode cX10_holder 18 = .ok (.ireturn, 1) := by decide +kernel
theorem dX10_holder_19 : decode cX10_holder 19 = .ok (.aload_n 0, 1) := by decide +kernel
theorem dX10_holder_20 : decode cX10_holder 20 = .ok (.iload_n 1, 1) := by decide +kernel
theorem dX10_holder_21 : decode cX10_holder 21 = .ok (.invokevirtual 207, 3) := by decide +kernel
theorem dX10_holder_24 : decode cX10_holder 24 = .ok (.aload_n 0, 1) := by decide +kernel
theorem dX10_holder_25 : decode cX10_holder 25 = .ok (.getfield 88, 3) := by decide +kernel
theorem dX10_holder_28 : decode cX10_holder 28 = .ok (.iload_n 2, 1) := by decide +kernel
theorem dX10_holder_29 : decode cX10_holder 29 = .ok (.iaload, 1) := by decide +kernel
theorem dX10_holder_30 : decode cX10_holder 30 = .ok (.iconst (-1), 1) := by decide +kernel
theorem dX10_holder_31 : decode cX10_holder 31 = .ok (.if_icmp .ne 8, 3) := by decide +kernel
theorem dX10_holder_34 : decode cX10_holder 34 = .ok (.bipush (-2), 2) := by decide +kernel
theorem dX10_holder_36 : decode cX10_holder 36 = .ok (.goto 9, 3) := by decide +kernel
theorem dX10_holder_39 : decode cX10_holder 39 = .ok (.aload_n 0, 1) := by decide +kernel
theorem dX10_holder_40 : decode cX10_holder 40 = .ok (.getfield 88, 3) := by decide +kernel
theorem dX10_holder_43 : decode cX10_holder 43 = .ok (.iload_n 2, 1) := by decide +kernel
theorem dX10_holder_44 : decode cX10_holder 44 = .ok (.iaload, 1) := by decide +kernel
theorem dX10_holder_45 : decode cX10_holder 45 = .ok (.ireturn, 1) := by decide +kernel
def f_X10_holder (F : Nat) (μ : Mm) (p1 : Int32) (p2 : Int32) : Option (Int32 × Mm) :=
 (f_X10_isProcessor μ p1).bind fun q11 =>
 if q11 = 0 then
 some ((-1 : Int32), μ)
 else
 (f_X10_in μ p2 (0 : Int32) (3 : Int32)).bind fun q13 =>
 if q13 = 0 then
 some ((-1 : Int32), μ)
 else
 (f_X10_ends F μ p1).bind fun q15 =>
 (ra q15 1030 0 4 p2).bind fun v17 =>
 if v17 = (-1 : Int32) then
 some ((-2 : Int32), q15)
 else
 (ra q15 1030 0 4 p2).bind fun v19 =>
 some (v19, q15)
set_option maxHeartbeats 4000000 in
set_option maxRecDepth 100000 in
theorem c_X10_holder (l : Launch) (E : En) {F : Nat} {μ : Mm} {p1 : Int32} {p2 : Int32} (h0 : l10 E 0) {z : Int32 × Mm} (hf : f_X10_holder F μ p1 p2 = some z) : Met l yX10_holder (wt yX10_holder cX10_holder 3 (some .int)) { frames := 4, cells := 0, slots := 0, locals := 87 } (Pm E [.ref (ad E 1000 0), .int p1, .int p2] μ) (Qm E (some (.int z.1)) z.2) 0 0 (Ad E) := by
  unfold f_X10_holder at hf
  refine met_of (cc := cX10_holder) (nL := 3) (ret := (some .int)) (by decide) _ (Nat.le_of_ble_eq_true rfl) ?_
  intro p e s m below meth c C hr hlk hI ls hl
  have hx := C.1.1
  have hb := C.1.2.1
  have hl : lv_has ls 3 [(0, .ref (ad E 1000 0)), (1, .int p1), (2, .int p2)] := hl
  refine lv_aload_n hx hb dX10_holder_0 rfl (lv_at hl 0 rfl) ?_
  refine lv_iload_n hx hb dX10_holder_1 rfl (lv_at hl 1 rfl) ?_
  obtain ⟨q11, e12, hf⟩ := ob hf
  refine mcV (As := [.int p1]) (rest := []) C hI (c_X10_isProcessor l E h0 e12) ml_X10_153 kv_X10_isProcessor (m_recv C hI h0.1 (ce_1000 E _ _ _) rfl) rfl rfl ⟨Nat.le_of_ble_eq_true rfl, Nat.le_of_ble_eq_true rfl⟩ ⟨Nat.zero_le _, Nat.zero_le _⟩ rfl rfl hl.1 (Nat.le_of_ble_eq_true rfl) dX10_holder_2 (st1 := [.int q11]) rfl (fun H locs hI => ?_)
  refine lv_if_eq (tgt := 17) hx hb dX10_holder_5 rfl (fun hc => ?_) (fun hc => ?_)
  · replace hf := it hf hc
    refine lv_iconst (v := (-1 : Int32)) hx hb dX10_holder_17 kc_m1 ?_
    obtain rfl := Option.some.inj hf
    exact m_iret C hr hlk hI dX10_holder_18
  · replace hf := ie hf hc
    refine lv_iload_n hx hb dX10_holder_8 rfl (lv_at hl 2 rfl) ?_
    refine lv_iconst (v := (0 : Int32)) hx hb dX10_holder_9 kc_0 ?_
    refine lv_iconst (v := (3 : Int32)) hx hb dX10_holder_10 kc_3 ?_
    obtain ⟨q13, e14, hf⟩ := ob hf
    refine mcS (As := [.int p2, .int (0 : Int32), .int (3 : Int32)]) (rest := []) C hI (c_X10_in l E  e14) ml_X10_136 ks_X10_in rfl rfl ⟨Nat.le_of_ble_eq_true rfl, Nat.le_of_ble_eq_true rfl⟩ ⟨Nat.zero_le _, Nat.zero_le _⟩ rfl rfl hl.1 (Nat.le_of_ble_eq_true rfl) dX10_holder_11 (st1 := [.int q13]) rfl (fun H locs hI => ?_)
    refine lv_if_ne (tgt := 19) hx hb dX10_holder_14 rfl (fun hc => ?_) (fun hc => ?_)
    · replace hf := ie hf hc
      refine lv_aload_n hx hb dX10_holder_19 rfl (lv_at hl 0 rfl) ?_
      refine lv_iload_n hx hb dX10_holder_20 rfl (lv_at hl 1 rfl) ?_
      obtain ⟨q15, e16, hf⟩ := ob hf
      refine mcV (As := [.int p1]) (rest := []) C hI (c_X10_ends l E h0 e16) ml_X10_207 kv_X10_ends (m_recv C hI h0.1 (ce_1000 E _ _ _) rfl) rfl rfl ⟨Nat.le_of_ble_eq_true rfl, Nat.le_of_ble_eq_true rfl⟩ ⟨Nat.zero_le _, Nat.zero_le _⟩ rfl rfl hl.1 (Nat.le_of_ble_eq_true rfl) dX10_holder_21 (st1 := []) rfl (fun H locs hI => ?_)
      refine lv_aload_n hx hb dX10_holder_24 rfl (lv_at hl 0 rfl) ?_
      refine gf_10_29 C hI h0.1 fl_X10_88 dX10_holder_25 ?_
      refine lv_iload_n hx hb dX10_holder_28 rfl (lv_at hl 2 rfl) ?_
      obtain ⟨v17, e18, hf⟩ := ob hf
      refine m_iald C hI h0.2.2.2.2.2.2.2.2.2.2.2.2.2.2.2.2.2.2.2.2.2.2.2.1 (ce_1030 E _ _ _) e18 dX10_holder_29 ?_
      refine lv_iconst (v := (-1 : Int32)) hx hb dX10_holder_30 kc_m1 ?_
      refine lv_icmp_ne (tgt := 39) hx hb dX10_holder_31 rfl (fun hc => ?_) (fun hc => ?_)
      · replace hf := ie hf hc
        refine lv_aload_n hx hb dX10_holder_39 rfl (lv_at hl 0 rfl) ?_
        refine gf_10_29 C hI h0.1 fl_X10_88 dX10_holder_40 ?_
        refine lv_iload_n hx hb dX10_holder_43 rfl (lv_at hl 2 rfl) ?_
        obtain ⟨v19, e20, hf⟩ := ob hf
        refine m_iald C hI h0.2.2.2.2.2.2.2.2.2.2.2.2.2.2.2.2.2.2.2.2.2.2.2.1 (ce_1030 E _ _ _) e20 dX10_holder_44 ?_
        obtain rfl := Option.some.inj hf
        exact m_iret C hr hlk hI dX10_holder_45
      · replace hf := it hf hc
        refine lv_bipush (v := (-2 : Int32)) hx hb dX10_holder_34 kb_m2 ?_
        refine lv_goto (tgt := 45) hx hb dX10_holder_36 rfl ?_
        obtain rfl := Option.some.inj hf
        exact m_iret C hr hlk hI dX10_holder_45
    · replace hf := it hf hc
      refine lv_iconst (v := (-1 : Int32)) hx hb dX10_holder_17 kc_m1 ?_
      obtain rfl := Option.some.inj hf
      exact m_iret C hr hlk hI dX10_holder_18

theorem dX10_summed_0 : decode cX10_summed 0 = .ok (.iconst 0, 1) := by decide +kernel
theorem dX10_summed_1 : decode cX10_summed 1 = .ok (.istore_n 3, 1) := by decide +kernel
theorem dX10_summed_2 : decode cX10_summed 2 = .ok (.iconst 0, 1) := by decide +kernel
theorem dX10_summed_3 : decode cX10_summed 3 = .ok (.istore 4, 2) := by decide +kernel
theorem dX10_summed_5 : decode cX10_summed 5 = .ok (.iload 4, 2) := by decide +kernel
theorem dX10_summed_7 : decode cX10_summed 7 = .ok (.aload_n 0, 1) := by decide +kernel
theorem dX10_summed_8 : decode cX10_summed 8 = .ok (.getfield 29, 3) := by decide +kernel
theorem dX10_summed_11 : decode cX10_summed 11 = .ok (.aload_n 0, 1) := by decide +kernel
theorem dX10_summed_12 : decode cX10_summed 12 = .ok (.getfield 164, 3) := by decide +kernel
theorem dX10_summed_15 : decode cX10_summed 15 = .ok (.iaload, 1) := by decide +kernel
theorem dX10_summed_16 : decode cX10_summed 16 = .ok (.if_icmp .ge 64, 3) := by decide +kernel
theorem dX10_summed_19 : decode cX10_summed 19 = .ok (.aload_n 0, 1) := by decide +kernel
theorem dX10_summed_20 : decode cX10_summed 20 = .ok (.iload 4, 2) := by decide +kernel
theorem dX10_summed_22 : decode cX10_summed 22 = .ok (.invokevirtual 200, 3) := by decide +kernel
theorem dX10_summed_25 : decode cX10_summed 25 = .ok (.iload 4, 2) := by decide +kernel
theorem dX10_summed_27 : decode cX10_summed 27 = .ok (.iconst 1, 1) := by decide +kernel
theorem dX10_summed_28 : decode cX10_summed 28 = .ok (.iadd, 1) := by decide +kernel
theorem dX10_summed_29 : decode cX10_summed 29 = .ok (.aload_n 0, 1) := by decide +kernel
theorem dX10_summed_30 : decode cX10_summed 30 = .ok (.getfield 29, 3) := by decide +kernel
theorem dX10_summed_33 : decode cX10_summed 33 = .ok (.aload_n 0, 1) := by decide +kernel
theorem dX10_summed_34 : decode cX10_summed 34 = .ok (.getfield 164, 3) := by decide +kernel
theorem dX10_summed_37 : decode cX10_summed 37 = .ok (.iaload, 1) := by decide +kernel
theorem dX10_summed_38 : decode cX10_summed 38 = .ok (.if_icmp .ge 36, 3) := by decide +kernel
theorem dX10_summed_41 : decode cX10_summed 41 = .ok (.iload_n 3, 1) := by decide +kernel
theorem dX10_summed_42 : decode cX10_summed 42 = .ok (.iload_n 2, 1) := by decide +kernel
theorem dX10_summed_43 : decode cX10_summed 43 = .ok (.iconst 5, 1) := by decide +kernel
theorem dX10_summed_44 : decode cX10_summed 44 = .ok (.if_icmp .eq 18, 3) := by decide +kernel
theorem dX10_summed_47 : decode cX10_summed 47 = .ok (.aload_n 0, 1) := by decide +kernel
theorem dX10_summed_48 : decode cX10_summed 48 = .ok (.iload_n 1, 1) := by decide +kernel
theorem dX10_summed_49 : decode cX10_summed 49 = .ok (.aload_n 0, 1) := by decide +kernel
theorem dX10_summed_50 : decode cX10_summed 50 = .ok (.iload 4, 2) := by decide +kernel
theorem dX10_summed_52 : decode cX10_summed 52 = .ok (.invokevirtual 221, 3) := by decide +kernel
theorem dX10_summed_55 : decode cX10_summed 55 = .ok (.invokevirtual 224, 3) := by decide +kernel
theorem dX10_summed_58 : decode cX10_summed 58 = .ok (.iload_n 2, 1) := by decide +kernel
theorem dX10_summed_59 : decode cX10_summed 59 = .ok (.if_icmp .ne 12, 3) := by decide +kernel
theorem dX10_summed_62 : decode cX10_summed 62 = .ok (.aload_n 0, 1) := by decide +kernel
theorem dX10_summed_63 : decode cX10_summed 63 = .ok (.iload 4, 2) := by decide +kernel
theorem dX10_summed_65 : decode cX10_summed 65 = .ok (.invokevirtual 228, 3) := by decide +kernel
theorem dX10_summed_68 : decode cX10_summed 68 = .ok (.goto 4, 3) := by decide +kernel
theorem dX10_summed_71 : decode cX10_summed 71 = .ok (.iconst 0, 1) := by decide +kernel
theorem dX10_summed_72 : decode cX10_summed 72 = .ok (.iadd, 1) := by decide +kernel
theorem dX10_summed_73 : decode cX10_summed 73 = .ok (.istore_n 3, 1) := by decide +kernel
theorem dX10_summed_74 : decode cX10_summed 74 = .ok (.iinc 4 1, 3) := by decide +kernel
theorem dX10_summed_77 : decode cX10_summed 77 = .ok (.goto (-72), 3) := by decide +kernel
theorem dX10_summed_80 : decode cX10_summed 80 = .ok (.iload_n 3, 1) := by decide +kernel
theorem dX10_summed_81 : decode cX10_summed 81 = .ok (.ireturn, 1) := by decide +kernel
def f_X10_summed_b62 (F : Nat) (K5 : Mm → Int32 → Int32 → Int32 → Int32 → Option (Int32 × Mm)) (μ : Mm) (a1 : Int32) (a2 : Int32) (a4 : Int32) (s0 : Int32) : Option (Int32 × Mm) :=
 (f_X10_stretch μ a4).bind fun q13 =>
 K5 μ a1 a2 (s0 + q13) (a4 + (1 : Int32))
set_option maxHeartbeats 4000000 in
set_option maxRecDepth 100000 in
theorem cb_X10_summed_62 {l : Launch} {E : En} {p : Program} {e : Env} {s : State} {m : MethodId} {av : Array Value} {below : List Frame} {meth : Method} {c : Code} (C : Cx E p s m av c cX10_summed 5 yX10_summed.cls) (hr : meth.sig.returnType = (some .int)) (hlk : meth.locks = false) {F : Nat} {K5 : Mm → Int32 → Int32 → Int32 → Int32 → Option (Int32 × Mm)} {z : Int32 × Mm} (hK5 : ∀ (μ : Mm) (a1 : Int32) (a2 : Int32) (a3 : Int32) (a4 : Int32) (h_a0 : l10 E 0), K5 μ a1 a2 a3 a4 = some z → ∀ {H : Heap} {locs : List Loc} {ls : Array Slot}, Iv E s μ H locs → lv_has ls 5 [(0, .ref (ad E 1000 0)), (1, .int a1), (2, .int a2), (3, .int a3), (4, .int a4)] → W p l e { frames := 3, cells := 0, slots := 0, locals := 65 } s m av below meth c H locs 0 0 (MQ below (Qm E (some (.int z.1)) z.2) av s 0 0 (Ad E)) (F0 m 5 ls [])) : ∀ (μ : Mm) (a1 : Int32) (a2 : Int32) (a4 : Int32) (s0 : Int32) (h_a0 : l10 E 0), f_X10_summed_b62 F K5 μ a1 a2 a4 s0 = some z → ∀ {H : Heap} {locs : List Loc} {ls : Array Slot}, Iv E s μ H locs → lv_has ls 5 [(0, .ref (ad E 1000 0)), (1, .int a1), (2, .int a2), (4, .int a4)] → W p l e { frames := 3, cells := 0, slots := 0, locals := 65 } s m av below meth c H locs 0 0 (MQ below (Qm E (some (.int z.1)) z.2) av s 0 0 (Ad E)) (F0 m 62 ls [.int s0]) := by
  have hx := C.1.1
  have hb := C.1.2.1
  intro μ a1 a2 a4 s0 h_a0 hf H locs ls hI hl
  unfold f_X10_summed_b62 at hf
  refine lv_aload_n hx hb dX10_summed_62 rfl (lv_at hl 0 rfl) ?_
  refine lv_iload hx hb dX10_summed_63 (lv_at hl 3 rfl) ?_
  obtain ⟨q13, e14, hf⟩ := ob hf
  refine mcV (As := [.int a4]) (rest := [.int s0]) C hI (c_X10_stretch l E h_a0 e14) ml_X10_228 kv_X10_stretch (m_recv C hI h_a0.1 (ce_1000 E _ _ _) rfl) rfl rfl ⟨Nat.le_of_ble_eq_true rfl, Nat.le_of_ble_eq_true rfl⟩ ⟨Nat.zero_le _, Nat.zero_le _⟩ rfl rfl hl.1 (Nat.le_of_ble_eq_true rfl) dX10_summed_65 (st1 := [.int q13, .int s0]) rfl (fun H locs hI => ?_)
  refine lv_goto (tgt := 72) hx hb dX10_summed_68 rfl ?_
  refine lv_iadd hx hb dX10_summed_72 ?_
  refine lv_istore_n hx hb dX10_summed_73 rfl hl (by decide) rfl (fun ls hl => ?_)
  have hl : lv_has ls 5 [(3, .int (s0 + q13)), (0, .ref (ad E 1000 0)), (1, .int a1), (2, .int a2), (4, .int a4)] := hl
  refine lv_iinc (v := a4 + (1 : Int32)) hx hb dX10_summed_74 hl (k := 4) rfl (ki_1 _) (by decide) rfl (fun ls hl => ?_)
  have hl : lv_has ls 5 [(4, .int (a4 + (1 : Int32))), (3, .int (s0 + q13)), (0, .ref (ad E 1000 0)), (1, .int a1), (2, .int a2)] := hl
  refine lv_goto (tgt := 5) hx hb dX10_summed_77 rfl ?_
  exact hK5 _ _ _ _ _ h_a0 hf hI (lv_sub hl [2, 3, 4, 1, 0] rfl)
def f_X10_summed_b5 (F : Nat) : Nat → Mm → Int32 → Int32 → Int32 → Int32 → Option (Int32 × Mm)
 | 0, _, _, _, _, _ => none
 | N + 1, μ, a1, a2, a3, a4 =>
 (ra μ 1008 0 21 (μ.1 1000 0 33)).bind fun v15 =>
 if v15 ≤ a4 then
 some (a3, μ)
 else
 (f_X10_doesMark F μ a4).bind fun q17 =>
 (ra q17 1008 0 21 (q17.1 1000 0 33)).bind fun v19 =>
 if v19 ≤ (a4 + (1 : Int32)) then
 f_X10_summed_b5 F N q17 a1 a2 a3 (a4 + (1 : Int32))
 else
 if a2 = (5 : Int32) then
 f_X10_summed_b62 F (fun μ a1 a2 a3 a4 => f_X10_summed_b5 F N μ a1 a2 a3 a4) q17 a1 a2 a4 a3
 else
 (f_X10_isDark q17 a4).bind fun q21 =>
 (f_X10_countsAs q17 a1 q21).bind fun q23 =>
 if q23 = a2 then
 f_X10_summed_b62 F (fun μ a1 a2 a3 a4 => f_X10_summed_b5 F N μ a1 a2 a3 a4) q17 a1 a2 a4 a3
 else
 f_X10_summed_b5 F N q17 a1 a2 (a3 + (0 : Int32)) (a4 + (1 : Int32))
set_option maxHeartbeats 4000000 in
set_option maxRecDepth 100000 in
theorem cb_X10_summed_5 {l : Launch} {E : En} {p : Program} {e : Env} {s : State} {m : MethodId} {av : Array Value} {below : List Frame} {meth : Method} {c : Code} (C : Cx E p s m av c cX10_summed 5 yX10_summed.cls) (hr : meth.sig.returnType = (some .int)) (hlk : meth.locks = false) {F : Nat} {z : Int32 × Mm} : ∀ (N : Nat) (μ : Mm) (a1 : Int32) (a2 : Int32) (a3 : Int32) (a4 : Int32) (h_a0 : l10 E 0), f_X10_summed_b5 F N μ a1 a2 a3 a4 = some z → ∀ {H : Heap} {locs : List Loc} {ls : Array Slot}, Iv E s μ H locs → lv_has ls 5 [(0, .ref (ad E 1000 0)), (1, .int a1), (2, .int a2), (3, .int a3), (4, .int a4)] → W p l e { frames := 3, cells := 0, slots := 0, locals := 65 } s m av below meth c H locs 0 0 (MQ below (Qm E (some (.int z.1)) z.2) av s 0 0 (Ad E)) (F0 m 5 ls []) := by
  have hx := C.1.1
  have hb := C.1.2.1
  intro N
  induction N with
  | zero => intro μ a1 a2 a3 a4 h_a0 hf; cases hf
  | succ N ih =>
    intro μ a1 a2 a3 a4 h_a0 hf H locs ls hI hl
    rw [f_X10_summed_b5] at hf
    refine lv_iload hx hb dX10_summed_5 (lv_at hl 4 rfl) ?_
    refine lv_aload_n hx hb dX10_summed_7 rfl (lv_at hl 0 rfl) ?_
    refine gf_10_7 C hI h_a0.1 fl_X10_29 dX10_summed_8 ?_
    refine lv_aload_n hx hb dX10_summed_11 rfl (lv_at hl 0 rfl) ?_
    refine gf_10_33 C hI h_a0.1 fl_X10_164 dX10_summed_12 ?_
    obtain ⟨v15, e16, hf⟩ := ob hf
    refine m_iald C hI h_a0.2.2.2.2.1 (ce_1008 E _ _ _) e16 dX10_summed_15 ?_
    refine lv_icmp_ge (tgt := 80) hx hb dX10_summed_16 rfl (fun hc => ?_) (fun hc => ?_)
    · replace hf := it hf hc
      refine lv_iload_n hx hb dX10_summed_80 rfl (lv_at hl 3 rfl) ?_
      obtain rfl := Option.some.inj hf
      exact m_iret C hr hlk hI dX10_summed_81
    · replace hf := ie hf hc
      refine lv_aload_n hx hb dX10_summed_19 rfl (lv_at hl 0 rfl) ?_
      refine lv_iload hx hb dX10_summed_20 (lv_at hl 4 rfl) ?_
      obtain ⟨q17, e18, hf⟩ := ob hf
      refine mcV (As := [.int a4]) (rest := []) C hI (c_X10_doesMark l E h_a0 e18) ml_X10_200 kv_X10_doesMark (m_recv C hI h_a0.1 (ce_1000 E _ _ _) rfl) rfl rfl ⟨Nat.le_of_ble_eq_true rfl, Nat.le_of_ble_eq_true rfl⟩ ⟨Nat.zero_le _, Nat.zero_le _⟩ rfl rfl hl.1 (Nat.le_of_ble_eq_true rfl) dX10_summed_22 (st1 := []) rfl (fun H locs hI => ?_)
      refine lv_iload hx hb dX10_summed_25 (lv_at hl 4 rfl) ?_
      refine lv_iconst (v := (1 : Int32)) hx hb dX10_summed_27 kc_1 ?_
      refine lv_iadd hx hb dX10_summed_28 ?_
      refine lv_aload_n hx hb dX10_summed_29 rfl (lv_at hl 0 rfl) ?_
      refine gf_10_7 C hI h_a0.1 fl_X10_29 dX10_summed_30 ?_
      refine lv_aload_n hx hb dX10_summed_33 rfl (lv_at hl 0 rfl) ?_
      refine gf_10_33 C hI h_a0.1 fl_X10_164 dX10_summed_34 ?_
      obtain ⟨v19, e20, hf⟩ := ob hf
      refine m_iald C hI h_a0.2.2.2.2.1 (ce_1008 E _ _ _) e20 dX10_summed_37 ?_
      refine lv_icmp_ge (tgt := 74) hx hb dX10_summed_38 rfl (fun hc => ?_) (fun hc => ?_)
      · replace hf := it hf hc
        refine lv_iinc (v := a4 + (1 : Int32)) hx hb dX10_summed_74 hl (k := 4) rfl (ki_1 _) (by decide) rfl (fun ls hl => ?_)
        have hl : lv_has ls 5 [(4, .int (a4 + (1 : Int32))), (0, .ref (ad E 1000 0)), (1, .int a1), (2, .int a2), (3, .int a3)] := hl
        refine lv_goto (tgt := 5) hx hb dX10_summed_77 rfl ?_
        exact ih _ _ _ _ _ h_a0 hf hI (lv_sub hl [1, 2, 3, 4, 0] rfl)
      · replace hf := ie hf hc
        refine lv_iload_n hx hb dX10_summed_41 rfl (lv_at hl 3 rfl) ?_
        refine lv_iload_n hx hb dX10_summed_42 rfl (lv_at hl 2 rfl) ?_
        refine lv_iconst (v := (5 : Int32)) hx hb dX10_summed_43 kc_5 ?_
        refine lv_icmp_eq (tgt := 62) hx hb dX10_summed_44 rfl (fun hc => ?_) (fun hc => ?_)
        · replace hf := it hf hc
          exact cb_X10_summed_62 C hr hlk ih _ _ _ _ _ h_a0 hf hI (lv_sub hl [0, 1, 2, 4] rfl)
        · replace hf := ie hf hc
          refine lv_aload_n hx hb dX10_summed_47 rfl (lv_at hl 0 rfl) ?_
          refine lv_iload_n hx hb dX10_summed_48 rfl (lv_at hl 1 rfl) ?_
          refine lv_aload_n hx hb dX10_summed_49 rfl (lv_at hl 0 rfl) ?_
          refine lv_iload hx hb dX10_summed_50 (lv_at hl 4 rfl) ?_
          obtain ⟨q21, e22, hf⟩ := ob hf
          refine mcV (As := [.int a4]) (rest := [.int a1, .ref (ad E 1000 0), .int a3]) C hI (c_X10_isDark l E h_a0 e22) ml_X10_221 kv_X10_isDark (m_recv C hI h_a0.1 (ce_1000 E _ _ _) rfl) rfl rfl ⟨Nat.le_of_ble_eq_true rfl, Nat.le_of_ble_eq_true rfl⟩ ⟨Nat.zero_le _, Nat.zero_le _⟩ rfl rfl hl.1 (Nat.le_of_ble_eq_true rfl) dX10_summed_52 (st1 := [.int q21, .int a1, .ref (ad E 1000 0), .int a3]) rfl (fun H locs hI => ?_)
          obtain ⟨q23, e24, hf⟩ := ob hf
          refine mcV (As := [.int a1, .int q21]) (rest := [.int a3]) C hI (c_X10_countsAs l E h_a0 e24) ml_X10_224 kv_X10_countsAs (m_recv C hI h_a0.1 (ce_1000 E _ _ _) rfl) rfl rfl ⟨Nat.le_of_ble_eq_true rfl, Nat.le_of_ble_eq_true rfl⟩ ⟨Nat.zero_le _, Nat.zero_le _⟩ rfl rfl hl.1 (Nat.le_of_ble_eq_true rfl) dX10_summed_55 (st1 := [.int q23, .int a3]) rfl (fun H locs hI => ?_)
          refine lv_iload_n hx hb dX10_summed_58 rfl (lv_at hl 2 rfl) ?_
          refine lv_icmp_ne (tgt := 71) hx hb dX10_summed_59 rfl (fun hc => ?_) (fun hc => ?_)
          · replace hf := ie hf hc
            refine lv_iconst (v := (0 : Int32)) hx hb dX10_summed_71 kc_0 ?_
            refine lv_iadd hx hb dX10_summed_72 ?_
            refine lv_istore_n hx hb dX10_summed_73 rfl hl (by decide) rfl (fun ls hl => ?_)
            have hl : lv_has ls 5 [(3, .int (a3 + (0 : Int32))), (0, .ref (ad E 1000 0)), (1, .int a1), (2, .int a2), (4, .int a4)] := hl
            refine lv_iinc (v := a4 + (1 : Int32)) hx hb dX10_summed_74 hl (k := 4) rfl (ki_1 _) (by decide) rfl (fun ls hl => ?_)
            have hl : lv_has ls 5 [(4, .int (a4 + (1 : Int32))), (3, .int (a3 + (0 : Int32))), (0, .ref (ad E 1000 0)), (1, .int a1), (2, .int a2)] := hl
            refine lv_goto (tgt := 5) hx hb dX10_summed_77 rfl ?_
            exact ih _ _ _ _ _ h_a0 hf hI (lv_sub hl [2, 3, 4, 1, 0] rfl)
          · replace hf := it hf hc
            exact cb_X10_summed_62 C hr hlk ih _ _ _ _ _ h_a0 hf hI (lv_sub hl [0, 1, 2, 4] rfl)
def f_X10_summed (F : Nat) (μ : Mm) (p1 : Int32) (p2 : Int32) : Option (Int32 × Mm) :=
 f_X10_summed_b5 F F μ p1 p2 (0 : Int32) (0 : Int32)
set_option maxHeartbeats 4000000 in
set_option maxRecDepth 100000 in
theorem c_X10_summed (l : Launch) (E : En) {F : Nat} {μ : Mm} {p1 : Int32} {p2 : Int32} (h0 : l10 E 0) {z : Int32 × Mm} (hf : f_X10_summed F μ p1 p2 = some z) : Met l yX10_summed (wt yX10_summed cX10_summed 5 (some .int)) { frames := 3, cells := 0, slots := 0, locals := 65 } (Pm E [.ref (ad E 1000 0), .int p1, .int p2] μ) (Qm E (some (.int z.1)) z.2) 0 0 (Ad E) := by
  unfold f_X10_summed at hf
  refine met_of (cc := cX10_summed) (nL := 5) (ret := (some .int)) (by decide) _ (Nat.le_of_ble_eq_true rfl) ?_
  intro p e s m below meth c C hr hlk hI ls hl
  have hx := C.1.1
  have hb := C.1.2.1
  have hl : lv_has ls 5 [(0, .ref (ad E 1000 0)), (1, .int p1), (2, .int p2)] := hl
  refine lv_iconst (v := (0 : Int32)) hx hb dX10_summed_0 kc_0 ?_
  refine lv_istore_n hx hb dX10_summed_1 rfl hl (by decide) rfl (fun ls hl => ?_)
  have hl : lv_has ls 5 [(3, .int (0 : Int32)), (0, .ref (ad E 1000 0)), (1, .int p1), (2, .int p2)] := hl
  refine lv_iconst (v := (0 : Int32)) hx hb dX10_summed_2 kc_0 ?_
  refine lv_istore hx hb dX10_summed_3 hl (by decide) rfl (fun ls hl => ?_)
  have hl : lv_has ls 5 [(4, .int (0 : Int32)), (3, .int (0 : Int32)), (0, .ref (ad E 1000 0)), (1, .int p1), (2, .int p2)] := hl
  exact cb_X10_summed_5 C hr hlk  _ _ _ _ _ _ h0 hf hI (lv_sub hl [2, 3, 4, 1, 0] rfl)

