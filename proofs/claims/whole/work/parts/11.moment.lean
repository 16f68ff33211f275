theorem dX4_reset_0 : decode cX4_reset 0 = .ok (.aload_n 0, 1) := by decide +kernel
theorem dX4_reset_1 : decode cX4_reset 1 = .ok (.getfield 9, 3) := by decide +kernel
theorem dX4_reset_4 : decode cX4_reset 4 = .ok (.iconst 0, 1) := by decide +kernel
theorem dX4_reset_5 : decode cX4_reset 5 = .ok (.invokestatic 29, 3) := by decide +kernel
theorem dX4_reset_8 : decode cX4_reset 8 = .ok (.aload_n 0, 1) := by decide +kernel
theorem dX4_reset_9 : decode cX4_reset 9 = .ok (.getfield 18, 3) := by decide +kernel
theorem dX4_reset_12 : decode cX4_reset 12 = .ok (.bipush (-2), 2) := by decide +kernel
theorem dX4_reset_14 : decode cX4_reset 14 = .ok (.invokestatic 29, 3) := by decide +kernel
theorem dX4_reset_17 : decode cX4_reset 17 = .ok (.aload_n 0, 1) := by decide +kernel
theorem dX4_reset_18 : decode cX4_reset 18 = .ok (.bipush (-2), 2) := by decide +kernel
theorem dX4_reset_20 : decode cX4_reset 20 = .ok (.putfield 21, 3) := by decide +kernel
theorem dX4_reset_23 : decode cX4_reset 23 = .ok (.aload_n 0, 1) := by decide +kernel
theorem dX4_reset_24 : decode cX4_reset 24 = .ok (.iconst 0, 1) := by decide +kernel
theorem dX4_reset_25 : decode cX4_reset 25 = .ok (.putfield 25, 3) := by decide +kernel
theorem dX4_reset_28 : decode cX4_reset 28 = .ok (.return_, 1) := by decide +kernel
def f_X4_reset (μ : Mm) (i0 : Nat) : Option Mm :=
 (f_J7_fill_53178 μ 401 i0 8 (0 : Int32)).bind fun q9 =>
 (f_J7_fill_53178 q9 403 i0 4 (-2 : Int32)).bind fun q11 =>
 (wf q11 400 i0 3 (-2 : Int32)).bind fun m13 =>
 (wf m13 400 i0 4 (0 : Int32)).bind fun m15 =>
 some m15
set_option maxHeartbeats 4000000 in
set_option maxRecDepth 100000 in
theorem c_X4_reset (l : Launch) (E : En) {μ : Mm} {i0 : Nat} (h0 : l4 E i0) {z : Mm} (hf : f_X4_reset μ i0 = some z) : Met l yX4_reset (wt yX4_reset cX4_reset 1 (none : Option FieldType)) { frames := 1, cells := 0, slots := 0, locals := 23 } (Pm E [.ref (ad E 400 i0)] μ) (Qm E none z) 0 0 (Ad E) := by
  unfold f_X4_reset at hf
  refine met_of (cc := cX4_reset) (nL := 1) (ret := (none : Option FieldType)) (by decide) _ (Nat.le_of_ble_eq_true rfl) ?_
  intro p e s m below meth c C hr hlk hI ls hl
  have hx := C.1.1
  have hb := C.1.2.1
  have hl : lv_has ls 1 [(0, .ref (ad E 400 i0))] := hl
  refine lv_aload_n hx hb dX4_reset_0 rfl (lv_at hl 0 rfl) ?_
  refine gf_4_0 C hI h0.1 fl_X4_9 dX4_reset_1 ?_
  refine lv_iconst (v := (0 : Int32)) hx hb dX4_reset_4 kc_0 ?_
  obtain ⟨q9, e10, hf⟩ := ob hf
  refine mcS (As := [.ref (ad E 401 i0), .int (0 : Int32)]) (rest := []) C hI (c_J7_fill_53178 l E h0.2.1 (ce_401 E i0) (Nat.le_of_ble_eq_true rfl) e10) ml_X4_29 ks_J7_fill_53178 rfl rfl ⟨Nat.le_of_ble_eq_true rfl, Nat.le_of_ble_eq_true rfl⟩ ⟨Nat.zero_le _, Nat.zero_le _⟩ rfl rfl hl.1 (Nat.le_of_ble_eq_true rfl) dX4_reset_5 (st1 := []) rfl (fun H locs hI => ?_)
  refine lv_aload_n hx hb dX4_reset_8 rfl (lv_at hl 0 rfl) ?_
  refine gf_4_2 C hI h0.1 fl_X4_18 dX4_reset_9 ?_
  refine lv_bipush (v := (-2 : Int32)) hx hb dX4_reset_12 kb_m2 ?_
  obtain ⟨q11, e12, hf⟩ := ob hf
  refine mcS (As := [.ref (ad E 403 i0), .int (-2 : Int32)]) (rest := []) C hI (c_J7_fill_53178 l E h0.2.2.2 (ce_403 E i0) (Nat.le_of_ble_eq_true rfl) e12) ml_X4_29 ks_J7_fill_53178 rfl rfl ⟨Nat.le_of_ble_eq_true rfl, Nat.le_of_ble_eq_true rfl⟩ ⟨Nat.zero_le _, Nat.zero_le _⟩ rfl rfl hl.1 (Nat.le_of_ble_eq_true rfl) dX4_reset_14 (st1 := []) rfl (fun H locs hI => ?_)
  refine lv_aload_n hx hb dX4_reset_17 rfl (lv_at hl 0 rfl) ?_
  refine lv_bipush (v := (-2 : Int32)) hx hb dX4_reset_18 kb_m2 ?_
  obtain ⟨m13, e14, hf⟩ := ob hf
  refine pf_4_3 C hI h0.1 fl_X4_21 e14 dX4_reset_20 (fun H locs hI => ?_)
  refine lv_aload_n hx hb dX4_reset_23 rfl (lv_at hl 0 rfl) ?_
  refine lv_iconst (v := (0 : Int32)) hx hb dX4_reset_24 kc_0 ?_
  obtain ⟨m15, e16, hf⟩ := ob hf
  refine pf_4_4 C hI h0.1 (by decide) (by decide) fl_X4_25 e16 dX4_reset_25 (fun H locs hI => ?_)
  obtain rfl := Option.some.inj hf
  exact m_vret C hr hlk hI dX4_reset_28

theorem dX4_become_0 : decode cX4_become 0 = .ok (.aload_n 1, 1) := by decide +kernel
theorem dX4_become_1 : decode cX4_become 1 = .ok (.getfield 9, 3) := by decide +kernel
theorem dX4_become_4 : decode cX4_become 4 = .ok (.iconst 0, 1) := by decide +kernel
theorem dX4_become_5 : decode cX4_become 5 = .ok (.aload_n 0, 1) := by decide +kernel
theorem dX4_become_6 : decode cX4_become 6 = .ok (.getfield 9, 3) := by decide +kernel
theorem dX4_become_9 : decode cX4_become 9 = .ok (.iconst 0, 1) := by decide +kernel
theorem dX4_become_10 : decode cX4_become 10 = .ok (.bipush 8, 2) := by decide +kernel
theorem dX4_become_12 : decode cX4_become 12 = .ok (.invokestatic 35, 3) := by decide +kernel
theorem dX4_become_15 : decode cX4_become 15 = .ok (.aload_n 1, 1) := by decide +kernel
theorem dX4_become_16 : decode cX4_become 16 = .ok (.getfield 15, 3) := by decide +kernel
theorem dX4_become_19 : decode cX4_become 19 = .ok (.iconst 0, 1) := by decide +kernel
theorem dX4_become_20 : decode cX4_become 20 = .ok (.aload_n 0, 1) := by decide +kernel
theorem dX4_become_21 : decode cX4_become 21 = .ok (.getfield 15, 3) := by decide +kernel
theorem dX4_become_24 : decode cX4_become 24 = .ok (.iconst 0, 1) := by decide +kernel
theorem dX4_become_25 : decode cX4_become 25 = .ok (.bipush 8, 2) := by decide +kernel
theorem dX4_become_27 : decode cX4_become 27 = .ok (.invokestatic 35, 3) := by decide +kernel
theorem dX4_become_30 : decode cX4_become 30 = .ok (.aload_n 1, 1) := by decide +kernel
theorem dX4_become_31 : decode cX4_become 31 = .ok (.getfield 18, 3) := by decide +kernel
theorem dX4_become_34 : decode cX4_become 34 = .ok (.iconst 0, 1) := by decide +kernel
theorem dX4_become_35 : decode cX4_become 35 = .ok (.aload_n 0, 1) := by decide +kernel
theorem dX4_become_36 : decode cX4_become 36 = .ok (.getfield 18, 3) := by decide +kernel
theorem dX4_become_39 : decode cX4_become 39 = .ok (.iconst 0, 1) := by decide +kernel
theorem dX4_become_40 : decode cX4_become 40 = .ok (.iconst 4, 1) := by decide +kernel
theorem dX4_become_41 : decode cX4_become 41 = .ok (.invokestatic 35, 3) := by decide +kernel
theorem dX4_become_44 : decode cX4_become 44 = .ok (.aload_n 0, 1) := by decide +kernel
theorem dX4_become_45 : decode cX4_become 45 = .ok (.aload_n 1, 1) := by decide +kernel
theorem dX4_become_46 : decode cX4_become 46 = .ok (.getfield 21, 3) := by decide +kernel
theorem dX4_become_49 : decode cX4_become 49 = .ok (.putfield 21, 3) := by decide +kernel
theorem dX4_become_52 : decode cX4_become 52 = .ok (.aload_n 0, 1) := by decide +kernel
theorem dX4_become_53 : decode cX4_become 53 = .ok (.aload_n 1, 1) := by decide +kernel
theorem dX4_become_54 : decode cX4_become 54 = .ok (.getfield 25, 3) := by decide +kernel
theorem dX4_become_57 : decode cX4_become 57 = .ok (.putfield 25, 3) := by decide +kernel
theorem dX4_become_60 : decode cX4_become 60 = .ok (.return_, 1) := by decide +kernel
def f_X4_become (μ : Mm) (i0 : Nat) (n1 : Nat) : Option Mm :=
 (cpI μ 401 n1 8 401 i0 8 (0 : Int32) (0 : Int32) (8 : Int32)).bind fun m13 =>
 (cpI m13 402 n1 8 402 i0 8 (0 : Int32) (0 : Int32) (8 : Int32)).bind fun m15 =>
 (cpI m15 403 n1 4 403 i0 4 (0 : Int32) (0 : Int32) (4 : Int32)).bind fun m17 =>
 (wf m17 400 i0 3 (m17.1 400 n1 3)).bind fun m19 =>
 (gz (m19.1 400 n1 4)).bind fun z21 =>
 (wf m19 400 i0 4 (m19.1 400 n1 4)).bind fun m23 =>
 some m23
set_option maxHeartbeats 4000000 in
set_option maxRecDepth 100000 in
theorem c_X4_become (l : Launch) (E : En) {μ : Mm} {i0 : Nat} {n1 : Nat} (h0 : l4 E i0) (h1 : l4 E n1) {z : Mm} (hf : f_X4_become μ i0 n1 = some z) : Met l yX4_become (wt yX4_become cX4_become 2 (none : Option FieldType)) { frames := 1, cells := 0, slots := 0, locals := 40 } (Pm E [.ref (ad E 400 i0), .ref (ad E 400 n1)] μ) (Qm E none z) 0 0 (Ad E) := by
  unfold f_X4_become at hf
  refine met_of (cc := cX4_become) (nL := 2) (ret := (none : Option FieldType)) (by decide) _ (Nat.le_of_ble_eq_true rfl) ?_
  intro p e s m below meth c C hr hlk hI ls hl
  have hx := C.1.1
  have hb := C.1.2.1
  have hl : lv_has ls 2 [(0, .ref (ad E 400 i0)), (1, .ref (ad E 400 n1))] := hl
  refine lv_aload_n hx hb dX4_become_0 rfl (lv_at hl 1 rfl) ?_
  refine gf_4_0 C hI h1.1 fl_X4_9 dX4_become_1 ?_
  refine lv_iconst (v := (0 : Int32)) hx hb dX4_become_4 kc_0 ?_
  refine lv_aload_n hx hb dX4_become_5 rfl (lv_at hl 0 rfl) ?_
  refine gf_4_0 C hI h0.1 fl_X4_9 dX4_become_6 ?_
  refine lv_iconst (v := (0 : Int32)) hx hb dX4_become_9 kc_0 ?_
  refine lv_bipush (v := (8 : Int32)) hx hb dX4_become_10 kb_8 ?_
  obtain ⟨m13, e14, hf⟩ := ob hf
  refine m_copyI C hI h1.2.1 h0.2.1 (ce_401 E _ _ _) (ce_401 E _) e14 acl_X4_35 hl.1 (Nat.le_of_ble_eq_true rfl) (Nat.le_of_ble_eq_true rfl) dX4_become_12 (fun H locs hI => ?_)
  refine lv_aload_n hx hb dX4_become_15 rfl (lv_at hl 1 rfl) ?_
  refine gf_4_1 C hI h1.1 fl_X4_15 dX4_become_16 ?_
  refine lv_iconst (v := (0 : Int32)) hx hb dX4_become_19 kc_0 ?_
  refine lv_aload_n hx hb dX4_become_20 rfl (lv_at hl 0 rfl) ?_
  refine gf_4_1 C hI h0.1 fl_X4_15 dX4_become_21 ?_
  refine lv_iconst (v := (0 : Int32)) hx hb dX4_become_24 kc_0 ?_
  refine lv_bipush (v := (8 : Int32)) hx hb dX4_become_25 kb_8 ?_
  obtain ⟨m15, e16, hf⟩ := ob hf
  refine m_copyI C hI h1.2.2.1 h0.2.2.1 (ce_402 E _ _ _) (ce_402 E _) e16 acl_X4_35 hl.1 (Nat.le_of_ble_eq_true rfl) (Nat.le_of_ble_eq_true rfl) dX4_become_27 (fun H locs hI => ?_)
  refine lv_aload_n hx hb dX4_become_30 rfl (lv_at hl 1 rfl) ?_
  refine gf_4_2 C hI h1.1 fl_X4_18 dX4_become_31 ?_
  refine lv_iconst (v := (0 : Int32)) hx hb dX4_become_34 kc_0 ?_
  refine lv_aload_n hx hb dX4_become_35 rfl (lv_at hl 0 rfl) ?_
  refine gf_4_2 C hI h0.1 fl_X4_18 dX4_become_36 ?_
  refine lv_iconst (v := (0 : Int32)) hx hb dX4_become_39 kc_0 ?_
  refine lv_iconst (v := (4 : Int32)) hx hb dX4_become_40 kc_4 ?_
  obtain ⟨m17, e18, hf⟩ := ob hf
  refine m_copyI C hI h1.2.2.2 h0.2.2.2 (ce_403 E _ _ _) (ce_403 E _) e18 acl_X4_35 hl.1 (Nat.le_of_ble_eq_true rfl) (Nat.le_of_ble_eq_true rfl) dX4_become_41 (fun H locs hI => ?_)
  refine lv_aload_n hx hb dX4_become_44 rfl (lv_at hl 0 rfl) ?_
  refine lv_aload_n hx hb dX4_become_45 rfl (lv_at hl 1 rfl) ?_
  refine gf_4_3 C hI h1.1 fl_X4_21 dX4_become_46 ?_
  obtain ⟨m19, e20, hf⟩ := ob hf
  refine pf_4_3 C hI h0.1 fl_X4_21 e20 dX4_become_49 (fun H locs hI => ?_)
  refine lv_aload_n hx hb dX4_become_52 rfl (lv_at hl 0 rfl) ?_
  refine lv_aload_n hx hb dX4_become_53 rfl (lv_at hl 1 rfl) ?_
  refine gf_4_4 C hI h1.1 fl_X4_25 dX4_become_54 ?_
  obtain ⟨z21, g22, hf⟩ := ob hf
  obtain ⟨rfl, hn, hfit⟩ := gz_ok g22
  obtain ⟨m23, e24, hf⟩ := ob hf
  refine pf_4_4 C hI h0.1 hn hfit fl_X4_25 e24 dX4_become_57 (fun H locs hI => ?_)
  obtain rfl := Option.some.inj hf
  exact m_vret C hr hlk hI dX4_become_60

theorem dX4_stateOf_0 : decode cX4_stateOf 0 = .ok (.iload_n 1, 1) := by decide +kernel
theorem dX4_stateOf_1 : decode cX4_stateOf 1 = .ok (.ifCond .lt 18, 3) := by decide +kernel
theorem dX4_stateOf_4 : decode cX4_stateOf 4 = .ok (.iload_n 1, 1) := by decide +kernel
theorem dX4_stateOf_5 : decode cX4_stateOf 5 = .ok (.bipush 8, 2) := by decide +kernel
theorem dX4_stateOf_7 : decode cX4_stateOf 7 = .ok (.if_icmp .ge 12, 3) := by decide +kernel
theorem dX4_stateOf_10 : decode cX4_stateOf 10 = .ok (.aload_n 0, 1) := by decide +kernel
theorem dX4_stateOf_11 : decode cX4_stateOf 11 = .ok (.getfield 9, 3) := by decide +kernel
theorem dX4_stateOf_14 : decode cX4_stateOf 14 = .ok (.iload_n 1, 1) := by decide +kernel
theorem dX4_stateOf_15 : decode cX4_stateOf 15 = .ok (.iaload, 1) := by decide +kernel
theorem dX4_stateOf_16 : decode cX4_stateOf 16 = .ok (.goto 4, 3) := by decide +kernel
theorem dX4_stateOf_19 : decode cX4_stateOf 19 = .ok (.iconst (-1), 1) := by decide +kernel
theorem dX4_stateOf_20 : decode cX4_stateOf 20 = .ok (.ireturn, 1) := by decide +kernel
def f_X4_stateOf (μ : Mm) (i0 : Nat) (p1 : Int32) : Option Int32 :=
 if p1 < 0 then
 some (-1 : Int32)
 else
 if (8 : Int32) ≤ p1 then
 some (-1 : Int32)
 else
 (ra μ 401 i0 8 p1).bind fun v3 =>
 some v3
set_option maxHeartbeats 4000000 in
set_option maxRecDepth 100000 in
theorem c_X4_stateOf (l : Launch) (E : En) {μ : Mm} {i0 : Nat} {p1 : Int32} (h0 : l4 E i0) {z : Int32} (hf : f_X4_stateOf μ i0 p1 = some z) : Met l yX4_stateOf (wt yX4_stateOf cX4_stateOf 2 (some .int)) { frames := 0, cells := 0, slots := 0, locals := 0 } (Pm E [.ref (ad E 400 i0), .int p1] μ) (Qm E (some (.int z)) μ) 0 0 (Ad E) := by
  unfold f_X4_stateOf at hf
  refine met_of (cc := cX4_stateOf) (nL := 2) (ret := (some .int)) (by decide) _ (Nat.le_of_ble_eq_true rfl) ?_
  intro p e s m below meth c C hr hlk hI ls hl
  have hx := C.1.1
  have hb := C.1.2.1
  have hl : lv_has ls 2 [(0, .ref (ad E 400 i0)), (1, .int p1)] := hl
  refine lv_iload_n hx hb dX4_stateOf_0 rfl (lv_at hl 1 rfl) ?_
  refine lv_if_lt (tgt := 19) hx hb dX4_stateOf_1 rfl (fun hc => ?_) (fun hc => ?_)
  · replace hf := it hf hc
    refine lv_iconst (v := (-1 : Int32)) hx hb dX4_stateOf_19 kc_m1 ?_
    obtain rfl := Option.some.inj hf
    exact m_iret C hr hlk hI dX4_stateOf_20
  · replace hf := ie hf hc
    refine lv_iload_n hx hb dX4_stateOf_4 rfl (lv_at hl 1 rfl) ?_
    refine lv_bipush (v := (8 : Int32)) hx hb dX4_stateOf_5 kb_8 ?_
    refine lv_icmp_ge (tgt := 19) hx hb dX4_stateOf_7 rfl (fun hc => ?_) (fun hc => ?_)
    · replace hf := it hf hc
      refine lv_iconst (v := (-1 : Int32)) hx hb dX4_stateOf_19 kc_m1 ?_
      obtain rfl := Option.some.inj hf
      exact m_iret C hr hlk hI dX4_stateOf_20
    · replace hf := ie hf hc
      refine lv_aload_n hx hb dX4_stateOf_10 rfl (lv_at hl 0 rfl) ?_
      refine gf_4_0 C hI h0.1 fl_X4_9 dX4_stateOf_11 ?_
      refine lv_iload_n hx hb dX4_stateOf_14 rfl (lv_at hl 1 rfl) ?_
      obtain ⟨v3, e4, hf⟩ := ob hf
      refine m_iald C hI h0.2.1 (ce_401 E _ _ _) e4 dX4_stateOf_15 ?_
      refine lv_goto (tgt := 20) hx hb dX4_stateOf_16 rfl ?_
      obtain rfl := Option.some.inj hf
      exact m_iret C hr hlk hI dX4_stateOf_20

theorem dX4_holderOf_0 : decode cX4_holderOf 0 = .ok (.iload_n 1, 1) := by decide +kernel
theorem dX4_holderOf_1 : decode cX4_holderOf 1 = .ok (.ifCond .lt 17, 3) := by decide +kernel
theorem dX4_holderOf_4 : decode cX4_holderOf 4 = .ok (.iload_n 1, 1) := by decide +kernel
theorem dX4_holderOf_5 : decode cX4_holderOf 5 = .ok (.iconst 4, 1) := by decide +kernel
theorem dX4_holderOf_6 : decode cX4_holderOf 6 = .ok (.if_icmp .ge 12, 3) := by decide +kernel
theorem dX4_holderOf_9 : decode cX4_holderOf 9 = .ok (.aload_n 0, 1) := by decide +kernel
theorem dX4_holderOf_10 : decode cX4_holderOf 10 = .ok (.getfield 18, 3) := by decide +kernel
theorem dX4_holderOf_13 : decode cX4_holderOf 13 = .ok (.iload_n 1, 1) := by decide +kernel
theorem dX4_holderOf_14 : decode cX4_holderOf 14 = .ok (.iaload, 1) := by decide +kernel
theorem dX4_holderOf_15 : decode cX4_holderOf 15 = .ok (.goto 5, 3) := by decide +kernel
theorem dX4_holderOf_18 : decode cX4_holderOf 18 = .ok (.bipush (-2), 2) := by decide +kernel
theorem dX4_holderOf_20 : decode cX4_holderOf 20 = .ok (.ireturn, 1) := by decide +kernel
def f_X4_holderOf (μ : Mm) (i0 : Nat) (p1 : Int32) : Option Int32 :=
 if p1 < 0 then
 some (-2 : Int32)
 else
 if (4 : Int32) ≤ p1 then
 some (-2 : Int32)
 else
 (ra μ 403 i0 4 p1).bind fun v3 =>
 some v3
set_option maxHeartbeats 4000000 in
set_option maxRecDepth 100000 in
theorem c_X4_holderOf (l : Launch) (E : En) {μ : Mm} {i0 : Nat} {p1 : Int32} (h0 : l4 E i0) {z : Int32} (hf : f_X4_holderOf μ i0 p1 = some z) : Met l yX4_holderOf (wt yX4_holderOf cX4_holderOf 2 (some .int)) { frames := 0, cells := 0, slots := 0, locals := 0 } (Pm E [.ref (ad E 400 i0), .int p1] μ) (Qm E (some (.int z)) μ) 0 0 (Ad E) := by
  unfold f_X4_holderOf at hf
  refine met_of (cc := cX4_holderOf) (nL := 2) (ret := (some .int)) (by decide) _ (Nat.le_of_ble_eq_true rfl) ?_
  intro p e s m below meth c C hr hlk hI ls hl
  have hx := C.1.1
  have hb := C.1.2.1
  have hl : lv_has ls 2 [(0, .ref (ad E 400 i0)), (1, .int p1)] := hl
  refine lv_iload_n hx hb dX4_holderOf_0 rfl (lv_at hl 1 rfl) ?_
  refine lv_if_lt (tgt := 18) hx hb dX4_holderOf_1 rfl (fun hc => ?_) (fun hc => ?_)
  · replace hf := it hf hc
    refine lv_bipush (v := (-2 : Int32)) hx hb dX4_holderOf_18 kb_m2 ?_
    obtain rfl := Option.some.inj hf
    exact m_iret C hr hlk hI dX4_holderOf_20
  · replace hf := ie hf hc
    refine lv_iload_n hx hb dX4_holderOf_4 rfl (lv_at hl 1 rfl) ?_
    refine lv_iconst (v := (4 : Int32)) hx hb dX4_holderOf_5 kc_4 ?_
    refine lv_icmp_ge (tgt := 18) hx hb dX4_holderOf_6 rfl (fun hc => ?_) (fun hc => ?_)
    · replace hf := it hf hc
      refine lv_bipush (v := (-2 : Int32)) hx hb dX4_holderOf_18 kb_m2 ?_
      obtain rfl := Option.some.inj hf
      exact m_iret C hr hlk hI dX4_holderOf_20
    · replace hf := ie hf hc
      refine lv_aload_n hx hb dX4_holderOf_9 rfl (lv_at hl 0 rfl) ?_
      refine gf_4_2 C hI h0.1 fl_X4_18 dX4_holderOf_10 ?_
      refine lv_iload_n hx hb dX4_holderOf_13 rfl (lv_at hl 1 rfl) ?_
      obtain ⟨v3, e4, hf⟩ := ob hf
      refine m_iald C hI h0.2.2.2 (ce_403 E _ _ _) e4 dX4_holderOf_14 ?_
      refine lv_goto (tgt := 20) hx hb dX4_holderOf_15 rfl ?_
      obtain rfl := Option.some.inj hf
      exact m_iret C hr hlk hI dX4_holderOf_20

theorem dX4_holderAgainst_0 : decode cX4_holderAgainst 0 = .ok (.iload_n 1, 1) := by decide +kernel
theorem dX4_holderAgainst_1 : decode cX4_holderAgainst 1 = .ok (.ifCond .lt 22, 3) := by decide +kernel
theorem dX4_holderAgainst_4 : decode cX4_holderAgainst 4 = .ok (.iload_n 1, 1) := by decide +kernel
theorem dX4_holderAgainst_5 : decode cX4_holderAgainst 5 = .ok (.bipush 8, 2) := by decide +kernel
theorem dX4_holderAgainst_7 : decode cX4_holderAgainst 7 = .ok (.if_icmp .ge 16, 3) := by decide +kernel
theorem dX4_holderAgainst_10 : decode cX4_holderAgainst 10 = .ok (.aload_n 0, 1) := by decide +kernel
theorem dX4_holderAgainst_11 : decode cX4_holderAgainst 11 = .ok (.aload_n 0, 1) := by decide +kernel
theorem dX4_holderAgainst_12 : decode cX4_holderAgainst 12 = .ok (.getfield 15, 3) := by decide +kernel
theorem dX4_holderAgainst_15 : decode cX4_holderAgainst 15 = .ok (.iload_n 1, 1) := by decide +kernel
theorem dX4_holderAgainst_16 : decode cX4_holderAgainst 16 = .ok (.iaload, 1) := by decide +kernel
theorem dX4_holderAgainst_17 : decode cX4_holderAgainst 17 = .ok (.invokevirtual 41, 3) := by decide +kernel
theorem dX4_holderAgainst_20 : decode cX4_holderAgainst 20 = .ok (.goto 5, 3) := by decide +kernel
theorem dX4_holderAgainst_23 : decode cX4_holderAgainst 23 = .ok (.bipush (-2), 2) := by decide +kernel
theorem dX4_holderAgainst_25 : decode cX4_holderAgainst 25 = .ok (.ireturn, 1) := by decide +kernel
def f_X4_holderAgainst (μ : Mm) (i0 : Nat) (p1 : Int32) : Option Int32 :=
 if p1 < 0 then
 some (-2 : Int32)
 else
 if (8 : Int32) ≤ p1 then
 some (-2 : Int32)
 else
 (ra μ 402 i0 8 p1).bind fun v5 =>
 (f_X4_holderOf μ i0 v5).bind fun q7 =>
 some q7
set_option maxHeartbeats 4000000 in
set_option maxRecDepth 100000 in
theorem c_X4_holderAgainst (l : Launch) (E : En) {μ : Mm} {i0 : Nat} {p1 : Int32} (h0 : l4 E i0) {z : Int32} (hf : f_X4_holderAgainst μ i0 p1 = some z) : Met l yX4_holderAgainst (wt yX4_holderAgainst cX4_holderAgainst 2 (some .int)) { frames := 1, cells := 0, slots := 0, locals := 21 } (Pm E [.ref (ad E 400 i0), .int p1] μ) (Qm E (some (.int z)) μ) 0 0 (Ad E) := by
  unfold f_X4_holderAgainst at hf
  refine met_of (cc := cX4_holderAgainst) (nL := 2) (ret := (some .int)) (by decide) _ (Nat.le_of_ble_eq_true rfl) ?_
  intro p e s m below meth c C hr hlk hI ls hl
  have hx := C.1.1
  have hb := C.1.2.1
  have hl : lv_has ls 2 [(0, .ref (ad E 400 i0)), (1, .int p1)] := hl
  refine lv_iload_n hx hb dX4_holderAgainst_0 rfl (lv_at hl 1 rfl) ?_
  refine lv_if_lt (tgt := 23) hx hb dX4_holderAgainst_1 rfl (fun hc => ?_) (fun hc => ?_)
  · replace hf := it hf hc
    refine lv_bipush (v := (-2 : Int32)) hx hb dX4_holderAgainst_23 kb_m2 ?_
    obtain rfl := Option.some.inj hf
    exact m_iret C hr hlk hI dX4_holderAgainst_25
  · replace hf := ie hf hc
    refine lv_iload_n hx hb dX4_holderAgainst_4 rfl (lv_at hl 1 rfl) ?_
    refine lv_bipush (v := (8 : Int32)) hx hb dX4_holderAgainst_5 kb_8 ?_
    refine lv_icmp_ge (tgt := 23) hx hb dX4_holderAgainst_7 rfl (fun hc => ?_) (fun hc => ?_)
    · replace hf := it hf hc
      refine lv_bipush (v := (-2 : Int32)) hx hb dX4_holderAgainst_23 kb_m2 ?_
      obtain rfl := Option.some.inj hf
      exact m_iret C hr hlk hI dX4_holderAgainst_25
    · replace hf := ie hf hc
      refine lv_aload_n hx hb dX4_holderAgainst_10 rfl (lv_at hl 0 rfl) ?_
      refine lv_aload_n hx hb dX4_holderAgainst_11 rfl (lv_at hl 0 rfl) ?_
      refine gf_4_1 C hI h0.1 fl_X4_15 dX4_holderAgainst_12 ?_
      refine lv_iload_n hx hb dX4_holderAgainst_15 rfl (lv_at hl 1 rfl) ?_
      obtain ⟨v5, e6, hf⟩ := ob hf
      refine m_iald C hI h0.2.2.1 (ce_402 E _ _ _) e6 dX4_holderAgainst_16 ?_
      obtain ⟨q7, e8, hf⟩ := ob hf
      refine mcV (As := [.int v5]) (rest := []) C hI (c_X4_holderOf l E h0 e8) ml_X4_41 kv_X4_holderOf (m_recv C hI h0.1 (ce_400 E _ _ _) rfl) rfl rfl ⟨Nat.le_of_ble_eq_true rfl, Nat.le_of_ble_eq_true rfl⟩ ⟨Nat.zero_le _, Nat.zero_le _⟩ rfl rfl hl.1 (Nat.le_of_ble_eq_true rfl) dX4_holderAgainst_17 (st1 := [.int q7]) rfl (fun H locs hI => ?_)
      refine lv_goto (tgt := 25) hx hb dX4_holderAgainst_20 rfl ?_
      obtain rfl := Option.some.inj hf
      exact m_iret C hr hlk hI dX4_holderAgainst_25

theorem dX4_wants_0 : decode cX4_wants 0 = .ok (.aload_n 0, 1) := by decide +kernel
theorem dX4_wants_1 : decode cX4_wants 1 = .ok (.iload_n 1, 1) := by decide +kernel
theorem dX4_wants_2 : decode cX4_wants 2 = .ok (.invokevirtual 45, 3) := by decide +kernel
theorem dX4_wants_5 : decode cX4_wants 5 = .ok (.iconst 3, 1) := by decide +kernel
theorem dX4_wants_6 : decode cX4_wants 6 = .ok (.if_icmp .ne 17, 3) := by decide +kernel
theorem dX4_wants_9 : decode cX4_wants 9 = .ok (.aload_n 0, 1) := by decide +kernel
theorem dX4_wants_10 : decode cX4_wants 10 = .ok (.getfield 15, 3) := by decide +kernel
theorem dX4_wants_13 : decode cX4_wants 13 = .ok (.iload_n 1, 1) := by decide +kernel
theorem dX4_wants_14 : decode cX4_wants 14 = .ok (.iaload, 1) := by decide +kernel
theorem dX4_wants_15 : decode cX4_wants 15 = .ok (.iload_n 2, 1) := by decide +kernel
theorem dX4_wants_16 : decode cX4_wants 16 = .ok (.if_icmp .ne 7, 3) := by decide +kernel
theorem dX4_wants_19 : decode cX4_wants 19 = .ok (.iconst 1, 1) := by decide +kernel
theorem dX4_wants_20 : decode cX4_wants 20 = .ok (.goto 4, 3) := by decide +kernel
theorem dX4_wants_23 : decode cX4_wants 23 = .ok (.iconst 0, 1) := by decide +kernel
theorem dX4_wants_24 : decode cX4_wants 24 = .ok (.ireturn, 1) := by decide +kernel
def f_X4_wants (μ : Mm) (i0 : Nat) (p1 : Int32) (p2 : Int32) : Option Int32 :=
 (f_X4_stateOf μ i0 p1).bind fun q5 =>
 if q5 = (3 : Int32) then
 (ra μ 402 i0 8 p1).bind fun v7 =>
 if v7 = p2 then
 some (1 : Int32)
 else
 some (0 : Int32)
 else
 some (0 : Int32)
set_option maxHeartbeats 4000000 in
set_option maxRecDepth 100000 in
theorem c_X4_wants (l : Launch) (E : En) {μ : Mm} {i0 : Nat} {p1 : Int32} {p2 : Int32} (h0 : l4 E i0) {z : Int32} (hf : f_X4_wants μ i0 p1 p2 = some z) : Met l yX4_wants (wt yX4_wants cX4_wants 3 (some .boolean)) { frames := 1, cells := 0, slots := 0, locals := 21 } (Pm E [.ref (ad E 400 i0), .int p1, .int p2] μ) (Qm E (some (.int z)) μ) 0 0 (Ad E) := by
  unfold f_X4_wants at hf
  refine met_of (cc := cX4_wants) (nL := 3) (ret := (some .boolean)) (by decide) _ (Nat.le_of_ble_eq_true rfl) ?_
  intro p e s m below meth c C hr hlk hI ls hl
  have hx := C.1.1
  have hb := C.1.2.1
  have hl : lv_has ls 3 [(0, .ref (ad E 400 i0)), (1, .int p1), (2, .int p2)] := hl
  refine lv_aload_n hx hb dX4_wants_0 rfl (lv_at hl 0 rfl) ?_
  refine lv_iload_n hx hb dX4_wants_1 rfl (lv_at hl 1 rfl) ?_
  obtain ⟨q5, e6, hf⟩ := ob hf
  refine mcV (As := [.int p1]) (rest := []) C hI (c_X4_stateOf l E h0 e6) ml_X4_45 kv_X4_stateOf (m_recv C hI h0.1 (ce_400 E _ _ _) rfl) rfl rfl ⟨Nat.le_of_ble_eq_true rfl, Nat.le_of_ble_eq_true rfl⟩ ⟨Nat.zero_le _, Nat.zero_le _⟩ rfl rfl hl.1 (Nat.le_of_ble_eq_true rfl) dX4_wants_2 (st1 := [.int q5]) rfl (fun H locs hI => ?_)
  refine lv_iconst (v := (3 : Int32)) hx hb dX4_wants_5 kc_3 ?_
  refine lv_icmp_ne (tgt := 23) hx hb dX4_wants_6 rfl (fun hc => ?_) (fun hc => ?_)
  · replace hf := ie hf hc
    refine lv_iconst (v := (0 : Int32)) hx hb dX4_wants_23 kc_0 ?_
    obtain rfl := Option.some.inj hf
    exact m_zret C hr hlk hI (by decide) dX4_wants_24
  · replace hf := it hf hc
    refine lv_aload_n hx hb dX4_wants_9 rfl (lv_at hl 0 rfl) ?_
    refine gf_4_1 C hI h0.1 fl_X4_15 dX4_wants_10 ?_
    refine lv_iload_n hx hb dX4_wants_13 rfl (lv_at hl 1 rfl) ?_
    obtain ⟨v7, e8, hf⟩ := ob hf
    refine m_iald C hI h0.2.2.1 (ce_402 E _ _ _) e8 dX4_wants_14 ?_
    refine lv_iload_n hx hb dX4_wants_15 rfl (lv_at hl 2 rfl) ?_
    refine lv_icmp_ne (tgt := 23) hx hb dX4_wants_16 rfl (fun hc => ?_) (fun hc => ?_)
    · replace hf := ie hf hc
      refine lv_iconst (v := (0 : Int32)) hx hb dX4_wants_23 kc_0 ?_
      obtain rfl := Option.some.inj hf
      exact m_zret C hr hlk hI (by decide) dX4_wants_24
    · replace hf := it hf hc
      refine lv_iconst (v := (1 : Int32)) hx hb dX4_wants_19 kc_1 ?_
      refine lv_goto (tgt := 24) hx hb dX4_wants_20 rfl ?_
      obtain rfl := Option.some.inj hf
      exact m_zret C hr hlk hI (by decide) dX4_wants_24

theorem dX4_acts_0 : decode cX4_acts 0 = .ok (.aload_n 0, 1) := by decide +kernel
theorem dX4_acts_1 : decode cX4_acts 1 = .ok (.getfield 21, 3) := by decide +kernel
theorem dX4_acts_4 : decode cX4_acts 4 = .ok (.iload_n 1, 1) := by decide +kernel
theorem dX4_acts_5 : decode cX4_acts 5 = .ok (.if_icmp .ne 23, 3) := by decide +kernel
theorem dX4_acts_8 : decode cX4_acts 8 = .ok (.aload_n 0, 1) := by decide +kernel
theorem dX4_acts_9 : decode cX4_acts 9 = .ok (.iload_n 1, 1) := by decide +kernel
theorem dX4_acts_10 : decode cX4_acts 10 = .ok (.invokevirtual 45, 3) := by decide +kernel
theorem dX4_acts_13 : decode cX4_acts 13 = .ok (.iconst 2, 1) := by decide +kernel
theorem dX4_acts_14 : decode cX4_acts 14 = .ok (.if_icmp .ne 14, 3) := by decide +kernel
theorem dX4_acts_17 : decode cX4_acts 17 = .ok (.aload_n 0, 1) := by decide +kernel
theorem dX4_acts_18 : decode cX4_acts 18 = .ok (.getfield 25, 3) := by decide +kernel
theorem dX4_acts_21 : decode cX4_acts 21 = .ok (.ifCond .ne 7, 3) := by decide +kernel
theorem dX4_acts_24 : decode cX4_acts 24 = .ok (.iconst 1, 1) := by decide +kernel
theorem dX4_acts_25 : decode cX4_acts 25 = .ok (.goto 4, 3) := by decide +kernel
theorem dX4_acts_28 : decode cX4_acts 28 = .ok (.iconst 0, 1) := by decide +kernel
theorem dX4_acts_29 : decode cX4_acts 29 = .ok (.ireturn, 1) := by decide +kernel
def f_X4_acts (μ : Mm) (i0 : Nat) (p1 : Int32) : Option Int32 :=
 if (μ.1 400 i0 3) = p1 then
 (f_X4_stateOf μ i0 p1).bind fun q3 =>
 if q3 = (2 : Int32) then
 if (μ.1 400 i0 4) = 0 then
 some (1 : Int32)
 else
 some (0 : Int32)
 else
 some (0 : Int32)
 else
 some (0 : Int32)
set_option maxHeartbeats 4000000 in
set_option maxRecDepth 100000 in
theorem c_X4_acts (l : Launch) (E : En) {μ : Mm} {i0 : Nat} {p1 : Int32} (h0 : l4 E i0) {z : Int32} (hf : f_X4_acts μ i0 p1 = some z) : Met l yX4_acts (wt yX4_acts cX4_acts 2 (some .boolean)) { frames := 1, cells := 0, slots := 0, locals := 21 } (Pm E [.ref (ad E 400 i0), .int p1] μ) (Qm E (some (.int z)) μ) 0 0 (Ad E) := by
  unfold f_X4_acts at hf
  refine met_of (cc := cX4_acts) (nL := 2) (ret := (some .boolean)) (by decide) _ (Nat.le_of_ble_eq_true rfl) ?_
  intro p e s m below meth c C hr hlk hI ls hl
  have hx := C.1.1
  have hb := C.1.2.1
  have hl : lv_has ls 2 [(0, .ref (ad E 400 i0)), (1, .int p1)] := hl
  refine lv_aload_n hx hb dX4_acts_0 rfl (lv_at hl 0 rfl) ?_
  refine gf_4_3 C hI h0.1 fl_X4_21 dX4_acts_1 ?_
  refine lv_iload_n hx hb dX4_acts_4 rfl (lv_at hl 1 rfl) ?_
  refine lv_icmp_ne (tgt := 28) hx hb dX4_acts_5 rfl (fun hc => ?_) (fun hc => ?_)
  · replace hf := ie hf hc
    refine lv_iconst (v := (0 : Int32)) hx hb dX4_acts_28 kc_0 ?_
    obtain rfl := Option.some.inj hf
    exact m_zret C hr hlk hI (by decide) dX4_acts_29
  · replace hf := it hf hc
    refine lv_aload_n hx hb dX4_acts_8 rfl (lv_at hl 0 rfl) ?_
    refine lv_iload_n hx hb dX4_acts_9 rfl (lv_at hl 1 rfl) ?_
    obtain ⟨q3, e4, hf⟩ := ob hf
    refine mcV (As := [.int p1]) (rest := []) C hI (c_X4_stateOf l E h0 e4) ml_X4_45 kv_X4_stateOf (m_recv C hI h0.1 (ce_400 E _ _ _) rfl) rfl rfl ⟨Nat.le_of_ble_eq_true rfl, Nat.le_of_ble_eq_true rfl⟩ ⟨Nat.zero_le _, Nat.zero_le _⟩ rfl rfl hl.1 (Nat.le_of_ble_eq_true rfl) dX4_acts_10 (st1 := [.int q3]) rfl (fun H locs hI => ?_)
    refine lv_iconst (v := (2 : Int32)) hx hb dX4_acts_13 kc_2 ?_
    refine lv_icmp_ne (tgt := 28) hx hb dX4_acts_14 rfl (fun hc => ?_) (fun hc => ?_)
    · replace hf := ie hf hc
      refine lv_iconst (v := (0 : Int32)) hx hb dX4_acts_28 kc_0 ?_
      obtain rfl := Option.some.inj hf
      exact m_zret C hr hlk hI (by decide) dX4_acts_29
    · replace hf := it hf hc
      refine lv_aload_n hx hb dX4_acts_17 rfl (lv_at hl 0 rfl) ?_
      refine gf_4_4 C hI h0.1 fl_X4_25 dX4_acts_18 ?_
      refine lv_if_ne (tgt := 28) hx hb dX4_acts_21 rfl (fun hc => ?_) (fun hc => ?_)
      · replace hf := ie hf hc
        refine lv_iconst (v := (0 : Int32)) hx hb dX4_acts_28 kc_0 ?_
        obtain rfl := Option.some.inj hf
        exact m_zret C hr hlk hI (by decide) dX4_acts_29
      · replace hf := it hf hc
        refine lv_iconst (v := (1 : Int32)) hx hb dX4_acts_24 kc_1 ?_
        refine lv_goto (tgt := 29) hx hb dX4_acts_25 rfl ?_
        obtain rfl := Option.some.inj hf
        exact m_zret C hr hlk hI (by decide) dX4_acts_29

theorem dX4_allows_0 : decode cX4_allows 0 = .ok (.aload_n 0, 1) := by decide +kernel
theorem dX4_allows_1 : decode cX4_allows 1 = .ok (.iload_n 2, 1) := by decide +kernel
theorem dX4_allows_2 : decode cX4_allows 2 = .ok (.invokevirtual 45, 3) := by decide +kernel
theorem dX4_allows_5 : decode cX4_allows 5 = .ok (.istore 4, 2) := by decide +kernel
theorem dX4_allows_7 : decode cX4_allows 7 = .ok (.iload_n 1, 1) := by decide +kernel
theorem dX4_allows_8 : decode cX4_allows 8 = .ok (.tableswitch 203 0 7 #[48, 65, 90, 96, 129, 162, 185, 198], 48) := by decide +kernel
theorem dX4_allows_56 : decode cX4_allows 56 = .ok (.iload 4, 2) := by decide +kernel
theorem dX4_allows_58 : decode cX4_allows 58 = .ok (.ifCond .eq 9, 3) := by decide +kernel
theorem dX4_allows_61 : decode cX4_allows 61 = .ok (.iload 4, 2) := by decide +kernel
theorem dX4_allows_63 : decode cX4_allows 63 = .ok (.iconst 4, 1) := by decide +kernel
theorem dX4_allows_64 : decode cX4_allows 64 = .ok (.if_icmp .ne 7, 3) := by decide +kernel
theorem dX4_allows_67 : decode cX4_allows 67 = .ok (.iconst 1, 1) := by decide +kernel
theorem dX4_allows_68 : decode cX4_allows 68 = .ok (.goto 4, 3) := by decide +kernel
theorem dX4_allows_71 : decode cX4_allows 71 = .ok (.iconst 0, 1) := by decide +kernel
theorem dX4_allows_72 : decode cX4_allows 72 = .ok (.ireturn, 1) := by decide +kernel
theorem dX4_allows_73 : decode cX4_allows 73 = .ok (.iload 4, 2) := by decide +kernel
theorem dX4_allows_75 : decode cX4_allows 75 = .ok (.iconst 1, 1) := by decide +kernel
theorem dX4_allows_76 : decode cX4_allows 76 = .ok (.if_icmp .eq 9, 3) := by decide +kernel
theorem dX4_allows_79 : decode cX4_allows 79 = .ok (.iload 4, 2) := by decide +kernel
theorem dX4_allows_81 : decode cX4_allows 81 = .ok (.iconst 4, 1) := by decide +kernel
theorem dX4_allows_82 : decode cX4_allows 82 = .ok (.if_icmp .ne 14, 3) := by decide +kernel
theorem dX4_allows_85 : decode cX4_allows 85 = .ok (.aload_n 0, 1) := by decide +kernel
theorem dX4_allows_86 : decode cX4_allows 86 = .ok (.getfield 25, 3) := by decide +kernel
theorem dX4_allows_89 : decode cX4_allows 89 = .ok (.ifCond .ne 7, 3) := by decide +kernel
theorem dX4_allows_92 : decode cX4_allows 92 = .ok (.iconst 1, 1) := by decide +kernel
theorem dX4_allows_93 : decode cX4_allows 93 = .ok (.goto 4, 3) := by decide +kernel
theorem dX4_allows_96 : decode cX4_allows 96 = .ok (.iconst 0, 1) := by decide +kernel
theorem dX4_allows_97 : decode cX4_allows 97 = .ok (.ireturn, 1) := by decide +kernel
theorem dX4_allows_98 : decode cX4_allows 98 = .ok (.aload_n 0, 1) := by decide +kernel
theorem dX4_allows_99 : decode cX4_allows 99 = .ok (.iload_n 2, 1) := by decide +kernel
theorem dX4_allows_100 : decode cX4_allows 100 = .ok (.invokevirtual 48, 3) := by decide +kernel
theorem dX4_allows_103 : decode cX4_allows 103 = .ok (.ireturn, 1) := by decide +kernel
theorem dX4_allows_104 : decode cX4_allows 104 = .ok (.aload_n 0, 1) := by decide +kernel
theorem dX4_allows_105 : decode cX4_allows 105 = .ok (.iload_n 2, 1) := by decide +kernel
theorem dX4_allows_106 : decode cX4_allows 106 = .ok (.invokevirtual 48, 3) := by decide +kernel
theorem dX4_allows_109 : decode cX4_allows 109 = .ok (.ifCond .eq 26, 3) := by decide +kernel
theorem dX4_allows_112 : decode cX4_allows 112 = .ok (.aload_n 0, 1) := by decide +kernel
theorem dX4_allows_113 : decode cX4_allows 113 = .ok (.iload_n 3, 1) := by decide +kernel
theorem dX4_allows_114 : decode cX4_allows 114 = .ok (.invokevirtual 41, 3) := by decide +kernel
theorem dX4_allows_117 : decode cX4_allows 117 = .ok (.bipush (-2), 2) := by decide +kernel
theorem dX4_allows_119 : decode cX4_allows 119 = .ok (.if_icmp .eq 16, 3) := by decide +kernel
theorem dX4_allows_122 : decode cX4_allows 122 = .ok (.aload_n 0, 1) := by decide +kernel
theorem dX4_allows_123 : decode cX4_allows 123 = .ok (.iload_n 3, 1) := by decide +kernel
theorem dX4_allows_124 : decode cX4_allows 124 = .ok (.invokevirtual 41, 3) := by decide +kernel
theorem dX4_allows_127 : decode cX4_allows 127 = .ok (.iload_n 2, 1) := by decide +kernel
theorem dX4_allows_128 : decode cX4_allows 128 = .ok (.if_icmp .eq 7, 3) := by decide +kernel
theorem dX4_allows_131 : decode cX4_allows 131 = .ok (.iconst 1, 1) := by decide +kernel
theorem dX4_allows_132 : decode cX4_allows 132 = .ok (.goto 4, 3) := by decide +kernel
theorem dX4_allows_135 : decode cX4_allows 135 = .ok (.iconst 0, 1) := by decide +kernel
theorem dX4_allows_136 : decode cX4_allows 136 = .ok (.ireturn, 1) := by decide +kernel
theorem dX4_allows_137 : decode cX4_allows 137 = .ok (.aload_n 0, 1) := by decide +kernel
theorem dX4_allows_138 : decode cX4_allows 138 = .ok (.iload_n 3, 1) := by decide +kernel
theorem dX4_allows_139 : decode cX4_allows 139 = .ok (.invokevirtual 41, 3) := by decide +kernel
theorem dX4_allows_142 : decode cX4_allows 142 = .ok (.bipush (-2), 2) := by decide +kernel
theorem dX4_allows_144 : decode cX4_allows 144 = .ok (.if_icmp .ne 24, 3) := by decide +kernel
theorem dX4_allows_147 : decode cX4_allows 147 = .ok (.aload_n 0, 1) := by decide +kernel
theorem dX4_allows_148 : decode cX4_allows 148 = .ok (.iload_n 2, 1) := by decide +kernel
theorem dX4_allows_149 : decode cX4_allows 149 = .ok (.invokevirtual 48, 3) := by decide +kernel
theorem dX4_allows_152 : decode cX4_allows 152 = .ok (.ifCond .ne 12, 3) := by decide +kernel
theorem dX4_allows_155 : decode cX4_allows 155 = .ok (.aload_n 0, 1) := by decide +kernel
theorem dX4_allows_156 : decode cX4_allows 156 = .ok (.iload_n 2, 1) := by decide +kernel
theorem dX4_allows_157 : decode cX4_allows 157 = .ok (.iload_n 3, 1) := by decide +kernel
theorem dX4_allows_158 : decode cX4_allows 158 = .ok (.invokevirtual 52, 3) := by decide +kernel
theorem dX4_allows_161 : decode cX4_allows 161 = .ok (.ifCond .eq 7, 3) := by decide +kernel
theorem dX4_allows_164 : decode cX4_allows 164 = .ok (.iconst 1, 1) := by decide +kernel
theorem dX4_allows_165 : decode cX4_allows 165 = .ok (.goto 4, 3) := by decide +kernel
theorem dX4_allows_168 : decode cX4_allows 168 = .ok (.iconst 0, 1) := by decide +kernel
theorem dX4_allows_169 : decode cX4_allows 169 = .ok (.ireturn, 1) := by decide +kernel
theorem dX4_allows_170 : decode cX4_allows 170 = .ok (.aload_n 0, 1) := by decide +kernel
theorem dX4_allows_171 : decode cX4_allows 171 = .ok (.iload_n 2, 1) := by decide +kernel
theorem dX4_allows_172 : decode cX4_allows 172 = .ok (.invokevirtual 48, 3) := by decide +kernel
theorem dX4_allows_175 : decode cX4_allows 175 = .ok (.ifCond .eq 16, 3) := by decide +kernel
theorem dX4_allows_178 : decode cX4_allows 178 = .ok (.aload_n 0, 1) := by decide +kernel
theorem dX4_allows_179 : decode cX4_allows 179 = .ok (.iload_n 3, 1) := by decide +kernel
theorem dX4_allows_180 : decode cX4_allows 180 = .ok (.invokevirtual 41, 3) := by decide +kernel
theorem dX4_allows_183 : decode cX4_allows 183 = .ok (.iload_n 2, 1) := by decide +kernel
theorem dX4_allows_184 : decode cX4_allows 184 = .ok (.if_icmp .ne 7, 3) := by decide +kernel
theorem dX4_allows_187 : decode cX4_allows 187 = .ok (.iconst 1, 1) := by decide +kernel
theorem dX4_allows_188 : decode cX4_allows 188 = .ok (.goto 4, 3) := by decide +kernel
theorem dX4_allows_191 : decode cX4_allows 191 = .ok (.iconst 0, 1) := by decide +kernel
theorem dX4_allows_192 : decode cX4_allows 192 = .ok (.ireturn, 1) := by decide +kernel
theorem dX4_allows_193 : decode cX4_allows 193 = .ok (.aload_n 0, 1) := by decide +kernel
theorem dX4_allows_194 : decode cX4_allows 194 = .ok (.getfield 25, 3) := by decide +kernel
theorem dX4_allows_197 : decode cX4_allows 197 = .ok (.ifCond .ne 7, 3) := by decide +kernel
theorem dX4_allows_200 : decode cX4_allows 200 = .ok (.iconst 1, 1) := by decide +kernel
theorem dX4_allows_201 : decode cX4_allows 201 = .ok (.goto 4, 3) := by decide +kernel
theorem dX4_allows_204 : decode cX4_allows 204 = .ok (.iconst 0, 1) := by decide +kernel
theorem dX4_allows_205 : decode cX4_allows 205 = .ok (.ireturn, 1) := by decide +kernel
theorem dX4_allows_206 : decode cX4_allows 206 = .ok (.aload_n 0, 1) := by decide +kernel
theorem dX4_allows_207 : decode cX4_allows 207 = .ok (.getfield 25, 3) := by decide +kernel
theorem dX4_allows_210 : decode cX4_allows 210 = .ok (.ireturn, 1) := by decide +kernel
theorem dX4_allows_211 : decode cX4_allows 211 = .ok (.iconst 1, 1) := by decide +kernel
theorem dX4_allows_212 : decode cX4_allows 212 = .ok (.ireturn, 1) := by decide +kernel
def f_X4_allows_b85 (μ : Mm) (a0 : Nat) : Option Int32 :=
 if (μ.1 400 a0 4) = 0 then
 some (1 : Int32)
 else
 some (0 : Int32)
set_option maxHeartbeats 4000000 in
set_option maxRecDepth 100000 in
theorem cb_X4_allows_85 {l : Launch} {E : En} {p : Program} {e : Env} {s : State} {m : MethodId} {av : Array Value} {below : List Frame} {meth : Method} {c : Code} (C : Cx E p s m av c cX4_allows 5 yX4_allows.cls) (hr : meth.sig.returnType = (some .boolean)) (hlk : meth.locks = false) {μ : Mm} {z : Int32} : ∀ (a0 : Nat) (h_a0 : l4 E a0), f_X4_allows_b85 μ a0 = some z → ∀ {H : Heap} {locs : List Loc} {ls : Array Slot}, Iv E s μ H locs → lv_has ls 5 [(0, .ref (ad E 400 a0))] → W p l e { frames := 2, cells := 0, slots := 0, locals := 43 } s m av below meth c H locs 0 0 (MQ below (Qm E (some (.int z)) μ) av s 0 0 (Ad E)) (F0 m 85 ls []) := by
  have hx := C.1.1
  have hb := C.1.2.1
  intro a0 h_a0 hf H locs ls hI hl
  unfold f_X4_allows_b85 at hf
  refine lv_aload_n hx hb dX4_allows_85 rfl (lv_at hl 0 rfl) ?_
  refine gf_4_4 C hI h_a0.1 fl_X4_25 dX4_allows_86 ?_
  refine lv_if_ne (tgt := 96) hx hb dX4_allows_89 rfl (fun hc => ?_) (fun hc => ?_)
  · replace hf := ie hf hc
    refine lv_iconst (v := (0 : Int32)) hx hb dX4_allows_96 kc_0 ?_
    obtain rfl := Option.some.inj hf
    exact m_zret C hr hlk hI (by decide) dX4_allows_97
  · replace hf := it hf hc
    refine lv_iconst (v := (1 : Int32)) hx hb dX4_allows_92 kc_1 ?_
    refine lv_goto (tgt := 97) hx hb dX4_allows_93 rfl ?_
    obtain rfl := Option.some.inj hf
    exact m_zret C hr hlk hI (by decide) dX4_allows_97
def f_X4_allows (μ : Mm) (i0 : Nat) (p1 : Int32) (p2 : Int32) (p3 : Int32) : Option Int32 :=
 (f_X4_stateOf μ i0 p2).bind fun q21 =>
 if p1 = (0 : Int32) then
 if q21 = 0 then
 some (1 : Int32)
 else
 if q21 = (4 : Int32) then
 some (1 : Int32)
 else
 some (0 : Int32)
 else
 if p1 = (1 : Int32) then
 if q21 = (1 : Int32) then
 f_X4_allows_b85 μ i0
 else
 if q21 = (4 : Int32) then
 f_X4_allows_b85 μ i0
 else
 some (0 : Int32)
 else
 if p1 = (2 : Int32) then
 (f_X4_acts μ i0 p2).bind fun q23 =>
 gz q23
 else
 if p1 = (3 : Int32) then
 (f_X4_acts μ i0 p2).bind fun q25 =>
 if q25 = 0 then
 some (0 : Int32)
 else
 (f_X4_holderOf μ i0 p3).bind fun q27 =>
 if q27 = (-2 : Int32) then
 some (0 : Int32)
 else
 (f_X4_holderOf μ i0 p3).bind fun q29 =>
 if q29 = p2 then
 some (0 : Int32)
 else
 some (1 : Int32)
 else
 if p1 = (4 : Int32) then
 (f_X4_holderOf μ i0 p3).bind fun q31 =>
 if q31 = (-2 : Int32) then
 (f_X4_acts μ i0 p2).bind fun q33 =>
 if q33 = 0 then
 (f_X4_wants μ i0 p2 p3).bind fun q35 =>
 if q35 = 0 then
 some (0 : Int32)
 else
 some (1 : Int32)
 else
 some (1 : Int32)
 else
 some (0 : Int32)
 else
 if p1 = (5 : Int32) then
 (f_X4_acts μ i0 p2).bind fun q37 =>
 if q37 = 0 then
 some (0 : Int32)
 else
 (f_X4_holderOf μ i0 p3).bind fun q39 =>
 if q39 = p2 then
 some (1 : Int32)
 else
 some (0 : Int32)
 else
 if p1 = (6 : Int32) then
 if (μ.1 400 i0 4) = 0 then
 some (1 : Int32)
 else
 some (0 : Int32)
 else
 if p1 = (7 : Int32) then
 gz (μ.1 400 i0 4)
 else
 some (1 : Int32)
set_option maxHeartbeats 4000000 in
set_option maxRecDepth 100000 in
theorem c_X4_allows (l : Launch) (E : En) {μ : Mm} {i0 : Nat} {p1 : Int32} {p2 : Int32} {p3 : Int32} (h0 : l4 E i0) {z : Int32} (hf : f_X4_allows μ i0 p1 p2 p3 = some z) : Met l yX4_allows (wt yX4_allows cX4_allows 5 (some .boolean)) { frames := 2, cells := 0, slots := 0, locals := 43 } (Pm E [.ref (ad E 400 i0), .int p1, .int p2, .int p3] μ) (Qm E (some (.int z)) μ) 0 0 (Ad E) := by
  unfold f_X4_allows at hf
  refine met_of (cc := cX4_allows) (nL := 5) (ret := (some .boolean)) (by decide) _ (Nat.le_of_ble_eq_true rfl) ?_
  intro p e s m below meth c C hr hlk hI ls hl
  have hx := C.1.1
  have hb := C.1.2.1
  have hl : lv_has ls 5 [(0, .ref (ad E 400 i0)), (1, .int p1), (2, .int p2), (3, .int p3)] := hl
  refine lv_aload_n hx hb dX4_allows_0 rfl (lv_at hl 0 rfl) ?_
  refine lv_iload_n hx hb dX4_allows_1 rfl (lv_at hl 2 rfl) ?_
  obtain ⟨q21, e22, hf⟩ := ob hf
  refine mcV (As := [.int p2]) (rest := []) C hI (c_X4_stateOf l E h0 e22) ml_X4_45 kv_X4_stateOf (m_recv C hI h0.1 (ce_400 E _ _ _) rfl) rfl rfl ⟨Nat.le_of_ble_eq_true rfl, Nat.le_of_ble_eq_true rfl⟩ ⟨Nat.zero_le _, Nat.zero_le _⟩ rfl rfl hl.1 (Nat.le_of_ble_eq_true rfl) dX4_allows_2 (st1 := [.int q21]) rfl (fun H locs hI => ?_)
  refine lv_istore hx hb dX4_allows_5 hl (by decide) rfl (fun ls hl => ?_)
  have hl : lv_has ls 5 [(4, .int q21), (0, .ref (ad E 400 i0)), (1, .int p1), (2, .int p2), (3, .int p3)] := hl
  refine lv_iload_n hx hb dX4_allows_7 rfl (lv_at hl 2 rfl) ?_
  by_cases hn0 : p1 = (0 : Int32)
  · replace hf := it hf hn0
    refine lv_tableIn (tgt := 56) (off := 48) hx hb dX4_allows_8 (by rw [hn0]; decide) (by rw [hn0]; decide) (by rw [hn0]; rfl) rfl ?_
    refine lv_iload hx hb dX4_allows_56 (lv_at hl 0 rfl) ?_
    refine lv_if_eq (tgt := 67) hx hb dX4_allows_58 rfl (fun hc => ?_) (fun hc => ?_)
    · replace hf := it hf hc
      refine lv_iconst (v := (1 : Int32)) hx hb dX4_allows_67 kc_1 ?_
      refine lv_goto (tgt := 72) hx hb dX4_allows_68 rfl ?_
      obtain rfl := Option.some.inj hf
      exact m_zret C hr hlk hI (by decide) dX4_allows_72
    · replace hf := ie hf hc
      refine lv_iload hx hb dX4_allows_61 (lv_at hl 0 rfl) ?_
      refine lv_iconst (v := (4 : Int32)) hx hb dX4_allows_63 kc_4 ?_
      refine lv_icmp_ne (tgt := 71) hx hb dX4_allows_64 rfl (fun hc => ?_) (fun hc => ?_)
      · replace hf := ie hf hc
        refine lv_iconst (v := (0 : Int32)) hx hb dX4_allows_71 kc_0 ?_
        obtain rfl := Option.some.inj hf
        exact m_zret C hr hlk hI (by decide) dX4_allows_72
      · replace hf := it hf hc
        refine lv_iconst (v := (1 : Int32)) hx hb dX4_allows_67 kc_1 ?_
        refine lv_goto (tgt := 72) hx hb dX4_allows_68 rfl ?_
        obtain rfl := Option.some.inj hf
        exact m_zret C hr hlk hI (by decide) dX4_allows_72
  replace hf := ie hf hn0
  by_cases hn1 : p1 = (1 : Int32)
  · replace hf := it hf hn1
    refine lv_tableIn (tgt := 73) (off := 65) hx hb dX4_allows_8 (by rw [hn1]; decide) (by rw [hn1]; decide) (by rw [hn1]; rfl) rfl ?_
    refine lv_iload hx hb dX4_allows_73 (lv_at hl 0 rfl) ?_
    refine lv_iconst (v := (1 : Int32)) hx hb dX4_allows_75 kc_1 ?_
    refine lv_icmp_eq (tgt := 85) hx hb dX4_allows_76 rfl (fun hc => ?_) (fun hc => ?_)
    · replace hf := it hf hc
      exact cb_X4_allows_85 C hr hlk  _ h0 hf hI (lv_sub hl [1] rfl)
    · replace hf := ie hf hc
      refine lv_iload hx hb dX4_allows_79 (lv_at hl 0 rfl) ?_
      refine lv_iconst (v := (4 : Int32)) hx hb dX4_allows_81 kc_4 ?_
      refine lv_icmp_ne (tgt := 96) hx hb dX4_allows_82 rfl (fun hc => ?_) (fun hc => ?_)
      · replace hf := ie hf hc
        refine lv_iconst (v := (0 : Int32)) hx hb dX4_allows_96 kc_0 ?_
        obtain rfl := Option.some.inj hf
        exact m_zret C hr hlk hI (by decide) dX4_allows_97
      · replace hf := it hf hc
        exact cb_X4_allows_85 C hr hlk  _ h0 hf hI (lv_sub hl [1] rfl)
  replace hf := ie hf hn1
  by_cases hn2 : p1 = (2 : Int32)
  · replace hf := it hf hn2
    refine lv_tableIn (tgt := 98) (off := 90) hx hb dX4_allows_8 (by rw [hn2]; decide) (by rw [hn2]; decide) (by rw [hn2]; rfl) rfl ?_
    refine lv_aload_n hx hb dX4_allows_98 rfl (lv_at hl 1 rfl) ?_
    refine lv_iload_n hx hb dX4_allows_99 rfl (lv_at hl 3 rfl) ?_
    obtain ⟨q23, e24, hf⟩ := ob hf
    refine mcV (As := [.int p2]) (rest := []) C hI (c_X4_acts l E h0 e24) ml_X4_48 kv_X4_acts (m_recv C hI h0.1 (ce_400 E _ _ _) rfl) rfl rfl ⟨Nat.le_of_ble_eq_true rfl, Nat.le_of_ble_eq_true rfl⟩ ⟨Nat.zero_le _, Nat.zero_le _⟩ rfl rfl hl.1 (Nat.le_of_ble_eq_true rfl) dX4_allows_100 (st1 := [.int q23]) rfl (fun H locs hI => ?_)
    obtain ⟨rfl, hn, -⟩ := gz_ok hf
    exact m_zret C hr hlk hI hn dX4_allows_103
  replace hf := ie hf hn2
  by_cases hn3 : p1 = (3 : Int32)
  · replace hf := it hf hn3
    refine lv_tableIn (tgt := 104) (off := 96) hx hb dX4_allows_8 (by rw [hn3]; decide) (by rw [hn3]; decide) (by rw [hn3]; rfl) rfl ?_
    refine lv_aload_n hx hb dX4_allows_104 rfl (lv_at hl 1 rfl) ?_
    refine lv_iload_n hx hb dX4_allows_105 rfl (lv_at hl 3 rfl) ?_
    obtain ⟨q25, e26, hf⟩ := ob hf
    refine mcV (As := [.int p2]) (rest := []) C hI (c_X4_acts l E h0 e26) ml_X4_48 kv_X4_acts (m_recv C hI h0.1 (ce_400 E _ _ _) rfl) rfl rfl ⟨Nat.le_of_ble_eq_true rfl, Nat.le_of_ble_eq_true rfl⟩ ⟨Nat.zero_le _, Nat.zero_le _⟩ rfl rfl hl.1 (Nat.le_of_ble_eq_true rfl) dX4_allows_106 (st1 := [.int q25]) rfl (fun H locs hI => ?_)
    refine lv_if_eq (tgt := 135) hx hb dX4_allows_109 rfl (fun hc => ?_) (fun hc => ?_)
    · replace hf := it hf hc
      refine lv_iconst (v := (0 : Int32)) hx hb dX4_allows_135 kc_0 ?_
      obtain rfl := Option.some.inj hf
      exact m_zret C hr hlk hI (by decide) dX4_allows_136
    · replace hf := ie hf hc
      refine lv_aload_n hx hb dX4_allows_112 rfl (lv_at hl 1 rfl) ?_
      refine lv_iload_n hx hb dX4_allows_113 rfl (lv_at hl 4 rfl) ?_
      obtain ⟨q27, e28, hf⟩ := ob hf
      refine mcV (As := [.int p3]) (rest := []) C hI (c_X4_holderOf l E h0 e28) ml_X4_41 kv_X4_holderOf (m_recv C hI h0.1 (ce_400 E _ _ _) rfl) rfl rfl ⟨Nat.le_of_ble_eq_true rfl, Nat.le_of_ble_eq_true rfl⟩ ⟨Nat.zero_le _, Nat.zero_le _⟩ rfl rfl hl.1 (Nat.le_of_ble_eq_true rfl) dX4_allows_114 (st1 := [.int q27]) rfl (fun H locs hI => ?_)
      refine lv_bipush (v := (-2 : Int32)) hx hb dX4_allows_117 kb_m2 ?_
      refine lv_icmp_eq (tgt := 135) hx hb dX4_allows_119 rfl (fun hc => ?_) (fun hc => ?_)
      · replace hf := it hf hc
        refine lv_iconst (v := (0 : Int32)) hx hb dX4_allows_135 kc_0 ?_
        obtain rfl := Option.some.inj hf
        exact m_zret C hr hlk hI (by decide) dX4_allows_136
      · replace hf := ie hf hc
        refine lv_aload_n hx hb dX4_allows_122 rfl (lv_at hl 1 rfl) ?_
        refine lv_iload_n hx hb dX4_allows_123 rfl (lv_at hl 4 rfl) ?_
        obtain ⟨q29, e30, hf⟩ := ob hf
        refine mcV (As := [.int p3]) (rest := []) C hI (c_X4_holderOf l E h0 e30) ml_X4_41 kv_X4_holderOf (m_recv C hI h0.1 (ce_400 E _ _ _) rfl) rfl rfl ⟨Nat.le_of_ble_eq_true rfl, Nat.le_of_ble_eq_true rfl⟩ ⟨Nat.zero_le _, Nat.zero_le _⟩ rfl rfl hl.1 (Nat.le_of_ble_eq_true rfl) dX4_allows_124 (st1 := [.int q29]) rfl (fun H locs hI => ?_)
        refine lv_iload_n hx hb dX4_allows_127 rfl (lv_at hl 3 rfl) ?_
        refine lv_icmp_eq (tgt := 135) hx hb dX4_allows_128 rfl (fun hc => ?_) (fun hc => ?_)
        · replace hf := it hf hc
          refine lv_iconst (v := (0 : Int32)) hx hb dX4_allows_135 kc_0 ?_
          obtain rfl := Option.some.inj hf
          exact m_zret C hr hlk hI (by decide) dX4_allows_136
        · replace hf := ie hf hc
          refine lv_iconst (v := (1 : Int32)) hx hb dX4_allows_131 kc_1 ?_
          refine lv_goto (tgt := 136) hx hb dX4_allows_132 rfl ?_
          obtain rfl := Option.some.inj hf
          exact m_zret C hr hlk hI (by decide) dX4_allows_136
  replace hf := ie hf hn3
  by_cases hn4 : p1 = (4 : Int32)
  · replace hf := it hf hn4
    refine lv_tableIn (tgt := 137) (off := 129) hx hb dX4_allows_8 (by rw [hn4]; decide) (by rw [hn4]; decide) (by rw [hn4]; rfl) rfl ?_
    refine lv_aload_n hx hb dX4_allows_137 rfl (lv_at hl 1 rfl) ?_
    refine lv_iload_n hx hb dX4_allows_138 rfl (lv_at hl 4 rfl) ?_
    obtain ⟨q31, e32, hf⟩ := ob hf
    refine mcV (As := [.int p3]) (rest := []) C hI (c_X4_holderOf l E h0 e32) ml_X4_41 kv_X4_holderOf (m_recv C hI h0.1 (ce_400 E _ _ _) rfl) rfl rfl ⟨Nat.le_of_ble_eq_true rfl, Nat.le_of_ble_eq_true rfl⟩ ⟨Nat.zero_le _, Nat.zero_le _⟩ rfl rfl hl.1 (Nat.le_of_ble_eq_true rfl) dX4_allows_139 (st1 := [.int q31]) rfl (fun H locs hI => ?_)
    refine lv_bipush (v := (-2 : Int32)) hx hb dX4_allows_142 kb_m2 ?_
    refine lv_icmp_ne (tgt := 168) hx hb dX4_allows_144 rfl (fun hc => ?_) (fun hc => ?_)
    · replace hf := ie hf hc
      refine lv_iconst (v := (0 : Int32)) hx hb dX4_allows_168 kc_0 ?_
      obtain rfl := Option.some.inj hf
      exact m_zret C hr hlk hI (by decide) dX4_allows_169
    · replace hf := it hf hc
      refine lv_aload_n hx hb dX4_allows_147 rfl (lv_at hl 1 rfl) ?_
      refine lv_iload_n hx hb dX4_allows_148 rfl (lv_at hl 3 rfl) ?_
      obtain ⟨q33, e34, hf⟩ := ob hf
      refine mcV (As := [.int p2]) (rest := []) C hI (c_X4_acts l E h0 e34) ml_X4_48 kv_X4_acts (m_recv C hI h0.1 (ce_400 E _ _ _) rfl) rfl rfl ⟨Nat.le_of_ble_eq_true rfl, Nat.le_of_ble_eq_true rfl⟩ ⟨Nat.zero_le _, Nat.zero_le _⟩ rfl rfl hl.1 (Nat.le_of_ble_eq_true rfl) dX4_allows_149 (st1 := [.int q33]) rfl (fun H locs hI => ?_)
      refine lv_if_ne (tgt := 164) hx hb dX4_allows_152 rfl (fun hc => ?_) (fun hc => ?_)
      · replace hf := ie hf hc
        refine lv_iconst (v := (1 : Int32)) hx hb dX4_allows_164 kc_1 ?_
        refine lv_goto (tgt := 169) hx hb dX4_allows_165 rfl ?_
        obtain rfl := Option.some.inj hf
        exact m_zret C hr hlk hI (by decide) dX4_allows_169
      · replace hf := it hf hc
        refine lv_aload_n hx hb dX4_allows_155 rfl (lv_at hl 1 rfl) ?_
        refine lv_iload_n hx hb dX4_allows_156 rfl (lv_at hl 3 rfl) ?_
        refine lv_iload_n hx hb dX4_allows_157 rfl (lv_at hl 4 rfl) ?_
        obtain ⟨q35, e36, hf⟩ := ob hf
        refine mcV (As := [.int p2, .int p3]) (rest := []) C hI (c_X4_wants l E h0 e36) ml_X4_52 kv_X4_wants (m_recv C hI h0.1 (ce_400 E _ _ _) rfl) rfl rfl ⟨Nat.le_of_ble_eq_true rfl, Nat.le_of_ble_eq_true rfl⟩ ⟨Nat.zero_le _, Nat.zero_le _⟩ rfl rfl hl.1 (Nat.le_of_ble_eq_true rfl) dX4_allows_158 (st1 := [.int q35]) rfl (fun H locs hI => ?_)
        refine lv_if_eq (tgt := 168) hx hb dX4_allows_161 rfl (fun hc => ?_) (fun hc => ?_)
        · replace hf := it hf hc
          refine lv_iconst (v := (0 : Int32)) hx hb dX4_allows_168 kc_0 ?_
          obtain rfl := Option.some.inj hf
          exact m_zret C hr hlk hI (by decide) dX4_allows_169
        · replace hf := ie hf hc
          refine lv_iconst (v := (1 : Int32)) hx hb dX4_allows_164 kc_1 ?_
          refine lv_goto (tgt := 169) hx hb dX4_allows_165 rfl ?_
          obtain rfl := Option.some.inj hf
          exact m_zret C hr hlk hI (by decide) dX4_allows_169
  replace hf := ie hf hn4
  by_cases hn5 : p1 = (5 : Int32)
  · replace hf := it hf hn5
    refine lv_tableIn (tgt := 170) (off := 162) hx hb dX4_allows_8 (by rw [hn5]; decide) (by rw [hn5]; decide) (by rw [hn5]; rfl) rfl ?_
    refine lv_aload_n hx hb dX4_allows_170 rfl (lv_at hl 1 rfl) ?_
    refine lv_iload_n hx hb dX4_allows_171 rfl (lv_at hl 3 rfl) ?_
    obtain ⟨q37, e38, hf⟩ := ob hf
    refine mcV (As := [.int p2]) (rest := []) C hI (c_X4_acts l E h0 e38) ml_X4_48 kv_X4_acts (m_recv C hI h0.1 (ce_400 E _ _ _) rfl) rfl rfl ⟨Nat.le_of_ble_eq_true rfl, Nat.le_of_ble_eq_true rfl⟩ ⟨Nat.zero_le _, Nat.zero_le _⟩ rfl rfl hl.1 (Nat.le_of_ble_eq_true rfl) dX4_allows_172 (st1 := [.int q37]) rfl (fun H locs hI => ?_)
    refine lv_if_eq (tgt := 191) hx hb dX4_allows_175 rfl (fun hc => ?_) (fun hc => ?_)
    · replace hf := it hf hc
      refine lv_iconst (v := (0 : Int32)) hx hb dX4_allows_191 kc_0 ?_
      obtain rfl := Option.some.inj hf
      exact m_zret C hr hlk hI (by decide) dX4_allows_192
    · replace hf := ie hf hc
      refine lv_aload_n hx hb dX4_allows_178 rfl (lv_at hl 1 rfl) ?_
      refine lv_iload_n hx hb dX4_allows_179 rfl (lv_at hl 4 rfl) ?_
      obtain ⟨q39, e40, hf⟩ := ob hf
      refine mcV (As := [.int p3]) (rest := []) C hI (c_X4_holderOf l E h0 e40) ml_X4_41 kv_X4_holderOf (m_recv C hI h0.1 (ce_400 E _ _ _) rfl) rfl rfl ⟨Nat.le_of_ble_eq_true rfl, Nat.le_of_ble_eq_true rfl⟩ ⟨Nat.zero_le _, Nat.zero_le _⟩ rfl rfl hl.1 (Nat.le_of_ble_eq_true rfl) dX4_allows_180 (st1 := [.int q39]) rfl (fun H locs hI => ?_)
      refine lv_iload_n hx hb dX4_allows_183 rfl (lv_at hl 3 rfl) ?_
      refine lv_icmp_ne (tgt := 191) hx hb dX4_allows_184 rfl (fun hc => ?_) (fun hc => ?_)
      · replace hf := ie hf hc
        refine lv_iconst (v := (0 : Int32)) hx hb dX4_allows_191 kc_0 ?_
        obtain rfl := Option.some.inj hf
        exact m_zret C hr hlk hI (by decide) dX4_allows_192
      · replace hf := it hf hc
        refine lv_iconst (v := (1 : Int32)) hx hb dX4_allows_187 kc_1 ?_
        refine lv_goto (tgt := 192) hx hb dX4_allows_188 rfl ?_
        obtain rfl := Option.some.inj hf
        exact m_zret C hr hlk hI (by decide) dX4_allows_192
  replace hf := ie hf hn5
  by_cases hn6 : p1 = (6 : Int32)
  · replace hf := it hf hn6
    refine lv_tableIn (tgt := 193) (off := 185) hx hb dX4_allows_8 (by rw [hn6]; decide) (by rw [hn6]; decide) (by rw [hn6]; rfl) rfl ?_
    refine lv_aload_n hx hb dX4_allows_193 rfl (lv_at hl 1 rfl) ?_
    refine gf_4_4 C hI h0.1 fl_X4_25 dX4_allows_194 ?_
    refine lv_if_ne (tgt := 204) hx hb dX4_allows_197 rfl (fun hc => ?_) (fun hc => ?_)
    · replace hf := ie hf hc
      refine lv_iconst (v := (0 : Int32)) hx hb dX4_allows_204 kc_0 ?_
      obtain rfl := Option.some.inj hf
      exact m_zret C hr hlk hI (by decide) dX4_allows_205
    · replace hf := it hf hc
      refine lv_iconst (v := (1 : Int32)) hx hb dX4_allows_200 kc_1 ?_
      refine lv_goto (tgt := 205) hx hb dX4_allows_201 rfl ?_
      obtain rfl := Option.some.inj hf
      exact m_zret C hr hlk hI (by decide) dX4_allows_205
  replace hf := ie hf hn6
  by_cases hn7 : p1 = (7 : Int32)
  · replace hf := it hf hn7
    refine lv_tableIn (tgt := 206) (off := 198) hx hb dX4_allows_8 (by rw [hn7]; decide) (by rw [hn7]; decide) (by rw [hn7]; rfl) rfl ?_
    refine lv_aload_n hx hb dX4_allows_206 rfl (lv_at hl 1 rfl) ?_
    refine gf_4_4 C hI h0.1 fl_X4_25 dX4_allows_207 ?_
    obtain ⟨rfl, hn, -⟩ := gz_ok hf
    exact m_zret C hr hlk hI hn dX4_allows_210
  replace hf := ie hf hn7
  have a0_ := ts_ne (n := 0) hn0 (by decide)
  have a1_ := ts_ne (n := 1) hn1 (by decide)
  have a2_ := ts_ne (n := 2) hn2 (by decide)
  have a3_ := ts_ne (n := 3) hn3 (by decide)
  have a4_ := ts_ne (n := 4) hn4 (by decide)
  have a5_ := ts_ne (n := 5) hn5 (by decide)
  have a6_ := ts_ne (n := 6) hn6 (by decide)
  have a7_ := ts_ne (n := 7) hn7 (by decide)
  refine lv_tableOut (tgt := 211) hx hb dX4_allows_8 (by omega) rfl ?_
  refine lv_iconst (v := (1 : Int32)) hx hb dX4_allows_211 kc_1 ?_
  obtain rfl := Option.some.inj hf
  exact m_zret C hr hlk hI (by decide) dX4_allows_212

theorem dX4_setState_0 : decode cX4_setState 0 = .ok (.iload_n 1, 1) := by decide +kernel
theorem dX4_setState_1 : decode cX4_setState 1 = .ok (.ifCond .lt 16, 3) := by decide +kernel
theorem dX4_setState_4 : decode cX4_setState 4 = .ok (.iload_n 1, 1) := by decide +kernel
theorem dX4_setState_5 : decode cX4_setState 5 = .ok (.bipush 8, 2) := by decide +kernel
theorem dX4_setState_7 : decode cX4_setState 7 = .ok (.if_icmp .ge 10, 3) := by decide +kernel
theorem dX4_setState_10 : decode cX4_setState 10 = .ok (.aload_n 0, 1) := by decide +kernel
theorem dX4_setState_11 : decode cX4_setState 11 = .ok (.getfield 9, 3) := by decide +kernel
theorem dX4_setState_14 : decode cX4_setState 14 = .ok (.iload_n 1, 1) := by decide +kernel
theorem dX4_setState_15 : decode cX4_setState 15 = .ok (.iload_n 2, 1) := by decide +kernel
theorem dX4_setState_16 : decode cX4_setState 16 = .ok (.iastore, 1) := by decide +kernel
theorem dX4_setState_17 : decode cX4_setState 17 = .ok (.return_, 1) := by decide +kernel
def f_X4_setState (μ : Mm) (i0 : Nat) (p1 : Int32) (p2 : Int32) : Option Mm :=
 if p1 < 0 then
 some μ
 else
 if (8 : Int32) ≤ p1 then
 some μ
 else
 (wa μ 401 i0 8 p1 p2).bind fun m3 =>
 some m3
set_option maxHeartbeats 4000000 in
set_option maxRecDepth 100000 in
theorem c_X4_setState (l : Launch) (E : En) {μ : Mm} {i0 : Nat} {p1 : Int32} {p2 : Int32} (h0 : l4 E i0) {z : Mm} (hf : f_X4_setState μ i0 p1 p2 = some z) : Met l yX4_setState (wt yX4_setState cX4_setState 3 (none : Option FieldType)) { frames := 0, cells := 0, slots := 0, locals := 0 } (Pm E [.ref (ad E 400 i0), .int p1, .int p2] μ) (Qm E none z) 0 0 (Ad E) := by
  unfold f_X4_setState at hf
  refine met_of (cc := cX4_setState) (nL := 3) (ret := (none : Option FieldType)) (by decide) _ (Nat.le_of_ble_eq_true rfl) ?_
  intro p e s m below meth c C hr hlk hI ls hl
  have hx := C.1.1
  have hb := C.1.2.1
  have hl : lv_has ls 3 [(0, .ref (ad E 400 i0)), (1, .int p1), (2, .int p2)] := hl
  refine lv_iload_n hx hb dX4_setState_0 rfl (lv_at hl 1 rfl) ?_
  refine lv_if_lt (tgt := 17) hx hb dX4_setState_1 rfl (fun hc => ?_) (fun hc => ?_)
  · replace hf := it hf hc
    obtain rfl := Option.some.inj hf
    exact m_vret C hr hlk hI dX4_setState_17
  · replace hf := ie hf hc
    refine lv_iload_n hx hb dX4_setState_4 rfl (lv_at hl 1 rfl) ?_
    refine lv_bipush (v := (8 : Int32)) hx hb dX4_setState_5 kb_8 ?_
    refine lv_icmp_ge (tgt := 17) hx hb dX4_setState_7 rfl (fun hc => ?_) (fun hc => ?_)
    · replace hf := it hf hc
      obtain rfl := Option.some.inj hf
      exact m_vret C hr hlk hI dX4_setState_17
    · replace hf := ie hf hc
      refine lv_aload_n hx hb dX4_setState_10 rfl (lv_at hl 0 rfl) ?_
      refine gf_4_0 C hI h0.1 fl_X4_9 dX4_setState_11 ?_
      refine lv_iload_n hx hb dX4_setState_14 rfl (lv_at hl 1 rfl) ?_
      refine lv_iload_n hx hb dX4_setState_15 rfl (lv_at hl 2 rfl) ?_
      obtain ⟨m3, e4, hf⟩ := ob hf
      refine m_iast C hI h0.2.1 (ce_401 E _) e4 dX4_setState_16 (fun H locs hI => ?_)
      obtain rfl := Option.some.inj hf
      exact m_vret C hr hlk hI dX4_setState_17

theorem dX4_startWanting_0 : decode cX4_startWanting 0 = .ok (.aload_n 0, 1) := by decide +kernel
theorem dX4_startWanting_1 : decode cX4_startWanting 1 = .ok (.iload_n 1, 1) := by decide +kernel
theorem dX4_startWanting_2 : decode cX4_startWanting 2 = .ok (.iconst 3, 1) := by decide +kernel
theorem dX4_startWanting_3 : decode cX4_startWanting 3 = .ok (.invokevirtual 56, 3) := by decide +kernel
theorem dX4_startWanting_6 : decode cX4_startWanting 6 = .ok (.iload_n 1, 1) := by decide +kernel
theorem dX4_startWanting_7 : decode cX4_startWanting 7 = .ok (.ifCond .lt 16, 3) := by decide +kernel
theorem dX4_startWanting_10 : decode cX4_startWanting 10 = .ok (.iload_n 1, 1) := by decide +kernel
theorem dX4_startWanting_11 : decode cX4_startWanting 11 = .ok (.bipush 8, 2) := by decide +kernel
theorem dX4_startWanting_13 : decode cX4_startWanting 13 = .ok (.if_icmp .ge 10, 3) := by decide +kernel
theorem dX4_startWanting_16 : decode cX4_startWanting 16 = .ok (.aload_n 0, 1) := by decide +kernel
theorem dX4_startWanting_17 : decode cX4_startWanting 17 = .ok (.getfield 15, 3) := by decide +kernel
theorem dX4_startWanting_20 : decode cX4_startWanting 20 = .ok (.iload_n 1, 1) := by decide +kernel
theorem dX4_startWanting_21 : decode cX4_startWanting 21 = .ok (.iload_n 2, 1) := by decide +kernel
theorem dX4_startWanting_22 : decode cX4_startWanting 22 = .ok (.iastore, 1) := by decide +kernel
theorem dX4_startWanting_23 : decode cX4_startWanting 23 = .ok (.aload_n 0, 1) := by decide +kernel
theorem dX4_startWanting_24 : decode cX4_startWanting 24 = .ok (.bipush (-2), 2) := by decide +kernel
theorem dX4_startWanting_26 : decode cX4_startWanting 26 = .ok (.putfield 21, 3) := by decide +kernel
theorem dX4_startWanting_29 : decode cX4_startWanting 29 = .ok (.return_, 1) := by decide +kernel
def f_X4_startWanting (μ : Mm) (i0 : Nat) (p1 : Int32) (p2 : Int32) : Option Mm :=
 (f_X4_setState μ i0 p1 (3 : Int32)).bind fun q7 =>
 if p1 < 0 then
 (wf q7 400 i0 3 (-2 : Int32)).bind fun m9 =>
 some m9
 else
 if (8 : Int32) ≤ p1 then
 (wf q7 400 i0 3 (-2 : Int32)).bind fun m11 =>
 some m11
 else
 (wa q7 402 i0 8 p1 p2).bind fun m13 =>
 (wf m13 400 i0 3 (-2 : Int32)).bind fun m15 =>
 some m15
set_option maxHeartbeats 4000000 in
set_option maxRecDepth 100000 in
theorem c_X4_startWanting (l : Launch) (E : En) {μ : Mm} {i0 : Nat} {p1 : Int32} {p2 : Int32} (h0 : l4 E i0) {z : Mm} (hf : f_X4_startWanting μ i0 p1 p2 = some z) : Met l yX4_startWanting (wt yX4_startWanting cX4_startWanting 3 (none : Option FieldType)) { frames := 1, cells := 0, slots := 0, locals := 22 } (Pm E [.ref (ad E 400 i0), .int p1, .int p2] μ) (Qm E none z) 0 0 (Ad E) := by
  unfold f_X4_startWanting at hf
  refine met_of (cc := cX4_startWanting) (nL := 3) (ret := (none : Option FieldType)) (by decide) _ (Nat.le_of_ble_eq_true rfl) ?_
  intro p e s m below meth c C hr hlk hI ls hl
  have hx := C.1.1
  have hb := C.1.2.1
  have hl : lv_has ls 3 [(0, .ref (ad E 400 i0)), (1, .int p1), (2, .int p2)] := hl
  refine lv_aload_n hx hb dX4_startWanting_0 rfl (lv_at hl 0 rfl) ?_
  refine lv_iload_n hx hb dX4_startWanting_1 rfl (lv_at hl 1 rfl) ?_
  refine lv_iconst (v := (3 : Int32)) hx hb dX4_startWanting_2 kc_3 ?_
  obtain ⟨q7, e8, hf⟩ := ob hf
  refine mcV (As := [.int p1, .int (3 : Int32)]) (rest := []) C hI (c_X4_setState l E h0 e8) ml_X4_56 kv_X4_setState (m_recv C hI h0.1 (ce_400 E _ _ _) rfl) rfl rfl ⟨Nat.le_of_ble_eq_true rfl, Nat.le_of_ble_eq_true rfl⟩ ⟨Nat.zero_le _, Nat.zero_le _⟩ rfl rfl hl.1 (Nat.le_of_ble_eq_true rfl) dX4_startWanting_3 (st1 := []) rfl (fun H locs hI => ?_)
  refine lv_iload_n hx hb dX4_startWanting_6 rfl (lv_at hl 1 rfl) ?_
  refine lv_if_lt (tgt := 23) hx hb dX4_startWanting_7 rfl (fun hc => ?_) (fun hc => ?_)
  · replace hf := it hf hc
    refine lv_aload_n hx hb dX4_startWanting_23 rfl (lv_at hl 0 rfl) ?_
    refine lv_bipush (v := (-2 : Int32)) hx hb dX4_startWanting_24 kb_m2 ?_
    obtain ⟨m9, e10, hf⟩ := ob hf
    refine pf_4_3 C hI h0.1 fl_X4_21 e10 dX4_startWanting_26 (fun H locs hI => ?_)
    obtain rfl := Option.some.inj hf
    exact m_vret C hr hlk hI dX4_startWanting_29
  · replace hf := ie hf hc
    refine lv_iload_n hx hb dX4_startWanting_10 rfl (lv_at hl 1 rfl) ?_
    refine lv_bipush (v := (8 : Int32)) hx hb dX4_startWanting_11 kb_8 ?_
    refine lv_icmp_ge (tgt := 23) hx hb dX4_startWanting_13 rfl (fun hc => ?_) (fun hc => ?_)
    · replace hf := it hf hc
      refine lv_aload_n hx hb dX4_startWanting_23 rfl (lv_at hl 0 rfl) ?_
      refine lv_bipush (v := (-2 : Int32)) hx hb dX4_startWanting_24 kb_m2 ?_
      obtain ⟨m11, e12, hf⟩ := ob hf
      refine pf_4_3 C hI h0.1 fl_X4_21 e12 dX4_startWanting_26 (fun H locs hI => ?_)
      obtain rfl := Option.some.inj hf
      exact m_vret C hr hlk hI dX4_startWanting_29
    · replace hf := ie hf hc
      refine lv_aload_n hx hb dX4_startWanting_16 rfl (lv_at hl 0 rfl) ?_
      refine gf_4_1 C hI h0.1 fl_X4_15 dX4_startWanting_17 ?_
      refine lv_iload_n hx hb dX4_startWanting_20 rfl (lv_at hl 1 rfl) ?_
      refine lv_iload_n hx hb dX4_startWanting_21 rfl (lv_at hl 2 rfl) ?_
      obtain ⟨m13, e14, hf⟩ := ob hf
      refine m_iast C hI h0.2.2.1 (ce_402 E _) e14 dX4_startWanting_22 (fun H locs hI => ?_)
      refine lv_aload_n hx hb dX4_startWanting_23 rfl (lv_at hl 0 rfl) ?_
      refine lv_bipush (v := (-2 : Int32)) hx hb dX4_startWanting_24 kb_m2 ?_
      obtain ⟨m15, e16, hf⟩ := ob hf
      refine pf_4_3 C hI h0.1 fl_X4_21 e16 dX4_startWanting_26 (fun H locs hI => ?_)
      obtain rfl := Option.some.inj hf
      exact m_vret C hr hlk hI dX4_startWanting_29

theorem dX4_setHolder_0 : decode cX4_setHolder 0 = .ok (.iload_n 1, 1) := by decide +kernel
theorem dX4_setHolder_1 : decode cX4_setHolder 1 = .ok (.ifCond .lt 15, 3) := by decide +kernel
theorem dX4_setHolder_4 : decode cX4_setHolder 4 = .ok (.iload_n 1, 1) := by decide +kernel
theorem dX4_setHolder_5 : decode cX4_setHolder 5 = .ok (.iconst 4, 1) := by decide +kernel
theorem dX4_setHolder_6 : decode cX4_setHolder 6 = .ok (.if_icmp .ge 10, 3) := by decide +kernel
theorem dX4_setHolder_9 : decode cX4_setHolder 9 = .ok (.aload_n 0, 1) := by decide +kernel
theorem dX4_setHolder_10 : decode cX4_setHolder 10 = .ok (.getfield 18, 3) := by decide +kernel
theorem dX4_setHolder_13 : decode cX4_setHolder 13 = .ok (.iload_n 1, 1) := by decide +kernel
theorem dX4_setHolder_14 : decode cX4_setHolder 14 = .ok (.iload_n 2, 1) := by decide +kernel
theorem dX4_setHolder_15 : decode cX4_setHolder 15 = .ok (.iastore, 1) := by decide +kernel
theorem dX4_setHolder_16 : decode cX4_setHolder 16 = .ok (.return_, 1) := by decide +kernel
def f_X4_setHolder (μ : Mm) (i0 : Nat) (p1 : Int32) (p2 : Int32) : Option Mm :=
 if p1 < 0 then
 some μ
 else
 if (4 : Int32) ≤ p1 then
 some μ
 else
 (wa μ 403 i0 4 p1 p2).bind fun m3 =>
 some m3
set_option maxHeartbeats 4000000 in
set_option maxRecDepth 100000 in
theorem c_X4_setHolder (l : Launch) (E : En) {μ : Mm} {i0 : Nat} {p1 : Int32} {p2 : Int32} (h0 : l4 E i0) {z : Mm} (hf : f_X4_setHolder μ i0 p1 p2 = some z) : Met l yX4_setHolder (wt yX4_setHolder cX4_setHolder 3 (none : Option FieldType)) { frames := 0, cells := 0, slots := 0, locals := 0 } (Pm E [.ref (ad E 400 i0), .int p1, .int p2] μ) (Qm E none z) 0 0 (Ad E) := by
  unfold f_X4_setHolder at hf
  refine met_of (cc := cX4_setHolder) (nL := 3) (ret := (none : Option FieldType)) (by decide) _ (Nat.le_of_ble_eq_true rfl) ?_
  intro p e s m below meth c C hr hlk hI ls hl
  have hx := C.1.1
  have hb := C.1.2.1
  have hl : lv_has ls 3 [(0, .ref (ad E 400 i0)), (1, .int p1), (2, .int p2)] := hl
  refine lv_iload_n hx hb dX4_setHolder_0 rfl (lv_at hl 1 rfl) ?_
  refine lv_if_lt (tgt := 16) hx hb dX4_setHolder_1 rfl (fun hc => ?_) (fun hc => ?_)
  · replace hf := it hf hc
    obtain rfl := Option.some.inj hf
    exact m_vret C hr hlk hI dX4_setHolder_16
  · replace hf := ie hf hc
    refine lv_iload_n hx hb dX4_setHolder_4 rfl (lv_at hl 1 rfl) ?_
    refine lv_iconst (v := (4 : Int32)) hx hb dX4_setHolder_5 kc_4 ?_
    refine lv_icmp_ge (tgt := 16) hx hb dX4_setHolder_6 rfl (fun hc => ?_) (fun hc => ?_)
    · replace hf := it hf hc
      obtain rfl := Option.some.inj hf
      exact m_vret C hr hlk hI dX4_setHolder_16
    · replace hf := ie hf hc
      refine lv_aload_n hx hb dX4_setHolder_9 rfl (lv_at hl 0 rfl) ?_
      refine gf_4_2 C hI h0.1 fl_X4_18 dX4_setHolder_10 ?_
      refine lv_iload_n hx hb dX4_setHolder_13 rfl (lv_at hl 1 rfl) ?_
      refine lv_iload_n hx hb dX4_setHolder_14 rfl (lv_at hl 2 rfl) ?_
      obtain ⟨m3, e4, hf⟩ := ob hf
      refine m_iast C hI h0.2.2.2 (ce_403 E _) e4 dX4_setHolder_15 (fun H locs hI => ?_)
      obtain rfl := Option.some.inj hf
      exact m_vret C hr hlk hI dX4_setHolder_16

theorem dX4_loseAll_0 : decode cX4_loseAll 0 = .ok (.aload_n 0, 1) := by decide +kernel
theorem dX4_loseAll_1 : decode cX4_loseAll 1 = .ok (.getfield 9, 3) := by decide +kernel
theorem dX4_loseAll_4 : decode cX4_loseAll 4 = .ok (.iconst 4, 1) := by decide +kernel
theorem dX4_loseAll_5 : decode cX4_loseAll 5 = .ok (.invokestatic 29, 3) := by decide +kernel
theorem dX4_loseAll_8 : decode cX4_loseAll 8 = .ok (.aload_n 0, 1) := by decide +kernel
theorem dX4_loseAll_9 : decode cX4_loseAll 9 = .ok (.getfield 18, 3) := by decide +kernel
theorem dX4_loseAll_12 : decode cX4_loseAll 12 = .ok (.bipush (-2), 2) := by decide +kernel
theorem dX4_loseAll_14 : decode cX4_loseAll 14 = .ok (.invokestatic 29, 3) := by decide +kernel
theorem dX4_loseAll_17 : decode cX4_loseAll 17 = .ok (.aload_n 0, 1) := by decide +kernel
theorem dX4_loseAll_18 : decode cX4_loseAll 18 = .ok (.bipush (-3), 2) := by decide +kernel
theorem dX4_loseAll_20 : decode cX4_loseAll 20 = .ok (.putfield 21, 3) := by decide +kernel
theorem dX4_loseAll_23 : decode cX4_loseAll 23 = .ok (.aload_n 0, 1) := by decide +kernel
theorem dX4_loseAll_24 : decode cX4_loseAll 24 = .ok (.iconst 0, 1) := by decide +kernel
theorem dX4_loseAll_25 : decode cX4_loseAll 25 = .ok (.putfield 25, 3) := by decide +kernel
theorem dX4_loseAll_28 : decode cX4_loseAll 28 = .ok (.return_, 1) := by decide +kernel
def f_X4_loseAll (μ : Mm) (i0 : Nat) : Option Mm :=
 (f_J7_fill_53178 μ 401 i0 8 (4 : Int32)).bind fun q9 =>
 (f_J7_fill_53178 q9 403 i0 4 (-2 : Int32)).bind fun q11 =>
 (wf q11 400 i0 3 (-3 : Int32)).bind fun m13 =>
 (wf m13 400 i0 4 (0 : Int32)).bind fun m15 =>
 some m15
set_option maxHeartbeats 4000000 in
set_option maxRecDepth 100000 in
theorem c_X4_loseAll (l : Launch) (E : En) {μ : Mm} {i0 : Nat} (h0 : l4 E i0) {z : Mm} (hf : f_X4_loseAll μ i0 = some z) : Met l yX4_loseAll (wt yX4_loseAll cX4_loseAll 1 (none : Option FieldType)) { frames := 1, cells := 0, slots := 0, locals := 23 } (Pm E [.ref (ad E 400 i0)] μ) (Qm E none z) 0 0 (Ad E) := by
  unfold f_X4_loseAll at hf
  refine met_of (cc := cX4_loseAll) (nL := 1) (ret := (none : Option FieldType)) (by decide) _ (Nat.le_of_ble_eq_true rfl) ?_
  intro p e s m below meth c C hr hlk hI ls hl
  have hx := C.1.1
  have hb := C.1.2.1
  have hl : lv_has ls 1 [(0, .ref (ad E 400 i0))] := hl
  refine lv_aload_n hx hb dX4_loseAll_0 rfl (lv_at hl 0 rfl) ?_
  refine gf_4_0 C hI h0.1 fl_X4_9 dX4_loseAll_1 ?_
  refine lv_iconst (v := (4 : Int32)) hx hb dX4_loseAll_4 kc_4 ?_
  obtain ⟨q9, e10, hf⟩ := ob hf
  refine mcS (As := [.ref (ad E 401 i0), .int (4 : Int32)]) (rest := []) C hI (c_J7_fill_53178 l E h0.2.1 (ce_401 E i0) (Nat.le_of_ble_eq_true rfl) e10) ml_X4_29 ks_J7_fill_53178 rfl rfl ⟨Nat.le_of_ble_eq_true rfl, Nat.le_of_ble_eq_true rfl⟩ ⟨Nat.zero_le _, Nat.zero_le _⟩ rfl rfl hl.1 (Nat.le_of_ble_eq_true rfl) dX4_loseAll_5 (st1 := []) rfl (fun H locs hI => ?_)
  refine lv_aload_n hx hb dX4_loseAll_8 rfl (lv_at hl 0 rfl) ?_
  refine gf_4_2 C hI h0.1 fl_X4_18 dX4_loseAll_9 ?_
  refine lv_bipush (v := (-2 : Int32)) hx hb dX4_loseAll_12 kb_m2 ?_
  obtain ⟨q11, e12, hf⟩ := ob hf
  refine mcS (As := [.ref (ad E 403 i0), .int (-2 : Int32)]) (rest := []) C hI (c_J7_fill_53178 l E h0.2.2.2 (ce_403 E i0) (Nat.le_of_ble_eq_true rfl) e12) ml_X4_29 ks_J7_fill_53178 rfl rfl ⟨Nat.le_of_ble_eq_true rfl, Nat.le_of_ble_eq_true rfl⟩ ⟨Nat.zero_le _, Nat.zero_le _⟩ rfl rfl hl.1 (Nat.le_of_ble_eq_true rfl) dX4_loseAll_14 (st1 := []) rfl (fun H locs hI => ?_)
  refine lv_aload_n hx hb dX4_loseAll_17 rfl (lv_at hl 0 rfl) ?_
  refine lv_bipush (v := (-3 : Int32)) hx hb dX4_loseAll_18 kb_m3 ?_
  obtain ⟨m13, e14, hf⟩ := ob hf
  refine pf_4_3 C hI h0.1 fl_X4_21 e14 dX4_loseAll_20 (fun H locs hI => ?_)
  refine lv_aload_n hx hb dX4_loseAll_23 rfl (lv_at hl 0 rfl) ?_
  refine lv_iconst (v := (0 : Int32)) hx hb dX4_loseAll_24 kc_0 ?_
  obtain ⟨m15, e16, hf⟩ := ob hf
  refine pf_4_4 C hI h0.1 (by decide) (by decide) fl_X4_25 e16 dX4_loseAll_25 (fun H locs hI => ?_)
  obtain rfl := Option.some.inj hf
  exact m_vret C hr hlk hI dX4_loseAll_28

theorem dX4_chainOf_0 : decode cX4_chainOf 0 = .ok (.iload_n 1, 1) := by decide +kernel
theorem dX4_chainOf_1 : decode cX4_chainOf 1 = .ok (.istore_n 2, 1) := by decide +kernel
theorem dX4_chainOf_2 : decode cX4_chainOf 2 = .ok (.iconst 1, 1) := by decide +kernel
theorem dX4_chainOf_3 : decode cX4_chainOf 3 = .ok (.istore_n 3, 1) := by decide +kernel
theorem dX4_chainOf_4 : decode cX4_chainOf 4 = .ok (.iload_n 3, 1) := by decide +kernel
theorem dX4_chainOf_5 : decode cX4_chainOf 5 = .ok (.bipush 8, 2) := by decide +kernel
theorem dX4_chainOf_7 : decode cX4_chainOf 7 = .ok (.if_icmp .gt 26, 3) := by decide +kernel
theorem dX4_chainOf_10 : decode cX4_chainOf 10 = .ok (.aload_n 0, 1) := by decide +kernel
theorem dX4_chainOf_11 : decode cX4_chainOf 11 = .ok (.iload_n 2, 1) := by decide +kernel
theorem dX4_chainOf_12 : decode cX4_chainOf 12 = .ok (.invokevirtual 69, 3) := by decide +kernel
theorem dX4_chainOf_15 : decode cX4_chainOf 15 = .ok (.istore_n 2, 1) := by decide +kernel
theorem dX4_chainOf_16 : decode cX4_chainOf 16 = .ok (.aload_n 0, 1) := by decide +kernel
theorem dX4_chainOf_17 : decode cX4_chainOf 17 = .ok (.iload_n 2, 1) := by decide +kernel
theorem dX4_chainOf_18 : decode cX4_chainOf 18 = .ok (.invokevirtual 45, 3) := by decide +kernel
theorem dX4_chainOf_21 : decode cX4_chainOf 21 = .ok (.iconst 3, 1) := by decide +kernel
theorem dX4_chainOf_22 : decode cX4_chainOf 22 = .ok (.if_icmp .eq 5, 3) := by decide +kernel
theorem dX4_chainOf_25 : decode cX4_chainOf 25 = .ok (.iload_n 3, 1) := by decide +kernel
theorem dX4_chainOf_26 : decode cX4_chainOf 26 = .ok (.ireturn, 1) := by decide +kernel
theorem dX4_chainOf_27 : decode cX4_chainOf 27 = .ok (.iinc 3 1, 3) := by decide +kernel
theorem dX4_chainOf_30 : decode cX4_chainOf 30 = .ok (.goto (-26), 3) := by decide +kernel
theorem dX4_chainOf_33 : decode cX4_chainOf 33 = .ok (.bipush 9, 2) := by decide +kernel
theorem dX4_chainOf_35 : decode cX4_chainOf 35 = .ok (.ireturn, 1) := by decide +kernel
def f_X4_chainOf_b4 (F : Nat) (μ : Mm) : Nat → Nat → Int32 → Int32 → Option Int32
 | 0, _, _, _ => none
 | N + 1, a0, a2, a3 =>
 if (8 : Int32) < a3 then
 some (9 : Int32)
 else
 (f_X4_holderAgainst μ a0 a2).bind fun q5 =>
 (f_X4_stateOf μ a0 q5).bind fun q7 =>
 if q7 = (3 : Int32) then
 f_X4_chainOf_b4 F μ N a0 q5 (a3 + (1 : Int32))
 else
 some a3
set_option maxHeartbeats 4000000 in
set_option maxRecDepth 100000 in
theorem cb_X4_chainOf_4 {l : Launch} {E : En} {p : Program} {e : Env} {s : State} {m : MethodId} {av : Array Value} {below : List Frame} {meth : Method} {c : Code} (C : Cx E p s m av c cX4_chainOf 4 yX4_chainOf.cls) (hr : meth.sig.returnType = (some .int)) (hlk : meth.locks = false) {F : Nat} {μ : Mm} {z : Int32} : ∀ (N : Nat) (a0 : Nat) (a2 : Int32) (a3 : Int32) (h_a0 : l4 E a0), f_X4_chainOf_b4 F μ N a0 a2 a3 = some z → ∀ {H : Heap} {locs : List Loc} {ls : Array Slot}, Iv E s μ H locs → lv_has ls 4 [(0, .ref (ad E 400 a0)), (2, .int a2), (3, .int a3)] → W p l e { frames := 2, cells := 0, slots := 0, locals := 42 } s m av below meth c H locs 0 0 (MQ below (Qm E (some (.int z)) μ) av s 0 0 (Ad E)) (F0 m 4 ls []) := by
  have hx := C.1.1
  have hb := C.1.2.1
  intro N
  induction N with
  | zero => intro a0 a2 a3 h_a0 hf; cases hf
  | succ N ih =>
    intro a0 a2 a3 h_a0 hf H locs ls hI hl
    rw [f_X4_chainOf_b4] at hf
    refine lv_iload_n hx hb dX4_chainOf_4 rfl (lv_at hl 2 rfl) ?_
    refine lv_bipush (v := (8 : Int32)) hx hb dX4_chainOf_5 kb_8 ?_
    refine lv_icmp_gt (tgt := 33) hx hb dX4_chainOf_7 rfl (fun hc => ?_) (fun hc => ?_)
    · replace hf := it hf hc
      refine lv_bipush (v := (9 : Int32)) hx hb dX4_chainOf_33 kb_9 ?_
      obtain rfl := Option.some.inj hf
      exact m_iret C hr hlk hI dX4_chainOf_35
    · replace hf := ie hf hc
      refine lv_aload_n hx hb dX4_chainOf_10 rfl (lv_at hl 0 rfl) ?_
      refine lv_iload_n hx hb dX4_chainOf_11 rfl (lv_at hl 1 rfl) ?_
      obtain ⟨q5, e6, hf⟩ := ob hf
      refine mcV (As := [.int a2]) (rest := []) C hI (c_X4_holderAgainst l E h_a0 e6) ml_X4_69 kv_X4_holderAgainst (m_recv C hI h_a0.1 (ce_400 E _ _ _) rfl) rfl rfl ⟨Nat.le_of_ble_eq_true rfl, Nat.le_of_ble_eq_true rfl⟩ ⟨Nat.zero_le _, Nat.zero_le _⟩ rfl rfl hl.1 (Nat.le_of_ble_eq_true rfl) dX4_chainOf_12 (st1 := [.int q5]) rfl (fun H locs hI => ?_)
      refine lv_istore_n hx hb dX4_chainOf_15 rfl hl (by decide) rfl (fun ls hl => ?_)
      have hl : lv_has ls 4 [(2, .int q5), (0, .ref (ad E 400 a0)), (3, .int a3)] := hl
      refine lv_aload_n hx hb dX4_chainOf_16 rfl (lv_at hl 1 rfl) ?_
      refine lv_iload_n hx hb dX4_chainOf_17 rfl (lv_at hl 0 rfl) ?_
      obtain ⟨q7, e8, hf⟩ := ob hf
      refine mcV (As := [.int q5]) (rest := []) C hI (c_X4_stateOf l E h_a0 e8) ml_X4_45 kv_X4_stateOf (m_recv C hI h_a0.1 (ce_400 E _ _ _) rfl) rfl rfl ⟨Nat.le_of_ble_eq_true rfl, Nat.le_of_ble_eq_true rfl⟩ ⟨Nat.zero_le _, Nat.zero_le _⟩ rfl rfl hl.1 (Nat.le_of_ble_eq_true rfl) dX4_chainOf_18 (st1 := [.int q7]) rfl (fun H locs hI => ?_)
      refine lv_iconst (v := (3 : Int32)) hx hb dX4_chainOf_21 kc_3 ?_
      refine lv_icmp_eq (tgt := 27) hx hb dX4_chainOf_22 rfl (fun hc => ?_) (fun hc => ?_)
      · replace hf := it hf hc
        refine lv_iinc (v := a3 + (1 : Int32)) hx hb dX4_chainOf_27 hl (k := 2) rfl (ki_1 _) (by decide) rfl (fun ls hl => ?_)
        have hl : lv_has ls 4 [(3, .int (a3 + (1 : Int32))), (2, .int q5), (0, .ref (ad E 400 a0))] := hl
        refine lv_goto (tgt := 4) hx hb dX4_chainOf_30 rfl ?_
        exact ih _ _ _ h_a0 hf hI (lv_sub hl [2, 1, 0] rfl)
      · replace hf := ie hf hc
        refine lv_iload_n hx hb dX4_chainOf_25 rfl (lv_at hl 2 rfl) ?_
        obtain rfl := Option.some.inj hf
        exact m_iret C hr hlk hI dX4_chainOf_26
def f_X4_chainOf (F : Nat) (μ : Mm) (i0 : Nat) (p1 : Int32) : Option Int32 :=
 f_X4_chainOf_b4 F μ F i0 p1 (1 : Int32)
set_option maxHeartbeats 4000000 in
set_option maxRecDepth 100000 in
theorem c_X4_chainOf (l : Launch) (E : En) {F : Nat} {μ : Mm} {i0 : Nat} {p1 : Int32} (h0 : l4 E i0) {z : Int32} (hf : f_X4_chainOf F μ i0 p1 = some z) : Met l yX4_chainOf (wt yX4_chainOf cX4_chainOf 4 (some .int)) { frames := 2, cells := 0, slots := 0, locals := 42 } (Pm E [.ref (ad E 400 i0), .int p1] μ) (Qm E (some (.int z)) μ) 0 0 (Ad E) := by
  unfold f_X4_chainOf at hf
  refine met_of (cc := cX4_chainOf) (nL := 4) (ret := (some .int)) (by decide) _ (Nat.le_of_ble_eq_true rfl) ?_
  intro p e s m below meth c C hr hlk hI ls hl
  have hx := C.1.1
  have hb := C.1.2.1
  have hl : lv_has ls 4 [(0, .ref (ad E 400 i0)), (1, .int p1)] := hl
  refine lv_iload_n hx hb dX4_chainOf_0 rfl (lv_at hl 1 rfl) ?_
  refine lv_istore_n hx hb dX4_chainOf_1 rfl hl (by decide) rfl (fun ls hl => ?_)
  have hl : lv_has ls 4 [(2, .int p1), (0, .ref (ad E 400 i0)), (1, .int p1)] := hl
  refine lv_iconst (v := (1 : Int32)) hx hb dX4_chainOf_2 kc_1 ?_
  refine lv_istore_n hx hb dX4_chainOf_3 rfl hl (by decide) rfl (fun ls hl => ?_)
  have hl : lv_has ls 4 [(3, .int (1 : Int32)), (2, .int p1), (0, .ref (ad E 400 i0)), (1, .int p1)] := hl
  exact cb_X4_chainOf_4 C hr hlk  _ _ _ _ h0 hf hI (lv_sub hl [2, 1, 0] rfl)

theorem dX4_apply_0 : decode cX4_apply 0 = .ok (.iload_n 1, 1) := by decide +kernel
theorem dX4_apply_1 : decode cX4_apply 1 = .ok (.tableswitch 164 0 8 #[51, 60, 83, 98, 107, 131, 141, 149, 157], 51) := by decide +kernel
theorem dX4_apply_52 : decode cX4_apply 52 = .ok (.aload_n 0, 1) := by decide +kernel
theorem dX4_apply_53 : decode cX4_apply 53 = .ok (.iload_n 2, 1) := by decide +kernel
theorem dX4_apply_54 : decode cX4_apply 54 = .ok (.iconst 1, 1) := by decide +kernel
theorem dX4_apply_55 : decode cX4_apply 55 = .ok (.invokevirtual 56, 3) := by decide +kernel
theorem dX4_apply_58 : decode cX4_apply 58 = .ok (.goto 107, 3) := by decide +kernel
theorem dX4_apply_61 : decode cX4_apply 61 = .ok (.aload_n 0, 1) := by decide +kernel
theorem dX4_apply_62 : decode cX4_apply 62 = .ok (.aload_n 0, 1) := by decide +kernel
theorem dX4_apply_63 : decode cX4_apply 63 = .ok (.getfield 21, 3) := by decide +kernel
theorem dX4_apply_66 : decode cX4_apply 66 = .ok (.iconst 1, 1) := by decide +kernel
theorem dX4_apply_67 : decode cX4_apply 67 = .ok (.invokevirtual 56, 3) := by decide +kernel
theorem dX4_apply_70 : decode cX4_apply 70 = .ok (.aload_n 0, 1) := by decide +kernel
theorem dX4_apply_71 : decode cX4_apply 71 = .ok (.iload_n 2, 1) := by decide +kernel
theorem dX4_apply_72 : decode cX4_apply 72 = .ok (.iconst 2, 1) := by decide +kernel
theorem dX4_apply_73 : decode cX4_apply 73 = .ok (.invokevirtual 56, 3) := by decide +kernel
theorem dX4_apply_76 : decode cX4_apply 76 = .ok (.aload_n 0, 1) := by decide +kernel
theorem dX4_apply_77 : decode cX4_apply 77 = .ok (.iload_n 2, 1) := by decide +kernel
theorem dX4_apply_78 : decode cX4_apply 78 = .ok (.putfield 21, 3) := by decide +kernel
theorem dX4_apply_81 : decode cX4_apply 81 = .ok (.goto 84, 3) := by decide +kernel
theorem dX4_apply_84 : decode cX4_apply 84 = .ok (.aload_n 0, 1) := by decide +kernel
theorem dX4_apply_85 : decode cX4_apply 85 = .ok (.iload_n 2, 1) := by decide +kernel
theorem dX4_apply_86 : decode cX4_apply 86 = .ok (.iconst 0, 1) := by decide +kernel
theorem dX4_apply_87 : decode cX4_apply 87 = .ok (.invokevirtual 56, 3) := by decide +kernel
theorem dX4_apply_90 : decode cX4_apply 90 = .ok (.aload_n 0, 1) := by decide +kernel
theorem dX4_apply_91 : decode cX4_apply 91 = .ok (.bipush (-2), 2) := by decide +kernel
theorem dX4_apply_93 : decode cX4_apply 93 = .ok (.putfield 21, 3) := by decide +kernel
theorem dX4_apply_96 : decode cX4_apply 96 = .ok (.goto 69, 3) := by decide +kernel
theorem dX4_apply_99 : decode cX4_apply 99 = .ok (.aload_n 0, 1) := by decide +kernel
theorem dX4_apply_100 : decode cX4_apply 100 = .ok (.iload_n 2, 1) := by decide +kernel
theorem dX4_apply_101 : decode cX4_apply 101 = .ok (.iload_n 3, 1) := by decide +kernel
theorem dX4_apply_102 : decode cX4_apply 102 = .ok (.invokevirtual 60, 3) := by decide +kernel
theorem dX4_apply_105 : decode cX4_apply 105 = .ok (.goto 60, 3) := by decide +kernel
theorem dX4_apply_108 : decode cX4_apply 108 = .ok (.aload_n 0, 1) := by decide +kernel
theorem dX4_apply_109 : decode cX4_apply 109 = .ok (.iload_n 3, 1) := by decide +kernel
theorem dX4_apply_110 : decode cX4_apply 110 = .ok (.iload_n 2, 1) := by decide +kernel
theorem dX4_apply_111 : decode cX4_apply 111 = .ok (.invokevirtual 63, 3) := by decide +kernel
theorem dX4_apply_114 : decode cX4_apply 114 = .ok (.aload_n 0, 1) := by decide +kernel
theorem dX4_apply_115 : decode cX4_apply 115 = .ok (.iload_n 2, 1) := by decide +kernel
theorem dX4_apply_116 : decode cX4_apply 116 = .ok (.invokevirtual 45, 3) := by decide +kernel
theorem dX4_apply_119 : decode cX4_apply 119 = .ok (.iconst 3, 1) := by decide +kernel
theorem dX4_apply_120 : decode cX4_apply 120 = .ok (.if_icmp .ne 45, 3) := by decide +kernel
theorem dX4_apply_123 : decode cX4_apply 123 = .ok (.aload_n 0, 1) := by decide +kernel
theorem dX4_apply_124 : decode cX4_apply 124 = .ok (.iload_n 2, 1) := by decide +kernel
theorem dX4_apply_125 : decode cX4_apply 125 = .ok (.iconst 1, 1) := by decide +kernel
theorem dX4_apply_126 : decode cX4_apply 126 = .ok (.invokevirtual 56, 3) := by decide +kernel
theorem dX4_apply_129 : decode cX4_apply 129 = .ok (.goto 36, 3) := by decide +kernel
theorem dX4_apply_132 : decode cX4_apply 132 = .ok (.aload_n 0, 1) := by decide +kernel
theorem dX4_apply_133 : decode cX4_apply 133 = .ok (.iload_n 3, 1) := by decide +kernel
theorem dX4_apply_134 : decode cX4_apply 134 = .ok (.bipush (-2), 2) := by decide +kernel
theorem dX4_apply_136 : decode cX4_apply 136 = .ok (.invokevirtual 63, 3) := by decide +kernel
theorem dX4_apply_139 : decode cX4_apply 139 = .ok (.goto 26, 3) := by decide +kernel
theorem dX4_apply_142 : decode cX4_apply 142 = .ok (.aload_n 0, 1) := by decide +kernel
theorem dX4_apply_143 : decode cX4_apply 143 = .ok (.iconst 1, 1) := by decide +kernel
theorem dX4_apply_144 : decode cX4_apply 144 = .ok (.putfield 25, 3) := by decide +kernel
theorem dX4_apply_147 : decode cX4_apply 147 = .ok (.goto 18, 3) := by decide +kernel
theorem dX4_apply_150 : decode cX4_apply 150 = .ok (.aload_n 0, 1) := by decide +kernel
theorem dX4_apply_151 : decode cX4_apply 151 = .ok (.iconst 0, 1) := by decide +kernel
theorem dX4_apply_152 : decode cX4_apply 152 = .ok (.putfield 25, 3) := by decide +kernel
theorem dX4_apply_155 : decode cX4_apply 155 = .ok (.goto 10, 3) := by decide +kernel
theorem dX4_apply_158 : decode cX4_apply 158 = .ok (.aload_n 0, 1) := by decide +kernel
theorem dX4_apply_159 : decode cX4_apply 159 = .ok (.invokevirtual 66, 3) := by decide +kernel
theorem dX4_apply_162 : decode cX4_apply 162 = .ok (.goto 3, 3) := by decide +kernel
theorem dX4_apply_165 : decode cX4_apply 165 = .ok (.return_, 1) := by decide +kernel
def f_X4_apply (μ : Mm) (i0 : Nat) (p1 : Int32) (p2 : Int32) (p3 : Int32) : Option Mm :=
 if p1 = (0 : Int32) then
 (f_X4_setState μ i0 p2 (1 : Int32)).bind fun q29 =>
 some q29
 else
 if p1 = (1 : Int32) then
 (f_X4_setState μ i0 (μ.1 400 i0 3) (1 : Int32)).bind fun q31 =>
 (f_X4_setState q31 i0 p2 (2 : Int32)).bind fun q33 =>
 (wf q33 400 i0 3 p2).bind fun m35 =>
 some m35
 else
 if p1 = (2 : Int32) then
 (f_X4_setState μ i0 p2 (0 : Int32)).bind fun q37 =>
 (wf q37 400 i0 3 (-2 : Int32)).bind fun m39 =>
 some m39
 else
 if p1 = (3 : Int32) then
 (f_X4_startWanting μ i0 p2 p3).bind fun q41 =>
 some q41
 else
 if p1 = (4 : Int32) then
 (f_X4_setHolder μ i0 p3 p2).bind fun q43 =>
 (f_X4_stateOf q43 i0 p2).bind fun q45 =>
 if q45 = (3 : Int32) then
 (f_X4_setState q43 i0 p2 (1 : Int32)).bind fun q47 =>
 some q47
 else
 some q43
 else
 if p1 = (5 : Int32) then
 (f_X4_setHolder μ i0 p3 (-2 : Int32)).bind fun q49 =>
 some q49
 else
 if p1 = (6 : Int32) then
 (wf μ 400 i0 4 (1 : Int32)).bind fun m51 =>
 some m51
 else
 if p1 = (7 : Int32) then
 (wf μ 400 i0 4 (0 : Int32)).bind fun m53 =>
 some m53
 else
 if p1 = (8 : Int32) then
 (f_X4_loseAll μ i0).bind fun q55 =>
 some q55
 else
 some μ
set_option maxHeartbeats 4000000 in
set_option maxRecDepth 100000 in
theorem c_X4_apply (l : Launch) (E : En) {μ : Mm} {i0 : Nat} {p1 : Int32} {p2 : Int32} {p3 : Int32} (h0 : l4 E i0) {z : Mm} (hf : f_X4_apply μ i0 p1 p2 p3 = some z) : Met l yX4_apply (wt yX4_apply cX4_apply 4 (none : Option FieldType)) { frames := 2, cells := 0, slots := 0, locals := 44 } (Pm E [.ref (ad E 400 i0), .int p1, .int p2, .int p3] μ) (Qm E none z) 0 0 (Ad E) := by
  unfold f_X4_apply at hf
  refine met_of (cc := cX4_apply) (nL := 4) (ret := (none : Option FieldType)) (by decide) _ (Nat.le_of_ble_eq_true rfl) ?_
  intro p e s m below meth c C hr hlk hI ls hl
  have hx := C.1.1
  have hb := C.1.2.1
  have hl : lv_has ls 4 [(0, .ref (ad E 400 i0)), (1, .int p1), (2, .int p2), (3, .int p3)] := hl
  refine lv_iload_n hx hb dX4_apply_0 rfl (lv_at hl 1 rfl) ?_
  by_cases hn0 : p1 = (0 : Int32)
  · replace hf := it hf hn0
    refine lv_tableIn (tgt := 52) (off := 51) hx hb dX4_apply_1 (by rw [hn0]; decide) (by rw [hn0]; decide) (by rw [hn0]; rfl) rfl ?_
    refine lv_aload_n hx hb dX4_apply_52 rfl (lv_at hl 0 rfl) ?_
    refine lv_iload_n hx hb dX4_apply_53 rfl (lv_at hl 2 rfl) ?_
    refine lv_iconst (v := (1 : Int32)) hx hb dX4_apply_54 kc_1 ?_
    obtain ⟨q29, e30, hf⟩ := ob hf
    refine mcV (As := [.int p2, .int (1 : Int32)]) (rest := []) C hI (c_X4_setState l E h0 e30) ml_X4_56 kv_X4_setState (m_recv C hI h0.1 (ce_400 E _ _ _) rfl) rfl rfl ⟨Nat.le_of_ble_eq_true rfl, Nat.le_of_ble_eq_true rfl⟩ ⟨Nat.zero_le _, Nat.zero_le _⟩ rfl rfl hl.1 (Nat.le_of_ble_eq_true rfl) dX4_apply_55 (st1 := []) rfl (fun H locs hI => ?_)
    refine lv_goto (tgt := 165) hx hb dX4_apply_58 rfl ?_
    obtain rfl := Option.some.inj hf
    exact m_vret C hr hlk hI dX4_apply_165
  replace hf := ie hf hn0
  by_cases hn1 : p1 = (1 : Int32)
  · replace hf := it hf hn1
    refine lv_tableIn (tgt := 61) (off := 60) hx hb dX4_apply_1 (by rw [hn1]; decide) (by rw [hn1]; decide) (by rw [hn1]; rfl) rfl ?_
    refine lv_aload_n hx hb dX4_apply_61 rfl (lv_at hl 0 rfl) ?_
    refine lv_aload_n hx hb dX4_apply_62 rfl (lv_at hl 0 rfl) ?_
    refine gf_4_3 C hI h0.1 fl_X4_21 dX4_apply_63 ?_
    refine lv_iconst (v := (1 : Int32)) hx hb dX4_apply_66 kc_1 ?_
    obtain ⟨q31, e32, hf⟩ := ob hf
    refine mcV (As := [.int (μ.1 400 i0 3), .int (1 : Int32)]) (rest := []) C hI (c_X4_setState l E h0 e32) ml_X4_56 kv_X4_setState (m_recv C hI h0.1 (ce_400 E _ _ _) rfl) rfl rfl ⟨Nat.le_of_ble_eq_true rfl, Nat.le_of_ble_eq_true rfl⟩ ⟨Nat.zero_le _, Nat.zero_le _⟩ rfl rfl hl.1 (Nat.le_of_ble_eq_true rfl) dX4_apply_67 (st1 := []) rfl (fun H locs hI => ?_)
    refine lv_aload_n hx hb dX4_apply_70 rfl (lv_at hl 0 rfl) ?_
    refine lv_iload_n hx hb dX4_apply_71 rfl (lv_at hl 2 rfl) ?_
    refine lv_iconst (v := (2 : Int32)) hx hb dX4_apply_72 kc_2 ?_
    obtain ⟨q33, e34, hf⟩ := ob hf
    refine mcV (As := [.int p2, .int (2 : Int32)]) (rest := []) C hI (c_X4_setState l E h0 e34) ml_X4_56 kv_X4_setState (m_recv C hI h0.1 (ce_400 E _ _ _) rfl) rfl rfl ⟨Nat.le_of_ble_eq_true rfl, Nat.le_of_ble_eq_true rfl⟩ ⟨Nat.zero_le _, Nat.zero_le _⟩ rfl rfl hl.1 (Nat.le_of_ble_eq_true rfl) dX4_apply_73 (st1 := []) rfl (fun H locs hI => ?_)
    refine lv_aload_n hx hb dX4_apply_76 rfl (lv_at hl 0 rfl) ?_
    refine lv_iload_n hx hb dX4_apply_77 rfl (lv_at hl 2 rfl) ?_
    obtain ⟨m35, e36, hf⟩ := ob hf
    refine pf_4_3 C hI h0.1 fl_X4_21 e36 dX4_apply_78 (fun H locs hI => ?_)
    refine lv_goto (tgt := 165) hx hb dX4_apply_81 rfl ?_
    obtain rfl := Option.some.inj hf
    exact m_vret C hr hlk hI dX4_apply_165
  replace hf := ie hf hn1
  by_cases hn2 : p1 = (2 : Int32)
  · replace hf := it hf hn2
    refine lv_tableIn (tgt := 84) (off := 83) hx hb dX4_apply_1 (by rw [hn2]; decide) (by rw [hn2]; decide) (by rw [hn2]; rfl) rfl ?_
    refine lv_aload_n hx hb dX4_apply_84 rfl (lv_at hl 0 rfl) ?_
    refine lv_iload_n hx hb dX4_apply_85 rfl (lv_at hl 2 rfl) ?_
    refine lv_iconst (v := (0 : Int32)) hx hb dX4_apply_86 kc_0 ?_
    obtain ⟨q37, e38, hf⟩ := ob hf
    refine mcV (As := [.int p2, .int (0 : Int32)]) (rest := []) C hI (c_X4_setState l E h0 e38) ml_X4_56 kv_X4_setState (m_recv C hI h0.1 (ce_400 E _ _ _) rfl) rfl rfl ⟨Nat.le_of_ble_eq_true rfl, Nat.le_of_ble_eq_true rfl⟩ ⟨Nat.zero_le _, Nat.zero_le _⟩ rfl rfl hl.1 (Nat.le_of_ble_eq_true rfl) dX4_apply_87 (st1 := []) rfl (fun H locs hI => ?_)
    refine lv_aload_n hx hb dX4_apply_90 rfl (lv_at hl 0 rfl) ?_
    refine lv_bipush (v := (-2 : Int32)) hx hb dX4_apply_91 kb_m2 ?_
    obtain ⟨m39, e40, hf⟩ := ob hf
    refine pf_4_3 C hI h0.1 fl_X4_21 e40 dX4_apply_93 (fun H locs hI => ?_)
    refine lv_goto (tgt := 165) hx hb dX4_apply_96 rfl ?_
    obtain rfl := Option.some.inj hf
    exact m_vret C hr hlk hI dX4_apply_165
  replace hf := ie hf hn2
  by_cases hn3 : p1 = (3 : Int32)
  · replace hf := it hf hn3
    refine lv_tableIn (tgt := 99) (off := 98) hx hb dX4_apply_1 (by rw [hn3]; decide) (by rw [hn3]; decide) (by rw [hn3]; rfl) rfl ?_
    refine lv_aload_n hx hb dX4_apply_99 rfl (lv_at hl 0 rfl) ?_
    refine lv_iload_n hx hb dX4_apply_100 rfl (lv_at hl 2 rfl) ?_
    refine lv_iload_n hx hb dX4_apply_101 rfl (lv_at hl 3 rfl) ?_
    obtain ⟨q41, e42, hf⟩ := ob hf
    refine mcV (As := [.int p2, .int p3]) (rest := []) C hI (c_X4_startWanting l E h0 e42) ml_X4_60 kv_X4_startWanting (m_recv C hI h0.1 (ce_400 E _ _ _) rfl) rfl rfl ⟨Nat.le_of_ble_eq_true rfl, Nat.le_of_ble_eq_true rfl⟩ ⟨Nat.zero_le _, Nat.zero_le _⟩ rfl rfl hl.1 (Nat.le_of_ble_eq_true rfl) dX4_apply_102 (st1 := []) rfl (fun H locs hI => ?_)
    refine lv_goto (tgt := 165) hx hb dX4_apply_105 rfl ?_
    obtain rfl := Option.some.inj hf
    exact m_vret C hr hlk hI dX4_apply_165
  replace hf := ie hf hn3
  by_cases hn4 : p1 = (4 : Int32)
  · replace hf := it hf hn4
    refine lv_tableIn (tgt := 108) (off := 107) hx hb dX4_apply_1 (by rw [hn4]; decide) (by rw [hn4]; decide) (by rw [hn4]; rfl) rfl ?_
    refine lv_aload_n hx hb dX4_apply_108 rfl (lv_at hl 0 rfl) ?_
    refine lv_iload_n hx hb dX4_apply_109 rfl (lv_at hl 3 rfl) ?_
    refine lv_iload_n hx hb dX4_apply_110 rfl (lv_at hl 2 rfl) ?_
    obtain ⟨q43, e44, hf⟩ := ob hf
    refine mcV (As := [.int p3, .int p2]) (rest := []) C hI (c_X4_setHolder l E h0 e44) ml_X4_63 kv_X4_setHolder (m_recv C hI h0.1 (ce_400 E _ _ _) rfl) rfl rfl ⟨Nat.le_of_ble_eq_true rfl, Nat.le_of_ble_eq_true rfl⟩ ⟨Nat.zero_le _, Nat.zero_le _⟩ rfl rfl hl.1 (Nat.le_of_ble_eq_true rfl) dX4_apply_111 (st1 := []) rfl (fun H locs hI => ?_)
    refine lv_aload_n hx hb dX4_apply_114 rfl (lv_at hl 0 rfl) ?_
    refine lv_iload_n hx hb dX4_apply_115 rfl (lv_at hl 2 rfl) ?_
    obtain ⟨q45, e46, hf⟩ := ob hf
    refine mcV (As := [.int p2]) (rest := []) C hI (c_X4_stateOf l E h0 e46) ml_X4_45 kv_X4_stateOf (m_recv C hI h0.1 (ce_400 E _ _ _) rfl) rfl rfl ⟨Nat.le_of_ble_eq_true rfl, Nat.le_of_ble_eq_true rfl⟩ ⟨Nat.zero_le _, Nat.zero_le _⟩ rfl rfl hl.1 (Nat.le_of_ble_eq_true rfl) dX4_apply_116 (st1 := [.int q45]) rfl (fun H locs hI => ?_)
    refine lv_iconst (v := (3 : Int32)) hx hb dX4_apply_119 kc_3 ?_
    refine lv_icmp_ne (tgt := 165) hx hb dX4_apply_120 rfl (fun hc => ?_) (fun hc => ?_)
    · replace hf := ie hf hc
      obtain rfl := Option.some.inj hf
      exact m_vret C hr hlk hI dX4_apply_165
    · replace hf := it hf hc
      refine lv_aload_n hx hb dX4_apply_123 rfl (lv_at hl 0 rfl) ?_
      refine lv_iload_n hx hb dX4_apply_124 rfl (lv_at hl 2 rfl) ?_
      refine lv_iconst (v := (1 : Int32)) hx hb dX4_apply_125 kc_1 ?_
      obtain ⟨q47, e48, hf⟩ := ob hf
      refine mcV (As := [.int p2, .int (1 : Int32)]) (rest := []) C hI (c_X4_setState l E h0 e48) ml_X4_56 kv_X4_setState (m_recv C hI h0.1 (ce_400 E _ _ _) rfl) rfl rfl ⟨Nat.le_of_ble_eq_true rfl, Nat.le_of_ble_eq_true rfl⟩ ⟨Nat.zero_le _, Nat.zero_le _⟩ rfl rfl hl.1 (Nat.le_of_ble_eq_true rfl) dX4_apply_126 (st1 := []) rfl (fun H locs hI => ?_)
      refine lv_goto (tgt := 165) hx hb dX4_apply_129 rfl ?_
      obtain rfl := Option.some.inj hf
      exact m_vret C hr hlk hI dX4_apply_165
  replace hf := ie hf hn4
  by_cases hn5 : p1 = (5 : Int32)
  · replace hf := it hf hn5
    refine lv_tableIn (tgt := 132) (off := 131) hx hb dX4_apply_1 (by rw [hn5]; decide) (by rw [hn5]; decide) (by rw [hn5]; rfl) rfl ?_
    refine lv_aload_n hx hb dX4_apply_132 rfl (lv_at hl 0 rfl) ?_
    refine lv_iload_n hx hb dX4_apply_133 rfl (lv_at hl 3 rfl) ?_
    refine lv_bipush (v := (-2 : Int32)) hx hb dX4_apply_134 kb_m2 ?_
    obtain ⟨q49, e50, hf⟩ := ob hf
    refine mcV (As := [.int p3, .int (-2 : Int32)]) (rest := []) C hI (c_X4_setHolder l E h0 e50) ml_X4_63 kv_X4_setHolder (m_recv C hI h0.1 (ce_400 E _ _ _) rfl) rfl rfl ⟨Nat.le_of_ble_eq_true rfl, Nat.le_of_ble_eq_true rfl⟩ ⟨Nat.zero_le _, Nat.zero_le _⟩ rfl rfl hl.1 (Nat.le_of_ble_eq_true rfl) dX4_apply_136 (st1 := []) rfl (fun H locs hI => ?_)
    refine lv_goto (tgt := 165) hx hb dX4_apply_139 rfl ?_
    obtain rfl := Option.some.inj hf
    exact m_vret C hr hlk hI dX4_apply_165
  replace hf := ie hf hn5
  by_cases hn6 : p1 = (6 : Int32)
  · replace hf := it hf hn6
    refine lv_tableIn (tgt := 142) (off := 141) hx hb dX4_apply_1 (by rw [hn6]; decide) (by rw [hn6]; decide) (by rw [hn6]; rfl) rfl ?_
    refine lv_aload_n hx hb dX4_apply_142 rfl (lv_at hl 0 rfl) ?_
    refine lv_iconst (v := (1 : Int32)) hx hb dX4_apply_143 kc_1 ?_
    obtain ⟨m51, e52, hf⟩ := ob hf
    refine pf_4_4 C hI h0.1 (by decide) (by decide) fl_X4_25 e52 dX4_apply_144 (fun H locs hI => ?_)
    refine lv_goto (tgt := 165) hx hb dX4_apply_147 rfl ?_
    obtain rfl := Option.some.inj hf
    exact m_vret C hr hlk hI dX4_apply_165
  replace hf := ie hf hn6
  by_cases hn7 : p1 = (7 : Int32)
  · replace hf := it hf hn7
    refine lv_tableIn (tgt := 150) (off := 149) hx hb dX4_apply_1 (by rw [hn7]; decide) (by rw [hn7]; decide) (by rw [hn7]; rfl) rfl ?_
    refine lv_aload_n hx hb dX4_apply_150 rfl (lv_at hl 0 rfl) ?_
    refine lv_iconst (v := (0 : Int32)) hx hb dX4_apply_151 kc_0 ?_
    obtain ⟨m53, e54, hf⟩ := ob hf
    refine pf_4_4 C hI h0.1 (by decide) (by decide) fl_X4_25 e54 dX4_apply_152 (fun H locs hI => ?_)
    refine lv_goto (tgt := 165) hx hb dX4_apply_155 rfl ?_
    obtain rfl := Option.some.inj hf
    exact m_vret C hr hlk hI dX4_apply_165
  replace hf := ie hf hn7
  by_cases hn8 : p1 = (8 : Int32)
  · replace hf := it hf hn8
    refine lv_tableIn (tgt := 158) (off := 157) hx hb dX4_apply_1 (by rw [hn8]; decide) (by rw [hn8]; decide) (by rw [hn8]; rfl) rfl ?_
    refine lv_aload_n hx hb dX4_apply_158 rfl (lv_at hl 0 rfl) ?_
    obtain ⟨q55, e56, hf⟩ := ob hf
    refine mcV (As := []) (rest := []) C hI (c_X4_loseAll l E h0 e56) ml_X4_66 kv_X4_loseAll (m_recv C hI h0.1 (ce_400 E _ _ _) rfl) rfl rfl ⟨Nat.le_of_ble_eq_true rfl, Nat.le_of_ble_eq_true rfl⟩ ⟨Nat.zero_le _, Nat.zero_le _⟩ rfl rfl hl.1 (Nat.le_of_ble_eq_true rfl) dX4_apply_159 (st1 := []) rfl (fun H locs hI => ?_)
    refine lv_goto (tgt := 165) hx hb dX4_apply_162 rfl ?_
    obtain rfl := Option.some.inj hf
    exact m_vret C hr hlk hI dX4_apply_165
  replace hf := ie hf hn8
  have a0_ := ts_ne (n := 0) hn0 (by decide)
  have a1_ := ts_ne (n := 1) hn1 (by decide)
  have a2_ := ts_ne (n := 2) hn2 (by decide)
  have a3_ := ts_ne (n := 3) hn3 (by decide)
  have a4_ := ts_ne (n := 4) hn4 (by decide)
  have a5_ := ts_ne (n := 5) hn5 (by decide)
  have a6_ := ts_ne (n := 6) hn6 (by decide)
  have a7_ := ts_ne (n := 7) hn7 (by decide)
  have a8_ := ts_ne (n := 8) hn8 (by decide)
  refine lv_tableOut (tgt := 165) hx hb dX4_apply_1 (by omega) rfl ?_
  obtain rfl := Option.some.inj hf
  exact m_vret C hr hlk hI dX4_apply_165
