theorem dX2_isFull_0 : decode cX2_isFull 0 = .ok (.aload_n 0, 1) := by decide +kernel
theorem dX2_isFull_1 : decode cX2_isFull 1 = .ok (.getfield 31, 3) := by decide +kernel
theorem dX2_isFull_4 : decode cX2_isFull 4 = .ok (.sipush 200, 3) := by decide +kernel
theorem dX2_isFull_7 : decode cX2_isFull 7 = .ok (.if_icmp .lt 7, 3) := by decide +kernel
theorem dX2_isFull_10 : decode cX2_isFull 10 = .ok (.iconst 1, 1) := by decide +kernel
theorem dX2_isFull_11 : decode cX2_isFull 11 = .ok (.goto 4, 3) := by decide +kernel
theorem dX2_isFull_14 : decode cX2_isFull 14 = .ok (.iconst 0, 1) := by decide +kernel
theorem dX2_isFull_15 : decode cX2_isFull 15 = .ok (.ireturn, 1) := by decide +kernel
def f_X2_isFull (μ : Mm) (i0 : Nat) : Option Int32 :=
 if (μ.1 200 i0 5) < (200 : Int32) then
 some (0 : Int32)
 else
 some (1 : Int32)
set_option maxHeartbeats 4000000 in
set_option maxRecDepth 100000 in
theorem c_X2_isFull (l : Launch) (E : En) {μ : Mm} {i0 : Nat} (h0 : l2 E i0) {z : Int32} (hf : f_X2_isFull μ i0 = some z) : Met l yX2_isFull (wt yX2_isFull cX2_isFull 1 (some .boolean)) { frames := 0, cells := 0, slots := 0, locals := 0 } (Pm E [.ref (ad E 200 i0)] μ) (Qm E (some (.int z)) μ) 0 0 (Ad E) := by
  unfold f_X2_isFull at hf
  refine met_of (cc := cX2_isFull) (nL := 1) (ret := (some .boolean)) (by decide) _ (Nat.le_of_ble_eq_true rfl) ?_
  intro p e s m below meth c C hr hlk hI ls hl
  have hx := C.1.1
  have hb := C.1.2.1
  have hl : lv_has ls 1 [(0, .ref (ad E 200 i0))] := hl
  refine lv_aload_n hx hb dX2_isFull_0 rfl (lv_at hl 0 rfl) ?_
  refine gf_2_5 C hI h0.1 fl_X2_31 dX2_isFull_1 ?_
  refine lv_sipush (v := (200 : Int32)) hx hb dX2_isFull_4 ks_200 ?_
  refine lv_icmp_lt (tgt := 14) hx hb dX2_isFull_7 rfl (fun hc => ?_) (fun hc => ?_)
  · replace hf := it hf hc
    refine lv_iconst (v := (0 : Int32)) hx hb dX2_isFull_14 kc_0 ?_
    obtain rfl := Option.some.inj hf
    exact m_zret C hr hlk hI (by decide) dX2_isFull_15
  · replace hf := ie hf hc
    refine lv_iconst (v := (1 : Int32)) hx hb dX2_isFull_10 kc_1 ?_
    refine lv_goto (tgt := 15) hx hb dX2_isFull_11 rfl ?_
    obtain rfl := Option.some.inj hf
    exact m_zret C hr hlk hI (by decide) dX2_isFull_15

theorem dX2_has_0 : decode cX2_has 0 = .ok (.iload_n 1, 1) := by decide +kernel
theorem dX2_has_1 : decode cX2_has 1 = .ok (.ifCond .lt 22, 3) := by decide +kernel
theorem dX2_has_4 : decode cX2_has 4 = .ok (.iload_n 1, 1) := by decide +kernel
theorem dX2_has_5 : decode cX2_has 5 = .ok (.aload_n 0, 1) := by decide +kernel
theorem dX2_has_6 : decode cX2_has 6 = .ok (.getfield 31, 3) := by decide +kernel
theorem dX2_has_9 : decode cX2_has 9 = .ok (.if_icmp .ge 14, 3) := by decide +kernel
theorem dX2_has_12 : decode cX2_has 12 = .ok (.iload_n 1, 1) := by decide +kernel
theorem dX2_has_13 : decode cX2_has 13 = .ok (.sipush 200, 3) := by decide +kernel
theorem dX2_has_16 : decode cX2_has 16 = .ok (.if_icmp .ge 7, 3) := by decide +kernel
theorem dX2_has_19 : decode cX2_has 19 = .ok (.iconst 1, 1) := by decide +kernel
theorem dX2_has_20 : decode cX2_has 20 = .ok (.goto 4, 3) := by decide +kernel
theorem dX2_has_23 : decode cX2_has 23 = .ok (.iconst 0, 1) := by decide +kernel
theorem dX2_has_24 : decode cX2_has 24 = .ok (.ireturn, 1) := by decide +kernel
def f_X2_has (μ : Mm) (i0 : Nat) (p1 : Int32) : Option Int32 :=
 if p1 < 0 then
 some (0 : Int32)
 else
 if (μ.1 200 i0 5) ≤ p1 then
 some (0 : Int32)
 else
 if (200 : Int32) ≤ p1 then
 some (0 : Int32)
 else
 some (1 : Int32)
set_option maxHeartbeats 4000000 in
set_option maxRecDepth 100000 in
theorem c_X2_has (l : Launch) (E : En) {μ : Mm} {i0 : Nat} {p1 : Int32} (h0 : l2 E i0) {z : Int32} (hf : f_X2_has μ i0 p1 = some z) : Met l yX2_has (wt yX2_has cX2_has 2 (some .boolean)) { frames := 0, cells := 0, slots := 0, locals := 0 } (Pm E [.ref (ad E 200 i0), .int p1] μ) (Qm E (some (.int z)) μ) 0 0 (Ad E) := by
  unfold f_X2_has at hf
  refine met_of (cc := cX2_has) (nL := 2) (ret := (some .boolean)) (by decide) _ (Nat.le_of_ble_eq_true rfl) ?_
  intro p e s m below meth c C hr hlk hI ls hl
  have hx := C.1.1
  have hb := C.1.2.1
  have hl : lv_has ls 2 [(0, .ref (ad E 200 i0)), (1, .int p1)] := hl
  refine lv_iload_n hx hb dX2_has_0 rfl (lv_at hl 1 rfl) ?_
  refine lv_if_lt (tgt := 23) hx hb dX2_has_1 rfl (fun hc => ?_) (fun hc => ?_)
  · replace hf := it hf hc
    refine lv_iconst (v := (0 : Int32)) hx hb dX2_has_23 kc_0 ?_
    obtain rfl := Option.some.inj hf
    exact m_zret C hr hlk hI (by decide) dX2_has_24
  · replace hf := ie hf hc
    refine lv_iload_n hx hb dX2_has_4 rfl (lv_at hl 1 rfl) ?_
    refine lv_aload_n hx hb dX2_has_5 rfl (lv_at hl 0 rfl) ?_
    refine gf_2_5 C hI h0.1 fl_X2_31 dX2_has_6 ?_
    refine lv_icmp_ge (tgt := 23) hx hb dX2_has_9 rfl (fun hc => ?_) (fun hc => ?_)
    · replace hf := it hf hc
      refine lv_iconst (v := (0 : Int32)) hx hb dX2_has_23 kc_0 ?_
      obtain rfl := Option.some.inj hf
      exact m_zret C hr hlk hI (by decide) dX2_has_24
    · replace hf := ie hf hc
      refine lv_iload_n hx hb dX2_has_12 rfl (lv_at hl 1 rfl) ?_
      refine lv_sipush (v := (200 : Int32)) hx hb dX2_has_13 ks_200 ?_
      refine lv_icmp_ge (tgt := 23) hx hb dX2_has_16 rfl (fun hc => ?_) (fun hc => ?_)
      · replace hf := it hf hc
        refine lv_iconst (v := (0 : Int32)) hx hb dX2_has_23 kc_0 ?_
        obtain rfl := Option.some.inj hf
        exact m_zret C hr hlk hI (by decide) dX2_has_24
      · replace hf := ie hf hc
        refine lv_iconst (v := (1 : Int32)) hx hb dX2_has_19 kc_1 ?_
        refine lv_goto (tgt := 24) hx hb dX2_has_20 rfl ?_
        obtain rfl := Option.some.inj hf
        exact m_zret C hr hlk hI (by decide) dX2_has_24

theorem dX2_kindOf_0 : decode cX2_kindOf 0 = .ok (.aload_n 0, 1) := by decide +kernel
theorem dX2_kindOf_1 : decode cX2_kindOf 1 = .ok (.iload_n 1, 1) := by decide +kernel
theorem dX2_kindOf_2 : decode cX2_kindOf 2 = .ok (.invokevirtual 52, 3) := by decide +kernel
theorem dX2_kindOf_5 : decode cX2_kindOf 5 = .ok (.ifCond .eq 12, 3) := by decide +kernel
theorem dX2_kindOf_8 : decode cX2_kindOf 8 = .ok (.aload_n 0, 1) := by decide +kernel
theorem dX2_kindOf_9 : decode cX2_kindOf 9 = .ok (.getfield 9, 3) := by decide +kernel
theorem dX2_kindOf_12 : decode cX2_kindOf 12 = .ok (.iload_n 1, 1) := by decide +kernel
theorem dX2_kindOf_13 : decode cX2_kindOf 13 = .ok (.iaload, 1) := by decide +kernel
theorem dX2_kindOf_14 : decode cX2_kindOf 14 = .ok (.goto 4, 3) := by decide +kernel
theorem dX2_kindOf_17 : decode cX2_kindOf 17 = .ok (.iconst (-1), 1) := by decide +kernel
theorem dX2_kindOf_18 : decode cX2_kindOf 18 = .ok (.ireturn, 1) := by decide +kernel
def f_X2_kindOf (μ : Mm) (i0 : Nat) (p1 : Int32) : Option Int32 :=
 (f_X2_has μ i0 p1).bind fun q5 =>
 if q5 = 0 then
 some (-1 : Int32)
 else
 (ra μ 201 i0 200 p1).bind fun v7 =>
 some v7
set_option maxHeartbeats 4000000 in
set_option maxRecDepth 100000 in
theorem c_X2_kindOf (l : Launch) (E : En) {μ : Mm} {i0 : Nat} {p1 : Int32} (h0 : l2 E i0) {z : Int32} (hf : f_X2_kindOf μ i0 p1 = some z) : Met l yX2_kindOf (wt yX2_kindOf cX2_kindOf 2 (some .int)) { frames := 1, cells := 0, slots := 0, locals := 21 } (Pm E [.ref (ad E 200 i0), .int p1] μ) (Qm E (some (.int z)) μ) 0 0 (Ad E) := by
  unfold f_X2_kindOf at hf
  refine met_of (cc := cX2_kindOf) (nL := 2) (ret := (some .int)) (by decide) _ (Nat.le_of_ble_eq_true rfl) ?_
  intro p e s m below meth c C hr hlk hI ls hl
  have hx := C.1.1
  have hb := C.1.2.1
  have hl : lv_has ls 2 [(0, .ref (ad E 200 i0)), (1, .int p1)] := hl
  refine lv_aload_n hx hb dX2_kindOf_0 rfl (lv_at hl 0 rfl) ?_
  refine lv_iload_n hx hb dX2_kindOf_1 rfl (lv_at hl 1 rfl) ?_
  obtain ⟨q5, e6, hf⟩ := ob hf
  refine mcV (As := [.int p1]) (rest := []) C hI (c_X2_has l E h0 e6) ml_X2_52 kv_X2_has (m_recv C hI h0.1 (ce_200 E _ _ _) rfl) rfl rfl ⟨Nat.le_of_ble_eq_true rfl, Nat.le_of_ble_eq_true rfl⟩ ⟨Nat.zero_le _, Nat.zero_le _⟩ rfl rfl hl.1 (Nat.le_of_ble_eq_true rfl) dX2_kindOf_2 (st1 := [.int q5]) rfl (fun H locs hI => ?_)
  refine lv_if_eq (tgt := 17) hx hb dX2_kindOf_5 rfl (fun hc => ?_) (fun hc => ?_)
  · replace hf := it hf hc
    refine lv_iconst (v := (-1 : Int32)) hx hb dX2_kindOf_17 kc_m1 ?_
    obtain rfl := Option.some.inj hf
    exact m_iret C hr hlk hI dX2_kindOf_18
  · replace hf := ie hf hc
    refine lv_aload_n hx hb dX2_kindOf_8 rfl (lv_at hl 0 rfl) ?_
    refine gf_2_0 C hI h0.1 fl_X2_9 dX2_kindOf_9 ?_
    refine lv_iload_n hx hb dX2_kindOf_12 rfl (lv_at hl 1 rfl) ?_
    obtain ⟨v7, e8, hf⟩ := ob hf
    refine m_iald C hI h0.2.1 (ce_201 E _ _ _) e8 dX2_kindOf_13 ?_
    refine lv_goto (tgt := 18) hx hb dX2_kindOf_14 rfl ?_
    obtain rfl := Option.some.inj hf
    exact m_iret C hr hlk hI dX2_kindOf_18

theorem dX2_taskOf_0 : decode cX2_taskOf 0 = .ok (.aload_n 0, 1) := by decide +kernel
theorem dX2_taskOf_1 : decode cX2_taskOf 1 = .ok (.iload_n 1, 1) := by decide +kernel
theorem dX2_taskOf_2 : decode cX2_taskOf 2 = .ok (.invokevirtual 52, 3) := by decide +kernel
theorem dX2_taskOf_5 : decode cX2_taskOf 5 = .ok (.ifCond .eq 12, 3) := by decide +kernel
theorem dX2_taskOf_8 : decode cX2_taskOf 8 = .ok (.aload_n 0, 1) := by decide +kernel
theorem dX2_taskOf_9 : decode cX2_taskOf 9 = .ok (.getfield 15, 3) := by decide +kernel
theorem dX2_taskOf_12 : decode cX2_taskOf 12 = .ok (.iload_n 1, 1) := by decide +kernel
theorem dX2_taskOf_13 : decode cX2_taskOf 13 = .ok (.iaload, 1) := by decide +kernel
theorem dX2_taskOf_14 : decode cX2_taskOf 14 = .ok (.goto 4, 3) := by decide +kernel
theorem dX2_taskOf_17 : decode cX2_taskOf 17 = .ok (.iconst (-1), 1) := by decide +kernel
theorem dX2_taskOf_18 : decode cX2_taskOf 18 = .ok (.ireturn, 1) := by decide +kernel
def f_X2_taskOf (μ : Mm) (i0 : Nat) (p1 : Int32) : Option Int32 :=
 (f_X2_has μ i0 p1).bind fun q5 =>
 if q5 = 0 then
 some (-1 : Int32)
 else
 (ra μ 202 i0 200 p1).bind fun v7 =>
 some v7
set_option maxHeartbeats 4000000 in
set_option maxRecDepth 100000 in
theorem c_X2_taskOf (l : Launch) (E : En) {μ : Mm} {i0 : Nat} {p1 : Int32} (h0 : l2 E i0) {z : Int32} (hf : f_X2_taskOf μ i0 p1 = some z) : Met l yX2_taskOf (wt yX2_taskOf cX2_taskOf 2 (some .int)) { frames := 1, cells := 0, slots := 0, locals := 21 } (Pm E [.ref (ad E 200 i0), .int p1] μ) (Qm E (some (.int z)) μ) 0 0 (Ad E) := by
  unfold f_X2_taskOf at hf
  refine met_of (cc := cX2_taskOf) (nL := 2) (ret := (some .int)) (by decide) _ (Nat.le_of_ble_eq_true rfl) ?_
  intro p e s m below meth c C hr hlk hI ls hl
  have hx := C.1.1
  have hb := C.1.2.1
  have hl : lv_has ls 2 [(0, .ref (ad E 200 i0)), (1, .int p1)] := hl
  refine lv_aload_n hx hb dX2_taskOf_0 rfl (lv_at hl 0 rfl) ?_
  refine lv_iload_n hx hb dX2_taskOf_1 rfl (lv_at hl 1 rfl) ?_
  obtain ⟨q5, e6, hf⟩ := ob hf
  refine mcV (As := [.int p1]) (rest := []) C hI (c_X2_has l E h0 e6) ml_X2_52 kv_X2_has (m_recv C hI h0.1 (ce_200 E _ _ _) rfl) rfl rfl ⟨Nat.le_of_ble_eq_true rfl, Nat.le_of_ble_eq_true rfl⟩ ⟨Nat.zero_le _, Nat.zero_le _⟩ rfl rfl hl.1 (Nat.le_of_ble_eq_true rfl) dX2_taskOf_2 (st1 := [.int q5]) rfl (fun H locs hI => ?_)
  refine lv_if_eq (tgt := 17) hx hb dX2_taskOf_5 rfl (fun hc => ?_) (fun hc => ?_)
  · replace hf := it hf hc
    refine lv_iconst (v := (-1 : Int32)) hx hb dX2_taskOf_17 kc_m1 ?_
    obtain rfl := Option.some.inj hf
    exact m_iret C hr hlk hI dX2_taskOf_18
  · replace hf := ie hf hc
    refine lv_aload_n hx hb dX2_taskOf_8 rfl (lv_at hl 0 rfl) ?_
    refine gf_2_1 C hI h0.1 fl_X2_15 dX2_taskOf_9 ?_
    refine lv_iload_n hx hb dX2_taskOf_12 rfl (lv_at hl 1 rfl) ?_
    obtain ⟨v7, e8, hf⟩ := ob hf
    refine m_iald C hI h0.2.2.1 (ce_202 E _ _ _) e8 dX2_taskOf_13 ?_
    refine lv_goto (tgt := 18) hx hb dX2_taskOf_14 rfl ?_
    obtain rfl := Option.some.inj hf
    exact m_iret C hr hlk hI dX2_taskOf_18

theorem dX2_numberOf_0 : decode cX2_numberOf 0 = .ok (.aload_n 0, 1) := by decide +kernel
theorem dX2_numberOf_1 : decode cX2_numberOf 1 = .ok (.iload_n 1, 1) := by decide +kernel
theorem dX2_numberOf_2 : decode cX2_numberOf 2 = .ok (.invokevirtual 52, 3) := by decide +kernel
theorem dX2_numberOf_5 : decode cX2_numberOf 5 = .ok (.ifCond .eq 12, 3) := by decide +kernel
theorem dX2_numberOf_8 : decode cX2_numberOf 8 = .ok (.aload_n 0, 1) := by decide +kernel
theorem dX2_numberOf_9 : decode cX2_numberOf 9 = .ok (.getfield 18, 3) := by decide +kernel
theorem dX2_numberOf_12 : decode cX2_numberOf 12 = .ok (.iload_n 1, 1) := by decide +kernel
theorem dX2_numberOf_13 : decode cX2_numberOf 13 = .ok (.iaload, 1) := by decide +kernel
theorem dX2_numberOf_14 : decode cX2_numberOf 14 = .ok (.goto 4, 3) := by decide +kernel
theorem dX2_numberOf_17 : decode cX2_numberOf 17 = .ok (.iconst (-1), 1) := by decide +kernel
theorem dX2_numberOf_18 : decode cX2_numberOf 18 = .ok (.ireturn, 1) := by decide +kernel
def f_X2_numberOf (μ : Mm) (i0 : Nat) (p1 : Int32) : Option Int32 :=
 (f_X2_has μ i0 p1).bind fun q5 =>
 if q5 = 0 then
 some (-1 : Int32)
 else
 (ra μ 203 i0 200 p1).bind fun v7 =>
 some v7
set_option maxHeartbeats 4000000 in
set_option maxRecDepth 100000 in
theorem c_X2_numberOf (l : Launch) (E : En) {μ : Mm} {i0 : Nat} {p1 : Int32} (h0 : l2 E i0) {z : Int32} (hf : f_X2_numberOf μ i0 p1 = some z) : Met l yX2_numberOf (wt yX2_numberOf cX2_numberOf 2 (some .int)) { frames := 1, cells := 0, slots := 0, locals := 21 } (Pm E [.ref (ad E 200 i0), .int p1] μ) (Qm E (some (.int z)) μ) 0 0 (Ad E) := by
  unfold f_X2_numberOf at hf
  refine met_of (cc := cX2_numberOf) (nL := 2) (ret := (some .int)) (by decide) _ (Nat.le_of_ble_eq_true rfl) ?_
  intro p e s m below meth c C hr hlk hI ls hl
  have hx := C.1.1
  have hb := C.1.2.1
  have hl : lv_has ls 2 [(0, .ref (ad E 200 i0)), (1, .int p1)] := hl
  refine lv_aload_n hx hb dX2_numberOf_0 rfl (lv_at hl 0 rfl) ?_
  refine lv_iload_n hx hb dX2_numberOf_1 rfl (lv_at hl 1 rfl) ?_
  obtain ⟨q5, e6, hf⟩ := ob hf
  refine mcV (As := [.int p1]) (rest := []) C hI (c_X2_has l E h0 e6) ml_X2_52 kv_X2_has (m_recv C hI h0.1 (ce_200 E _ _ _) rfl) rfl rfl ⟨Nat.le_of_ble_eq_true rfl, Nat.le_of_ble_eq_true rfl⟩ ⟨Nat.zero_le _, Nat.zero_le _⟩ rfl rfl hl.1 (Nat.le_of_ble_eq_true rfl) dX2_numberOf_2 (st1 := [.int q5]) rfl (fun H locs hI => ?_)
  refine lv_if_eq (tgt := 17) hx hb dX2_numberOf_5 rfl (fun hc => ?_) (fun hc => ?_)
  · replace hf := it hf hc
    refine lv_iconst (v := (-1 : Int32)) hx hb dX2_numberOf_17 kc_m1 ?_
    obtain rfl := Option.some.inj hf
    exact m_iret C hr hlk hI dX2_numberOf_18
  · replace hf := ie hf hc
    refine lv_aload_n hx hb dX2_numberOf_8 rfl (lv_at hl 0 rfl) ?_
    refine gf_2_2 C hI h0.1 fl_X2_18 dX2_numberOf_9 ?_
    refine lv_iload_n hx hb dX2_numberOf_12 rfl (lv_at hl 1 rfl) ?_
    obtain ⟨v7, e8, hf⟩ := ob hf
    refine m_iald C hI h0.2.2.2.1 (ce_203 E _ _ _) e8 dX2_numberOf_13 ?_
    refine lv_goto (tgt := 18) hx hb dX2_numberOf_14 rfl ?_
    obtain rfl := Option.some.inj hf
    exact m_iret C hr hlk hI dX2_numberOf_18

theorem dX2_timeOf_0 : decode cX2_timeOf 0 = .ok (.aload_n 0, 1) := by decide +kernel
theorem dX2_timeOf_1 : decode cX2_timeOf 1 = .ok (.iload_n 1, 1) := by decide +kernel
theorem dX2_timeOf_2 : decode cX2_timeOf 2 = .ok (.invokevirtual 52, 3) := by decide +kernel
theorem dX2_timeOf_5 : decode cX2_timeOf 5 = .ok (.ifCond .eq 12, 3) := by decide +kernel
theorem dX2_timeOf_8 : decode cX2_timeOf 8 = .ok (.aload_n 0, 1) := by decide +kernel
theorem dX2_timeOf_9 : decode cX2_timeOf 9 = .ok (.getfield 21, 3) := by decide +kernel
theorem dX2_timeOf_12 : decode cX2_timeOf 12 = .ok (.iload_n 1, 1) := by decide +kernel
theorem dX2_timeOf_13 : decode cX2_timeOf 13 = .ok (.iaload, 1) := by decide +kernel
theorem dX2_timeOf_14 : decode cX2_timeOf 14 = .ok (.goto 4, 3) := by decide +kernel
theorem dX2_timeOf_17 : decode cX2_timeOf 17 = .ok (.iconst 0, 1) := by decide +kernel
theorem dX2_timeOf_18 : decode cX2_timeOf 18 = .ok (.ireturn, 1) := by decide +kernel
def f_X2_timeOf (μ : Mm) (i0 : Nat) (p1 : Int32) : Option Int32 :=
 (f_X2_has μ i0 p1).bind fun q5 =>
 if q5 = 0 then
 some (0 : Int32)
 else
 (ra μ 204 i0 200 p1).bind fun v7 =>
 some v7
set_option maxHeartbeats 4000000 in
set_option maxRecDepth 100000 in
theorem c_X2_timeOf (l : Launch) (E : En) {μ : Mm} {i0 : Nat} {p1 : Int32} (h0 : l2 E i0) {z : Int32} (hf : f_X2_timeOf μ i0 p1 = some z) : Met l yX2_timeOf (wt yX2_timeOf cX2_timeOf 2 (some .int)) { frames := 1, cells := 0, slots := 0, locals := 21 } (Pm E [.ref (ad E 200 i0), .int p1] μ) (Qm E (some (.int z)) μ) 0 0 (Ad E) := by
  unfold f_X2_timeOf at hf
  refine met_of (cc := cX2_timeOf) (nL := 2) (ret := (some .int)) (by decide) _ (Nat.le_of_ble_eq_true rfl) ?_
  intro p e s m below meth c C hr hlk hI ls hl
  have hx := C.1.1
  have hb := C.1.2.1
  have hl : lv_has ls 2 [(0, .ref (ad E 200 i0)), (1, .int p1)] := hl
  refine lv_aload_n hx hb dX2_timeOf_0 rfl (lv_at hl 0 rfl) ?_
  refine lv_iload_n hx hb dX2_timeOf_1 rfl (lv_at hl 1 rfl) ?_
  obtain ⟨q5, e6, hf⟩ := ob hf
  refine mcV (As := [.int p1]) (rest := []) C hI (c_X2_has l E h0 e6) ml_X2_52 kv_X2_has (m_recv C hI h0.1 (ce_200 E _ _ _) rfl) rfl rfl ⟨Nat.le_of_ble_eq_true rfl, Nat.le_of_ble_eq_true rfl⟩ ⟨Nat.zero_le _, Nat.zero_le _⟩ rfl rfl hl.1 (Nat.le_of_ble_eq_true rfl) dX2_timeOf_2 (st1 := [.int q5]) rfl (fun H locs hI => ?_)
  refine lv_if_eq (tgt := 17) hx hb dX2_timeOf_5 rfl (fun hc => ?_) (fun hc => ?_)
  · replace hf := it hf hc
    refine lv_iconst (v := (0 : Int32)) hx hb dX2_timeOf_17 kc_0 ?_
    obtain rfl := Option.some.inj hf
    exact m_iret C hr hlk hI dX2_timeOf_18
  · replace hf := ie hf hc
    refine lv_aload_n hx hb dX2_timeOf_8 rfl (lv_at hl 0 rfl) ?_
    refine gf_2_3 C hI h0.1 fl_X2_21 dX2_timeOf_9 ?_
    refine lv_iload_n hx hb dX2_timeOf_12 rfl (lv_at hl 1 rfl) ?_
    obtain ⟨v7, e8, hf⟩ := ob hf
    refine m_iald C hI h0.2.2.2.2.1 (ce_204 E _ _ _) e8 dX2_timeOf_13 ?_
    refine lv_goto (tgt := 18) hx hb dX2_timeOf_14 rfl ?_
    obtain rfl := Option.some.inj hf
    exact m_iret C hr hlk hI dX2_timeOf_18

theorem dX2_wholeLength_0 : decode cX2_wholeLength 0 = .ok (.aload_n 0, 1) := by decide +kernel
theorem dX2_wholeLength_1 : decode cX2_wholeLength 1 = .ok (.aload_n 0, 1) := by decide +kernel
theorem dX2_wholeLength_2 : decode cX2_wholeLength 2 = .ok (.getfield 31, 3) := by decide +kernel
theorem dX2_wholeLength_5 : decode cX2_wholeLength 5 = .ok (.iconst 1, 1) := by decide +kernel
theorem dX2_wholeLength_6 : decode cX2_wholeLength 6 = .ok (.isub, 1) := by decide +kernel
theorem dX2_wholeLength_7 : decode cX2_wholeLength 7 = .ok (.invokevirtual 56, 3) := by decide +kernel
theorem dX2_wholeLength_10 : decode cX2_wholeLength 10 = .ok (.aload_n 0, 1) := by decide +kernel
theorem dX2_wholeLength_11 : decode cX2_wholeLength 11 = .ok (.iconst 0, 1) := by decide +kernel
theorem dX2_wholeLength_12 : decode cX2_wholeLength 12 = .ok (.invokevirtual 56, 3) := by decide +kernel
theorem dX2_wholeLength_15 : decode cX2_wholeLength 15 = .ok (.isub, 1) := by decide +kernel
theorem dX2_wholeLength_16 : decode cX2_wholeLength 16 = .ok (.ireturn, 1) := by decide +kernel
def f_X2_wholeLength (μ : Mm) (i0 : Nat) : Option Int32 :=
 (f_X2_timeOf μ i0 ((μ.1 200 i0 5) - (1 : Int32))).bind fun q5 =>
 (f_X2_timeOf μ i0 (0 : Int32)).bind fun q7 =>
 some (q5 - q7)
set_option maxHeartbeats 4000000 in
set_option maxRecDepth 100000 in
theorem c_X2_wholeLength (l : Launch) (E : En) {μ : Mm} {i0 : Nat} (h0 : l2 E i0) {z : Int32} (hf : f_X2_wholeLength μ i0 = some z) : Met l yX2_wholeLength (wt yX2_wholeLength cX2_wholeLength 1 (some .int)) { frames := 2, cells := 0, slots := 0, locals := 42 } (Pm E [.ref (ad E 200 i0)] μ) (Qm E (some (.int z)) μ) 0 0 (Ad E) := by
  unfold f_X2_wholeLength at hf
  refine met_of (cc := cX2_wholeLength) (nL := 1) (ret := (some .int)) (by decide) _ (Nat.le_of_ble_eq_true rfl) ?_
  intro p e s m below meth c C hr hlk hI ls hl
  have hx := C.1.1
  have hb := C.1.2.1
  have hl : lv_has ls 1 [(0, .ref (ad E 200 i0))] := hl
  refine lv_aload_n hx hb dX2_wholeLength_0 rfl (lv_at hl 0 rfl) ?_
  refine lv_aload_n hx hb dX2_wholeLength_1 rfl (lv_at hl 0 rfl) ?_
  refine gf_2_5 C hI h0.1 fl_X2_31 dX2_wholeLength_2 ?_
  refine lv_iconst (v := (1 : Int32)) hx hb dX2_wholeLength_5 kc_1 ?_
  refine lv_isub hx hb dX2_wholeLength_6 ?_
  obtain ⟨q5, e6, hf⟩ := ob hf
  refine mcV (As := [.int ((μ.1 200 i0 5) - (1 : Int32))]) (rest := []) C hI (c_X2_timeOf l E h0 e6) ml_X2_56 kv_X2_timeOf (m_recv C hI h0.1 (ce_200 E _ _ _) rfl) rfl rfl ⟨Nat.le_of_ble_eq_true rfl, Nat.le_of_ble_eq_true rfl⟩ ⟨Nat.zero_le _, Nat.zero_le _⟩ rfl rfl hl.1 (Nat.le_of_ble_eq_true rfl) dX2_wholeLength_7 (st1 := [.int q5]) rfl (fun H locs hI => ?_)
  refine lv_aload_n hx hb dX2_wholeLength_10 rfl (lv_at hl 0 rfl) ?_
  refine lv_iconst (v := (0 : Int32)) hx hb dX2_wholeLength_11 kc_0 ?_
  obtain ⟨q7, e8, hf⟩ := ob hf
  refine mcV (As := [.int (0 : Int32)]) (rest := [.int q5]) C hI (c_X2_timeOf l E h0 e8) ml_X2_56 kv_X2_timeOf (m_recv C hI h0.1 (ce_200 E _ _ _) rfl) rfl rfl ⟨Nat.le_of_ble_eq_true rfl, Nat.le_of_ble_eq_true rfl⟩ ⟨Nat.zero_le _, Nat.zero_le _⟩ rfl rfl hl.1 (Nat.le_of_ble_eq_true rfl) dX2_wholeLength_12 (st1 := [.int q7, .int q5]) rfl (fun H locs hI => ?_)
  refine lv_isub hx hb dX2_wholeLength_15 ?_
  obtain rfl := Option.some.inj hf
  exact m_iret C hr hlk hI dX2_wholeLength_16

theorem dX2_isMarkOf_0 : decode cX2_isMarkOf 0 = .ok (.aload_n 0, 1) := by decide +kernel
theorem dX2_isMarkOf_1 : decode cX2_isMarkOf 1 = .ok (.iload_n 1, 1) := by decide +kernel
theorem dX2_isMarkOf_2 : decode cX2_isMarkOf 2 = .ok (.invokevirtual 60, 3) := by decide +kernel
theorem dX2_isMarkOf_5 : decode cX2_isMarkOf 5 = .ok (.iload_n 2, 1) := by decide +kernel
theorem dX2_isMarkOf_6 : decode cX2_isMarkOf 6 = .ok (.if_icmp .ne 16, 3) := by decide +kernel
theorem dX2_isMarkOf_9 : decode cX2_isMarkOf 9 = .ok (.aload_n 0, 1) := by decide +kernel
theorem dX2_isMarkOf_10 : decode cX2_isMarkOf 10 = .ok (.iload_n 1, 1) := by decide +kernel
theorem dX2_isMarkOf_11 : decode cX2_isMarkOf 11 = .ok (.invokevirtual 63, 3) := by decide +kernel
theorem dX2_isMarkOf_14 : decode cX2_isMarkOf 14 = .ok (.iload_n 3, 1) := by decide +kernel
theorem dX2_isMarkOf_15 : decode cX2_isMarkOf 15 = .ok (.if_icmp .ne 7, 3) := by decide +kernel
theorem dX2_isMarkOf_18 : decode cX2_isMarkOf 18 = .ok (.iconst 1, 1) := by decide +kernel
theorem dX2_isMarkOf_19 : decode cX2_isMarkOf 19 = .ok (.goto 4, 3) := by decide +kernel
theorem dX2_isMarkOf_22 : decode cX2_isMarkOf 22 = .ok (.iconst 0, 1) := by decide +kernel
theorem dX2_isMarkOf_23 : decode cX2_isMarkOf 23 = .ok (.ireturn, 1) := by decide +kernel
def f_X2_isMarkOf (μ : Mm) (i0 : Nat) (p1 : Int32) (p2 : Int32) (p3 : Int32) : Option Int32 :=
 (f_X2_kindOf μ i0 p1).bind fun q5 =>
 if q5 = p2 then
 (f_X2_taskOf μ i0 p1).bind fun q7 =>
 if q7 = p3 then
 some (1 : Int32)
 else
 some (0 : Int32)
 else
 some (0 : Int32)
set_option maxHeartbeats 4000000 in
set_option maxRecDepth 100000 in
theorem c_X2_isMarkOf (l : Launch) (E : En) {μ : Mm} {i0 : Nat} {p1 : Int32} {p2 : Int32} {p3 : Int32} (h0 : l2 E i0) {z : Int32} (hf : f_X2_isMarkOf μ i0 p1 p2 p3 = some z) : Met l yX2_isMarkOf (wt yX2_isMarkOf cX2_isMarkOf 4 (some .boolean)) { frames := 2, cells := 0, slots := 0, locals := 42 } (Pm E [.ref (ad E 200 i0), .int p1, .int p2, .int p3] μ) (Qm E (some (.int z)) μ) 0 0 (Ad E) := by
  unfold f_X2_isMarkOf at hf
  refine met_of (cc := cX2_isMarkOf) (nL := 4) (ret := (some .boolean)) (by decide) _ (Nat.le_of_ble_eq_true rfl) ?_
  intro p e s m below meth c C hr hlk hI ls hl
  have hx := C.1.1
  have hb := C.1.2.1
  have hl : lv_has ls 4 [(0, .ref (ad E 200 i0)), (1, .int p1), (2, .int p2), (3, .int p3)] := hl
  refine lv_aload_n hx hb dX2_isMarkOf_0 rfl (lv_at hl 0 rfl) ?_
  refine lv_iload_n hx hb dX2_isMarkOf_1 rfl (lv_at hl 1 rfl) ?_
  obtain ⟨q5, e6, hf⟩ := ob hf
  refine mcV (As := [.int p1]) (rest := []) C hI (c_X2_kindOf l E h0 e6) ml_X2_60 kv_X2_kindOf (m_recv C hI h0.1 (ce_200 E _ _ _) rfl) rfl rfl ⟨Nat.le_of_ble_eq_true rfl, Nat.le_of_ble_eq_true rfl⟩ ⟨Nat.zero_le _, Nat.zero_le _⟩ rfl rfl hl.1 (Nat.le_of_ble_eq_true rfl) dX2_isMarkOf_2 (st1 := [.int q5]) rfl (fun H locs hI => ?_)
  refine lv_iload_n hx hb dX2_isMarkOf_5 rfl (lv_at hl 2 rfl) ?_
  refine lv_icmp_ne (tgt := 22) hx hb dX2_isMarkOf_6 rfl (fun hc => ?_) (fun hc => ?_)
  · replace hf := ie hf hc
    refine lv_iconst (v := (0 : Int32)) hx hb dX2_isMarkOf_22 kc_0 ?_
    obtain rfl := Option.some.inj hf
    exact m_zret C hr hlk hI (by decide) dX2_isMarkOf_23
  · replace hf := it hf hc
    refine lv_aload_n hx hb dX2_isMarkOf_9 rfl (lv_at hl 0 rfl) ?_
    refine lv_iload_n hx hb dX2_isMarkOf_10 rfl (lv_at hl 1 rfl) ?_
    obtain ⟨q7, e8, hf⟩ := ob hf
    refine mcV (As := [.int p1]) (rest := []) C hI (c_X2_taskOf l E h0 e8) ml_X2_63 kv_X2_taskOf (m_recv C hI h0.1 (ce_200 E _ _ _) rfl) rfl rfl ⟨Nat.le_of_ble_eq_true rfl, Nat.le_of_ble_eq_true rfl⟩ ⟨Nat.zero_le _, Nat.zero_le _⟩ rfl rfl hl.1 (Nat.le_of_ble_eq_true rfl) dX2_isMarkOf_11 (st1 := [.int q7]) rfl (fun H locs hI => ?_)
    refine lv_iload_n hx hb dX2_isMarkOf_14 rfl (lv_at hl 3 rfl) ?_
    refine lv_icmp_ne (tgt := 22) hx hb dX2_isMarkOf_15 rfl (fun hc => ?_) (fun hc => ?_)
    · replace hf := ie hf hc
      refine lv_iconst (v := (0 : Int32)) hx hb dX2_isMarkOf_22 kc_0 ?_
      obtain rfl := Option.some.inj hf
      exact m_zret C hr hlk hI (by decide) dX2_isMarkOf_23
    · replace hf := it hf hc
      refine lv_iconst (v := (1 : Int32)) hx hb dX2_isMarkOf_18 kc_1 ?_
      refine lv_goto (tgt := 23) hx hb dX2_isMarkOf_19 rfl ?_
      obtain rfl := Option.some.inj hf
      exact m_zret C hr hlk hI (by decide) dX2_isMarkOf_23

theorem dX2_isMarkWith_0 : decode cX2_isMarkWith 0 = .ok (.aload_n 0, 1) := by decide +kernel
theorem dX2_isMarkWith_1 : decode cX2_isMarkWith 1 = .ok (.iload_n 1, 1) := by decide +kernel
theorem dX2_isMarkWith_2 : decode cX2_isMarkWith 2 = .ok (.invokevirtual 60, 3) := by decide +kernel
theorem dX2_isMarkWith_5 : decode cX2_isMarkWith 5 = .ok (.iload_n 2, 1) := by decide +kernel
theorem dX2_isMarkWith_6 : decode cX2_isMarkWith 6 = .ok (.if_icmp .ne 16, 3) := by decide +kernel
theorem dX2_isMarkWith_9 : decode cX2_isMarkWith 9 = .ok (.aload_n 0, 1) := by decide +kernel
theorem dX2_isMarkWith_10 : decode cX2_isMarkWith 10 = .ok (.iload_n 1, 1) := by decide +kernel
theorem dX2_isMarkWith_11 : decode cX2_isMarkWith 11 = .ok (.invokevirtual 66, 3) := by decide +kernel
theorem dX2_isMarkWith_14 : decode cX2_isMarkWith 14 = .ok (.iload_n 3, 1) := by decide +kernel
theorem dX2_isMarkWith_15 : decode cX2_isMarkWith 15 = .ok (.if_icmp .ne 7, 3) := by decide +kernel
theorem dX2_isMarkWith_18 : decode cX2_isMarkWith 18 = .ok (.iconst 1, 1) := by decide +kernel
theorem dX2_isMarkWith_19 : decode cX2_isMarkWith 19 = .ok (.goto 4, 3) := by decide +kernel
theorem dX2_isMarkWith_22 : decode cX2_isMarkWith 22 = .ok (.iconst 0, 1) := by decide +kernel
theorem dX2_isMarkWith_23 : decode cX2_isMarkWith 23 = .ok (.ireturn, 1) := by decide +kernel
def f_X2_isMarkWith (μ : Mm) (i0 : Nat) (p1 : Int32) (p2 : Int32) (p3 : Int32) : Option Int32 :=
 (f_X2_kindOf μ i0 p1).bind fun q5 =>
 if q5 = p2 then
 (f_X2_numberOf μ i0 p1).bind fun q7 =>
 if q7 = p3 then
 some (1 : Int32)
 else
 some (0 : Int32)
 else
 some (0 : Int32)
set_option maxHeartbeats 4000000 in
set_option maxRecDepth 100000 in
theorem c_X2_isMarkWith (l : Launch) (E : En) {μ : Mm} {i0 : Nat} {p1 : Int32} {p2 : Int32} {p3 : Int32} (h0 : l2 E i0) {z : Int32} (hf : f_X2_isMarkWith μ i0 p1 p2 p3 = some z) : Met l yX2_isMarkWith (wt yX2_isMarkWith cX2_isMarkWith 4 (some .boolean)) { frames := 2, cells := 0, slots := 0, locals := 42 } (Pm E [.ref (ad E 200 i0), .int p1, .int p2, .int p3] μ) (Qm E (some (.int z)) μ) 0 0 (Ad E) := by
  unfold f_X2_isMarkWith at hf
  refine met_of (cc := cX2_isMarkWith) (nL := 4) (ret := (some .boolean)) (by decide) _ (Nat.le_of_ble_eq_true rfl) ?_
  intro p e s m below meth c C hr hlk hI ls hl
  have hx := C.1.1
  have hb := C.1.2.1
  have hl : lv_has ls 4 [(0, .ref (ad E 200 i0)), (1, .int p1), (2, .int p2), (3, .int p3)] := hl
  refine lv_aload_n hx hb dX2_isMarkWith_0 rfl (lv_at hl 0 rfl) ?_
  refine lv_iload_n hx hb dX2_isMarkWith_1 rfl (lv_at hl 1 rfl) ?_
  obtain ⟨q5, e6, hf⟩ := ob hf
  refine mcV (As := [.int p1]) (rest := []) C hI (c_X2_kindOf l E h0 e6) ml_X2_60 kv_X2_kindOf (m_recv C hI h0.1 (ce_200 E _ _ _) rfl) rfl rfl ⟨Nat.le_of_ble_eq_true rfl, Nat.le_of_ble_eq_true rfl⟩ ⟨Nat.zero_le _, Nat.zero_le _⟩ rfl rfl hl.1 (Nat.le_of_ble_eq_true rfl) dX2_isMarkWith_2 (st1 := [.int q5]) rfl (fun H locs hI => ?_)
  refine lv_iload_n hx hb dX2_isMarkWith_5 rfl (lv_at hl 2 rfl) ?_
  refine lv_icmp_ne (tgt := 22) hx hb dX2_isMarkWith_6 rfl (fun hc => ?_) (fun hc => ?_)
  · replace hf := ie hf hc
    refine lv_iconst (v := (0 : Int32)) hx hb dX2_isMarkWith_22 kc_0 ?_
    obtain rfl := Option.some.inj hf
    exact m_zret C hr hlk hI (by decide) dX2_isMarkWith_23
  · replace hf := it hf hc
    refine lv_aload_n hx hb dX2_isMarkWith_9 rfl (lv_at hl 0 rfl) ?_
    refine lv_iload_n hx hb dX2_isMarkWith_10 rfl (lv_at hl 1 rfl) ?_
    obtain ⟨q7, e8, hf⟩ := ob hf
    refine mcV (As := [.int p1]) (rest := []) C hI (c_X2_numberOf l E h0 e8) ml_X2_66 kv_X2_numberOf (m_recv C hI h0.1 (ce_200 E _ _ _) rfl) rfl rfl ⟨Nat.le_of_ble_eq_true rfl, Nat.le_of_ble_eq_true rfl⟩ ⟨Nat.zero_le _, Nat.zero_le _⟩ rfl rfl hl.1 (Nat.le_of_ble_eq_true rfl) dX2_isMarkWith_11 (st1 := [.int q7]) rfl (fun H locs hI => ?_)
    refine lv_iload_n hx hb dX2_isMarkWith_14 rfl (lv_at hl 3 rfl) ?_
    refine lv_icmp_ne (tgt := 22) hx hb dX2_isMarkWith_15 rfl (fun hc => ?_) (fun hc => ?_)
    · replace hf := ie hf hc
      refine lv_iconst (v := (0 : Int32)) hx hb dX2_isMarkWith_22 kc_0 ?_
      obtain rfl := Option.some.inj hf
      exact m_zret C hr hlk hI (by decide) dX2_isMarkWith_23
    · replace hf := it hf hc
      refine lv_iconst (v := (1 : Int32)) hx hb dX2_isMarkWith_18 kc_1 ?_
      refine lv_goto (tgt := 23) hx hb dX2_isMarkWith_19 rfl ?_
      obtain rfl := Option.some.inj hf
      exact m_zret C hr hlk hI (by decide) dX2_isMarkWith_23

theorem dX2_endOfWork_0 : decode cX2_endOfWork 0 = .ok (.iload_n 1, 1) := by decide +kernel
theorem dX2_endOfWork_1 : decode cX2_endOfWork 1 = .ok (.iconst 1, 1) := by decide +kernel
theorem dX2_endOfWork_2 : decode cX2_endOfWork 2 = .ok (.iadd, 1) := by decide +kernel
theorem dX2_endOfWork_3 : decode cX2_endOfWork 3 = .ok (.istore_n 3, 1) := by decide +kernel
theorem dX2_endOfWork_4 : decode cX2_endOfWork 4 = .ok (.iload_n 3, 1) := by decide +kernel
theorem dX2_endOfWork_5 : decode cX2_endOfWork 5 = .ok (.aload_n 0, 1) := by decide +kernel
theorem dX2_endOfWork_6 : decode cX2_endOfWork 6 = .ok (.getfield 31, 3) := by decide +kernel
theorem dX2_endOfWork_9 : decode cX2_endOfWork 9 = .ok (.if_icmp .ge 31, 3) := by decide +kernel
theorem dX2_endOfWork_12 : decode cX2_endOfWork 12 = .ok (.aload_n 0, 1) := by decide +kernel
theorem dX2_endOfWork_13 : decode cX2_endOfWork 13 = .ok (.iload_n 3, 1) := by decide +kernel
theorem dX2_endOfWork_14 : decode cX2_endOfWork 14 = .ok (.iconst 2, 1) := by decide +kernel
theorem dX2_endOfWork_15 : decode cX2_endOfWork 15 = .ok (.iload_n 2, 1) := by decide +kernel
theorem dX2_endOfWork_16 : decode cX2_endOfWork 16 = .ok (.invokevirtual 69, 3) := by decide +kernel
theorem dX2_endOfWork_19 : decode cX2_endOfWork 19 = .ok (.ifCond .ne 13, 3) := by decide +kernel
theorem dX2_endOfWork_22 : decode cX2_endOfWork 22 = .ok (.aload_n 0, 1) := by decide +kernel
theorem dX2_endOfWork_23 : decode cX2_endOfWork 23 = .ok (.iload_n 3, 1) := by decide +kernel
theorem dX2_endOfWork_24 : decode cX2_endOfWork 24 = .ok (.invokevirtual 60, 3) := by decide +kernel
theorem dX2_endOfWork_27 : decode cX2_endOfWork 27 = .ok (.bipush 8, 2) := by decide +kernel
theorem dX2_endOfWork_29 : decode cX2_endOfWork 29 = .ok (.if_icmp .ne 5, 3) := by decide +kernel
theorem dX2_endOfWork_32 : decode cX2_endOfWork 32 = .ok (.iload_n 3, 1) := by decide +kernel
theorem dX2_endOfWork_33 : decode cX2_endOfWork 33 = .ok (.ireturn, 1) := by decide +kernel
theorem dX2_endOfWork_34 : decode cX2_endOfWork 34 = .ok (.iinc 3 1, 3) := by decide +kernel
theorem dX2_endOfWork_37 : decode cX2_endOfWork 37 = .ok (.goto (-33), 3) := by decide +kernel
theorem dX2_endOfWork_40 : decode cX2_endOfWork 40 = .ok (.aload_n 0, 1) := by decide +kernel
theorem dX2_endOfWork_41 : decode cX2_endOfWork 41 = .ok (.getfield 31, 3) := by decide +kernel
theorem dX2_endOfWork_44 : decode cX2_endOfWork 44 = .ok (.iconst 1, 1) := by decide +kernel
theorem dX2_endOfWork_45 : decode cX2_endOfWork 45 = .ok (.isub, 1) := by decide +kernel
theorem dX2_endOfWork_46 : decode cX2_endOfWork 46 = .ok (.ireturn, 1) := by decide +kernel
def f_X2_endOfWork_b4 (F : Nat) (μ : Mm) : Nat → Nat → Int32 → Int32 → Option Int32
 | 0, _, _, _ => none
 | N + 1, a0, a2, a3 =>
 if (μ.1 200 a0 5) ≤ a3 then
 some ((μ.1 200 a0 5) - (1 : Int32))
 else
 (f_X2_isMarkOf μ a0 a3 (2 : Int32) a2).bind fun q5 =>
 if q5 = 0 then
 (f_X2_kindOf μ a0 a3).bind fun q7 =>
 if q7 = (8 : Int32) then
 some a3
 else
 f_X2_endOfWork_b4 F μ N a0 a2 (a3 + (1 : Int32))
 else
 some a3
set_option maxHeartbeats 4000000 in
set_option maxRecDepth 100000 in
theorem cb_X2_endOfWork_4 {l : Launch} {E : En} {p : Program} {e : Env} {s : State} {m : MethodId} {av : Array Value} {below : List Frame} {meth : Method} {c : Code} (C : Cx E p s m av c cX2_endOfWork 4 yX2_endOfWork.cls) (hr : meth.sig.returnType = (some .int)) (hlk : meth.locks = false) {F : Nat} {μ : Mm} {z : Int32} : ∀ (N : Nat) (a0 : Nat) (a2 : Int32) (a3 : Int32) (h_a0 : l2 E a0), f_X2_endOfWork_b4 F μ N a0 a2 a3 = some z → ∀ {H : Heap} {locs : List Loc} {ls : Array Slot}, Iv E s μ H locs → lv_has ls 4 [(0, .ref (ad E 200 a0)), (2, .int a2), (3, .int a3)] → W p l e { frames := 3, cells := 0, slots := 0, locals := 65 } s m av below meth c H locs 0 0 (MQ below (Qm E (some (.int z)) μ) av s 0 0 (Ad E)) (F0 m 4 ls []) := by
  have hx := C.1.1
  have hb := C.1.2.1
  intro N
  induction N with
  | zero => intro a0 a2 a3 h_a0 hf; cases hf
  | succ N ih =>
    intro a0 a2 a3 h_a0 hf H locs ls hI hl
    rw [f_X2_endOfWork_b4] at hf
    refine lv_iload_n hx hb dX2_endOfWork_4 rfl (lv_at hl 2 rfl) ?_
    refine lv_aload_n hx hb dX2_endOfWork_5 rfl (lv_at hl 0 rfl) ?_
    refine gf_2_5 C hI h_a0.1 fl_X2_31 dX2_endOfWork_6 ?_
    refine lv_icmp_ge (tgt := 40) hx hb dX2_endOfWork_9 rfl (fun hc => ?_) (fun hc => ?_)
    · replace hf := it hf hc
      refine lv_aload_n hx hb dX2_endOfWork_40 rfl (lv_at hl 0 rfl) ?_
      refine gf_2_5 C hI h_a0.1 fl_X2_31 dX2_endOfWork_41 ?_
      refine lv_iconst (v := (1 : Int32)) hx hb dX2_endOfWork_44 kc_1 ?_
      refine lv_isub hx hb dX2_endOfWork_45 ?_
      obtain rfl := Option.some.inj hf
      exact m_iret C hr hlk hI dX2_endOfWork_46
    · replace hf := ie hf hc
      refine lv_aload_n hx hb dX2_endOfWork_12 rfl (lv_at hl 0 rfl) ?_
      refine lv_iload_n hx hb dX2_endOfWork_13 rfl (lv_at hl 2 rfl) ?_
      refine lv_iconst (v := (2 : Int32)) hx hb dX2_endOfWork_14 kc_2 ?_
      refine lv_iload_n hx hb dX2_endOfWork_15 rfl (lv_at hl 1 rfl) ?_
      obtain ⟨q5, e6, hf⟩ := ob hf
      refine mcV (As := [.int a3, .int (2 : Int32), .int a2]) (rest := []) C hI (c_X2_isMarkOf l E h_a0 e6) ml_X2_69 kv_X2_isMarkOf (m_recv C hI h_a0.1 (ce_200 E _ _ _) rfl) rfl rfl ⟨Nat.le_of_ble_eq_true rfl, Nat.le_of_ble_eq_true rfl⟩ ⟨Nat.zero_le _, Nat.zero_le _⟩ rfl rfl hl.1 (Nat.le_of_ble_eq_true rfl) dX2_endOfWork_16 (st1 := [.int q5]) rfl (fun H locs hI => ?_)
      refine lv_if_ne (tgt := 32) hx hb dX2_endOfWork_19 rfl (fun hc => ?_) (fun hc => ?_)
      · replace hf := ie hf hc
        refine lv_iload_n hx hb dX2_endOfWork_32 rfl (lv_at hl 2 rfl) ?_
        obtain rfl := Option.some.inj hf
        exact m_iret C hr hlk hI dX2_endOfWork_33
      · replace hf := it hf hc
        refine lv_aload_n hx hb dX2_endOfWork_22 rfl (lv_at hl 0 rfl) ?_
        refine lv_iload_n hx hb dX2_endOfWork_23 rfl (lv_at hl 2 rfl) ?_
        obtain ⟨q7, e8, hf⟩ := ob hf
        refine mcV (As := [.int a3]) (rest := []) C hI (c_X2_kindOf l E h_a0 e8) ml_X2_60 kv_X2_kindOf (m_recv C hI h_a0.1 (ce_200 E _ _ _) rfl) rfl rfl ⟨Nat.le_of_ble_eq_true rfl, Nat.le_of_ble_eq_true rfl⟩ ⟨Nat.zero_le _, Nat.zero_le _⟩ rfl rfl hl.1 (Nat.le_of_ble_eq_true rfl) dX2_endOfWork_24 (st1 := [.int q7]) rfl (fun H locs hI => ?_)
        refine lv_bipush (v := (8 : Int32)) hx hb dX2_endOfWork_27 kb_8 ?_
        refine lv_icmp_ne (tgt := 34) hx hb dX2_endOfWork_29 rfl (fun hc => ?_) (fun hc => ?_)
        · replace hf := ie hf hc
          refine lv_iinc (v := a3 + (1 : Int32)) hx hb dX2_endOfWork_34 hl (k := 2) rfl (ki_1 _) (by decide) rfl (fun ls hl => ?_)
          have hl : lv_has ls 4 [(3, .int (a3 + (1 : Int32))), (0, .ref (ad E 200 a0)), (2, .int a2)] := hl
          refine lv_goto (tgt := 4) hx hb dX2_endOfWork_37 rfl ?_
          exact ih _ _ _ h_a0 hf hI (lv_sub hl [1, 2, 0] rfl)
        · replace hf := it hf hc
          refine lv_iload_n hx hb dX2_endOfWork_32 rfl (lv_at hl 2 rfl) ?_
          obtain rfl := Option.some.inj hf
          exact m_iret C hr hlk hI dX2_endOfWork_33
def f_X2_endOfWork (F : Nat) (μ : Mm) (i0 : Nat) (p1 : Int32) (p2 : Int32) : Option Int32 :=
 f_X2_endOfWork_b4 F μ F i0 p2 (p1 + (1 : Int32))
set_option maxHeartbeats 4000000 in
set_option maxRecDepth 100000 in
theorem c_X2_endOfWork (l : Launch) (E : En) {F : Nat} {μ : Mm} {i0 : Nat} {p1 : Int32} {p2 : Int32} (h0 : l2 E i0) {z : Int32} (hf : f_X2_endOfWork F μ i0 p1 p2 = some z) : Met l yX2_endOfWork (wt yX2_endOfWork cX2_endOfWork 4 (some .int)) { frames := 3, cells := 0, slots := 0, locals := 65 } (Pm E [.ref (ad E 200 i0), .int p1, .int p2] μ) (Qm E (some (.int z)) μ) 0 0 (Ad E) := by
  unfold f_X2_endOfWork at hf
  refine met_of (cc := cX2_endOfWork) (nL := 4) (ret := (some .int)) (by decide) _ (Nat.le_of_ble_eq_true rfl) ?_
  intro p e s m below meth c C hr hlk hI ls hl
  have hx := C.1.1
  have hb := C.1.2.1
  have hl : lv_has ls 4 [(0, .ref (ad E 200 i0)), (1, .int p1), (2, .int p2)] := hl
  refine lv_iload_n hx hb dX2_endOfWork_0 rfl (lv_at hl 1 rfl) ?_
  refine lv_iconst (v := (1 : Int32)) hx hb dX2_endOfWork_1 kc_1 ?_
  refine lv_iadd hx hb dX2_endOfWork_2 ?_
  refine lv_istore_n hx hb dX2_endOfWork_3 rfl hl (by decide) rfl (fun ls hl => ?_)
  have hl : lv_has ls 4 [(3, .int (p1 + (1 : Int32))), (0, .ref (ad E 200 i0)), (1, .int p1), (2, .int p2)] := hl
  exact cb_X2_endOfWork_4 C hr hlk  _ _ _ _ h0 hf hI (lv_sub hl [1, 3, 0] rfl)

theorem dX2_endOfHold_0 : decode cX2_endOfHold 0 = .ok (.iload_n 1, 1) := by decide +kernel
theorem dX2_endOfHold_1 : decode cX2_endOfHold 1 = .ok (.iconst 1, 1) := by decide +kernel
theorem dX2_endOfHold_2 : decode cX2_endOfHold 2 = .ok (.iadd, 1) := by decide +kernel
theorem dX2_endOfHold_3 : decode cX2_endOfHold 3 = .ok (.istore_n 3, 1) := by decide +kernel
theorem dX2_endOfHold_4 : decode cX2_endOfHold 4 = .ok (.iload_n 3, 1) := by decide +kernel
theorem dX2_endOfHold_5 : decode cX2_endOfHold 5 = .ok (.aload_n 0, 1) := by decide +kernel
theorem dX2_endOfHold_6 : decode cX2_endOfHold 6 = .ok (.getfield 31, 3) := by decide +kernel
theorem dX2_endOfHold_9 : decode cX2_endOfHold 9 = .ok (.if_icmp .ge 31, 3) := by decide +kernel
theorem dX2_endOfHold_12 : decode cX2_endOfHold 12 = .ok (.aload_n 0, 1) := by decide +kernel
theorem dX2_endOfHold_13 : decode cX2_endOfHold 13 = .ok (.iload_n 3, 1) := by decide +kernel
theorem dX2_endOfHold_14 : decode cX2_endOfHold 14 = .ok (.iconst 5, 1) := by decide +kernel
theorem dX2_endOfHold_15 : decode cX2_endOfHold 15 = .ok (.iload_n 2, 1) := by decide +kernel
theorem dX2_endOfHold_16 : decode cX2_endOfHold 16 = .ok (.invokevirtual 73, 3) := by decide +kernel
theorem dX2_endOfHold_19 : decode cX2_endOfHold 19 = .ok (.ifCond .ne 13, 3) := by decide +kernel
theorem dX2_endOfHold_22 : decode cX2_endOfHold 22 = .ok (.aload_n 0, 1) := by decide +kernel
theorem dX2_endOfHold_23 : decode cX2_endOfHold 23 = .ok (.iload_n 3, 1) := by decide +kernel
theorem dX2_endOfHold_24 : decode cX2_endOfHold 24 = .ok (.invokevirtual 60, 3) := by decide +kernel
theorem dX2_endOfHold_27 : decode cX2_endOfHold 27 = .ok (.bipush 8, 2) := by decide +kernel
theorem dX2_endOfHold_29 : decode cX2_endOfHold 29 = .ok (.if_icmp .ne 5, 3) := by decide +kernel
theorem dX2_endOfHold_32 : decode cX2_endOfHold 32 = .ok (.iload_n 3, 1) := by decide +kernel
theorem dX2_endOfHold_33 : decode cX2_endOfHold 33 = .ok (.ireturn, 1) := by decide +kernel
theorem dX2_endOfHold_34 : decode cX2_endOfHold 34 = .ok (.iinc 3 1, 3) := by decide +kernel
theorem dX2_endOfHold_37 : decode cX2_endOfHold 37 = .ok (.goto (-33), 3) := by decide +kernel
theorem dX2_endOfHold_40 : decode cX2_endOfHold 40 = .ok (.aload_n 0, 1) := by decide +kernel
theorem dX2_endOfHold_41 : decode cX2_endOfHold 41 = .ok (.getfield 31, 3) := by decide +kernel
theorem dX2_endOfHold_44 : decode cX2_endOfHold 44 = .ok (.iconst 1, 1) := by decide +kernel
theorem dX2_endOfHold_45 : decode cX2_endOfHold 45 = .ok (.isub, 1) := by decide +kernel
theorem dX2_endOfHold_46 : decode cX2_endOfHold 46 = .ok (.ireturn, 1) := by decide +kernel
def f_X2_endOfHold_b4 (F : Nat) (μ : Mm) : Nat → Nat → Int32 → Int32 → Option Int32
 | 0, _, _, _ => none
 | N + 1, a0, a2, a3 =>
 if (μ.1 200 a0 5) ≤ a3 then
 some ((μ.1 200 a0 5) - (1 : Int32))
 else
 (f_X2_isMarkWith μ a0 a3 (5 : Int32) a2).bind fun q5 =>
 if q5 = 0 then
 (f_X2_kindOf μ a0 a3).bind fun q7 =>
 if q7 = (8 : Int32) then
 some a3
 else
 f_X2_endOfHold_b4 F μ N a0 a2 (a3 + (1 : Int32))
 else
 some a3
set_option maxHeartbeats 4000000 in
set_option maxRecDepth 100000 in
theorem cb_X2_endOfHold_4 {l : Launch} {E : En} {p : Program} {e : Env} {s : State} {m : MethodId} {av : Array Value} {below : List Frame} {meth : Method} {c : Code} (C : Cx E p s m av c cX2_endOfHold 4 yX2_endOfHold.cls) (hr : meth.sig.returnType = (some .int)) (hlk : meth.locks = false) {F : Nat} {μ : Mm} {z : Int32} : ∀ (N : Nat) (a0 : Nat) (a2 : Int32) (a3 : Int32) (h_a0 : l2 E a0), f_X2_endOfHold_b4 F μ N a0 a2 a3 = some z → ∀ {H : Heap} {locs : List Loc} {ls : Array Slot}, Iv E s μ H locs → lv_has ls 4 [(0, .ref (ad E 200 a0)), (2, .int a2), (3, .int a3)] → W p l e { frames := 3, cells := 0, slots := 0, locals := 65 } s m av below meth c H locs 0 0 (MQ below (Qm E (some (.int z)) μ) av s 0 0 (Ad E)) (F0 m 4 ls []) := by
  have hx := C.1.1
  have hb := C.1.2.1
  intro N
  induction N with
  | zero => intro a0 a2 a3 h_a0 hf; cases hf
  | succ N ih =>
    intro a0 a2 a3 h_a0 hf H locs ls hI hl
    rw [f_X2_endOfHold_b4] at hf
    refine lv_iload_n hx hb dX2_endOfHold_4 rfl (lv_at hl 2 rfl) ?_
    refine lv_aload_n hx hb dX2_endOfHold_5 rfl (lv_at hl 0 rfl) ?_
    refine gf_2_5 C hI h_a0.1 fl_X2_31 dX2_endOfHold_6 ?_
    refine lv_icmp_ge (tgt := 40) hx hb dX2_endOfHold_9 rfl (fun hc => ?_) (fun hc => ?_)
    · replace hf := it hf hc
      refine lv_aload_n hx hb dX2_endOfHold_40 rfl (lv_at hl 0 rfl) ?_
      refine gf_2_5 C hI h_a0.1 fl_X2_31 dX2_endOfHold_41 ?_
      refine lv_iconst (v := (1 : Int32)) hx hb dX2_endOfHold_44 kc_1 ?_
      refine lv_isub hx hb dX2_endOfHold_45 ?_
      obtain rfl := Option.some.inj hf
      exact m_iret C hr hlk hI dX2_endOfHold_46
    · replace hf := ie hf hc
      refine lv_aload_n hx hb dX2_endOfHold_12 rfl (lv_at hl 0 rfl) ?_
      refine lv_iload_n hx hb dX2_endOfHold_13 rfl (lv_at hl 2 rfl) ?_
      refine lv_iconst (v := (5 : Int32)) hx hb dX2_endOfHold_14 kc_5 ?_
      refine lv_iload_n hx hb dX2_endOfHold_15 rfl (lv_at hl 1 rfl) ?_
      obtain ⟨q5, e6, hf⟩ := ob hf
      refine mcV (As := [.int a3, .int (5 : Int32), .int a2]) (rest := []) C hI (c_X2_isMarkWith l E h_a0 e6) ml_X2_73 kv_X2_isMarkWith (m_recv C hI h_a0.1 (ce_200 E _ _ _) rfl) rfl rfl ⟨Nat.le_of_ble_eq_true rfl, Nat.le_of_ble_eq_true rfl⟩ ⟨Nat.zero_le _, Nat.zero_le _⟩ rfl rfl hl.1 (Nat.le_of_ble_eq_true rfl) dX2_endOfHold_16 (st1 := [.int q5]) rfl (fun H locs hI => ?_)
      refine lv_if_ne (tgt := 32) hx hb dX2_endOfHold_19 rfl (fun hc => ?_) (fun hc => ?_)
      · replace hf := ie hf hc
        refine lv_iload_n hx hb dX2_endOfHold_32 rfl (lv_at hl 2 rfl) ?_
        obtain rfl := Option.some.inj hf
        exact m_iret C hr hlk hI dX2_endOfHold_33
      · replace hf := it hf hc
        refine lv_aload_n hx hb dX2_endOfHold_22 rfl (lv_at hl 0 rfl) ?_
        refine lv_iload_n hx hb dX2_endOfHold_23 rfl (lv_at hl 2 rfl) ?_
        obtain ⟨q7, e8, hf⟩ := ob hf
        refine mcV (As := [.int a3]) (rest := []) C hI (c_X2_kindOf l E h_a0 e8) ml_X2_60 kv_X2_kindOf (m_recv C hI h_a0.1 (ce_200 E _ _ _) rfl) rfl rfl ⟨Nat.le_of_ble_eq_true rfl, Nat.le_of_ble_eq_true rfl⟩ ⟨Nat.zero_le _, Nat.zero_le _⟩ rfl rfl hl.1 (Nat.le_of_ble_eq_true rfl) dX2_endOfHold_24 (st1 := [.int q7]) rfl (fun H locs hI => ?_)
        refine lv_bipush (v := (8 : Int32)) hx hb dX2_endOfHold_27 kb_8 ?_
        refine lv_icmp_ne (tgt := 34) hx hb dX2_endOfHold_29 rfl (fun hc => ?_) (fun hc => ?_)
        · replace hf := ie hf hc
          refine lv_iinc (v := a3 + (1 : Int32)) hx hb dX2_endOfHold_34 hl (k := 2) rfl (ki_1 _) (by decide) rfl (fun ls hl => ?_)
          have hl : lv_has ls 4 [(3, .int (a3 + (1 : Int32))), (0, .ref (ad E 200 a0)), (2, .int a2)] := hl
          refine lv_goto (tgt := 4) hx hb dX2_endOfHold_37 rfl ?_
          exact ih _ _ _ h_a0 hf hI (lv_sub hl [1, 2, 0] rfl)
        · replace hf := it hf hc
          refine lv_iload_n hx hb dX2_endOfHold_32 rfl (lv_at hl 2 rfl) ?_
          obtain rfl := Option.some.inj hf
          exact m_iret C hr hlk hI dX2_endOfHold_33
def f_X2_endOfHold (F : Nat) (μ : Mm) (i0 : Nat) (p1 : Int32) (p2 : Int32) : Option Int32 :=
 f_X2_endOfHold_b4 F μ F i0 p2 (p1 + (1 : Int32))
set_option maxHeartbeats 4000000 in
set_option maxRecDepth 100000 in
theorem c_X2_endOfHold (l : Launch) (E : En) {F : Nat} {μ : Mm} {i0 : Nat} {p1 : Int32} {p2 : Int32} (h0 : l2 E i0) {z : Int32} (hf : f_X2_endOfHold F μ i0 p1 p2 = some z) : Met l yX2_endOfHold (wt yX2_endOfHold cX2_endOfHold 4 (some .int)) { frames := 3, cells := 0, slots := 0, locals := 65 } (Pm E [.ref (ad E 200 i0), .int p1, .int p2] μ) (Qm E (some (.int z)) μ) 0 0 (Ad E) := by
  unfold f_X2_endOfHold at hf
  refine met_of (cc := cX2_endOfHold) (nL := 4) (ret := (some .int)) (by decide) _ (Nat.le_of_ble_eq_true rfl) ?_
  intro p e s m below meth c C hr hlk hI ls hl
  have hx := C.1.1
  have hb := C.1.2.1
  have hl : lv_has ls 4 [(0, .ref (ad E 200 i0)), (1, .int p1), (2, .int p2)] := hl
  refine lv_iload_n hx hb dX2_endOfHold_0 rfl (lv_at hl 1 rfl) ?_
  refine lv_iconst (v := (1 : Int32)) hx hb dX2_endOfHold_1 kc_1 ?_
  refine lv_iadd hx hb dX2_endOfHold_2 ?_
  refine lv_istore_n hx hb dX2_endOfHold_3 rfl hl (by decide) rfl (fun ls hl => ?_)
  have hl : lv_has ls 4 [(3, .int (p1 + (1 : Int32))), (0, .ref (ad E 200 i0)), (1, .int p1), (2, .int p2)] := hl
  exact cb_X2_endOfHold_4 C hr hlk  _ _ _ _ h0 hf hI (lv_sub hl [1, 3, 0] rfl)

theorem dX2_nextSignOf_0 : decode cX2_nextSignOf 0 = .ok (.iload_n 1, 1) := by decide +kernel
theorem dX2_nextSignOf_1 : decode cX2_nextSignOf 1 = .ok (.iconst 1, 1) := by decide +kernel
theorem dX2_nextSignOf_2 : decode cX2_nextSignOf 2 = .ok (.iadd, 1) := by decide +kernel
theorem dX2_nextSignOf_3 : decode cX2_nextSignOf 3 = .ok (.istore_n 3, 1) := by decide +kernel
theorem dX2_nextSignOf_4 : decode cX2_nextSignOf 4 = .ok (.iload_n 3, 1) := by decide +kernel
theorem dX2_nextSignOf_5 : decode cX2_nextSignOf 5 = .ok (.aload_n 0, 1) := by decide +kernel
theorem dX2_nextSignOf_6 : decode cX2_nextSignOf 6 = .ok (.getfield 31, 3) := by decide +kernel
theorem dX2_nextSignOf_9 : decode cX2_nextSignOf 9 = .ok (.if_icmp .ge 31, 3) := by decide +kernel
theorem dX2_nextSignOf_12 : decode cX2_nextSignOf 12 = .ok (.aload_n 0, 1) := by decide +kernel
theorem dX2_nextSignOf_13 : decode cX2_nextSignOf 13 = .ok (.iload_n 3, 1) := by decide +kernel
theorem dX2_nextSignOf_14 : decode cX2_nextSignOf 14 = .ok (.iconst 0, 1) := by decide +kernel
theorem dX2_nextSignOf_15 : decode cX2_nextSignOf 15 = .ok (.iload_n 2, 1) := by decide +kernel
theorem dX2_nextSignOf_16 : decode cX2_nextSignOf 16 = .ok (.invokevirtual 69, 3) := by decide +kernel
theorem dX2_nextSignOf_19 : decode cX2_nextSignOf 19 = .ok (.ifCond .ne 13, 3) := by decide +kernel
theorem dX2_nextSignOf_22 : decode cX2_nextSignOf 22 = .ok (.aload_n 0, 1) := by decide +kernel
theorem dX2_nextSignOf_23 : decode cX2_nextSignOf 23 = .ok (.iload_n 3, 1) := by decide +kernel
theorem dX2_nextSignOf_24 : decode cX2_nextSignOf 24 = .ok (.iconst 1, 1) := by decide +kernel
theorem dX2_nextSignOf_25 : decode cX2_nextSignOf 25 = .ok (.iload_n 2, 1) := by decide +kernel
theorem dX2_nextSignOf_26 : decode cX2_nextSignOf 26 = .ok (.invokevirtual 69, 3) := by decide +kernel
theorem dX2_nextSignOf_29 : decode cX2_nextSignOf 29 = .ok (.ifCond .eq 5, 3) := by decide +kernel
theorem dX2_nextSignOf_32 : decode cX2_nextSignOf 32 = .ok (.iload_n 3, 1) := by decide +kernel
theorem dX2_nextSignOf_33 : decode cX2_nextSignOf 33 = .ok (.ireturn, 1) := by decide +kernel
theorem dX2_nextSignOf_34 : decode cX2_nextSignOf 34 = .ok (.iinc 3 1, 3) := by decide +kernel
theorem dX2_nextSignOf_37 : decode cX2_nextSignOf 37 = .ok (.goto (-33), 3) := by decide +kernel
theorem dX2_nextSignOf_40 : decode cX2_nextSignOf 40 = .ok (.aload_n 0, 1) := by decide +kernel
theorem dX2_nextSignOf_41 : decode cX2_nextSignOf 41 = .ok (.getfield 31, 3) := by decide +kernel
theorem dX2_nextSignOf_44 : decode cX2_nextSignOf 44 = .ok (.iconst 1, 1) := by decide +kernel
theorem dX2_nextSignOf_45 : decode cX2_nextSignOf 45 = .ok (.isub, 1) := by decide +kernel
theorem dX2_nextSignOf_46 : decode cX2_nextSignOf 46 = .ok (.ireturn, 1) := by decide +kernel
def f_X2_nextSignOf_b4 (F : Nat) (μ : Mm) : Nat → Nat → Int32 → Int32 → Option Int32
 | 0, _, _, _ => none
 | N + 1, a0, a2, a3 =>
 if (μ.1 200 a0 5) ≤ a3 then
 some ((μ.1 200 a0 5) - (1 : Int32))
 else
 (f_X2_isMarkOf μ a0 a3 (0 : Int32) a2).bind fun q5 =>
 if q5 = 0 then
 (f_X2_isMarkOf μ a0 a3 (1 : Int32) a2).bind fun q7 =>
 if q7 = 0 then
 f_X2_nextSignOf_b4 F μ N a0 a2 (a3 + (1 : Int32))
 else
 some a3
 else
 some a3
set_option maxHeartbeats 4000000 in
set_option maxRecDepth 100000 in
theorem cb_X2_nextSignOf_4 {l : Launch} {E : En} {p : Program} {e : Env} {s : State} {m : MethodId} {av : Array Value} {below : List Frame} {meth : Method} {c : Code} (C : Cx E p s m av c cX2_nextSignOf 4 yX2_nextSignOf.cls) (hr : meth.sig.returnType = (some .int)) (hlk : meth.locks = false) {F : Nat} {μ : Mm} {z : Int32} : ∀ (N : Nat) (a0 : Nat) (a2 : Int32) (a3 : Int32) (h_a0 : l2 E a0), f_X2_nextSignOf_b4 F μ N a0 a2 a3 = some z → ∀ {H : Heap} {locs : List Loc} {ls : Array Slot}, Iv E s μ H locs → lv_has ls 4 [(0, .ref (ad E 200 a0)), (2, .int a2), (3, .int a3)] → W p l e { frames := 3, cells := 0, slots := 0, locals := 65 } s m av below meth c H locs 0 0 (MQ below (Qm E (some (.int z)) μ) av s 0 0 (Ad E)) (F0 m 4 ls []) := by
  have hx := C.1.1
  have hb := C.1.2.1
  intro N
  induction N with
  | zero => intro a0 a2 a3 h_a0 hf; cases hf
  | succ N ih =>
    intro a0 a2 a3 h_a0 hf H locs ls hI hl
    rw [f_X2_nextSignOf_b4] at hf
    refine lv_iload_n hx hb dX2_nextSignOf_4 rfl (lv_at hl 2 rfl) ?_
    refine lv_aload_n hx hb dX2_nextSignOf_5 rfl (lv_at hl 0 rfl) ?_
    refine gf_2_5 C hI h_a0.1 fl_X2_31 dX2_nextSignOf_6 ?_
    refine lv_icmp_ge (tgt := 40) hx hb dX2_nextSignOf_9 rfl (fun hc => ?_) (fun hc => ?_)
    · replace hf := it hf hc
      refine lv_aload_n hx hb dX2_nextSignOf_40 rfl (lv_at hl 0 rfl) ?_
      refine gf_2_5 C hI h_a0.1 fl_X2_31 dX2_nextSignOf_41 ?_
      refine lv_iconst (v := (1 : Int32)) hx hb dX2_nextSignOf_44 kc_1 ?_
      refine lv_isub hx hb dX2_nextSignOf_45 ?_
      obtain rfl := Option.some.inj hf
      exact m_iret C hr hlk hI dX2_nextSignOf_46
    · replace hf := ie hf hc
      refine lv_aload_n hx hb dX2_nextSignOf_12 rfl (lv_at hl 0 rfl) ?_
      refine lv_iload_n hx hb dX2_nextSignOf_13 rfl (lv_at hl 2 rfl) ?_
      refine lv_iconst (v := (0 : Int32)) hx hb dX2_nextSignOf_14 kc_0 ?_
      refine lv_iload_n hx hb dX2_nextSignOf_15 rfl (lv_at hl 1 rfl) ?_
      obtain ⟨q5, e6, hf⟩ := ob hf
      refine mcV (As := [.int a3, .int (0 : Int32), .int a2]) (rest := []) C hI (c_X2_isMarkOf l E h_a0 e6) ml_X2_69 kv_X2_isMarkOf (m_recv C hI h_a0.1 (ce_200 E _ _ _) rfl) rfl rfl ⟨Nat.le_of_ble_eq_true rfl, Nat.le_of_ble_eq_true rfl⟩ ⟨Nat.zero_le _, Nat.zero_le _⟩ rfl rfl hl.1 (Nat.le_of_ble_eq_true rfl) dX2_nextSignOf_16 (st1 := [.int q5]) rfl (fun H locs hI => ?_)
      refine lv_if_ne (tgt := 32) hx hb dX2_nextSignOf_19 rfl (fun hc => ?_) (fun hc => ?_)
      · replace hf := ie hf hc
        refine lv_iload_n hx hb dX2_nextSignOf_32 rfl (lv_at hl 2 rfl) ?_
        obtain rfl := Option.some.inj hf
        exact m_iret C hr hlk hI dX2_nextSignOf_33
      · replace hf := it hf hc
        refine lv_aload_n hx hb dX2_nextSignOf_22 rfl (lv_at hl 0 rfl) ?_
        refine lv_iload_n hx hb dX2_nextSignOf_23 rfl (lv_at hl 2 rfl) ?_
        refine lv_iconst (v := (1 : Int32)) hx hb dX2_nextSignOf_24 kc_1 ?_
        refine lv_iload_n hx hb dX2_nextSignOf_25 rfl (lv_at hl 1 rfl) ?_
        obtain ⟨q7, e8, hf⟩ := ob hf
        refine mcV (As := [.int a3, .int (1 : Int32), .int a2]) (rest := []) C hI (c_X2_isMarkOf l E h_a0 e8) ml_X2_69 kv_X2_isMarkOf (m_recv C hI h_a0.1 (ce_200 E _ _ _) rfl) rfl rfl ⟨Nat.le_of_ble_eq_true rfl, Nat.le_of_ble_eq_true rfl⟩ ⟨Nat.zero_le _, Nat.zero_le _⟩ rfl rfl hl.1 (Nat.le_of_ble_eq_true rfl) dX2_nextSignOf_26 (st1 := [.int q7]) rfl (fun H locs hI => ?_)
        refine lv_if_eq (tgt := 34) hx hb dX2_nextSignOf_29 rfl (fun hc => ?_) (fun hc => ?_)
        · replace hf := it hf hc
          refine lv_iinc (v := a3 + (1 : Int32)) hx hb dX2_nextSignOf_34 hl (k := 2) rfl (ki_1 _) (by decide) rfl (fun ls hl => ?_)
          have hl : lv_has ls 4 [(3, .int (a3 + (1 : Int32))), (0, .ref (ad E 200 a0)), (2, .int a2)] := hl
          refine lv_goto (tgt := 4) hx hb dX2_nextSignOf_37 rfl ?_
          exact ih _ _ _ h_a0 hf hI (lv_sub hl [1, 2, 0] rfl)
        · replace hf := ie hf hc
          refine lv_iload_n hx hb dX2_nextSignOf_32 rfl (lv_at hl 2 rfl) ?_
          obtain rfl := Option.some.inj hf
          exact m_iret C hr hlk hI dX2_nextSignOf_33
def f_X2_nextSignOf (F : Nat) (μ : Mm) (i0 : Nat) (p1 : Int32) (p2 : Int32) : Option Int32 :=
 f_X2_nextSignOf_b4 F μ F i0 p2 (p1 + (1 : Int32))
set_option maxHeartbeats 4000000 in
set_option maxRecDepth 100000 in
theorem c_X2_nextSignOf (l : Launch) (E : En) {F : Nat} {μ : Mm} {i0 : Nat} {p1 : Int32} {p2 : Int32} (h0 : l2 E i0) {z : Int32} (hf : f_X2_nextSignOf F μ i0 p1 p2 = some z) : Met l yX2_nextSignOf (wt yX2_nextSignOf cX2_nextSignOf 4 (some .int)) { frames := 3, cells := 0, slots := 0, locals := 65 } (Pm E [.ref (ad E 200 i0), .int p1, .int p2] μ) (Qm E (some (.int z)) μ) 0 0 (Ad E) := by
  unfold f_X2_nextSignOf at hf
  refine met_of (cc := cX2_nextSignOf) (nL := 4) (ret := (some .int)) (by decide) _ (Nat.le_of_ble_eq_true rfl) ?_
  intro p e s m below meth c C hr hlk hI ls hl
  have hx := C.1.1
  have hb := C.1.2.1
  have hl : lv_has ls 4 [(0, .ref (ad E 200 i0)), (1, .int p1), (2, .int p2)] := hl
  refine lv_iload_n hx hb dX2_nextSignOf_0 rfl (lv_at hl 1 rfl) ?_
  refine lv_iconst (v := (1 : Int32)) hx hb dX2_nextSignOf_1 kc_1 ?_
  refine lv_iadd hx hb dX2_nextSignOf_2 ?_
  refine lv_istore_n hx hb dX2_nextSignOf_3 rfl hl (by decide) rfl (fun ls hl => ?_)
  have hl : lv_has ls 4 [(3, .int (p1 + (1 : Int32))), (0, .ref (ad E 200 i0)), (1, .int p1), (2, .int p2)] := hl
  exact cb_X2_nextSignOf_4 C hr hlk  _ _ _ _ h0 hf hI (lv_sub hl [1, 3, 0] rfl)

theorem dX2_empty_0 : decode cX2_empty 0 = .ok (.aload_n 0, 1) := by decide +kernel
theorem dX2_empty_1 : decode cX2_empty 1 = .ok (.iconst 0, 1) := by decide +kernel
theorem dX2_empty_2 : decode cX2_empty 2 = .ok (.putfield 31, 3) := by decide +kernel
theorem dX2_empty_5 : decode cX2_empty 5 = .ok (.aload_n 0, 1) := by decide +kernel
theorem dX2_empty_6 : decode cX2_empty 6 = .ok (.getfield 27, 3) := by decide +kernel
theorem dX2_empty_9 : decode cX2_empty 9 = .ok (.invokevirtual 35, 3) := by decide +kernel
theorem dX2_empty_12 : decode cX2_empty 12 = .ok (.return_, 1) := by decide +kernel
def f_X2_empty (μ : Mm) (i0 : Nat) : Option Mm :=
 (wf μ 200 i0 5 (0 : Int32)).bind fun m5 =>
 (f_X4_reset m5 i0).bind fun q7 =>
 some q7
set_option maxHeartbeats 4000000 in
set_option maxRecDepth 100000 in
theorem c_X2_empty (l : Launch) (E : En) {μ : Mm} {i0 : Nat} (h0 : l2 E i0) {z : Mm} (hf : f_X2_empty μ i0 = some z) : Met l yX2_empty (wt yX2_empty cX2_empty 1 (none : Option FieldType)) { frames := 2, cells := 0, slots := 0, locals := 43 } (Pm E [.ref (ad E 200 i0)] μ) (Qm E none z) 0 0 (Ad E) := by
  unfold f_X2_empty at hf
  refine met_of (cc := cX2_empty) (nL := 1) (ret := (none : Option FieldType)) (by decide) _ (Nat.le_of_ble_eq_true rfl) ?_
  intro p e s m below meth c C hr hlk hI ls hl
  have hx := C.1.1
  have hb := C.1.2.1
  have hl : lv_has ls 1 [(0, .ref (ad E 200 i0))] := hl
  refine lv_aload_n hx hb dX2_empty_0 rfl (lv_at hl 0 rfl) ?_
  refine lv_iconst (v := (0 : Int32)) hx hb dX2_empty_1 kc_0 ?_
  obtain ⟨m5, e6, hf⟩ := ob hf
  refine pf_2_5 C hI h0.1 fl_X2_31 e6 dX2_empty_2 (fun H locs hI => ?_)
  refine lv_aload_n hx hb dX2_empty_5 rfl (lv_at hl 0 rfl) ?_
  refine gf_2_4 C hI h0.1 fl_X2_27 dX2_empty_6 ?_
  obtain ⟨q7, e8, hf⟩ := ob hf
  refine mcV (As := []) (rest := []) C hI (c_X4_reset l E h0.2.2.2.2.2 e8) ml_X2_35 kv_X4_reset (m_recv C hI h0.2.2.2.2.2.1 (ce_400 E _ _ _) rfl) rfl rfl ⟨Nat.le_of_ble_eq_true rfl, Nat.le_of_ble_eq_true rfl⟩ ⟨Nat.zero_le _, Nat.zero_le _⟩ rfl rfl hl.1 (Nat.le_of_ble_eq_true rfl) dX2_empty_9 (st1 := []) rfl (fun H locs hI => ?_)
  obtain rfl := Option.some.inj hf
  exact m_vret C hr hlk hI dX2_empty_12

theorem dX2_become_0 : decode cX2_become 0 = .ok (.aload_n 0, 1) := by decide +kernel
theorem dX2_become_1 : decode cX2_become 1 = .ok (.aload_n 1, 1) := by decide +kernel
theorem dX2_become_2 : decode cX2_become 2 = .ok (.getfield 31, 3) := by decide +kernel
theorem dX2_become_5 : decode cX2_become 5 = .ok (.putfield 31, 3) := by decide +kernel
theorem dX2_become_8 : decode cX2_become 8 = .ok (.aload_n 0, 1) := by decide +kernel
theorem dX2_become_9 : decode cX2_become 9 = .ok (.getfield 31, 3) := by decide +kernel
theorem dX2_become_12 : decode cX2_become 12 = .ok (.ifCond .le 81, 3) := by decide +kernel
theorem dX2_become_15 : decode cX2_become 15 = .ok (.aload_n 0, 1) := by decide +kernel
theorem dX2_become_16 : decode cX2_become 16 = .ok (.getfield 31, 3) := by decide +kernel
theorem dX2_become_19 : decode cX2_become 19 = .ok (.sipush 200, 3) := by decide +kernel
theorem dX2_become_22 : decode cX2_become 22 = .ok (.if_icmp .gt 71, 3) := by decide +kernel
theorem dX2_become_25 : decode cX2_become 25 = .ok (.aload_n 1, 1) := by decide +kernel
theorem dX2_become_26 : decode cX2_become 26 = .ok (.getfield 9, 3) := by decide +kernel
theorem dX2_become_29 : decode cX2_become 29 = .ok (.iconst 0, 1) := by decide +kernel
theorem dX2_become_30 : decode cX2_become 30 = .ok (.aload_n 0, 1) := by decide +kernel
theorem dX2_become_31 : decode cX2_become 31 = .ok (.getfield 9, 3) := by decide +kernel
theorem dX2_become_34 : decode cX2_become 34 = .ok (.iconst 0, 1) := by decide +kernel
theorem dX2_become_35 : decode cX2_become 35 = .ok (.aload_n 0, 1) := by decide +kernel
theorem dX2_become_36 : decode cX2_become 36 = .ok (.getfield 31, 3) := by decide +kernel
theorem dX2_become_39 : decode cX2_become 39 = .ok (.invokestatic 38, 3) := by decide +kernel
theorem dX2_become_42 : decode cX2_become 42 = .ok (.aload_n 1, 1) := by decide +kernel
theorem dX2_become_43 : decode cX2_become 43 = .ok (.getfield 15, 3) := by decide +kernel
theorem dX2_become_46 : decode cX2_become 46 = .ok (.iconst 0, 1) := by decide +kernel
theorem dX2_become_47 : decode cX2_become 47 = .ok (.aload_n 0, 1) := by decide +kernel
theorem dX2_become_48 : decode cX2_become 48 = .ok (.getfield 15, 3) := by decide +kernel
theorem dX2_become_51 : decode cX2_become 51 = .ok (.iconst 0, 1) := by decide +kernel
theorem dX2_become_52 : decode cX2_become 52 = .ok (.aload_n 0, 1) := by decide +kernel
theorem dX2_become_53 : decode cX2_become 53 = .ok (.getfield 31, 3) := by decide +kernel
theorem dX2_become_56 : decode cX2_become 56 = .ok (.invokestatic 38, 3) := by decide +kernel
theorem dX2_become_59 : decode cX2_become 59 = .ok (.aload_n 1, 1) := by decide +kernel
theorem dX2_become_60 : decode cX2_become 60 = .ok (.getfield 18, 3) := by decide +kernel
theorem dX2_become_63 : decode cX2_become 63 = .ok (.iconst 0, 1) := by decide +kernel
theorem dX2_become_64 : decode cX2_become 64 = .ok (.aload_n 0, 1) := by decide +kernel
theorem dX2_become_65 : decode cX2_become 65 = .ok (.getfield 18, 3) := by decide +kernel
theorem dX2_become_68 : decode cX2_become 68 = .ok (.iconst 0, 1) := by decide +kernel
theorem dX2_become_69 : decode cX2_become 69 = .ok (.aload_n 0, 1) := by decide +kernel
theorem dX2_become_70 : decode cX2_become 70 = .ok (.getfield 31, 3) := by decide +kernel
theorem dX2_become_73 : decode cX2_become 73 = .ok (.invokestatic 38, 3) := by decide +kernel
theorem dX2_become_76 : decode cX2_become 76 = .ok (.aload_n 1, 1) := by decide +kernel
theorem dX2_become_77 : decode cX2_become 77 = .ok (.getfield 21, 3) := by decide +kernel
theorem dX2_become_80 : decode cX2_become 80 = .ok (.iconst 0, 1) := by decide +kernel
theorem dX2_become_81 : decode cX2_become 81 = .ok (.aload_n 0, 1) := by decide +kernel
theorem dX2_become_82 : decode cX2_become 82 = .ok (.getfield 21, 3) := by decide +kernel
theorem dX2_become_85 : decode cX2_become 85 = .ok (.iconst 0, 1) := by decide +kernel
theorem dX2_become_86 : decode cX2_become 86 = .ok (.aload_n 0, 1) := by decide +kernel
theorem dX2_become_87 : decode cX2_become 87 = .ok (.getfield 31, 3) := by decide +kernel
theorem dX2_become_90 : decode cX2_become 90 = .ok (.invokestatic 38, 3) := by decide +kernel
theorem dX2_become_93 : decode cX2_become 93 = .ok (.aload_n 0, 1) := by decide +kernel
theorem dX2_become_94 : decode cX2_become 94 = .ok (.getfield 27, 3) := by decide +kernel
theorem dX2_become_97 : decode cX2_become 97 = .ok (.aload_n 1, 1) := by decide +kernel
theorem dX2_become_98 : decode cX2_become 98 = .ok (.getfield 27, 3) := by decide +kernel
theorem dX2_become_101 : decode cX2_become 101 = .ok (.invokevirtual 44, 3) := by decide +kernel
theorem dX2_become_104 : decode cX2_become 104 = .ok (.return_, 1) := by decide +kernel
def f_X2_become_b93 (μ : Mm) (a0 : Nat) (a1 : Nat) : Option Mm :=
 (f_X4_become μ a0 a1).bind fun q13 =>
 some q13
set_option maxHeartbeats 4000000 in
set_option maxRecDepth 100000 in
theorem cb_X2_become_93 {l : Launch} {E : En} {p : Program} {e : Env} {s : State} {m : MethodId} {av : Array Value} {below : List Frame} {meth : Method} {c : Code} (C : Cx E p s m av c cX2_become 2 yX2_become.cls) (hr : meth.sig.returnType = (none : Option FieldType)) (hlk : meth.locks = false) {z : Mm} : ∀ (μ : Mm) (a0 : Nat) (a1 : Nat) (h_a0 : l2 E a0) (h_a1 : l2 E a1), f_X2_become_b93 μ a0 a1 = some z → ∀ {H : Heap} {locs : List Loc} {ls : Array Slot}, Iv E s μ H locs → lv_has ls 2 [(0, .ref (ad E 200 a0)), (1, .ref (ad E 200 a1))] → W p l e { frames := 2, cells := 0, slots := 0, locals := 61 } s m av below meth c H locs 0 0 (MQ below (Qm E none z) av s 0 0 (Ad E)) (F0 m 93 ls []) := by
  have hx := C.1.1
  have hb := C.1.2.1
  intro μ a0 a1 h_a0 h_a1 hf H locs ls hI hl
  unfold f_X2_become_b93 at hf
  refine lv_aload_n hx hb dX2_become_93 rfl (lv_at hl 0 rfl) ?_
  refine gf_2_4 C hI h_a0.1 fl_X2_27 dX2_become_94 ?_
  refine lv_aload_n hx hb dX2_become_97 rfl (lv_at hl 1 rfl) ?_
  refine gf_2_4 C hI h_a1.1 fl_X2_27 dX2_become_98 ?_
  obtain ⟨q13, e14, hf⟩ := ob hf
  refine mcV (As := [.ref (ad E 400 a1)]) (rest := []) C hI (c_X4_become l E h_a0.2.2.2.2.2 h_a1.2.2.2.2.2 e14) ml_X2_44 kv_X4_become (m_recv C hI h_a0.2.2.2.2.2.1 (ce_400 E _ _ _) rfl) rfl rfl ⟨Nat.le_of_ble_eq_true rfl, Nat.le_of_ble_eq_true rfl⟩ ⟨Nat.zero_le _, Nat.zero_le _⟩ rfl rfl hl.1 (Nat.le_of_ble_eq_true rfl) dX2_become_101 (st1 := []) rfl (fun H locs hI => ?_)
  obtain rfl := Option.some.inj hf
  exact m_vret C hr hlk hI dX2_become_104
def f_X2_become (μ : Mm) (i0 : Nat) (n1 : Nat) : Option Mm :=
 (wf μ 200 i0 5 (μ.1 200 n1 5)).bind fun m15 =>
 if (m15.1 200 i0 5) ≤ 0 then
 f_X2_become_b93 m15 i0 n1
 else
 if (200 : Int32) < (m15.1 200 i0 5) then
 f_X2_become_b93 m15 i0 n1
 else
 (cpI m15 201 n1 200 201 i0 200 (0 : Int32) (0 : Int32) (m15.1 200 i0 5)).bind fun m17 =>
 (cpI m17 202 n1 200 202 i0 200 (0 : Int32) (0 : Int32) (m17.1 200 i0 5)).bind fun m19 =>
 (cpI m19 203 n1 200 203 i0 200 (0 : Int32) (0 : Int32) (m19.1 200 i0 5)).bind fun m21 =>
 (cpI m21 204 n1 200 204 i0 200 (0 : Int32) (0 : Int32) (m21.1 200 i0 5)).bind fun m23 =>
 f_X2_become_b93 m23 i0 n1
set_option maxHeartbeats 4000000 in
set_option maxRecDepth 100000 in
theorem c_X2_become (l : Launch) (E : En) {μ : Mm} {i0 : Nat} {n1 : Nat} (h0 : l2 E i0) (h1 : l2 E n1) {z : Mm} (hf : f_X2_become μ i0 n1 = some z) : Met l yX2_become (wt yX2_become cX2_become 2 (none : Option FieldType)) { frames := 2, cells := 0, slots := 0, locals := 61 } (Pm E [.ref (ad E 200 i0), .ref (ad E 200 n1)] μ) (Qm E none z) 0 0 (Ad E) := by
  unfold f_X2_become at hf
  refine met_of (cc := cX2_become) (nL := 2) (ret := (none : Option FieldType)) (by decide) _ (Nat.le_of_ble_eq_true rfl) ?_
  intro p e s m below meth c C hr hlk hI ls hl
  have hx := C.1.1
  have hb := C.1.2.1
  have hl : lv_has ls 2 [(0, .ref (ad E 200 i0)), (1, .ref (ad E 200 n1))] := hl
  refine lv_aload_n hx hb dX2_become_0 rfl (lv_at hl 0 rfl) ?_
  refine lv_aload_n hx hb dX2_become_1 rfl (lv_at hl 1 rfl) ?_
  refine gf_2_5 C hI h1.1 fl_X2_31 dX2_become_2 ?_
  obtain ⟨m15, e16, hf⟩ := ob hf
  refine pf_2_5 C hI h0.1 fl_X2_31 e16 dX2_become_5 (fun H locs hI => ?_)
  refine lv_aload_n hx hb dX2_become_8 rfl (lv_at hl 0 rfl) ?_
  refine gf_2_5 C hI h0.1 fl_X2_31 dX2_become_9 ?_
  refine lv_if_le (tgt := 93) hx hb dX2_become_12 rfl (fun hc => ?_) (fun hc => ?_)
  · replace hf := it hf hc
    exact cb_X2_become_93 C hr hlk  _ _ _ h0 h1 hf hI (lv_sub hl [0, 1] rfl)
  · replace hf := ie hf hc
    refine lv_aload_n hx hb dX2_become_15 rfl (lv_at hl 0 rfl) ?_
    refine gf_2_5 C hI h0.1 fl_X2_31 dX2_become_16 ?_
    refine lv_sipush (v := (200 : Int32)) hx hb dX2_become_19 ks_200 ?_
    refine lv_icmp_gt (tgt := 93) hx hb dX2_become_22 rfl (fun hc => ?_) (fun hc => ?_)
    · replace hf := it hf hc
      exact cb_X2_become_93 C hr hlk  _ _ _ h0 h1 hf hI (lv_sub hl [0, 1] rfl)
    · replace hf := ie hf hc
      refine lv_aload_n hx hb dX2_become_25 rfl (lv_at hl 1 rfl) ?_
      refine gf_2_0 C hI h1.1 fl_X2_9 dX2_become_26 ?_
      refine lv_iconst (v := (0 : Int32)) hx hb dX2_become_29 kc_0 ?_
      refine lv_aload_n hx hb dX2_become_30 rfl (lv_at hl 0 rfl) ?_
      refine gf_2_0 C hI h0.1 fl_X2_9 dX2_become_31 ?_
      refine lv_iconst (v := (0 : Int32)) hx hb dX2_become_34 kc_0 ?_
      refine lv_aload_n hx hb dX2_become_35 rfl (lv_at hl 0 rfl) ?_
      refine gf_2_5 C hI h0.1 fl_X2_31 dX2_become_36 ?_
      obtain ⟨m17, e18, hf⟩ := ob hf
      refine m_copyI C hI h1.2.1 h0.2.1 (ce_201 E _ _ _) (ce_201 E _) e18 acl_X2_38 hl.1 (Nat.le_of_ble_eq_true rfl) (Nat.le_of_ble_eq_true rfl) dX2_become_39 (fun H locs hI => ?_)
      refine lv_aload_n hx hb dX2_become_42 rfl (lv_at hl 1 rfl) ?_
      refine gf_2_1 C hI h1.1 fl_X2_15 dX2_become_43 ?_
      refine lv_iconst (v := (0 : Int32)) hx hb dX2_become_46 kc_0 ?_
      refine lv_aload_n hx hb dX2_become_47 rfl (lv_at hl 0 rfl) ?_
      refine gf_2_1 C hI h0.1 fl_X2_15 dX2_become_48 ?_
      refine lv_iconst (v := (0 : Int32)) hx hb dX2_become_51 kc_0 ?_
      refine lv_aload_n hx hb dX2_become_52 rfl (lv_at hl 0 rfl) ?_
      refine gf_2_5 C hI h0.1 fl_X2_31 dX2_become_53 ?_
      obtain ⟨m19, e20, hf⟩ := ob hf
      refine m_copyI C hI h1.2.2.1 h0.2.2.1 (ce_202 E _ _ _) (ce_202 E _) e20 acl_X2_38 hl.1 (Nat.le_of_ble_eq_true rfl) (Nat.le_of_ble_eq_true rfl) dX2_become_56 (fun H locs hI => ?_)
      refine lv_aload_n hx hb dX2_become_59 rfl (lv_at hl 1 rfl) ?_
      refine gf_2_2 C hI h1.1 fl_X2_18 dX2_become_60 ?_
      refine lv_iconst (v := (0 : Int32)) hx hb dX2_become_63 kc_0 ?_
      refine lv_aload_n hx hb dX2_become_64 rfl (lv_at hl 0 rfl) ?_
      refine gf_2_2 C hI h0.1 fl_X2_18 dX2_become_65 ?_
      refine lv_iconst (v := (0 : Int32)) hx hb dX2_become_68 kc_0 ?_
      refine lv_aload_n hx hb dX2_become_69 rfl (lv_at hl 0 rfl) ?_
      refine gf_2_5 C hI h0.1 fl_X2_31 dX2_become_70 ?_
      obtain ⟨m21, e22, hf⟩ := ob hf
      refine m_copyI C hI h1.2.2.2.1 h0.2.2.2.1 (ce_203 E _ _ _) (ce_203 E _) e22 acl_X2_38 hl.1 (Nat.le_of_ble_eq_true rfl) (Nat.le_of_ble_eq_true rfl) dX2_become_73 (fun H locs hI => ?_)
      refine lv_aload_n hx hb dX2_become_76 rfl (lv_at hl 1 rfl) ?_
      refine gf_2_3 C hI h1.1 fl_X2_21 dX2_become_77 ?_
      refine lv_iconst (v := (0 : Int32)) hx hb dX2_become_80 kc_0 ?_
      refine lv_aload_n hx hb dX2_become_81 rfl (lv_at hl 0 rfl) ?_
      refine gf_2_3 C hI h0.1 fl_X2_21 dX2_become_82 ?_
      refine lv_iconst (v := (0 : Int32)) hx hb dX2_become_85 kc_0 ?_
      refine lv_aload_n hx hb dX2_become_86 rfl (lv_at hl 0 rfl) ?_
      refine gf_2_5 C hI h0.1 fl_X2_31 dX2_become_87 ?_
      obtain ⟨m23, e24, hf⟩ := ob hf
      refine m_copyI C hI h1.2.2.2.2.1 h0.2.2.2.2.1 (ce_204 E _ _ _) (ce_204 E _) e24 acl_X2_38 hl.1 (Nat.le_of_ble_eq_true rfl) (Nat.le_of_ble_eq_true rfl) dX2_become_90 (fun H locs hI => ?_)
      exact cb_X2_become_93 C hr hlk  _ _ _ h0 h1 hf hI (lv_sub hl [0, 1] rfl)

theorem dX2_add_0 : decode cX2_add 0 = .ok (.aload_n 0, 1) := by decide +kernel
theorem dX2_add_1 : decode cX2_add 1 = .ok (.getfield 31, 3) := by decide +kernel
theorem dX2_add_4 : decode cX2_add 4 = .ok (.ifCond .lt 13, 3) := by decide +kernel
theorem dX2_add_7 : decode cX2_add 7 = .ok (.aload_n 0, 1) := by decide +kernel
theorem dX2_add_8 : decode cX2_add 8 = .ok (.getfield 31, 3) := by decide +kernel
theorem dX2_add_11 : decode cX2_add 11 = .ok (.sipush 200, 3) := by decide +kernel
theorem dX2_add_14 : decode cX2_add 14 = .ok (.if_icmp .lt 4, 3) := by decide +kernel
theorem dX2_add_17 : decode cX2_add 17 = .ok (.return_, 1) := by decide +kernel
theorem dX2_add_18 : decode cX2_add 18 = .ok (.aload_n 0, 1) := by decide +kernel
theorem dX2_add_19 : decode cX2_add 19 = .ok (.getfield 9, 3) := by decide +kernel
theorem dX2_add_22 : decode cX2_add 22 = .ok (.aload_n 0, 1) := by decide +kernel
theorem dX2_add_23 : decode cX2_add 23 = .ok (.getfield 31, 3) := by decide +kernel
theorem dX2_add_26 : decode cX2_add 26 = .ok (.iload_n 1, 1) := by decide +kernel
theorem dX2_add_27 : decode cX2_add 27 = .ok (.iastore, 1) := by decide +kernel
theorem dX2_add_28 : decode cX2_add 28 = .ok (.aload_n 0, 1) := by decide +kernel
theorem dX2_add_29 : decode cX2_add 29 = .ok (.getfield 15, 3) := by decide +kernel
theorem dX2_add_32 : decode cX2_add 32 = .ok (.aload_n 0, 1) := by decide +kernel
theorem dX2_add_33 : decode cX2_add 33 = .ok (.getfield 31, 3) := by decide +kernel
theorem dX2_add_36 : decode cX2_add 36 = .ok (.iload_n 2, 1) := by decide +kernel
theorem dX2_add_37 : decode cX2_add 37 = .ok (.iastore, 1) := by decide +kernel
theorem dX2_add_38 : decode cX2_add 38 = .ok (.aload_n 0, 1) := by decide +kernel
theorem dX2_add_39 : decode cX2_add 39 = .ok (.getfield 18, 3) := by decide +kernel
theorem dX2_add_42 : decode cX2_add 42 = .ok (.aload_n 0, 1) := by decide +kernel
theorem dX2_add_43 : decode cX2_add 43 = .ok (.getfield 31, 3) := by decide +kernel
theorem dX2_add_46 : decode cX2_add 46 = .ok (.iload_n 3, 1) := by decide +kernel
theorem dX2_add_47 : decode cX2_add 47 = .ok (.iastore, 1) := by decide +kernel
theorem dX2_add_48 : decode cX2_add 48 = .ok (.aload_n 0, 1) := by decide +kernel
theorem dX2_add_49 : decode cX2_add 49 = .ok (.getfield 21, 3) := by decide +kernel
theorem dX2_add_52 : decode cX2_add 52 = .ok (.aload_n 0, 1) := by decide +kernel
theorem dX2_add_53 : decode cX2_add 53 = .ok (.getfield 31, 3) := by decide +kernel
theorem dX2_add_56 : decode cX2_add 56 = .ok (.iload 4, 2) := by decide +kernel
theorem dX2_add_58 : decode cX2_add 58 = .ok (.iastore, 1) := by decide +kernel
theorem dX2_add_59 : decode cX2_add 59 = .ok (.aload_n 0, 1) := by decide +kernel
theorem dX2_add_60 : decode cX2_add 60 = .ok (.dup, 1) := by decide +kernel
theorem dX2_add_61 : decode cX2_add 61 = .ok (.getfield 31, 3) := by decide +kernel
theorem dX2_add_64 : decode cX2_add 64 = .ok (.iconst 1, 1) := by decide +kernel
theorem dX2_add_65 : decode cX2_add 65 = .ok (.iadd, 1) := by decide +kernel
theorem dX2_add_66 : decode cX2_add 66 = .ok (.putfield 31, 3) := by decide +kernel
theorem dX2_add_69 : decode cX2_add 69 = .ok (.aload_n 0, 1) := by decide +kernel
theorem dX2_add_70 : decode cX2_add 70 = .ok (.getfield 27, 3) := by decide +kernel
theorem dX2_add_73 : decode cX2_add 73 = .ok (.iload_n 1, 1) := by decide +kernel
theorem dX2_add_74 : decode cX2_add 74 = .ok (.iload_n 2, 1) := by decide +kernel
theorem dX2_add_75 : decode cX2_add 75 = .ok (.iload_n 3, 1) := by decide +kernel
theorem dX2_add_76 : decode cX2_add 76 = .ok (.invokevirtual 48, 3) := by decide +kernel
theorem dX2_add_79 : decode cX2_add 79 = .ok (.return_, 1) := by decide +kernel
def f_X2_add (μ : Mm) (i0 : Nat) (p1 : Int32) (p2 : Int32) (p3 : Int32) (p4 : Int32) : Option Mm :=
 if (μ.1 200 i0 5) < 0 then
 some μ
 else
 if (μ.1 200 i0 5) < (200 : Int32) then
 (wa μ 201 i0 200 (μ.1 200 i0 5) p1).bind fun m13 =>
 (wa m13 202 i0 200 (m13.1 200 i0 5) p2).bind fun m15 =>
 (wa m15 203 i0 200 (m15.1 200 i0 5) p3).bind fun m17 =>
 (wa m17 204 i0 200 (m17.1 200 i0 5) p4).bind fun m19 =>
 (wf m19 200 i0 5 ((m19.1 200 i0 5) + (1 : Int32))).bind fun m21 =>
 (f_X4_apply m21 i0 p1 p2 p3).bind fun q23 =>
 some q23
 else
 some μ
set_option maxHeartbeats 4000000 in
set_option maxRecDepth 100000 in
theorem c_X2_add (l : Launch) (E : En) {μ : Mm} {i0 : Nat} {p1 : Int32} {p2 : Int32} {p3 : Int32} {p4 : Int32} (h0 : l2 E i0) {z : Mm} (hf : f_X2_add μ i0 p1 p2 p3 p4 = some z) : Met l yX2_add (wt yX2_add cX2_add 5 (none : Option FieldType)) { frames := 3, cells := 0, slots := 0, locals := 67 } (Pm E [.ref (ad E 200 i0), .int p1, .int p2, .int p3, .int p4] μ) (Qm E none z) 0 0 (Ad E) := by
  unfold f_X2_add at hf
  refine met_of (cc := cX2_add) (nL := 5) (ret := (none : Option FieldType)) (by decide) _ (Nat.le_of_ble_eq_true rfl) ?_
  intro p e s m below meth c C hr hlk hI ls hl
  have hx := C.1.1
  have hb := C.1.2.1
  have hl : lv_has ls 5 [(0, .ref (ad E 200 i0)), (1, .int p1), (2, .int p2), (3, .int p3), (4, .int p4)] := hl
  refine lv_aload_n hx hb dX2_add_0 rfl (lv_at hl 0 rfl) ?_
  refine gf_2_5 C hI h0.1 fl_X2_31 dX2_add_1 ?_
  refine lv_if_lt (tgt := 17) hx hb dX2_add_4 rfl (fun hc => ?_) (fun hc => ?_)
  · replace hf := it hf hc
    obtain rfl := Option.some.inj hf
    exact m_vret C hr hlk hI dX2_add_17
  · replace hf := ie hf hc
    refine lv_aload_n hx hb dX2_add_7 rfl (lv_at hl 0 rfl) ?_
    refine gf_2_5 C hI h0.1 fl_X2_31 dX2_add_8 ?_
    refine lv_sipush (v := (200 : Int32)) hx hb dX2_add_11 ks_200 ?_
    refine lv_icmp_lt (tgt := 18) hx hb dX2_add_14 rfl (fun hc => ?_) (fun hc => ?_)
    · replace hf := it hf hc
      refine lv_aload_n hx hb dX2_add_18 rfl (lv_at hl 0 rfl) ?_
      refine gf_2_0 C hI h0.1 fl_X2_9 dX2_add_19 ?_
      refine lv_aload_n hx hb dX2_add_22 rfl (lv_at hl 0 rfl) ?_
      refine gf_2_5 C hI h0.1 fl_X2_31 dX2_add_23 ?_
      refine lv_iload_n hx hb dX2_add_26 rfl (lv_at hl 1 rfl) ?_
      obtain ⟨m13, e14, hf⟩ := ob hf
      refine m_iast C hI h0.2.1 (ce_201 E _) e14 dX2_add_27 (fun H locs hI => ?_)
      refine lv_aload_n hx hb dX2_add_28 rfl (lv_at hl 0 rfl) ?_
      refine gf_2_1 C hI h0.1 fl_X2_15 dX2_add_29 ?_
      refine lv_aload_n hx hb dX2_add_32 rfl (lv_at hl 0 rfl) ?_
      refine gf_2_5 C hI h0.1 fl_X2_31 dX2_add_33 ?_
      refine lv_iload_n hx hb dX2_add_36 rfl (lv_at hl 2 rfl) ?_
      obtain ⟨m15, e16, hf⟩ := ob hf
      refine m_iast C hI h0.2.2.1 (ce_202 E _) e16 dX2_add_37 (fun H locs hI => ?_)
      refine lv_aload_n hx hb dX2_add_38 rfl (lv_at hl 0 rfl) ?_
      refine gf_2_2 C hI h0.1 fl_X2_18 dX2_add_39 ?_
      refine lv_aload_n hx hb dX2_add_42 rfl (lv_at hl 0 rfl) ?_
      refine gf_2_5 C hI h0.1 fl_X2_31 dX2_add_43 ?_
      refine lv_iload_n hx hb dX2_add_46 rfl (lv_at hl 3 rfl) ?_
      obtain ⟨m17, e18, hf⟩ := ob hf
      refine m_iast C hI h0.2.2.2.1 (ce_203 E _) e18 dX2_add_47 (fun H locs hI => ?_)
      refine lv_aload_n hx hb dX2_add_48 rfl (lv_at hl 0 rfl) ?_
      refine gf_2_3 C hI h0.1 fl_X2_21 dX2_add_49 ?_
      refine lv_aload_n hx hb dX2_add_52 rfl (lv_at hl 0 rfl) ?_
      refine gf_2_5 C hI h0.1 fl_X2_31 dX2_add_53 ?_
      refine lv_iload hx hb dX2_add_56 (lv_at hl 4 rfl) ?_
      obtain ⟨m19, e20, hf⟩ := ob hf
      refine m_iast C hI h0.2.2.2.2.1 (ce_204 E _) e20 dX2_add_58 (fun H locs hI => ?_)
      refine lv_aload_n hx hb dX2_add_59 rfl (lv_at hl 0 rfl) ?_
      refine lv_dup hx hb dX2_add_60 rfl ?_
      refine gf_2_5 C hI h0.1 fl_X2_31 dX2_add_61 ?_
      refine lv_iconst (v := (1 : Int32)) hx hb dX2_add_64 kc_1 ?_
      refine lv_iadd hx hb dX2_add_65 ?_
      obtain ⟨m21, e22, hf⟩ := ob hf
      refine pf_2_5 C hI h0.1 fl_X2_31 e22 dX2_add_66 (fun H locs hI => ?_)
      refine lv_aload_n hx hb dX2_add_69 rfl (lv_at hl 0 rfl) ?_
      refine gf_2_4 C hI h0.1 fl_X2_27 dX2_add_70 ?_
      refine lv_iload_n hx hb dX2_add_73 rfl (lv_at hl 1 rfl) ?_
      refine lv_iload_n hx hb dX2_add_74 rfl (lv_at hl 2 rfl) ?_
      refine lv_iload_n hx hb dX2_add_75 rfl (lv_at hl 3 rfl) ?_
      obtain ⟨q23, e24, hf⟩ := ob hf
      refine mcV (As := [.int p1, .int p2, .int p3]) (rest := []) C hI (c_X4_apply l E h0.2.2.2.2.2 e24) ml_X2_48 kv_X4_apply (m_recv C hI h0.2.2.2.2.2.1 (ce_400 E _ _ _) rfl) rfl rfl ⟨Nat.le_of_ble_eq_true rfl, Nat.le_of_ble_eq_true rfl⟩ ⟨Nat.zero_le _, Nat.zero_le _⟩ rfl rfl hl.1 (Nat.le_of_ble_eq_true rfl) dX2_add_76 (st1 := []) rfl (fun H locs hI => ?_)
      obtain rfl := Option.some.inj hf
      exact m_vret C hr hlk hI dX2_add_79
    · replace hf := ie hf hc
      obtain rfl := Option.some.inj hf
      exact m_vret C hr hlk hI dX2_add_17
