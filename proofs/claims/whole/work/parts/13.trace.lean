theorem dX7_hasProcessor_0 : decode cX7_hasProcessor 0 = .ok (.iload_n 1, 1) := by decide +kernel
theorem dX7_hasProcessor_1 : decode cX7_hasProcessor 1 = .ok (.ifCond .lt 20, 3) := by decide +kernel
theorem dX7_hasProcessor_4 : decode cX7_hasProcessor 4 = .ok (.iload_n 1, 1) := by decide +kernel
theorem dX7_hasProcessor_5 : decode cX7_hasProcessor 5 = .ok (.aload_n 0, 1) := by decide +kernel
theorem dX7_hasProcessor_6 : decode cX7_hasProcessor 6 = .ok (.getfield 27, 3) := by decide +kernel
theorem dX7_hasProcessor_9 : decode cX7_hasProcessor 9 = .ok (.if_icmp .ge 12, 3) := by decide +kernel
theorem dX7_hasProcessor_12 : decode cX7_hasProcessor 12 = .ok (.iload_n 1, 1) := by decide +kernel
theorem dX7_hasProcessor_13 : decode cX7_hasProcessor 13 = .ok (.iconst 3, 1) := by decide +kernel
theorem dX7_hasProcessor_14 : decode cX7_hasProcessor 14 = .ok (.if_icmp .ge 7, 3) := by decide +kernel
theorem dX7_hasProcessor_17 : decode cX7_hasProcessor 17 = .ok (.iconst 1, 1) := by decide +kernel
theorem dX7_hasProcessor_18 : decode cX7_hasProcessor 18 = .ok (.goto 4, 3) := by decide +kernel
theorem dX7_hasProcessor_21 : decode cX7_hasProcessor 21 = .ok (.iconst 0, 1) := by decide +kernel
theorem dX7_hasProcessor_22 : decode cX7_hasProcessor 22 = .ok (.ireturn, 1) := by decide +kernel
def f_X7_hasProcessor (μ : Mm) (i0 : Nat) (p1 : Int32) : Option Int32 :=
 if p1 < 0 then
 some (0 : Int32)
 else
 if (μ.1 700 i0 4) ≤ p1 then
 some (0 : Int32)
 else
 if (3 : Int32) ≤ p1 then
 some (0 : Int32)
 else
 some (1 : Int32)
set_option maxHeartbeats 4000000 in
set_option maxRecDepth 100000 in
theorem c_X7_hasProcessor (l : Launch) (E : En) {μ : Mm} {i0 : Nat} {p1 : Int32} (h0 : l7 E i0) {z : Int32} (hf : f_X7_hasProcessor μ i0 p1 = some z) : Met l yX7_hasProcessor (wt yX7_hasProcessor cX7_hasProcessor 2 (some .boolean)) { frames := 0, cells := 0, slots := 0, locals := 0 } (Pm E [.ref (ad E 700 i0), .int p1] μ) (Qm E (some (.int z)) μ) 0 0 (Ad E) := by
  unfold f_X7_hasProcessor at hf
  refine met_of (cc := cX7_hasProcessor) (nL := 2) (ret := (some .boolean)) (by decide) _ (Nat.le_of_ble_eq_true rfl) ?_
  intro p e s m below meth c C hr hlk hI ls hl
  have hx := C.1.1
  have hb := C.1.2.1
  have hl : lv_has ls 2 [(0, .ref (ad E 700 i0)), (1, .int p1)] := hl
  refine lv_iload_n hx hb dX7_hasProcessor_0 rfl (lv_at hl 1 rfl) ?_
  refine lv_if_lt (tgt := 21) hx hb dX7_hasProcessor_1 rfl (fun hc => ?_) (fun hc => ?_)
  · replace hf := it hf hc
    refine lv_iconst (v := (0 : Int32)) hx hb dX7_hasProcessor_21 kc_0 ?_
    obtain rfl := Option.some.inj hf
    exact m_zret C hr hlk hI (by decide) dX7_hasProcessor_22
  · replace hf := ie hf hc
    refine lv_iload_n hx hb dX7_hasProcessor_4 rfl (lv_at hl 1 rfl) ?_
    refine lv_aload_n hx hb dX7_hasProcessor_5 rfl (lv_at hl 0 rfl) ?_
    refine gf_7_4 C hI h0.1 fl_X7_27 dX7_hasProcessor_6 ?_
    refine lv_icmp_ge (tgt := 21) hx hb dX7_hasProcessor_9 rfl (fun hc => ?_) (fun hc => ?_)
    · replace hf := it hf hc
      refine lv_iconst (v := (0 : Int32)) hx hb dX7_hasProcessor_21 kc_0 ?_
      obtain rfl := Option.some.inj hf
      exact m_zret C hr hlk hI (by decide) dX7_hasProcessor_22
    · replace hf := ie hf hc
      refine lv_iload_n hx hb dX7_hasProcessor_12 rfl (lv_at hl 1 rfl) ?_
      refine lv_iconst (v := (3 : Int32)) hx hb dX7_hasProcessor_13 kc_3 ?_
      refine lv_icmp_ge (tgt := 21) hx hb dX7_hasProcessor_14 rfl (fun hc => ?_) (fun hc => ?_)
      · replace hf := it hf hc
        refine lv_iconst (v := (0 : Int32)) hx hb dX7_hasProcessor_21 kc_0 ?_
        obtain rfl := Option.some.inj hf
        exact m_zret C hr hlk hI (by decide) dX7_hasProcessor_22
      · replace hf := ie hf hc
        refine lv_iconst (v := (1 : Int32)) hx hb dX7_hasProcessor_17 kc_1 ?_
        refine lv_goto (tgt := 22) hx hb dX7_hasProcessor_18 rfl ?_
        obtain rfl := Option.some.inj hf
        exact m_zret C hr hlk hI (by decide) dX7_hasProcessor_22

theorem dX7_hasTask_0 : decode cX7_hasTask 0 = .ok (.iload_n 1, 1) := by decide +kernel
theorem dX7_hasTask_1 : decode cX7_hasTask 1 = .ok (.ifCond .lt 21, 3) := by decide +kernel
theorem dX7_hasTask_4 : decode cX7_hasTask 4 = .ok (.iload_n 1, 1) := by decide +kernel
theorem dX7_hasTask_5 : decode cX7_hasTask 5 = .ok (.aload_n 0, 1) := by decide +kernel
theorem dX7_hasTask_6 : decode cX7_hasTask 6 = .ok (.getfield 31, 3) := by decide +kernel
theorem dX7_hasTask_9 : decode cX7_hasTask 9 = .ok (.if_icmp .ge 13, 3) := by decide +kernel
theorem dX7_hasTask_12 : decode cX7_hasTask 12 = .ok (.iload_n 1, 1) := by decide +kernel
theorem dX7_hasTask_13 : decode cX7_hasTask 13 = .ok (.bipush 8, 2) := by decide +kernel
theorem dX7_hasTask_15 : decode cX7_hasTask 15 = .ok (.if_icmp .ge 7, 3) := by decide +kernel
theorem dX7_hasTask_18 : decode cX7_hasTask 18 = .ok (.iconst 1, 1) := by decide +kernel
theorem dX7_hasTask_19 : decode cX7_hasTask 19 = .ok (.goto 4, 3) := by decide +kernel
theorem dX7_hasTask_22 : decode cX7_hasTask 22 = .ok (.iconst 0, 1) := by decide +kernel
theorem dX7_hasTask_23 : decode cX7_hasTask 23 = .ok (.ireturn, 1) := by decide +kernel
def f_X7_hasTask (μ : Mm) (i0 : Nat) (p1 : Int32) : Option Int32 :=
 if p1 < 0 then
 some (0 : Int32)
 else
 if (μ.1 700 i0 5) ≤ p1 then
 some (0 : Int32)
 else
 if (8 : Int32) ≤ p1 then
 some (0 : Int32)
 else
 some (1 : Int32)
set_option maxHeartbeats 4000000 in
set_option maxRecDepth 100000 in
theorem c_X7_hasTask (l : Launch) (E : En) {μ : Mm} {i0 : Nat} {p1 : Int32} (h0 : l7 E i0) {z : Int32} (hf : f_X7_hasTask μ i0 p1 = some z) : Met l yX7_hasTask (wt yX7_hasTask cX7_hasTask 2 (some .boolean)) { frames := 0, cells := 0, slots := 0, locals := 0 } (Pm E [.ref (ad E 700 i0), .int p1] μ) (Qm E (some (.int z)) μ) 0 0 (Ad E) := by
  unfold f_X7_hasTask at hf
  refine met_of (cc := cX7_hasTask) (nL := 2) (ret := (some .boolean)) (by decide) _ (Nat.le_of_ble_eq_true rfl) ?_
  intro p e s m below meth c C hr hlk hI ls hl
  have hx := C.1.1
  have hb := C.1.2.1
  have hl : lv_has ls 2 [(0, .ref (ad E 700 i0)), (1, .int p1)] := hl
  refine lv_iload_n hx hb dX7_hasTask_0 rfl (lv_at hl 1 rfl) ?_
  refine lv_if_lt (tgt := 22) hx hb dX7_hasTask_1 rfl (fun hc => ?_) (fun hc => ?_)
  · replace hf := it hf hc
    refine lv_iconst (v := (0 : Int32)) hx hb dX7_hasTask_22 kc_0 ?_
    obtain rfl := Option.some.inj hf
    exact m_zret C hr hlk hI (by decide) dX7_hasTask_23
  · replace hf := ie hf hc
    refine lv_iload_n hx hb dX7_hasTask_4 rfl (lv_at hl 1 rfl) ?_
    refine lv_aload_n hx hb dX7_hasTask_5 rfl (lv_at hl 0 rfl) ?_
    refine gf_7_5 C hI h0.1 fl_X7_31 dX7_hasTask_6 ?_
    refine lv_icmp_ge (tgt := 22) hx hb dX7_hasTask_9 rfl (fun hc => ?_) (fun hc => ?_)
    · replace hf := it hf hc
      refine lv_iconst (v := (0 : Int32)) hx hb dX7_hasTask_22 kc_0 ?_
      obtain rfl := Option.some.inj hf
      exact m_zret C hr hlk hI (by decide) dX7_hasTask_23
    · replace hf := ie hf hc
      refine lv_iload_n hx hb dX7_hasTask_12 rfl (lv_at hl 1 rfl) ?_
      refine lv_bipush (v := (8 : Int32)) hx hb dX7_hasTask_13 kb_8 ?_
      refine lv_icmp_ge (tgt := 22) hx hb dX7_hasTask_15 rfl (fun hc => ?_) (fun hc => ?_)
      · replace hf := it hf hc
        refine lv_iconst (v := (0 : Int32)) hx hb dX7_hasTask_22 kc_0 ?_
        obtain rfl := Option.some.inj hf
        exact m_zret C hr hlk hI (by decide) dX7_hasTask_23
      · replace hf := ie hf hc
        refine lv_iconst (v := (1 : Int32)) hx hb dX7_hasTask_18 kc_1 ?_
        refine lv_goto (tgt := 23) hx hb dX7_hasTask_19 rfl ?_
        obtain rfl := Option.some.inj hf
        exact m_zret C hr hlk hI (by decide) dX7_hasTask_23

theorem dX7_homeOf_0 : decode cX7_homeOf 0 = .ok (.iload_n 1, 1) := by decide +kernel
theorem dX7_homeOf_1 : decode cX7_homeOf 1 = .ok (.ifCond .lt 18, 3) := by decide +kernel
theorem dX7_homeOf_4 : decode cX7_homeOf 4 = .ok (.iload_n 1, 1) := by decide +kernel
theorem dX7_homeOf_5 : decode cX7_homeOf 5 = .ok (.bipush 8, 2) := by decide +kernel
theorem dX7_homeOf_7 : decode cX7_homeOf 7 = .ok (.if_icmp .ge 12, 3) := by decide +kernel
theorem dX7_homeOf_10 : decode cX7_homeOf 10 = .ok (.aload_n 0, 1) := by decide +kernel
theorem dX7_homeOf_11 : decode cX7_homeOf 11 = .ok (.getfield 9, 3) := by decide +kernel
theorem dX7_homeOf_14 : decode cX7_homeOf 14 = .ok (.iload_n 1, 1) := by decide +kernel
theorem dX7_homeOf_15 : decode cX7_homeOf 15 = .ok (.iaload, 1) := by decide +kernel
theorem dX7_homeOf_16 : decode cX7_homeOf 16 = .ok (.goto 4, 3) := by decide +kernel
theorem dX7_homeOf_19 : decode cX7_homeOf 19 = .ok (.iconst 0, 1) := by decide +kernel
theorem dX7_homeOf_20 : decode cX7_homeOf 20 = .ok (.ireturn, 1) := by decide +kernel
def f_X7_homeOf (μ : Mm) (i0 : Nat) (p1 : Int32) : Option Int32 :=
 if p1 < 0 then
 some (0 : Int32)
 else
 if (8 : Int32) ≤ p1 then
 some (0 : Int32)
 else
 (ra μ 701 i0 8 p1).bind fun v3 =>
 some v3
set_option maxHeartbeats 4000000 in
set_option maxRecDepth 100000 in
theorem c_X7_homeOf (l : Launch) (E : En) {μ : Mm} {i0 : Nat} {p1 : Int32} (h0 : l7 E i0) {z : Int32} (hf : f_X7_homeOf μ i0 p1 = some z) : Met l yX7_homeOf (wt yX7_homeOf cX7_homeOf 2 (some .int)) { frames := 0, cells := 0, slots := 0, locals := 0 } (Pm E [.ref (ad E 700 i0), .int p1] μ) (Qm E (some (.int z)) μ) 0 0 (Ad E) := by
  unfold f_X7_homeOf at hf
  refine met_of (cc := cX7_homeOf) (nL := 2) (ret := (some .int)) (by decide) _ (Nat.le_of_ble_eq_true rfl) ?_
  intro p e s m below meth c C hr hlk hI ls hl
  have hx := C.1.1
  have hb := C.1.2.1
  have hl : lv_has ls 2 [(0, .ref (ad E 700 i0)), (1, .int p1)] := hl
  refine lv_iload_n hx hb dX7_homeOf_0 rfl (lv_at hl 1 rfl) ?_
  refine lv_if_lt (tgt := 19) hx hb dX7_homeOf_1 rfl (fun hc => ?_) (fun hc => ?_)
  · replace hf := it hf hc
    refine lv_iconst (v := (0 : Int32)) hx hb dX7_homeOf_19 kc_0 ?_
    obtain rfl := Option.some.inj hf
    exact m_iret C hr hlk hI dX7_homeOf_20
  · replace hf := ie hf hc
    refine lv_iload_n hx hb dX7_homeOf_4 rfl (lv_at hl 1 rfl) ?_
    refine lv_bipush (v := (8 : Int32)) hx hb dX7_homeOf_5 kb_8 ?_
    refine lv_icmp_ge (tgt := 19) hx hb dX7_homeOf_7 rfl (fun hc => ?_) (fun hc => ?_)
    · replace hf := it hf hc
      refine lv_iconst (v := (0 : Int32)) hx hb dX7_homeOf_19 kc_0 ?_
      obtain rfl := Option.some.inj hf
      exact m_iret C hr hlk hI dX7_homeOf_20
    · replace hf := ie hf hc
      refine lv_aload_n hx hb dX7_homeOf_10 rfl (lv_at hl 0 rfl) ?_
      refine gf_7_0 C hI h0.1 fl_X7_9 dX7_homeOf_11 ?_
      refine lv_iload_n hx hb dX7_homeOf_14 rfl (lv_at hl 1 rfl) ?_
      obtain ⟨v3, e4, hf⟩ := ob hf
      refine m_iald C hI h0.2.1 (ce_701 E _ _ _) e4 dX7_homeOf_15 ?_
      refine lv_goto (tgt := 20) hx hb dX7_homeOf_16 rfl ?_
      obtain rfl := Option.some.inj hf
      exact m_iret C hr hlk hI dX7_homeOf_20

theorem dX7_rankOf_0 : decode cX7_rankOf 0 = .ok (.iload_n 1, 1) := by decide +kernel
theorem dX7_rankOf_1 : decode cX7_rankOf 1 = .ok (.ifCond .lt 18, 3) := by decide +kernel
theorem dX7_rankOf_4 : decode cX7_rankOf 4 = .ok (.iload_n 1, 1) := by decide +kernel
theorem dX7_rankOf_5 : decode cX7_rankOf 5 = .ok (.bipush 8, 2) := by decide +kernel
theorem dX7_rankOf_7 : decode cX7_rankOf 7 = .ok (.if_icmp .ge 12, 3) := by decide +kernel
theorem dX7_rankOf_10 : decode cX7_rankOf 10 = .ok (.aload_n 0, 1) := by decide +kernel
theorem dX7_rankOf_11 : decode cX7_rankOf 11 = .ok (.getfield 15, 3) := by decide +kernel
theorem dX7_rankOf_14 : decode cX7_rankOf 14 = .ok (.iload_n 1, 1) := by decide +kernel
theorem dX7_rankOf_15 : decode cX7_rankOf 15 = .ok (.iaload, 1) := by decide +kernel
theorem dX7_rankOf_16 : decode cX7_rankOf 16 = .ok (.goto 4, 3) := by decide +kernel
theorem dX7_rankOf_19 : decode cX7_rankOf 19 = .ok (.iconst 0, 1) := by decide +kernel
theorem dX7_rankOf_20 : decode cX7_rankOf 20 = .ok (.ireturn, 1) := by decide +kernel
def f_X7_rankOf (μ : Mm) (i0 : Nat) (p1 : Int32) : Option Int32 :=
 if p1 < 0 then
 some (0 : Int32)
 else
 if (8 : Int32) ≤ p1 then
 some (0 : Int32)
 else
 (ra μ 702 i0 8 p1).bind fun v3 =>
 some v3
set_option maxHeartbeats 4000000 in
set_option maxRecDepth 100000 in
theorem c_X7_rankOf (l : Launch) (E : En) {μ : Mm} {i0 : Nat} {p1 : Int32} (h0 : l7 E i0) {z : Int32} (hf : f_X7_rankOf μ i0 p1 = some z) : Met l yX7_rankOf (wt yX7_rankOf cX7_rankOf 2 (some .int)) { frames := 0, cells := 0, slots := 0, locals := 0 } (Pm E [.ref (ad E 700 i0), .int p1] μ) (Qm E (some (.int z)) μ) 0 0 (Ad E) := by
  unfold f_X7_rankOf at hf
  refine met_of (cc := cX7_rankOf) (nL := 2) (ret := (some .int)) (by decide) _ (Nat.le_of_ble_eq_true rfl) ?_
  intro p e s m below meth c C hr hlk hI ls hl
  have hx := C.1.1
  have hb := C.1.2.1
  have hl : lv_has ls 2 [(0, .ref (ad E 700 i0)), (1, .int p1)] := hl
  refine lv_iload_n hx hb dX7_rankOf_0 rfl (lv_at hl 1 rfl) ?_
  refine lv_if_lt (tgt := 19) hx hb dX7_rankOf_1 rfl (fun hc => ?_) (fun hc => ?_)
  · replace hf := it hf hc
    refine lv_iconst (v := (0 : Int32)) hx hb dX7_rankOf_19 kc_0 ?_
    obtain rfl := Option.some.inj hf
    exact m_iret C hr hlk hI dX7_rankOf_20
  · replace hf := ie hf hc
    refine lv_iload_n hx hb dX7_rankOf_4 rfl (lv_at hl 1 rfl) ?_
    refine lv_bipush (v := (8 : Int32)) hx hb dX7_rankOf_5 kb_8 ?_
    refine lv_icmp_ge (tgt := 19) hx hb dX7_rankOf_7 rfl (fun hc => ?_) (fun hc => ?_)
    · replace hf := it hf hc
      refine lv_iconst (v := (0 : Int32)) hx hb dX7_rankOf_19 kc_0 ?_
      obtain rfl := Option.some.inj hf
      exact m_iret C hr hlk hI dX7_rankOf_20
    · replace hf := ie hf hc
      refine lv_aload_n hx hb dX7_rankOf_10 rfl (lv_at hl 0 rfl) ?_
      refine gf_7_1 C hI h0.1 fl_X7_15 dX7_rankOf_11 ?_
      refine lv_iload_n hx hb dX7_rankOf_14 rfl (lv_at hl 1 rfl) ?_
      obtain ⟨v3, e4, hf⟩ := ob hf
      refine m_iald C hI h0.2.2.1 (ce_702 E _ _ _) e4 dX7_rankOf_15 ?_
      refine lv_goto (tgt := 20) hx hb dX7_rankOf_16 rfl ?_
      obtain rfl := Option.some.inj hf
      exact m_iret C hr hlk hI dX7_rankOf_20

theorem dX7_laneOf_0 : decode cX7_laneOf 0 = .ok (.aload_n 0, 1) := by decide +kernel
theorem dX7_laneOf_1 : decode cX7_laneOf 1 = .ok (.getfield 20, 3) := by decide +kernel
theorem dX7_laneOf_4 : decode cX7_laneOf 4 = .ok (.iload_n 1, 1) := by decide +kernel
theorem dX7_laneOf_5 : decode cX7_laneOf 5 = .ok (.ifCond .lt 12, 3) := by decide +kernel
theorem dX7_laneOf_8 : decode cX7_laneOf 8 = .ok (.iload_n 1, 1) := by decide +kernel
theorem dX7_laneOf_9 : decode cX7_laneOf 9 = .ok (.iconst 3, 1) := by decide +kernel
theorem dX7_laneOf_10 : decode cX7_laneOf 10 = .ok (.if_icmp .ge 7, 3) := by decide +kernel
theorem dX7_laneOf_13 : decode cX7_laneOf 13 = .ok (.iload_n 1, 1) := by decide +kernel
theorem dX7_laneOf_14 : decode cX7_laneOf 14 = .ok (.goto 4, 3) := by decide +kernel
theorem dX7_laneOf_17 : decode cX7_laneOf 17 = .ok (.iconst 0, 1) := by decide +kernel
theorem dX7_laneOf_18 : decode cX7_laneOf 18 = .ok (.aaload, 1) := by decide +kernel
theorem dX7_laneOf_19 : decode cX7_laneOf 19 = .ok (.areturn, 1) := by decide +kernel
def f_X7_laneOf (μ : Mm) (i0 : Nat) (p1 : Int32) : Option Nat :=
 if p1 < 0 then
 (rq 3 (0 : Int32)).bind fun j3 =>
 some (3 * i0 + j3)
 else
 if (3 : Int32) ≤ p1 then
 (rq 3 (0 : Int32)).bind fun j5 =>
 some (3 * i0 + j5)
 else
 (rq 3 p1).bind fun j7 =>
 some (3 * i0 + j7)
set_option maxHeartbeats 4000000 in
set_option maxRecDepth 100000 in
theorem c_X7_laneOf (l : Launch) (E : En) {μ : Mm} {i0 : Nat} {p1 : Int32} (h0 : l7 E i0) {z : Nat} (hf : f_X7_laneOf μ i0 p1 = some z) : Met l yX7_laneOf (wt yX7_laneOf cX7_laneOf 2 (some (.object "TaskTrace$Lane"))) { frames := 0, cells := 0, slots := 0, locals := 0 } (Pm E [.ref (ad E 700 i0), .int p1] μ) (Qm E (some (.ref (ad E 200 z))) μ) 0 0 (Ad E) := by
  unfold f_X7_laneOf at hf
  refine met_of (cc := cX7_laneOf) (nL := 2) (ret := (some (.object "TaskTrace$Lane"))) (by decide) _ (Nat.le_of_ble_eq_true rfl) ?_
  intro p e s m below meth c C hr hlk hI ls hl
  have hx := C.1.1
  have hb := C.1.2.1
  have hl : lv_has ls 2 [(0, .ref (ad E 700 i0)), (1, .int p1)] := hl
  refine lv_aload_n hx hb dX7_laneOf_0 rfl (lv_at hl 0 rfl) ?_
  refine gf_7_2 C hI h0.1 fl_X7_20 dX7_laneOf_1 ?_
  refine lv_iload_n hx hb dX7_laneOf_4 rfl (lv_at hl 1 rfl) ?_
  refine lv_if_lt (tgt := 17) hx hb dX7_laneOf_5 rfl (fun hc => ?_) (fun hc => ?_)
  · replace hf := it hf hc
    refine lv_iconst (v := (0 : Int32)) hx hb dX7_laneOf_17 kc_0 ?_
    obtain ⟨j3, e4, hf⟩ := ob hf
    refine m_aald (t0 := 3) (Cn := RX2) (fun _ => rfl) C hI h0.2.2.2.1 (ce_703 E _ _ _) e4 dX7_laneOf_18 ?_
    obtain rfl := Option.some.inj hf
    exact m_aret C hr hlk hI dX7_laneOf_19
  · replace hf := ie hf hc
    refine lv_iload_n hx hb dX7_laneOf_8 rfl (lv_at hl 1 rfl) ?_
    refine lv_iconst (v := (3 : Int32)) hx hb dX7_laneOf_9 kc_3 ?_
    refine lv_icmp_ge (tgt := 17) hx hb dX7_laneOf_10 rfl (fun hc => ?_) (fun hc => ?_)
    · replace hf := it hf hc
      refine lv_iconst (v := (0 : Int32)) hx hb dX7_laneOf_17 kc_0 ?_
      obtain ⟨j5, e6, hf⟩ := ob hf
      refine m_aald (t0 := 3) (Cn := RX2) (fun _ => rfl) C hI h0.2.2.2.1 (ce_703 E _ _ _) e6 dX7_laneOf_18 ?_
      obtain rfl := Option.some.inj hf
      exact m_aret C hr hlk hI dX7_laneOf_19
    · replace hf := ie hf hc
      refine lv_iload_n hx hb dX7_laneOf_13 rfl (lv_at hl 1 rfl) ?_
      refine lv_goto (tgt := 18) hx hb dX7_laneOf_14 rfl ?_
      obtain ⟨j7, e8, hf⟩ := ob hf
      refine m_aald (t0 := 3) (Cn := RX2) (fun _ => rfl) C hI h0.2.2.2.1 (ce_703 E _ _ _) e8 dX7_laneOf_18 ?_
      obtain rfl := Option.some.inj hf
      exact m_aret C hr hlk hI dX7_laneOf_19
theorem lr_X7_laneOf {E : En} {μ : Mm} {i0 : Nat} {p1 : Int32} {r : Nat} (h : l7 E i0) (e : f_X7_laneOf μ i0 p1 = some r) : l2 E r := by
  unfold f_X7_laneOf at e
  split at e
  · obtain ⟨j, e1, e⟩ := ob e
    obtain rfl := Option.some.inj e
    exact l7_lane h e1
  · split at e
    · obtain ⟨j, e1, e⟩ := ob e
      obtain rfl := Option.some.inj e
      exact l7_lane h e1
    · obtain ⟨j, e1, e⟩ := ob e
      obtain rfl := Option.some.inj e
      exact l7_lane h e1

theorem dX7_homeLane_0 : decode cX7_homeLane 0 = .ok (.aload_n 0, 1) := by decide +kernel
theorem dX7_homeLane_1 : decode cX7_homeLane 1 = .ok (.aload_n 0, 1) := by decide +kernel
theorem dX7_homeLane_2 : decode cX7_homeLane 2 = .ok (.iload_n 1, 1) := by decide +kernel
theorem dX7_homeLane_3 : decode cX7_homeLane 3 = .ok (.invokevirtual 57, 3) := by decide +kernel
theorem dX7_homeLane_6 : decode cX7_homeLane 6 = .ok (.invokevirtual 61, 3) := by decide +kernel
theorem dX7_homeLane_9 : decode cX7_homeLane 9 = .ok (.areturn, 1) := by decide +kernel
def f_X7_homeLane (μ : Mm) (i0 : Nat) (p1 : Int32) : Option Nat :=
 (f_X7_homeOf μ i0 p1).bind fun q5 =>
 (f_X7_laneOf μ i0 q5).bind fun q7 =>
 some q7
set_option maxHeartbeats 4000000 in
set_option maxRecDepth 100000 in
theorem c_X7_homeLane (l : Launch) (E : En) {μ : Mm} {i0 : Nat} {p1 : Int32} (h0 : l7 E i0) {z : Nat} (hf : f_X7_homeLane μ i0 p1 = some z) : Met l yX7_homeLane (wt yX7_homeLane cX7_homeLane 2 (some (.object "TaskTrace$Lane"))) { frames := 1, cells := 0, slots := 0, locals := 21 } (Pm E [.ref (ad E 700 i0), .int p1] μ) (Qm E (some (.ref (ad E 200 z))) μ) 0 0 (Ad E) := by
  unfold f_X7_homeLane at hf
  refine met_of (cc := cX7_homeLane) (nL := 2) (ret := (some (.object "TaskTrace$Lane"))) (by decide) _ (Nat.le_of_ble_eq_true rfl) ?_
  intro p e s m below meth c C hr hlk hI ls hl
  have hx := C.1.1
  have hb := C.1.2.1
  have hl : lv_has ls 2 [(0, .ref (ad E 700 i0)), (1, .int p1)] := hl
  refine lv_aload_n hx hb dX7_homeLane_0 rfl (lv_at hl 0 rfl) ?_
  refine lv_aload_n hx hb dX7_homeLane_1 rfl (lv_at hl 0 rfl) ?_
  refine lv_iload_n hx hb dX7_homeLane_2 rfl (lv_at hl 1 rfl) ?_
  obtain ⟨q5, e6, hf⟩ := ob hf
  refine mcV (As := [.int p1]) (rest := [.ref (ad E 700 i0)]) C hI (c_X7_homeOf l E h0 e6) ml_X7_57 kv_X7_homeOf (m_recv C hI h0.1 (ce_700 E _ _ _) rfl) rfl rfl ⟨Nat.le_of_ble_eq_true rfl, Nat.le_of_ble_eq_true rfl⟩ ⟨Nat.zero_le _, Nat.zero_le _⟩ rfl rfl hl.1 (Nat.le_of_ble_eq_true rfl) dX7_homeLane_3 (st1 := [.int q5, .ref (ad E 700 i0)]) rfl (fun H locs hI => ?_)
  obtain ⟨q7, e8, hf⟩ := ob hf
  refine mcV (As := [.int q5]) (rest := []) C hI (c_X7_laneOf l E h0 e8) ml_X7_61 kv_X7_laneOf (m_recv C hI h0.1 (ce_700 E _ _ _) rfl) rfl rfl ⟨Nat.le_of_ble_eq_true rfl, Nat.le_of_ble_eq_true rfl⟩ ⟨Nat.zero_le _, Nat.zero_le _⟩ rfl rfl hl.1 (Nat.le_of_ble_eq_true rfl) dX7_homeLane_6 (st1 := [.ref (ad E 200 q7)]) rfl (fun H locs hI => ?_)
  obtain rfl := Option.some.inj hf
  exact m_aret C hr hlk hI dX7_homeLane_9
theorem lr_X7_homeLane {E : En} {μ : Mm} {i0 : Nat} {p1 : Int32} {r : Nat} (h : l7 E i0) (e : f_X7_homeLane μ i0 p1 = some r) : l2 E r := by
  unfold f_X7_homeLane at e
  obtain ⟨a, e1, e⟩ := ob e
  obtain ⟨b, e2, e⟩ := ob e
  obtain rfl := Option.some.inj e
  exact lr_X7_laneOf h e2

theorem dX7_allMarks_0 : decode cX7_allMarks 0 = .ok (.iconst 0, 1) := by decide +kernel
theorem dX7_allMarks_1 : decode cX7_allMarks 1 = .ok (.istore_n 1, 1) := by decide +kernel
theorem dX7_allMarks_2 : decode cX7_allMarks 2 = .ok (.iconst 0, 1) := by decide +kernel
theorem dX7_allMarks_3 : decode cX7_allMarks 3 = .ok (.istore_n 2, 1) := by decide +kernel
theorem dX7_allMarks_4 : decode cX7_allMarks 4 = .ok (.iload_n 2, 1) := by decide +kernel
theorem dX7_allMarks_5 : decode cX7_allMarks 5 = .ok (.iconst 3, 1) := by decide +kernel
theorem dX7_allMarks_6 : decode cX7_allMarks 6 = .ok (.if_icmp .ge 21, 3) := by decide +kernel
theorem dX7_allMarks_9 : decode cX7_allMarks 9 = .ok (.iload_n 1, 1) := by decide +kernel
theorem dX7_allMarks_10 : decode cX7_allMarks 10 = .ok (.aload_n 0, 1) := by decide +kernel
theorem dX7_allMarks_11 : decode cX7_allMarks 11 = .ok (.getfield 20, 3) := by decide +kernel
theorem dX7_allMarks_14 : decode cX7_allMarks 14 = .ok (.iload_n 2, 1) := by decide +kernel
theorem dX7_allMarks_15 : decode cX7_allMarks 15 = .ok (.aaload, 1) := by decide +kernel
theorem dX7_allMarks_16 : decode cX7_allMarks 16 = .ok (.getfield 65, 3) := by decide +kernel
theorem dX7_allMarks_19 : decode cX7_allMarks 19 = .ok (.iadd, 1) := by decide +kernel
theorem dX7_allMarks_20 : decode cX7_allMarks 20 = .ok (.istore_n 1, 1) := by decide +kernel
theorem dX7_allMarks_21 : decode cX7_allMarks 21 = .ok (.iinc 2 1, 3) := by decide +kernel
theorem dX7_allMarks_24 : decode cX7_allMarks 24 = .ok (.goto (-20), 3) := by decide +kernel
theorem dX7_allMarks_27 : decode cX7_allMarks 27 = .ok (.iload_n 1, 1) := by decide +kernel
theorem dX7_allMarks_28 : decode cX7_allMarks 28 = .ok (.ireturn, 1) := by decide +kernel
def f_X7_allMarks_b4 (F : Nat) (μ : Mm) : Nat → Nat → Int32 → Int32 → Option Int32
 | 0, _, _, _ => none
 | N + 1, a0, a1, a2 =>
 if (3 : Int32) ≤ a2 then
 some a1
 else
 (rq 3 a2).bind fun j3 =>
 f_X7_allMarks_b4 F μ N a0 (a1 + (μ.1 200 (3 * a0 + j3) 5)) (a2 + (1 : Int32))
set_option maxHeartbeats 4000000 in
set_option maxRecDepth 100000 in
theorem cb_X7_allMarks_4 {l : Launch} {E : En} {p : Program} {e : Env} {s : State} {m : MethodId} {av : Array Value} {below : List Frame} {meth : Method} {c : Code} (C : Cx E p s m av c cX7_allMarks 3 yX7_allMarks.cls) (hr : meth.sig.returnType = (some .int)) (hlk : meth.locks = false) {F : Nat} {μ : Mm} {z : Int32} : ∀ (N : Nat) (a0 : Nat) (a1 : Int32) (a2 : Int32) (h_a0 : l7 E a0), f_X7_allMarks_b4 F μ N a0 a1 a2 = some z → ∀ {H : Heap} {locs : List Loc} {ls : Array Slot}, Iv E s μ H locs → lv_has ls 3 [(0, .ref (ad E 700 a0)), (1, .int a1), (2, .int a2)] → W p l e { frames := 0, cells := 0, slots := 0, locals := 0 } s m av below meth c H locs 0 0 (MQ below (Qm E (some (.int z)) μ) av s 0 0 (Ad E)) (F0 m 4 ls []) := by
  have hx := C.1.1
  have hb := C.1.2.1
  intro N
  induction N with
  | zero => intro a0 a1 a2 h_a0 hf; cases hf
  | succ N ih =>
    intro a0 a1 a2 h_a0 hf H locs ls hI hl
    rw [f_X7_allMarks_b4] at hf
    refine lv_iload_n hx hb dX7_allMarks_4 rfl (lv_at hl 2 rfl) ?_
    refine lv_iconst (v := (3 : Int32)) hx hb dX7_allMarks_5 kc_3 ?_
    refine lv_icmp_ge (tgt := 27) hx hb dX7_allMarks_6 rfl (fun hc => ?_) (fun hc => ?_)
    · replace hf := it hf hc
      refine lv_iload_n hx hb dX7_allMarks_27 rfl (lv_at hl 1 rfl) ?_
      obtain rfl := Option.some.inj hf
      exact m_iret C hr hlk hI dX7_allMarks_28
    · replace hf := ie hf hc
      refine lv_iload_n hx hb dX7_allMarks_9 rfl (lv_at hl 1 rfl) ?_
      refine lv_aload_n hx hb dX7_allMarks_10 rfl (lv_at hl 0 rfl) ?_
      refine gf_7_2 C hI h_a0.1 fl_X7_20 dX7_allMarks_11 ?_
      refine lv_iload_n hx hb dX7_allMarks_14 rfl (lv_at hl 2 rfl) ?_
      obtain ⟨j3, e4, hf⟩ := ob hf
      refine m_aald (t0 := 3) (Cn := RX2) (fun _ => rfl) C hI h_a0.2.2.2.1 (ce_703 E _ _ _) e4 dX7_allMarks_15 ?_
      refine gf_2_5 C hI (l7_lane h_a0 e4).1 fl_X7_65 dX7_allMarks_16 ?_
      refine lv_iadd hx hb dX7_allMarks_19 ?_
      refine lv_istore_n hx hb dX7_allMarks_20 rfl hl (by decide) rfl (fun ls hl => ?_)
      have hl : lv_has ls 3 [(1, .int (a1 + (μ.1 200 (3 * a0 + j3) 5))), (0, .ref (ad E 700 a0)), (2, .int a2)] := hl
      refine lv_iinc (v := a2 + (1 : Int32)) hx hb dX7_allMarks_21 hl (k := 2) rfl (ki_1 _) (by decide) rfl (fun ls hl => ?_)
      have hl : lv_has ls 3 [(2, .int (a2 + (1 : Int32))), (1, .int (a1 + (μ.1 200 (3 * a0 + j3) 5))), (0, .ref (ad E 700 a0))] := hl
      refine lv_goto (tgt := 4) hx hb dX7_allMarks_24 rfl ?_
      exact ih _ _ _ h_a0 hf hI (lv_sub hl [2, 1, 0] rfl)
def f_X7_allMarks (F : Nat) (μ : Mm) (i0 : Nat) : Option Int32 :=
 f_X7_allMarks_b4 F μ F i0 (0 : Int32) (0 : Int32)
set_option maxHeartbeats 4000000 in
set_option maxRecDepth 100000 in
theorem c_X7_allMarks (l : Launch) (E : En) {F : Nat} {μ : Mm} {i0 : Nat} (h0 : l7 E i0) {z : Int32} (hf : f_X7_allMarks F μ i0 = some z) : Met l yX7_allMarks (wt yX7_allMarks cX7_allMarks 3 (some .int)) { frames := 0, cells := 0, slots := 0, locals := 0 } (Pm E [.ref (ad E 700 i0)] μ) (Qm E (some (.int z)) μ) 0 0 (Ad E) := by
  unfold f_X7_allMarks at hf
  refine met_of (cc := cX7_allMarks) (nL := 3) (ret := (some .int)) (by decide) _ (Nat.le_of_ble_eq_true rfl) ?_
  intro p e s m below meth c C hr hlk hI ls hl
  have hx := C.1.1
  have hb := C.1.2.1
  have hl : lv_has ls 3 [(0, .ref (ad E 700 i0))] := hl
  refine lv_iconst (v := (0 : Int32)) hx hb dX7_allMarks_0 kc_0 ?_
  refine lv_istore_n hx hb dX7_allMarks_1 rfl hl (by decide) rfl (fun ls hl => ?_)
  have hl : lv_has ls 3 [(1, .int (0 : Int32)), (0, .ref (ad E 700 i0))] := hl
  refine lv_iconst (v := (0 : Int32)) hx hb dX7_allMarks_2 kc_0 ?_
  refine lv_istore_n hx hb dX7_allMarks_3 rfl hl (by decide) rfl (fun ls hl => ?_)
  have hl : lv_has ls 3 [(2, .int (0 : Int32)), (1, .int (0 : Int32)), (0, .ref (ad E 700 i0))] := hl
  exact cb_X7_allMarks_4 C hr hlk  _ _ _ _ h0 hf hI (lv_sub hl [2, 1, 0] rfl)

theorem dX7_clockMask_0 : decode cX7_clockMask 0 = .ok (.iconst 1, 1) := by decide +kernel
theorem dX7_clockMask_1 : decode cX7_clockMask 1 = .ok (.aload_n 0, 1) := by decide +kernel
theorem dX7_clockMask_2 : decode cX7_clockMask 2 = .ok (.getfield 34, 3) := by decide +kernel
theorem dX7_clockMask_5 : decode cX7_clockMask 5 = .ok (.ishl, 1) := by decide +kernel
theorem dX7_clockMask_6 : decode cX7_clockMask 6 = .ok (.iconst 1, 1) := by decide +kernel
theorem dX7_clockMask_7 : decode cX7_clockMask 7 = .ok (.isub, 1) := by decide +kernel
theorem dX7_clockMask_8 : decode cX7_clockMask 8 = .ok (.ireturn, 1) := by decide +kernel
def f_X7_clockMask (μ : Mm) (i0 : Nat) : Option Int32 :=
 some (((1 : Int32) <<< ((μ.1 700 i0 6) &&& 31)) - (1 : Int32))
set_option maxHeartbeats 4000000 in
set_option maxRecDepth 100000 in
theorem c_X7_clockMask (l : Launch) (E : En) {μ : Mm} {i0 : Nat} (h0 : l7 E i0) {z : Int32} (hf : f_X7_clockMask μ i0 = some z) : Met l yX7_clockMask (wt yX7_clockMask cX7_clockMask 1 (some .int)) { frames := 0, cells := 0, slots := 0, locals := 0 } (Pm E [.ref (ad E 700 i0)] μ) (Qm E (some (.int z)) μ) 0 0 (Ad E) := by
  unfold f_X7_clockMask at hf
  refine met_of (cc := cX7_clockMask) (nL := 1) (ret := (some .int)) (by decide) _ (Nat.le_of_ble_eq_true rfl) ?_
  intro p e s m below meth c C hr hlk hI ls hl
  have hx := C.1.1
  have hb := C.1.2.1
  have hl : lv_has ls 1 [(0, .ref (ad E 700 i0))] := hl
  refine lv_iconst (v := (1 : Int32)) hx hb dX7_clockMask_0 kc_1 ?_
  refine lv_aload_n hx hb dX7_clockMask_1 rfl (lv_at hl 0 rfl) ?_
  refine gf_7_6 C hI h0.1 fl_X7_34 dX7_clockMask_2 ?_
  refine lv_ishl hx hb dX7_clockMask_5 ?_
  refine lv_iconst (v := (1 : Int32)) hx hb dX7_clockMask_6 kc_1 ?_
  refine lv_isub hx hb dX7_clockMask_7 ?_
  obtain rfl := Option.some.inj hf
  exact m_iret C hr hlk hI dX7_clockMask_8

theorem dX7_isFormed_0 : decode cX7_isFormed 0 = .ok (.iload_n 1, 1) := by decide +kernel
theorem dX7_isFormed_1 : decode cX7_isFormed 1 = .ok (.ifCond .lt 9, 3) := by decide +kernel
theorem dX7_isFormed_4 : decode cX7_isFormed 4 = .ok (.iload_n 1, 1) := by decide +kernel
theorem dX7_isFormed_5 : decode cX7_isFormed 5 = .ok (.bipush 12, 2) := by decide +kernel
theorem dX7_isFormed_7 : decode cX7_isFormed 7 = .ok (.if_icmp .le 5, 3) := by decide +kernel
theorem dX7_isFormed_10 : decode cX7_isFormed 10 = .ok (.iconst 0, 1) := by decide +kernel
theorem dX7_isFormed_11 : decode cX7_isFormed 11 = .ok (.ireturn, 1) := by decide +kernel
theorem dX7_isFormed_12 : decode cX7_isFormed 12 = .ok (.iload_n 1, 1) := by decide +kernel
theorem dX7_isFormed_13 : decode cX7_isFormed 13 = .ok (.iconst 5, 1) := by decide +kernel
theorem dX7_isFormed_14 : decode cX7_isFormed 14 = .ok (.if_icmp .gt 11, 3) := by decide +kernel
theorem dX7_isFormed_17 : decode cX7_isFormed 17 = .ok (.aload_n 0, 1) := by decide +kernel
theorem dX7_isFormed_18 : decode cX7_isFormed 18 = .ok (.iload_n 2, 1) := by decide +kernel
theorem dX7_isFormed_19 : decode cX7_isFormed 19 = .ok (.invokevirtual 97, 3) := by decide +kernel
theorem dX7_isFormed_22 : decode cX7_isFormed 22 = .ok (.goto 13, 3) := by decide +kernel
theorem dX7_isFormed_25 : decode cX7_isFormed 25 = .ok (.iload_n 2, 1) := by decide +kernel
theorem dX7_isFormed_26 : decode cX7_isFormed 26 = .ok (.iconst (-1), 1) := by decide +kernel
theorem dX7_isFormed_27 : decode cX7_isFormed 27 = .ok (.if_icmp .ne 7, 3) := by decide +kernel
theorem dX7_isFormed_30 : decode cX7_isFormed 30 = .ok (.iconst 1, 1) := by decide +kernel
theorem dX7_isFormed_31 : decode cX7_isFormed 31 = .ok (.goto 4, 3) := by decide +kernel
theorem dX7_isFormed_34 : decode cX7_isFormed 34 = .ok (.iconst 0, 1) := by decide +kernel
theorem dX7_isFormed_35 : decode cX7_isFormed 35 = .ok (.istore 4, 2) := by decide +kernel
theorem dX7_isFormed_37 : decode cX7_isFormed 37 = .ok (.iload_n 1, 1) := by decide +kernel
theorem dX7_isFormed_38 : decode cX7_isFormed 38 = .ok (.iconst 3, 1) := by decide +kernel
theorem dX7_isFormed_39 : decode cX7_isFormed 39 = .ok (.if_icmp .lt 28, 3) := by decide +kernel
theorem dX7_isFormed_42 : decode cX7_isFormed 42 = .ok (.iload_n 1, 1) := by decide +kernel
theorem dX7_isFormed_43 : decode cX7_isFormed 43 = .ok (.iconst 5, 1) := by decide +kernel
theorem dX7_isFormed_44 : decode cX7_isFormed 44 = .ok (.if_icmp .gt 23, 3) := by decide +kernel
theorem dX7_isFormed_47 : decode cX7_isFormed 47 = .ok (.iload 4, 2) := by decide +kernel
theorem dX7_isFormed_49 : decode cX7_isFormed 49 = .ok (.ifCond .eq 16, 3) := by decide +kernel
theorem dX7_isFormed_52 : decode cX7_isFormed 52 = .ok (.iload_n 3, 1) := by decide +kernel
theorem dX7_isFormed_53 : decode cX7_isFormed 53 = .ok (.ifCond .lt 12, 3) := by decide +kernel
theorem dX7_isFormed_56 : decode cX7_isFormed 56 = .ok (.iload_n 3, 1) := by decide +kernel
theorem dX7_isFormed_57 : decode cX7_isFormed 57 = .ok (.iconst 4, 1) := by decide +kernel
theorem dX7_isFormed_58 : decode cX7_isFormed 58 = .ok (.if_icmp .ge 7, 3) := by decide +kernel
theorem dX7_isFormed_61 : decode cX7_isFormed 61 = .ok (.iconst 1, 1) := by decide +kernel
theorem dX7_isFormed_62 : decode cX7_isFormed 62 = .ok (.goto 4, 3) := by decide +kernel
theorem dX7_isFormed_65 : decode cX7_isFormed 65 = .ok (.iconst 0, 1) := by decide +kernel
theorem dX7_isFormed_66 : decode cX7_isFormed 66 = .ok (.ireturn, 1) := by decide +kernel
theorem dX7_isFormed_67 : decode cX7_isFormed 67 = .ok (.iload_n 1, 1) := by decide +kernel
theorem dX7_isFormed_68 : decode cX7_isFormed 68 = .ok (.bipush 9, 2) := by decide +kernel
theorem dX7_isFormed_70 : decode cX7_isFormed 70 = .ok (.if_icmp .lt 24, 3) := by decide +kernel
theorem dX7_isFormed_73 : decode cX7_isFormed 73 = .ok (.iload 4, 2) := by decide +kernel
theorem dX7_isFormed_75 : decode cX7_isFormed 75 = .ok (.ifCond .eq 17, 3) := by decide +kernel
theorem dX7_isFormed_78 : decode cX7_isFormed 78 = .ok (.iload_n 3, 1) := by decide +kernel
theorem dX7_isFormed_79 : decode cX7_isFormed 79 = .ok (.ifCond .lt 13, 3) := by decide +kernel
theorem dX7_isFormed_82 : decode cX7_isFormed 82 = .ok (.iload_n 3, 1) := by decide +kernel
theorem dX7_isFormed_83 : decode cX7_isFormed 83 = .ok (.bipush 64, 2) := by decide +kernel
theorem dX7_isFormed_85 : decode cX7_isFormed 85 = .ok (.if_icmp .ge 7, 3) := by decide +kernel
theorem dX7_isFormed_88 : decode cX7_isFormed 88 = .ok (.iconst 1, 1) := by decide +kernel
theorem dX7_isFormed_89 : decode cX7_isFormed 89 = .ok (.goto 4, 3) := by decide +kernel
theorem dX7_isFormed_92 : decode cX7_isFormed 92 = .ok (.iconst 0, 1) := by decide +kernel
theorem dX7_isFormed_93 : decode cX7_isFormed 93 = .ok (.ireturn, 1) := by decide +kernel
theorem dX7_isFormed_94 : decode cX7_isFormed 94 = .ok (.iload 4, 2) := by decide +kernel
theorem dX7_isFormed_96 : decode cX7_isFormed 96 = .ok (.ifCond .eq 12, 3) := by decide +kernel
theorem dX7_isFormed_99 : decode cX7_isFormed 99 = .ok (.iload_n 3, 1) := by decide +kernel
theorem dX7_isFormed_100 : decode cX7_isFormed 100 = .ok (.iconst (-1), 1) := by decide +kernel
theorem dX7_isFormed_101 : decode cX7_isFormed 101 = .ok (.if_icmp .ne 7, 3) := by decide +kernel
theorem dX7_isFormed_104 : decode cX7_isFormed 104 = .ok (.iconst 1, 1) := by decide +kernel
theorem dX7_isFormed_105 : decode cX7_isFormed 105 = .ok (.goto 4, 3) := by decide +kernel
theorem dX7_isFormed_108 : decode cX7_isFormed 108 = .ok (.iconst 0, 1) := by decide +kernel
theorem dX7_isFormed_109 : decode cX7_isFormed 109 = .ok (.ireturn, 1) := by decide +kernel
def f_X7_isFormed_b67 (μ : Mm) (a1 : Int32) (a3 : Int32) (a4 : Int32) : Option Int32 :=
 if a1 < (9 : Int32) then
 if a4 = 0 then
 some (0 : Int32)
 else
 if a3 = (-1 : Int32) then
 some (1 : Int32)
 else
 some (0 : Int32)
 else
 if a4 = 0 then
 some (0 : Int32)
 else
 if a3 < 0 then
 some (0 : Int32)
 else
 if (64 : Int32) ≤ a3 then
 some (0 : Int32)
 else
 some (1 : Int32)
set_option maxHeartbeats 4000000 in
set_option maxRecDepth 100000 in
theorem cb_X7_isFormed_67 {l : Launch} {E : En} {p : Program} {e : Env} {s : State} {m : MethodId} {av : Array Value} {below : List Frame} {meth : Method} {c : Code} (C : Cx E p s m av c cX7_isFormed 5 yX7_isFormed.cls) (hr : meth.sig.returnType = (some .boolean)) (hlk : meth.locks = false) {μ : Mm} {z : Int32} : ∀ (a1 : Int32) (a3 : Int32) (a4 : Int32), f_X7_isFormed_b67 μ a1 a3 a4 = some z → ∀ {H : Heap} {locs : List Loc} {ls : Array Slot}, Iv E s μ H locs → lv_has ls 5 [(1, .int a1), (3, .int a3), (4, .int a4)] → W p l e { frames := 1, cells := 0, slots := 0, locals := 21 } s m av below meth c H locs 0 0 (MQ below (Qm E (some (.int z)) μ) av s 0 0 (Ad E)) (F0 m 67 ls []) := by
  have hx := C.1.1
  have hb := C.1.2.1
  intro a1 a3 a4 hf H locs ls hI hl
  unfold f_X7_isFormed_b67 at hf
  refine lv_iload_n hx hb dX7_isFormed_67 rfl (lv_at hl 0 rfl) ?_
  refine lv_bipush (v := (9 : Int32)) hx hb dX7_isFormed_68 kb_9 ?_
  refine lv_icmp_lt (tgt := 94) hx hb dX7_isFormed_70 rfl (fun hc => ?_) (fun hc => ?_)
  · replace hf := it hf hc
    refine lv_iload hx hb dX7_isFormed_94 (lv_at hl 2 rfl) ?_
    refine lv_if_eq (tgt := 108) hx hb dX7_isFormed_96 rfl (fun hc => ?_) (fun hc => ?_)
    · replace hf := it hf hc
      refine lv_iconst (v := (0 : Int32)) hx hb dX7_isFormed_108 kc_0 ?_
      obtain rfl := Option.some.inj hf
      exact m_zret C hr hlk hI (by decide) dX7_isFormed_109
    · replace hf := ie hf hc
      refine lv_iload_n hx hb dX7_isFormed_99 rfl (lv_at hl 1 rfl) ?_
      refine lv_iconst (v := (-1 : Int32)) hx hb dX7_isFormed_100 kc_m1 ?_
      refine lv_icmp_ne (tgt := 108) hx hb dX7_isFormed_101 rfl (fun hc => ?_) (fun hc => ?_)
      · replace hf := ie hf hc
        refine lv_iconst (v := (0 : Int32)) hx hb dX7_isFormed_108 kc_0 ?_
        obtain rfl := Option.some.inj hf
        exact m_zret C hr hlk hI (by decide) dX7_isFormed_109
      · replace hf := it hf hc
        refine lv_iconst (v := (1 : Int32)) hx hb dX7_isFormed_104 kc_1 ?_
        refine lv_goto (tgt := 109) hx hb dX7_isFormed_105 rfl ?_
        obtain rfl := Option.some.inj hf
        exact m_zret C hr hlk hI (by decide) dX7_isFormed_109
  · replace hf := ie hf hc
    refine lv_iload hx hb dX7_isFormed_73 (lv_at hl 2 rfl) ?_
    refine lv_if_eq (tgt := 92) hx hb dX7_isFormed_75 rfl (fun hc => ?_) (fun hc => ?_)
    · replace hf := it hf hc
      refine lv_iconst (v := (0 : Int32)) hx hb dX7_isFormed_92 kc_0 ?_
      obtain rfl := Option.some.inj hf
      exact m_zret C hr hlk hI (by decide) dX7_isFormed_93
    · replace hf := ie hf hc
      refine lv_iload_n hx hb dX7_isFormed_78 rfl (lv_at hl 1 rfl) ?_
      refine lv_if_lt (tgt := 92) hx hb dX7_isFormed_79 rfl (fun hc => ?_) (fun hc => ?_)
      · replace hf := it hf hc
        refine lv_iconst (v := (0 : Int32)) hx hb dX7_isFormed_92 kc_0 ?_
        obtain rfl := Option.some.inj hf
        exact m_zret C hr hlk hI (by decide) dX7_isFormed_93
      · replace hf := ie hf hc
        refine lv_iload_n hx hb dX7_isFormed_82 rfl (lv_at hl 1 rfl) ?_
        refine lv_bipush (v := (64 : Int32)) hx hb dX7_isFormed_83 kb_64 ?_
        refine lv_icmp_ge (tgt := 92) hx hb dX7_isFormed_85 rfl (fun hc => ?_) (fun hc => ?_)
        · replace hf := it hf hc
          refine lv_iconst (v := (0 : Int32)) hx hb dX7_isFormed_92 kc_0 ?_
          obtain rfl := Option.some.inj hf
          exact m_zret C hr hlk hI (by decide) dX7_isFormed_93
        · replace hf := ie hf hc
          refine lv_iconst (v := (1 : Int32)) hx hb dX7_isFormed_88 kc_1 ?_
          refine lv_goto (tgt := 93) hx hb dX7_isFormed_89 rfl ?_
          obtain rfl := Option.some.inj hf
          exact m_zret C hr hlk hI (by decide) dX7_isFormed_93
def f_X7_isFormed_b35 (μ : Mm) (a1 : Int32) (a3 : Int32) (s0 : Int32) : Option Int32 :=
 if a1 < (3 : Int32) then
 f_X7_isFormed_b67 μ a1 a3 s0
 else
 if (5 : Int32) < a1 then
 f_X7_isFormed_b67 μ a1 a3 s0
 else
 if s0 = 0 then
 some (0 : Int32)
 else
 if a3 < 0 then
 some (0 : Int32)
 else
 if (4 : Int32) ≤ a3 then
 some (0 : Int32)
 else
 some (1 : Int32)
set_option maxHeartbeats 4000000 in
set_option maxRecDepth 100000 in
theorem cb_X7_isFormed_35 {l : Launch} {E : En} {p : Program} {e : Env} {s : State} {m : MethodId} {av : Array Value} {below : List Frame} {meth : Method} {c : Code} (C : Cx E p s m av c cX7_isFormed 5 yX7_isFormed.cls) (hr : meth.sig.returnType = (some .boolean)) (hlk : meth.locks = false) {μ : Mm} {z : Int32} : ∀ (a1 : Int32) (a3 : Int32) (s0 : Int32), f_X7_isFormed_b35 μ a1 a3 s0 = some z → ∀ {H : Heap} {locs : List Loc} {ls : Array Slot}, Iv E s μ H locs → lv_has ls 5 [(1, .int a1), (3, .int a3)] → W p l e { frames := 1, cells := 0, slots := 0, locals := 21 } s m av below meth c H locs 0 0 (MQ below (Qm E (some (.int z)) μ) av s 0 0 (Ad E)) (F0 m 35 ls [.int s0]) := by
  have hx := C.1.1
  have hb := C.1.2.1
  intro a1 a3 s0 hf H locs ls hI hl
  unfold f_X7_isFormed_b35 at hf
  refine lv_istore hx hb dX7_isFormed_35 hl (by decide) rfl (fun ls hl => ?_)
  have hl : lv_has ls 5 [(4, .int s0), (1, .int a1), (3, .int a3)] := hl
  refine lv_iload_n hx hb dX7_isFormed_37 rfl (lv_at hl 1 rfl) ?_
  refine lv_iconst (v := (3 : Int32)) hx hb dX7_isFormed_38 kc_3 ?_
  refine lv_icmp_lt (tgt := 67) hx hb dX7_isFormed_39 rfl (fun hc => ?_) (fun hc => ?_)
  · replace hf := it hf hc
    exact cb_X7_isFormed_67 C hr hlk  _ _ _  hf hI (lv_sub hl [1, 2, 0] rfl)
  · replace hf := ie hf hc
    refine lv_iload_n hx hb dX7_isFormed_42 rfl (lv_at hl 1 rfl) ?_
    refine lv_iconst (v := (5 : Int32)) hx hb dX7_isFormed_43 kc_5 ?_
    refine lv_icmp_gt (tgt := 67) hx hb dX7_isFormed_44 rfl (fun hc => ?_) (fun hc => ?_)
    · replace hf := it hf hc
      exact cb_X7_isFormed_67 C hr hlk  _ _ _  hf hI (lv_sub hl [1, 2, 0] rfl)
    · replace hf := ie hf hc
      refine lv_iload hx hb dX7_isFormed_47 (lv_at hl 0 rfl) ?_
      refine lv_if_eq (tgt := 65) hx hb dX7_isFormed_49 rfl (fun hc => ?_) (fun hc => ?_)
      · replace hf := it hf hc
        refine lv_iconst (v := (0 : Int32)) hx hb dX7_isFormed_65 kc_0 ?_
        obtain rfl := Option.some.inj hf
        exact m_zret C hr hlk hI (by decide) dX7_isFormed_66
      · replace hf := ie hf hc
        refine lv_iload_n hx hb dX7_isFormed_52 rfl (lv_at hl 2 rfl) ?_
        refine lv_if_lt (tgt := 65) hx hb dX7_isFormed_53 rfl (fun hc => ?_) (fun hc => ?_)
        · replace hf := it hf hc
          refine lv_iconst (v := (0 : Int32)) hx hb dX7_isFormed_65 kc_0 ?_
          obtain rfl := Option.some.inj hf
          exact m_zret C hr hlk hI (by decide) dX7_isFormed_66
        · replace hf := ie hf hc
          refine lv_iload_n hx hb dX7_isFormed_56 rfl (lv_at hl 2 rfl) ?_
          refine lv_iconst (v := (4 : Int32)) hx hb dX7_isFormed_57 kc_4 ?_
          refine lv_icmp_ge (tgt := 65) hx hb dX7_isFormed_58 rfl (fun hc => ?_) (fun hc => ?_)
          · replace hf := it hf hc
            refine lv_iconst (v := (0 : Int32)) hx hb dX7_isFormed_65 kc_0 ?_
            obtain rfl := Option.some.inj hf
            exact m_zret C hr hlk hI (by decide) dX7_isFormed_66
          · replace hf := ie hf hc
            refine lv_iconst (v := (1 : Int32)) hx hb dX7_isFormed_61 kc_1 ?_
            refine lv_goto (tgt := 66) hx hb dX7_isFormed_62 rfl ?_
            obtain rfl := Option.some.inj hf
            exact m_zret C hr hlk hI (by decide) dX7_isFormed_66
def f_X7_isFormed (μ : Mm) (i0 : Nat) (p1 : Int32) (p2 : Int32) (p3 : Int32) : Option Int32 :=
 if p1 < 0 then
 some (0 : Int32)
 else
 if p1 ≤ (12 : Int32) then
 if (5 : Int32) < p1 then
 if p2 = (-1 : Int32) then
 f_X7_isFormed_b35 μ p1 p3 (1 : Int32)
 else
 f_X7_isFormed_b35 μ p1 p3 (0 : Int32)
 else
 (f_X7_hasTask μ i0 p2).bind fun q3 =>
 f_X7_isFormed_b35 μ p1 p3 q3
 else
 some (0 : Int32)
set_option maxHeartbeats 4000000 in
set_option maxRecDepth 100000 in
theorem c_X7_isFormed (l : Launch) (E : En) {μ : Mm} {i0 : Nat} {p1 : Int32} {p2 : Int32} {p3 : Int32} (h0 : l7 E i0) {z : Int32} (hf : f_X7_isFormed μ i0 p1 p2 p3 = some z) : Met l yX7_isFormed (wt yX7_isFormed cX7_isFormed 5 (some .boolean)) { frames := 1, cells := 0, slots := 0, locals := 21 } (Pm E [.ref (ad E 700 i0), .int p1, .int p2, .int p3] μ) (Qm E (some (.int z)) μ) 0 0 (Ad E) := by
  unfold f_X7_isFormed at hf
  refine met_of (cc := cX7_isFormed) (nL := 5) (ret := (some .boolean)) (by decide) _ (Nat.le_of_ble_eq_true rfl) ?_
  intro p e s m below meth c C hr hlk hI ls hl
  have hx := C.1.1
  have hb := C.1.2.1
  have hl : lv_has ls 5 [(0, .ref (ad E 700 i0)), (1, .int p1), (2, .int p2), (3, .int p3)] := hl
  refine lv_iload_n hx hb dX7_isFormed_0 rfl (lv_at hl 1 rfl) ?_
  refine lv_if_lt (tgt := 10) hx hb dX7_isFormed_1 rfl (fun hc => ?_) (fun hc => ?_)
  · replace hf := it hf hc
    refine lv_iconst (v := (0 : Int32)) hx hb dX7_isFormed_10 kc_0 ?_
    obtain rfl := Option.some.inj hf
    exact m_zret C hr hlk hI (by decide) dX7_isFormed_11
  · replace hf := ie hf hc
    refine lv_iload_n hx hb dX7_isFormed_4 rfl (lv_at hl 1 rfl) ?_
    refine lv_bipush (v := (12 : Int32)) hx hb dX7_isFormed_5 kb_12 ?_
    refine lv_icmp_le (tgt := 12) hx hb dX7_isFormed_7 rfl (fun hc => ?_) (fun hc => ?_)
    · replace hf := it hf hc
      refine lv_iload_n hx hb dX7_isFormed_12 rfl (lv_at hl 1 rfl) ?_
      refine lv_iconst (v := (5 : Int32)) hx hb dX7_isFormed_13 kc_5 ?_
      refine lv_icmp_gt (tgt := 25) hx hb dX7_isFormed_14 rfl (fun hc => ?_) (fun hc => ?_)
      · replace hf := it hf hc
        refine lv_iload_n hx hb dX7_isFormed_25 rfl (lv_at hl 2 rfl) ?_
        refine lv_iconst (v := (-1 : Int32)) hx hb dX7_isFormed_26 kc_m1 ?_
        refine lv_icmp_ne (tgt := 34) hx hb dX7_isFormed_27 rfl (fun hc => ?_) (fun hc => ?_)
        · replace hf := ie hf hc
          refine lv_iconst (v := (0 : Int32)) hx hb dX7_isFormed_34 kc_0 ?_
          exact cb_X7_isFormed_35 C hr hlk  _ _ _  hf hI (lv_sub hl [1, 3] rfl)
        · replace hf := it hf hc
          refine lv_iconst (v := (1 : Int32)) hx hb dX7_isFormed_30 kc_1 ?_
          refine lv_goto (tgt := 35) hx hb dX7_isFormed_31 rfl ?_
          exact cb_X7_isFormed_35 C hr hlk  _ _ _  hf hI (lv_sub hl [1, 3] rfl)
      · replace hf := ie hf hc
        refine lv_aload_n hx hb dX7_isFormed_17 rfl (lv_at hl 0 rfl) ?_
        refine lv_iload_n hx hb dX7_isFormed_18 rfl (lv_at hl 2 rfl) ?_
        obtain ⟨q3, e4, hf⟩ := ob hf
        refine mcV (As := [.int p2]) (rest := []) C hI (c_X7_hasTask l E h0 e4) ml_X7_97 kv_X7_hasTask (m_recv C hI h0.1 (ce_700 E _ _ _) rfl) rfl rfl ⟨Nat.le_of_ble_eq_true rfl, Nat.le_of_ble_eq_true rfl⟩ ⟨Nat.zero_le _, Nat.zero_le _⟩ rfl rfl hl.1 (Nat.le_of_ble_eq_true rfl) dX7_isFormed_19 (st1 := [.int q3]) rfl (fun H locs hI => ?_)
        refine lv_goto (tgt := 35) hx hb dX7_isFormed_22 rfl ?_
        exact cb_X7_isFormed_35 C hr hlk  _ _ _  hf hI (lv_sub hl [1, 3] rfl)
    · replace hf := ie hf hc
      refine lv_iconst (v := (0 : Int32)) hx hb dX7_isFormed_10 kc_0 ?_
      obtain rfl := Option.some.inj hf
      exact m_zret C hr hlk hI (by decide) dX7_isFormed_11

theorem dX7_letterPlace_0 : decode cX7_letterPlace 0 = .ok (.iload_n 0, 1) := by decide +kernel
theorem dX7_letterPlace_1 : decode cX7_letterPlace 1 = .ok (.bipush 9, 2) := by decide +kernel
theorem dX7_letterPlace_3 : decode cX7_letterPlace 3 = .ok (.if_icmp .lt 19, 3) := by decide +kernel
theorem dX7_letterPlace_6 : decode cX7_letterPlace 6 = .ok (.iload_n 0, 1) := by decide +kernel
theorem dX7_letterPlace_7 : decode cX7_letterPlace 7 = .ok (.bipush 12, 2) := by decide +kernel
theorem dX7_letterPlace_9 : decode cX7_letterPlace 9 = .ok (.if_icmp .gt 13, 3) := by decide +kernel
theorem dX7_letterPlace_12 : decode cX7_letterPlace 12 = .ok (.iload_n 1, 1) := by decide +kernel
theorem dX7_letterPlace_13 : decode cX7_letterPlace 13 = .ok (.ifCond .lt 9, 3) := by decide +kernel
theorem dX7_letterPlace_16 : decode cX7_letterPlace 16 = .ok (.iload_n 1, 1) := by decide +kernel
theorem dX7_letterPlace_17 : decode cX7_letterPlace 17 = .ok (.bipush 64, 2) := by decide +kernel
theorem dX7_letterPlace_19 : decode cX7_letterPlace 19 = .ok (.if_icmp .lt 5, 3) := by decide +kernel
theorem dX7_letterPlace_22 : decode cX7_letterPlace 22 = .ok (.iconst (-1), 1) := by decide +kernel
theorem dX7_letterPlace_23 : decode cX7_letterPlace 23 = .ok (.ireturn, 1) := by decide +kernel
theorem dX7_letterPlace_24 : decode cX7_letterPlace 24 = .ok (.iload_n 0, 1) := by decide +kernel
theorem dX7_letterPlace_25 : decode cX7_letterPlace 25 = .ok (.bipush 9, 2) := by decide +kernel
theorem dX7_letterPlace_27 : decode cX7_letterPlace 27 = .ok (.isub, 1) := by decide +kernel
theorem dX7_letterPlace_28 : decode cX7_letterPlace 28 = .ok (.bipush 64, 2) := by decide +kernel
theorem dX7_letterPlace_30 : decode cX7_letterPlace 30 = .ok (.imul, 1) := by decide +kernel
theorem dX7_letterPlace_31 : decode cX7_letterPlace 31 = .ok (.iload_n 1, 1) := by decide +kernel
theorem dX7_letterPlace_32 : decode cX7_letterPlace 32 = .ok (.iadd, 1) := by decide +kernel
theorem dX7_letterPlace_33 : decode cX7_letterPlace 33 = .ok (.ireturn, 1) := by decide +kernel
def f_X7_letterPlace (μ : Mm) (p0 : Int32) (p1 : Int32) : Option Int32 :=
 if p0 < (9 : Int32) then
 some (-1 : Int32)
 else
 if (12 : Int32) < p0 then
 some (-1 : Int32)
 else
 if p1 < 0 then
 some (-1 : Int32)
 else
 if p1 < (64 : Int32) then
 some (((p0 - (9 : Int32)) * (64 : Int32)) + p1)
 else
 some (-1 : Int32)
set_option maxHeartbeats 4000000 in
set_option maxRecDepth 100000 in
theorem c_X7_letterPlace (l : Launch) (E : En) {μ : Mm} {p0 : Int32} {p1 : Int32} {z : Int32} (hf : f_X7_letterPlace μ p0 p1 = some z) : Met l yX7_letterPlace (wt yX7_letterPlace cX7_letterPlace 2 (some .int)) { frames := 0, cells := 0, slots := 0, locals := 0 } (Pm E [.int p0, .int p1] μ) (Qm E (some (.int z)) μ) 0 0 (Ad E) := by
  unfold f_X7_letterPlace at hf
  refine met_of (cc := cX7_letterPlace) (nL := 2) (ret := (some .int)) (by decide) _ (Nat.le_of_ble_eq_true rfl) ?_
  intro p e s m below meth c C hr hlk hI ls hl
  have hx := C.1.1
  have hb := C.1.2.1
  have hl : lv_has ls 2 [(0, .int p0), (1, .int p1)] := hl
  refine lv_iload_n hx hb dX7_letterPlace_0 rfl (lv_at hl 0 rfl) ?_
  refine lv_bipush (v := (9 : Int32)) hx hb dX7_letterPlace_1 kb_9 ?_
  refine lv_icmp_lt (tgt := 22) hx hb dX7_letterPlace_3 rfl (fun hc => ?_) (fun hc => ?_)
  · replace hf := it hf hc
    refine lv_iconst (v := (-1 : Int32)) hx hb dX7_letterPlace_22 kc_m1 ?_
    obtain rfl := Option.some.inj hf
    exact m_iret C hr hlk hI dX7_letterPlace_23
  · replace hf := ie hf hc
    refine lv_iload_n hx hb dX7_letterPlace_6 rfl (lv_at hl 0 rfl) ?_
    refine lv_bipush (v := (12 : Int32)) hx hb dX7_letterPlace_7 kb_12 ?_
    refine lv_icmp_gt (tgt := 22) hx hb dX7_letterPlace_9 rfl (fun hc => ?_) (fun hc => ?_)
    · replace hf := it hf hc
      refine lv_iconst (v := (-1 : Int32)) hx hb dX7_letterPlace_22 kc_m1 ?_
      obtain rfl := Option.some.inj hf
      exact m_iret C hr hlk hI dX7_letterPlace_23
    · replace hf := ie hf hc
      refine lv_iload_n hx hb dX7_letterPlace_12 rfl (lv_at hl 1 rfl) ?_
      refine lv_if_lt (tgt := 22) hx hb dX7_letterPlace_13 rfl (fun hc => ?_) (fun hc => ?_)
      · replace hf := it hf hc
        refine lv_iconst (v := (-1 : Int32)) hx hb dX7_letterPlace_22 kc_m1 ?_
        obtain rfl := Option.some.inj hf
        exact m_iret C hr hlk hI dX7_letterPlace_23
      · replace hf := ie hf hc
        refine lv_iload_n hx hb dX7_letterPlace_16 rfl (lv_at hl 1 rfl) ?_
        refine lv_bipush (v := (64 : Int32)) hx hb dX7_letterPlace_17 kb_64 ?_
        refine lv_icmp_lt (tgt := 24) hx hb dX7_letterPlace_19 rfl (fun hc => ?_) (fun hc => ?_)
        · replace hf := it hf hc
          refine lv_iload_n hx hb dX7_letterPlace_24 rfl (lv_at hl 0 rfl) ?_
          refine lv_bipush (v := (9 : Int32)) hx hb dX7_letterPlace_25 kb_9 ?_
          refine lv_isub hx hb dX7_letterPlace_27 ?_
          refine lv_bipush (v := (64 : Int32)) hx hb dX7_letterPlace_28 kb_64 ?_
          refine lv_imul hx hb dX7_letterPlace_30 ?_
          refine lv_iload_n hx hb dX7_letterPlace_31 rfl (lv_at hl 1 rfl) ?_
          refine lv_iadd hx hb dX7_letterPlace_32 ?_
          obtain rfl := Option.some.inj hf
          exact m_iret C hr hlk hI dX7_letterPlace_33
        · replace hf := ie hf hc
          refine lv_iconst (v := (-1 : Int32)) hx hb dX7_letterPlace_22 kc_m1 ?_
          obtain rfl := Option.some.inj hf
          exact m_iret C hr hlk hI dX7_letterPlace_23

theorem dX7_letterAt_0 : decode cX7_letterAt 0 = .ok (.iload_n 1, 1) := by decide +kernel
theorem dX7_letterAt_1 : decode cX7_letterAt 1 = .ok (.iload_n 2, 1) := by decide +kernel
theorem dX7_letterAt_2 : decode cX7_letterAt 2 = .ok (.invokestatic 107, 3) := by decide +kernel
theorem dX7_letterAt_5 : decode cX7_letterAt 5 = .ok (.istore_n 3, 1) := by decide +kernel
theorem dX7_letterAt_6 : decode cX7_letterAt 6 = .ok (.iload_n 3, 1) := by decide +kernel
theorem dX7_letterAt_7 : decode cX7_letterAt 7 = .ok (.iconst (-1), 1) := by decide +kernel
theorem dX7_letterAt_8 : decode cX7_letterAt 8 = .ok (.if_icmp .ne 7, 3) := by decide +kernel
theorem dX7_letterAt_11 : decode cX7_letterAt 11 = .ok (.iconst (-1), 1) := by decide +kernel
theorem dX7_letterAt_12 : decode cX7_letterAt 12 = .ok (.goto 9, 3) := by decide +kernel
theorem dX7_letterAt_15 : decode cX7_letterAt 15 = .ok (.aload_n 0, 1) := by decide +kernel
theorem dX7_letterAt_16 : decode cX7_letterAt 16 = .ok (.getfield 24, 3) := by decide +kernel
theorem dX7_letterAt_19 : decode cX7_letterAt 19 = .ok (.iload_n 3, 1) := by decide +kernel
theorem dX7_letterAt_20 : decode cX7_letterAt 20 = .ok (.iaload, 1) := by decide +kernel
theorem dX7_letterAt_21 : decode cX7_letterAt 21 = .ok (.ireturn, 1) := by decide +kernel
def f_X7_letterAt (μ : Mm) (i0 : Nat) (p1 : Int32) (p2 : Int32) : Option Int32 :=
 (f_X7_letterPlace μ p1 p2).bind fun q5 =>
 if q5 = (-1 : Int32) then
 some (-1 : Int32)
 else
 (ra μ 704 i0 256 q5).bind fun v7 =>
 some v7
set_option maxHeartbeats 4000000 in
set_option maxRecDepth 100000 in
theorem c_X7_letterAt (l : Launch) (E : En) {μ : Mm} {i0 : Nat} {p1 : Int32} {p2 : Int32} (h0 : l7 E i0) {z : Int32} (hf : f_X7_letterAt μ i0 p1 p2 = some z) : Met l yX7_letterAt (wt yX7_letterAt cX7_letterAt 4 (some .int)) { frames := 1, cells := 0, slots := 0, locals := 21 } (Pm E [.ref (ad E 700 i0), .int p1, .int p2] μ) (Qm E (some (.int z)) μ) 0 0 (Ad E) := by
  unfold f_X7_letterAt at hf
  refine met_of (cc := cX7_letterAt) (nL := 4) (ret := (some .int)) (by decide) _ (Nat.le_of_ble_eq_true rfl) ?_
  intro p e s m below meth c C hr hlk hI ls hl
  have hx := C.1.1
  have hb := C.1.2.1
  have hl : lv_has ls 4 [(0, .ref (ad E 700 i0)), (1, .int p1), (2, .int p2)] := hl
  refine lv_iload_n hx hb dX7_letterAt_0 rfl (lv_at hl 1 rfl) ?_
  refine lv_iload_n hx hb dX7_letterAt_1 rfl (lv_at hl 2 rfl) ?_
  obtain ⟨q5, e6, hf⟩ := ob hf
  refine mcS (As := [.int p1, .int p2]) (rest := []) C hI (c_X7_letterPlace l E  e6) ml_X7_107 ks_X7_letterPlace rfl rfl ⟨Nat.le_of_ble_eq_true rfl, Nat.le_of_ble_eq_true rfl⟩ ⟨Nat.zero_le _, Nat.zero_le _⟩ rfl rfl hl.1 (Nat.le_of_ble_eq_true rfl) dX7_letterAt_2 (st1 := [.int q5]) rfl (fun H locs hI => ?_)
  refine lv_istore_n hx hb dX7_letterAt_5 rfl hl (by decide) rfl (fun ls hl => ?_)
  have hl : lv_has ls 4 [(3, .int q5), (0, .ref (ad E 700 i0)), (1, .int p1), (2, .int p2)] := hl
  refine lv_iload_n hx hb dX7_letterAt_6 rfl (lv_at hl 0 rfl) ?_
  refine lv_iconst (v := (-1 : Int32)) hx hb dX7_letterAt_7 kc_m1 ?_
  refine lv_icmp_ne (tgt := 15) hx hb dX7_letterAt_8 rfl (fun hc => ?_) (fun hc => ?_)
  · replace hf := ie hf hc
    refine lv_aload_n hx hb dX7_letterAt_15 rfl (lv_at hl 1 rfl) ?_
    refine gf_7_3 C hI h0.1 fl_X7_24 dX7_letterAt_16 ?_
    refine lv_iload_n hx hb dX7_letterAt_19 rfl (lv_at hl 0 rfl) ?_
    obtain ⟨v7, e8, hf⟩ := ob hf
    refine m_iald C hI h0.2.2.2.2.1 (ce_704 E _ _ _) e8 dX7_letterAt_20 ?_
    obtain rfl := Option.some.inj hf
    exact m_iret C hr hlk hI dX7_letterAt_21
  · replace hf := it hf hc
    refine lv_iconst (v := (-1 : Int32)) hx hb dX7_letterAt_11 kc_m1 ?_
    refine lv_goto (tgt := 21) hx hb dX7_letterAt_12 rfl ?_
    obtain rfl := Option.some.inj hf
    exact m_iret C hr hlk hI dX7_letterAt_21

theorem dX7_letterProcessor_0 : decode cX7_letterProcessor 0 = .ok (.iload_n 1, 1) := by decide +kernel
theorem dX7_letterProcessor_1 : decode cX7_letterProcessor 1 = .ok (.sipush 200, 3) := by decide +kernel
theorem dX7_letterProcessor_4 : decode cX7_letterProcessor 4 = .ok (.idiv, 1) := by decide +kernel
theorem dX7_letterProcessor_5 : decode cX7_letterProcessor 5 = .ok (.ireturn, 1) := by decide +kernel
def f_X7_letterProcessor (μ : Mm) (i0 : Nat) (p1 : Int32) : Option Int32 :=
 some (p1 / (200 : Int32))
set_option maxHeartbeats 4000000 in
set_option maxRecDepth 100000 in
theorem c_X7_letterProcessor (l : Launch) (E : En) {μ : Mm} {i0 : Nat} {p1 : Int32} (h0 : l7 E i0) {z : Int32} (hf : f_X7_letterProcessor μ i0 p1 = some z) : Met l yX7_letterProcessor (wt yX7_letterProcessor cX7_letterProcessor 2 (some .int)) { frames := 0, cells := 0, slots := 0, locals := 0 } (Pm E [.ref (ad E 700 i0), .int p1] μ) (Qm E (some (.int z)) μ) 0 0 (Ad E) := by
  unfold f_X7_letterProcessor at hf
  refine met_of (cc := cX7_letterProcessor) (nL := 2) (ret := (some .int)) (by decide) _ (Nat.le_of_ble_eq_true rfl) ?_
  intro p e s m below meth c C hr hlk hI ls hl
  have hx := C.1.1
  have hb := C.1.2.1
  have hl : lv_has ls 2 [(0, .ref (ad E 700 i0)), (1, .int p1)] := hl
  refine lv_iload_n hx hb dX7_letterProcessor_0 rfl (lv_at hl 1 rfl) ?_
  refine lv_sipush (v := (200 : Int32)) hx hb dX7_letterProcessor_1 ks_200 ?_
  refine lv_idiv hx hb dX7_letterProcessor_4 (by decide) ?_
  obtain rfl := Option.some.inj hf
  exact m_iret C hr hlk hI dX7_letterProcessor_5

theorem dX7_letterTime_0 : decode cX7_letterTime 0 = .ok (.aload_n 0, 1) := by decide +kernel
theorem dX7_letterTime_1 : decode cX7_letterTime 1 = .ok (.aload_n 0, 1) := by decide +kernel
theorem dX7_letterTime_2 : decode cX7_letterTime 2 = .ok (.iload_n 1, 1) := by decide +kernel
theorem dX7_letterTime_3 : decode cX7_letterTime 3 = .ok (.invokevirtual 110, 3) := by decide +kernel
theorem dX7_letterTime_6 : decode cX7_letterTime 6 = .ok (.invokevirtual 61, 3) := by decide +kernel
theorem dX7_letterTime_9 : decode cX7_letterTime 9 = .ok (.iload_n 1, 1) := by decide +kernel
theorem dX7_letterTime_10 : decode cX7_letterTime 10 = .ok (.sipush 200, 3) := by decide +kernel
theorem dX7_letterTime_13 : decode cX7_letterTime 13 = .ok (.irem, 1) := by decide +kernel
theorem dX7_letterTime_14 : decode cX7_letterTime 14 = .ok (.invokevirtual 100, 3) := by decide +kernel
theorem dX7_letterTime_17 : decode cX7_letterTime 17 = .ok (.ireturn, 1) := by decide +kernel
def f_X7_letterTime (μ : Mm) (i0 : Nat) (p1 : Int32) : Option Int32 :=
 (f_X7_letterProcessor μ i0 p1).bind fun q7 =>
 (f_X7_laneOf μ i0 q7).bind fun q9 =>
 (f_X2_timeOf μ q9 (p1 - p1 / (200 : Int32) * (200 : Int32))).bind fun q11 =>
 some q11
set_option maxHeartbeats 4000000 in
set_option maxRecDepth 100000 in
theorem c_X7_letterTime (l : Launch) (E : En) {μ : Mm} {i0 : Nat} {p1 : Int32} (h0 : l7 E i0) {z : Int32} (hf : f_X7_letterTime μ i0 p1 = some z) : Met l yX7_letterTime (wt yX7_letterTime cX7_letterTime 2 (some .int)) { frames := 2, cells := 0, slots := 0, locals := 42 } (Pm E [.ref (ad E 700 i0), .int p1] μ) (Qm E (some (.int z)) μ) 0 0 (Ad E) := by
  unfold f_X7_letterTime at hf
  refine met_of (cc := cX7_letterTime) (nL := 2) (ret := (some .int)) (by decide) _ (Nat.le_of_ble_eq_true rfl) ?_
  intro p e s m below meth c C hr hlk hI ls hl
  have hx := C.1.1
  have hb := C.1.2.1
  have hl : lv_has ls 2 [(0, .ref (ad E 700 i0)), (1, .int p1)] := hl
  refine lv_aload_n hx hb dX7_letterTime_0 rfl (lv_at hl 0 rfl) ?_
  refine lv_aload_n hx hb dX7_letterTime_1 rfl (lv_at hl 0 rfl) ?_
  refine lv_iload_n hx hb dX7_letterTime_2 rfl (lv_at hl 1 rfl) ?_
  obtain ⟨q7, e8, hf⟩ := ob hf
  refine mcV (As := [.int p1]) (rest := [.ref (ad E 700 i0)]) C hI (c_X7_letterProcessor l E h0 e8) ml_X7_110 kv_X7_letterProcessor (m_recv C hI h0.1 (ce_700 E _ _ _) rfl) rfl rfl ⟨Nat.le_of_ble_eq_true rfl, Nat.le_of_ble_eq_true rfl⟩ ⟨Nat.zero_le _, Nat.zero_le _⟩ rfl rfl hl.1 (Nat.le_of_ble_eq_true rfl) dX7_letterTime_3 (st1 := [.int q7, .ref (ad E 700 i0)]) rfl (fun H locs hI => ?_)
  obtain ⟨q9, e10, hf⟩ := ob hf
  refine mcV (As := [.int q7]) (rest := []) C hI (c_X7_laneOf l E h0 e10) ml_X7_61 kv_X7_laneOf (m_recv C hI h0.1 (ce_700 E _ _ _) rfl) rfl rfl ⟨Nat.le_of_ble_eq_true rfl, Nat.le_of_ble_eq_true rfl⟩ ⟨Nat.zero_le _, Nat.zero_le _⟩ rfl rfl hl.1 (Nat.le_of_ble_eq_true rfl) dX7_letterTime_6 (st1 := [.ref (ad E 200 q9)]) rfl (fun H locs hI => ?_)
  refine lv_iload_n hx hb dX7_letterTime_9 rfl (lv_at hl 1 rfl) ?_
  refine lv_sipush (v := (200 : Int32)) hx hb dX7_letterTime_10 ks_200 ?_
  refine lv_irem hx hb dX7_letterTime_13 (by decide) ?_
  obtain ⟨q11, e12, hf⟩ := ob hf
  refine mcV (As := [.int (p1 - p1 / (200 : Int32) * (200 : Int32))]) (rest := []) C hI (c_X2_timeOf l E (lr_X7_laneOf h0 e10) e12) ml_X7_100 kv_X2_timeOf (m_recv C hI (lr_X7_laneOf h0 e10).1 (ce_200 E _ _ _) rfl) rfl rfl ⟨Nat.le_of_ble_eq_true rfl, Nat.le_of_ble_eq_true rfl⟩ ⟨Nat.zero_le _, Nat.zero_le _⟩ rfl rfl hl.1 (Nat.le_of_ble_eq_true rfl) dX7_letterTime_14 (st1 := [.int q11]) rfl (fun H locs hI => ?_)
  obtain rfl := Option.some.inj hf
  exact m_iret C hr hlk hI dX7_letterTime_17

theorem dX7_restart_0 : decode cX7_restart 0 = .ok (.aload_n 0, 1) := by decide +kernel
theorem dX7_restart_1 : decode cX7_restart 1 = .ok (.iload_n 1, 1) := by decide +kernel
theorem dX7_restart_2 : decode cX7_restart 2 = .ok (.putfield 27, 3) := by decide +kernel
theorem dX7_restart_5 : decode cX7_restart 5 = .ok (.aload_n 0, 1) := by decide +kernel
theorem dX7_restart_6 : decode cX7_restart 6 = .ok (.iload_n 2, 1) := by decide +kernel
theorem dX7_restart_7 : decode cX7_restart 7 = .ok (.putfield 31, 3) := by decide +kernel
theorem dX7_restart_10 : decode cX7_restart 10 = .ok (.aload_n 0, 1) := by decide +kernel
theorem dX7_restart_11 : decode cX7_restart 11 = .ok (.iload_n 3, 1) := by decide +kernel
theorem dX7_restart_12 : decode cX7_restart 12 = .ok (.putfield 34, 3) := by decide +kernel
theorem dX7_restart_15 : decode cX7_restart 15 = .ok (.aload_n 0, 1) := by decide +kernel
theorem dX7_restart_16 : decode cX7_restart 16 = .ok (.getfield 9, 3) := by decide +kernel
theorem dX7_restart_19 : decode cX7_restart 19 = .ok (.iconst 0, 1) := by decide +kernel
theorem dX7_restart_20 : decode cX7_restart 20 = .ok (.invokestatic 37, 3) := by decide +kernel
theorem dX7_restart_23 : decode cX7_restart 23 = .ok (.aload_n 0, 1) := by decide +kernel
theorem dX7_restart_24 : decode cX7_restart 24 = .ok (.getfield 15, 3) := by decide +kernel
theorem dX7_restart_27 : decode cX7_restart 27 = .ok (.iconst 0, 1) := by decide +kernel
theorem dX7_restart_28 : decode cX7_restart 28 = .ok (.invokestatic 37, 3) := by decide +kernel
theorem dX7_restart_31 : decode cX7_restart 31 = .ok (.aload_n 0, 1) := by decide +kernel
theorem dX7_restart_32 : decode cX7_restart 32 = .ok (.getfield 24, 3) := by decide +kernel
theorem dX7_restart_35 : decode cX7_restart 35 = .ok (.iconst (-1), 1) := by decide +kernel
theorem dX7_restart_36 : decode cX7_restart 36 = .ok (.invokestatic 37, 3) := by decide +kernel
theorem dX7_restart_39 : decode cX7_restart 39 = .ok (.iconst 0, 1) := by decide +kernel
theorem dX7_restart_40 : decode cX7_restart 40 = .ok (.istore 4, 2) := by decide +kernel
theorem dX7_restart_42 : decode cX7_restart 42 = .ok (.iload 4, 2) := by decide +kernel
theorem dX7_restart_44 : decode cX7_restart 44 = .ok (.iconst 3, 1) := by decide +kernel
theorem dX7_restart_45 : decode cX7_restart 45 = .ok (.if_icmp .ge 19, 3) := by decide +kernel
theorem dX7_restart_48 : decode cX7_restart 48 = .ok (.aload_n 0, 1) := by decide +kernel
theorem dX7_restart_49 : decode cX7_restart 49 = .ok (.getfield 20, 3) := by decide +kernel
theorem dX7_restart_52 : decode cX7_restart 52 = .ok (.iload 4, 2) := by decide +kernel
theorem dX7_restart_54 : decode cX7_restart 54 = .ok (.aaload, 1) := by decide +kernel
theorem dX7_restart_55 : decode cX7_restart 55 = .ok (.invokevirtual 44, 3) := by decide +kernel
theorem dX7_restart_58 : decode cX7_restart 58 = .ok (.iinc 4 1, 3) := by decide +kernel
theorem dX7_restart_61 : decode cX7_restart 61 = .ok (.goto (-19), 3) := by decide +kernel
theorem dX7_restart_64 : decode cX7_restart 64 = .ok (.return_, 1) := by decide +kernel
def f_X7_restart_b42 (F : Nat) : Nat → Mm → Nat → Int32 → Option Mm
 | 0, _, _, _ => none
 | N + 1, μ, a0, a4 =>
 if (3 : Int32) ≤ a4 then
 some μ
 else
 (rq 3 a4).bind fun j17 =>
 (f_X2_empty μ (3 * a0 + j17)).bind fun q19 =>
 f_X7_restart_b42 F N q19 a0 (a4 + (1 : Int32))
set_option maxHeartbeats 4000000 in
set_option maxRecDepth 100000 in
theorem cb_X7_restart_42 {l : Launch} {E : En} {p : Program} {e : Env} {s : State} {m : MethodId} {av : Array Value} {below : List Frame} {meth : Method} {c : Code} (C : Cx E p s m av c cX7_restart 5 yX7_restart.cls) (hr : meth.sig.returnType = (none : Option FieldType)) (hlk : meth.locks = false) {F : Nat} {z : Mm} : ∀ (N : Nat) (μ : Mm) (a0 : Nat) (a4 : Int32) (h_a0 : l7 E a0), f_X7_restart_b42 F N μ a0 a4 = some z → ∀ {H : Heap} {locs : List Loc} {ls : Array Slot}, Iv E s μ H locs → lv_has ls 5 [(0, .ref (ad E 700 a0)), (4, .int a4)] → W p l e { frames := 3, cells := 0, slots := 0, locals := 63 } s m av below meth c H locs 0 0 (MQ below (Qm E none z) av s 0 0 (Ad E)) (F0 m 42 ls []) := by
  have hx := C.1.1
  have hb := C.1.2.1
  intro N
  induction N with
  | zero => intro μ a0 a4 h_a0 hf; cases hf
  | succ N ih =>
    intro μ a0 a4 h_a0 hf H locs ls hI hl
    rw [f_X7_restart_b42] at hf
    refine lv_iload hx hb dX7_restart_42 (lv_at hl 1 rfl) ?_
    refine lv_iconst (v := (3 : Int32)) hx hb dX7_restart_44 kc_3 ?_
    refine lv_icmp_ge (tgt := 64) hx hb dX7_restart_45 rfl (fun hc => ?_) (fun hc => ?_)
    · replace hf := it hf hc
      obtain rfl := Option.some.inj hf
      exact m_vret C hr hlk hI dX7_restart_64
    · replace hf := ie hf hc
      refine lv_aload_n hx hb dX7_restart_48 rfl (lv_at hl 0 rfl) ?_
      refine gf_7_2 C hI h_a0.1 fl_X7_20 dX7_restart_49 ?_
      refine lv_iload hx hb dX7_restart_52 (lv_at hl 1 rfl) ?_
      obtain ⟨j17, e18, hf⟩ := ob hf
      refine m_aald (t0 := 3) (Cn := RX2) (fun _ => rfl) C hI h_a0.2.2.2.1 (ce_703 E _ _ _) e18 dX7_restart_54 ?_
      obtain ⟨q19, e20, hf⟩ := ob hf
      refine mcV (As := []) (rest := []) C hI (c_X2_empty l E (l7_lane h_a0 e18) e20) ml_X7_44 kv_X2_empty (m_recv C hI (l7_lane h_a0 e18).1 (ce_200 E _ _ _) rfl) rfl rfl ⟨Nat.le_of_ble_eq_true rfl, Nat.le_of_ble_eq_true rfl⟩ ⟨Nat.zero_le _, Nat.zero_le _⟩ rfl rfl hl.1 (Nat.le_of_ble_eq_true rfl) dX7_restart_55 (st1 := []) rfl (fun H locs hI => ?_)
      refine lv_iinc (v := a4 + (1 : Int32)) hx hb dX7_restart_58 hl (k := 1) rfl (ki_1 _) (by decide) rfl (fun ls hl => ?_)
      have hl : lv_has ls 5 [(4, .int (a4 + (1 : Int32))), (0, .ref (ad E 700 a0))] := hl
      refine lv_goto (tgt := 42) hx hb dX7_restart_61 rfl ?_
      exact ih _ _ _ h_a0 hf hI (lv_sub hl [1, 0] rfl)
def f_X7_restart (F : Nat) (μ : Mm) (i0 : Nat) (p1 : Int32) (p2 : Int32) (p3 : Int32) : Option Mm :=
 (wf μ 700 i0 4 p1).bind fun m21 =>
 (wf m21 700 i0 5 p2).bind fun m23 =>
 (wf m23 700 i0 6 p3).bind fun m25 =>
 (f_J7_fill_53178 m25 701 i0 8 (0 : Int32)).bind fun q27 =>
 (f_J7_fill_53178 q27 702 i0 8 (0 : Int32)).bind fun q29 =>
 (f_J7_fill_53178 q29 704 i0 256 (-1 : Int32)).bind fun q31 =>
 f_X7_restart_b42 F F q31 i0 (0 : Int32)
set_option maxHeartbeats 4000000 in
set_option maxRecDepth 100000 in
theorem c_X7_restart (l : Launch) (E : En) {F : Nat} {μ : Mm} {i0 : Nat} {p1 : Int32} {p2 : Int32} {p3 : Int32} (h0 : l7 E i0) {z : Mm} (hf : f_X7_restart F μ i0 p1 p2 p3 = some z) : Met l yX7_restart (wt yX7_restart cX7_restart 5 (none : Option FieldType)) { frames := 3, cells := 0, slots := 0, locals := 63 } (Pm E [.ref (ad E 700 i0), .int p1, .int p2, .int p3] μ) (Qm E none z) 0 0 (Ad E) := by
  unfold f_X7_restart at hf
  refine met_of (cc := cX7_restart) (nL := 5) (ret := (none : Option FieldType)) (by decide) _ (Nat.le_of_ble_eq_true rfl) ?_
  intro p e s m below meth c C hr hlk hI ls hl
  have hx := C.1.1
  have hb := C.1.2.1
  have hl : lv_has ls 5 [(0, .ref (ad E 700 i0)), (1, .int p1), (2, .int p2), (3, .int p3)] := hl
  refine lv_aload_n hx hb dX7_restart_0 rfl (lv_at hl 0 rfl) ?_
  refine lv_iload_n hx hb dX7_restart_1 rfl (lv_at hl 1 rfl) ?_
  obtain ⟨m21, e22, hf⟩ := ob hf
  refine pf_7_4 C hI h0.1 fl_X7_27 e22 dX7_restart_2 (fun H locs hI => ?_)
  refine lv_aload_n hx hb dX7_restart_5 rfl (lv_at hl 0 rfl) ?_
  refine lv_iload_n hx hb dX7_restart_6 rfl (lv_at hl 2 rfl) ?_
  obtain ⟨m23, e24, hf⟩ := ob hf
  refine pf_7_5 C hI h0.1 fl_X7_31 e24 dX7_restart_7 (fun H locs hI => ?_)
  refine lv_aload_n hx hb dX7_restart_10 rfl (lv_at hl 0 rfl) ?_
  refine lv_iload_n hx hb dX7_restart_11 rfl (lv_at hl 3 rfl) ?_
  obtain ⟨m25, e26, hf⟩ := ob hf
  refine pf_7_6 C hI h0.1 fl_X7_34 e26 dX7_restart_12 (fun H locs hI => ?_)
  refine lv_aload_n hx hb dX7_restart_15 rfl (lv_at hl 0 rfl) ?_
  refine gf_7_0 C hI h0.1 fl_X7_9 dX7_restart_16 ?_
  refine lv_iconst (v := (0 : Int32)) hx hb dX7_restart_19 kc_0 ?_
  obtain ⟨q27, e28, hf⟩ := ob hf
  refine mcS (As := [.ref (ad E 701 i0), .int (0 : Int32)]) (rest := []) C hI (c_J7_fill_53178 l E h0.2.1 (ce_701 E i0) (Nat.le_of_ble_eq_true rfl) e28) ml_X7_37 ks_J7_fill_53178 rfl rfl ⟨Nat.le_of_ble_eq_true rfl, Nat.le_of_ble_eq_true rfl⟩ ⟨Nat.zero_le _, Nat.zero_le _⟩ rfl rfl hl.1 (Nat.le_of_ble_eq_true rfl) dX7_restart_20 (st1 := []) rfl (fun H locs hI => ?_)
  refine lv_aload_n hx hb dX7_restart_23 rfl (lv_at hl 0 rfl) ?_
  refine gf_7_1 C hI h0.1 fl_X7_15 dX7_restart_24 ?_
  refine lv_iconst (v := (0 : Int32)) hx hb dX7_restart_27 kc_0 ?_
  obtain ⟨q29, e30, hf⟩ := ob hf
  refine mcS (As := [.ref (ad E 702 i0), .int (0 : Int32)]) (rest := []) C hI (c_J7_fill_53178 l E h0.2.2.1 (ce_702 E i0) (Nat.le_of_ble_eq_true rfl) e30) ml_X7_37 ks_J7_fill_53178 rfl rfl ⟨Nat.le_of_ble_eq_true rfl, Nat.le_of_ble_eq_true rfl⟩ ⟨Nat.zero_le _, Nat.zero_le _⟩ rfl rfl hl.1 (Nat.le_of_ble_eq_true rfl) dX7_restart_28 (st1 := []) rfl (fun H locs hI => ?_)
  refine lv_aload_n hx hb dX7_restart_31 rfl (lv_at hl 0 rfl) ?_
  refine gf_7_3 C hI h0.1 fl_X7_24 dX7_restart_32 ?_
  refine lv_iconst (v := (-1 : Int32)) hx hb dX7_restart_35 kc_m1 ?_
  obtain ⟨q31, e32, hf⟩ := ob hf
  refine mcS (As := [.ref (ad E 704 i0), .int (-1 : Int32)]) (rest := []) C hI (c_J7_fill_53178 l E h0.2.2.2.2.1 (ce_704 E i0) (Nat.le_of_ble_eq_true rfl) e32) ml_X7_37 ks_J7_fill_53178 rfl rfl ⟨Nat.le_of_ble_eq_true rfl, Nat.le_of_ble_eq_true rfl⟩ ⟨Nat.zero_le _, Nat.zero_le _⟩ rfl rfl hl.1 (Nat.le_of_ble_eq_true rfl) dX7_restart_36 (st1 := []) rfl (fun H locs hI => ?_)
  refine lv_iconst (v := (0 : Int32)) hx hb dX7_restart_39 kc_0 ?_
  refine lv_istore hx hb dX7_restart_40 hl (by decide) rfl (fun ls hl => ?_)
  have hl : lv_has ls 5 [(4, .int (0 : Int32)), (0, .ref (ad E 700 i0)), (1, .int p1), (2, .int p2), (3, .int p3)] := hl
  exact cb_X7_restart_42 C hr hlk  _ _ _ _ h0 hf hI (lv_sub hl [1, 0] rfl)

theorem dX7_become_0 : decode cX7_become 0 = .ok (.aload_n 0, 1) := by decide +kernel
theorem dX7_become_1 : decode cX7_become 1 = .ok (.aload_n 1, 1) := by decide +kernel
theorem dX7_become_2 : decode cX7_become 2 = .ok (.getfield 27, 3) := by decide +kernel
theorem dX7_become_5 : decode cX7_become 5 = .ok (.putfield 27, 3) := by decide +kernel
theorem dX7_become_8 : decode cX7_become 8 = .ok (.aload_n 0, 1) := by decide +kernel
theorem dX7_become_9 : decode cX7_become 9 = .ok (.aload_n 1, 1) := by decide +kernel
theorem dX7_become_10 : decode cX7_become 10 = .ok (.getfield 31, 3) := by decide +kernel
theorem dX7_become_13 : decode cX7_become 13 = .ok (.putfield 31, 3) := by decide +kernel
theorem dX7_become_16 : decode cX7_become 16 = .ok (.aload_n 0, 1) := by decide +kernel
theorem dX7_become_17 : decode cX7_become 17 = .ok (.aload_n 1, 1) := by decide +kernel
theorem dX7_become_18 : decode cX7_become 18 = .ok (.getfield 34, 3) := by decide +kernel
theorem dX7_become_21 : decode cX7_become 21 = .ok (.putfield 34, 3) := by decide +kernel
theorem dX7_become_24 : decode cX7_become 24 = .ok (.aload_n 1, 1) := by decide +kernel
theorem dX7_become_25 : decode cX7_become 25 = .ok (.getfield 9, 3) := by decide +kernel
theorem dX7_become_28 : decode cX7_become 28 = .ok (.iconst 0, 1) := by decide +kernel
theorem dX7_become_29 : decode cX7_become 29 = .ok (.aload_n 0, 1) := by decide +kernel
theorem dX7_become_30 : decode cX7_become 30 = .ok (.getfield 9, 3) := by decide +kernel
theorem dX7_become_33 : decode cX7_become 33 = .ok (.iconst 0, 1) := by decide +kernel
theorem dX7_become_34 : decode cX7_become 34 = .ok (.bipush 8, 2) := by decide +kernel
theorem dX7_become_36 : decode cX7_become 36 = .ok (.invokestatic 47, 3) := by decide +kernel
theorem dX7_become_39 : decode cX7_become 39 = .ok (.aload_n 1, 1) := by decide +kernel
theorem dX7_become_40 : decode cX7_become 40 = .ok (.getfield 15, 3) := by decide +kernel
theorem dX7_become_43 : decode cX7_become 43 = .ok (.iconst 0, 1) := by decide +kernel
theorem dX7_become_44 : decode cX7_become 44 = .ok (.aload_n 0, 1) := by decide +kernel
theorem dX7_become_45 : decode cX7_become 45 = .ok (.getfield 15, 3) := by decide +kernel
theorem dX7_become_48 : decode cX7_become 48 = .ok (.iconst 0, 1) := by decide +kernel
theorem dX7_become_49 : decode cX7_become 49 = .ok (.bipush 8, 2) := by decide +kernel
theorem dX7_become_51 : decode cX7_become 51 = .ok (.invokestatic 47, 3) := by decide +kernel
theorem dX7_become_54 : decode cX7_become 54 = .ok (.aload_n 1, 1) := by decide +kernel
theorem dX7_become_55 : decode cX7_become 55 = .ok (.getfield 24, 3) := by decide +kernel
theorem dX7_become_58 : decode cX7_become 58 = .ok (.iconst 0, 1) := by decide +kernel
theorem dX7_become_59 : decode cX7_become 59 = .ok (.aload_n 0, 1) := by decide +kernel
theorem dX7_become_60 : decode cX7_become 60 = .ok (.getfield 24, 3) := by decide +kernel
theorem dX7_become_63 : decode cX7_become 63 = .ok (.iconst 0, 1) := by decide +kernel
theorem dX7_become_64 : decode cX7_become 64 = .ok (.sipush 256, 3) := by decide +kernel
theorem dX7_become_67 : decode cX7_become 67 = .ok (.invokestatic 47, 3) := by decide +kernel
theorem dX7_become_70 : decode cX7_become 70 = .ok (.iconst 0, 1) := by decide +kernel
theorem dX7_become_71 : decode cX7_become 71 = .ok (.istore_n 2, 1) := by decide +kernel
theorem dX7_become_72 : decode cX7_become 72 = .ok (.iload_n 2, 1) := by decide +kernel
theorem dX7_become_73 : decode cX7_become 73 = .ok (.iconst 3, 1) := by decide +kernel
theorem dX7_become_74 : decode cX7_become 74 = .ok (.if_icmp .ge 24, 3) := by decide +kernel
theorem dX7_become_77 : decode cX7_become 77 = .ok (.aload_n 0, 1) := by decide +kernel
theorem dX7_become_78 : decode cX7_become 78 = .ok (.getfield 20, 3) := by decide +kernel
theorem dX7_become_81 : decode cX7_become 81 = .ok (.iload_n 2, 1) := by decide +kernel
theorem dX7_become_82 : decode cX7_become 82 = .ok (.aaload, 1) := by decide +kernel
theorem dX7_become_83 : decode cX7_become 83 = .ok (.aload_n 1, 1) := by decide +kernel
theorem dX7_become_84 : decode cX7_become 84 = .ok (.getfield 20, 3) := by decide +kernel
theorem dX7_become_87 : decode cX7_become 87 = .ok (.iload_n 2, 1) := by decide +kernel
theorem dX7_become_88 : decode cX7_become 88 = .ok (.aaload, 1) := by decide +kernel
theorem dX7_become_89 : decode cX7_become 89 = .ok (.invokevirtual 53, 3) := by decide +kernel
theorem dX7_become_92 : decode cX7_become 92 = .ok (.iinc 2 1, 3) := by decide +kernel
theorem dX7_become_95 : decode cX7_become 95 = .ok (.goto (-23), 3) := by decide +kernel
theorem dX7_become_98 : decode cX7_become 98 = .ok (.return_, 1) := by decide +kernel
def f_X7_become_b72 (F : Nat) : Nat → Mm → Nat → Nat → Int32 → Option Mm
 | 0, _, _, _, _ => none
 | N + 1, μ, a0, a1, a2 =>
 if (3 : Int32) ≤ a2 then
 some μ
 else
 (rq 3 a2).bind fun j19 =>
 (rq 3 a2).bind fun j21 =>
 (f_X2_become μ (3 * a0 + j19) (3 * a1 + j21)).bind fun q23 =>
 f_X7_become_b72 F N q23 a0 a1 (a2 + (1 : Int32))
set_option maxHeartbeats 4000000 in
set_option maxRecDepth 100000 in
theorem cb_X7_become_72 {l : Launch} {E : En} {p : Program} {e : Env} {s : State} {m : MethodId} {av : Array Value} {below : List Frame} {meth : Method} {c : Code} (C : Cx E p s m av c cX7_become 3 yX7_become.cls) (hr : meth.sig.returnType = (none : Option FieldType)) (hlk : meth.locks = false) {F : Nat} {z : Mm} : ∀ (N : Nat) (μ : Mm) (a0 : Nat) (a1 : Nat) (a2 : Int32) (h_a0 : l7 E a0) (h_a1 : l7 E a1), f_X7_become_b72 F N μ a0 a1 a2 = some z → ∀ {H : Heap} {locs : List Loc} {ls : Array Slot}, Iv E s μ H locs → lv_has ls 3 [(0, .ref (ad E 700 a0)), (1, .ref (ad E 700 a1)), (2, .int a2)] → W p l e { frames := 3, cells := 0, slots := 0, locals := 82 } s m av below meth c H locs 0 0 (MQ below (Qm E none z) av s 0 0 (Ad E)) (F0 m 72 ls []) := by
  have hx := C.1.1
  have hb := C.1.2.1
  intro N
  induction N with
  | zero => intro μ a0 a1 a2 h_a0 h_a1 hf; cases hf
  | succ N ih =>
    intro μ a0 a1 a2 h_a0 h_a1 hf H locs ls hI hl
    rw [f_X7_become_b72] at hf
    refine lv_iload_n hx hb dX7_become_72 rfl (lv_at hl 2 rfl) ?_
    refine lv_iconst (v := (3 : Int32)) hx hb dX7_become_73 kc_3 ?_
    refine lv_icmp_ge (tgt := 98) hx hb dX7_become_74 rfl (fun hc => ?_) (fun hc => ?_)
    · replace hf := it hf hc
      obtain rfl := Option.some.inj hf
      exact m_vret C hr hlk hI dX7_become_98
    · replace hf := ie hf hc
      refine lv_aload_n hx hb dX7_become_77 rfl (lv_at hl 0 rfl) ?_
      refine gf_7_2 C hI h_a0.1 fl_X7_20 dX7_become_78 ?_
      refine lv_iload_n hx hb dX7_become_81 rfl (lv_at hl 2 rfl) ?_
      obtain ⟨j19, e20, hf⟩ := ob hf
      refine m_aald (t0 := 3) (Cn := RX2) (fun _ => rfl) C hI h_a0.2.2.2.1 (ce_703 E _ _ _) e20 dX7_become_82 ?_
      refine lv_aload_n hx hb dX7_become_83 rfl (lv_at hl 1 rfl) ?_
      refine gf_7_2 C hI h_a1.1 fl_X7_20 dX7_become_84 ?_
      refine lv_iload_n hx hb dX7_become_87 rfl (lv_at hl 2 rfl) ?_
      obtain ⟨j21, e22, hf⟩ := ob hf
      refine m_aald (t0 := 3) (Cn := RX2) (fun _ => rfl) C hI h_a1.2.2.2.1 (ce_703 E _ _ _) e22 dX7_become_88 ?_
      obtain ⟨q23, e24, hf⟩ := ob hf
      refine mcV (As := [.ref (ad E 200 (3 * a1 + j21))]) (rest := []) C hI (c_X2_become l E (l7_lane h_a0 e20) (l7_lane h_a1 e22) e24) ml_X7_53 kv_X2_become (m_recv C hI (l7_lane h_a0 e20).1 (ce_200 E _ _ _) rfl) rfl rfl ⟨Nat.le_of_ble_eq_true rfl, Nat.le_of_ble_eq_true rfl⟩ ⟨Nat.zero_le _, Nat.zero_le _⟩ rfl rfl hl.1 (Nat.le_of_ble_eq_true rfl) dX7_become_89 (st1 := []) rfl (fun H locs hI => ?_)
      refine lv_iinc (v := a2 + (1 : Int32)) hx hb dX7_become_92 hl (k := 2) rfl (ki_1 _) (by decide) rfl (fun ls hl => ?_)
      have hl : lv_has ls 3 [(2, .int (a2 + (1 : Int32))), (0, .ref (ad E 700 a0)), (1, .ref (ad E 700 a1))] := hl
      refine lv_goto (tgt := 72) hx hb dX7_become_95 rfl ?_
      exact ih _ _ _ _ h_a0 h_a1 hf hI (lv_sub hl [1, 2, 0] rfl)
def f_X7_become (F : Nat) (μ : Mm) (i0 : Nat) (n1 : Nat) : Option Mm :=
 (wf μ 700 i0 4 (μ.1 700 n1 4)).bind fun m25 =>
 (wf m25 700 i0 5 (m25.1 700 n1 5)).bind fun m27 =>
 (wf m27 700 i0 6 (m27.1 700 n1 6)).bind fun m29 =>
 (cpI m29 701 n1 8 701 i0 8 (0 : Int32) (0 : Int32) (8 : Int32)).bind fun m31 =>
 (cpI m31 702 n1 8 702 i0 8 (0 : Int32) (0 : Int32) (8 : Int32)).bind fun m33 =>
 (cpI m33 704 n1 256 704 i0 256 (0 : Int32) (0 : Int32) (256 : Int32)).bind fun m35 =>
 f_X7_become_b72 F F m35 i0 n1 (0 : Int32)
set_option maxHeartbeats 4000000 in
set_option maxRecDepth 100000 in
theorem c_X7_become (l : Launch) (E : En) {F : Nat} {μ : Mm} {i0 : Nat} {n1 : Nat} (h0 : l7 E i0) (h1 : l7 E n1) {z : Mm} (hf : f_X7_become F μ i0 n1 = some z) : Met l yX7_become (wt yX7_become cX7_become 3 (none : Option FieldType)) { frames := 3, cells := 0, slots := 0, locals := 82 } (Pm E [.ref (ad E 700 i0), .ref (ad E 700 n1)] μ) (Qm E none z) 0 0 (Ad E) := by
  unfold f_X7_become at hf
  refine met_of (cc := cX7_become) (nL := 3) (ret := (none : Option FieldType)) (by decide) _ (Nat.le_of_ble_eq_true rfl) ?_
  intro p e s m below meth c C hr hlk hI ls hl
  have hx := C.1.1
  have hb := C.1.2.1
  have hl : lv_has ls 3 [(0, .ref (ad E 700 i0)), (1, .ref (ad E 700 n1))] := hl
  refine lv_aload_n hx hb dX7_become_0 rfl (lv_at hl 0 rfl) ?_
  refine lv_aload_n hx hb dX7_become_1 rfl (lv_at hl 1 rfl) ?_
  refine gf_7_4 C hI h1.1 fl_X7_27 dX7_become_2 ?_
  obtain ⟨m25, e26, hf⟩ := ob hf
  refine pf_7_4 C hI h0.1 fl_X7_27 e26 dX7_become_5 (fun H locs hI => ?_)
  refine lv_aload_n hx hb dX7_become_8 rfl (lv_at hl 0 rfl) ?_
  refine lv_aload_n hx hb dX7_become_9 rfl (lv_at hl 1 rfl) ?_
  refine gf_7_5 C hI h1.1 fl_X7_31 dX7_become_10 ?_
  obtain ⟨m27, e28, hf⟩ := ob hf
  refine pf_7_5 C hI h0.1 fl_X7_31 e28 dX7_become_13 (fun H locs hI => ?_)
  refine lv_aload_n hx hb dX7_become_16 rfl (lv_at hl 0 rfl) ?_
  refine lv_aload_n hx hb dX7_become_17 rfl (lv_at hl 1 rfl) ?_
  refine gf_7_6 C hI h1.1 fl_X7_34 dX7_become_18 ?_
  obtain ⟨m29, e30, hf⟩ := ob hf
  refine pf_7_6 C hI h0.1 fl_X7_34 e30 dX7_become_21 (fun H locs hI => ?_)
  refine lv_aload_n hx hb dX7_become_24 rfl (lv_at hl 1 rfl) ?_
  refine gf_7_0 C hI h1.1 fl_X7_9 dX7_become_25 ?_
  refine lv_iconst (v := (0 : Int32)) hx hb dX7_become_28 kc_0 ?_
  refine lv_aload_n hx hb dX7_become_29 rfl (lv_at hl 0 rfl) ?_
  refine gf_7_0 C hI h0.1 fl_X7_9 dX7_become_30 ?_
  refine lv_iconst (v := (0 : Int32)) hx hb dX7_become_33 kc_0 ?_
  refine lv_bipush (v := (8 : Int32)) hx hb dX7_become_34 kb_8 ?_
  obtain ⟨m31, e32, hf⟩ := ob hf
  refine m_copyI C hI h1.2.1 h0.2.1 (ce_701 E _ _ _) (ce_701 E _) e32 acl_X7_47 hl.1 (Nat.le_of_ble_eq_true rfl) (Nat.le_of_ble_eq_true rfl) dX7_become_36 (fun H locs hI => ?_)
  refine lv_aload_n hx hb dX7_become_39 rfl (lv_at hl 1 rfl) ?_
  refine gf_7_1 C hI h1.1 fl_X7_15 dX7_become_40 ?_
  refine lv_iconst (v := (0 : Int32)) hx hb dX7_become_43 kc_0 ?_
  refine lv_aload_n hx hb dX7_become_44 rfl (lv_at hl 0 rfl) ?_
  refine gf_7_1 C hI h0.1 fl_X7_15 dX7_become_45 ?_
  refine lv_iconst (v := (0 : Int32)) hx hb dX7_become_48 kc_0 ?_
  refine lv_bipush (v := (8 : Int32)) hx hb dX7_become_49 kb_8 ?_
  obtain ⟨m33, e34, hf⟩ := ob hf
  refine m_copyI C hI h1.2.2.1 h0.2.2.1 (ce_702 E _ _ _) (ce_702 E _) e34 acl_X7_47 hl.1 (Nat.le_of_ble_eq_true rfl) (Nat.le_of_ble_eq_true rfl) dX7_become_51 (fun H locs hI => ?_)
  refine lv_aload_n hx hb dX7_become_54 rfl (lv_at hl 1 rfl) ?_
  refine gf_7_3 C hI h1.1 fl_X7_24 dX7_become_55 ?_
  refine lv_iconst (v := (0 : Int32)) hx hb dX7_become_58 kc_0 ?_
  refine lv_aload_n hx hb dX7_become_59 rfl (lv_at hl 0 rfl) ?_
  refine gf_7_3 C hI h0.1 fl_X7_24 dX7_become_60 ?_
  refine lv_iconst (v := (0 : Int32)) hx hb dX7_become_63 kc_0 ?_
  refine lv_sipush (v := (256 : Int32)) hx hb dX7_become_64 ks_256 ?_
  obtain ⟨m35, e36, hf⟩ := ob hf
  refine m_copyI C hI h1.2.2.2.2.1 h0.2.2.2.2.1 (ce_704 E _ _ _) (ce_704 E _) e36 acl_X7_47 hl.1 (Nat.le_of_ble_eq_true rfl) (Nat.le_of_ble_eq_true rfl) dX7_become_67 (fun H locs hI => ?_)
  refine lv_iconst (v := (0 : Int32)) hx hb dX7_become_70 kc_0 ?_
  refine lv_istore_n hx hb dX7_become_71 rfl hl (by decide) rfl (fun ls hl => ?_)
  have hl : lv_has ls 3 [(2, .int (0 : Int32)), (0, .ref (ad E 700 i0)), (1, .ref (ad E 700 n1))] := hl
  exact cb_X7_become_72 C hr hlk  _ _ _ _ _ h0 h1 hf hI (lv_sub hl [1, 2, 0] rfl)

theorem dX7_faultOf_0 : decode cX7_faultOf 0 = .ok (.aload_n 0, 1) := by decide +kernel
theorem dX7_faultOf_1 : decode cX7_faultOf 1 = .ok (.iload_n 1, 1) := by decide +kernel
theorem dX7_faultOf_2 : decode cX7_faultOf 2 = .ok (.invokevirtual 68, 3) := by decide +kernel
theorem dX7_faultOf_5 : decode cX7_faultOf 5 = .ok (.ifCond .eq 28, 3) := by decide +kernel
theorem dX7_faultOf_8 : decode cX7_faultOf 8 = .ok (.iload 5, 2) := by decide +kernel
theorem dX7_faultOf_10 : decode cX7_faultOf 10 = .ok (.ifCond .lt 23, 3) := by decide +kernel
theorem dX7_faultOf_13 : decode cX7_faultOf 13 = .ok (.iload 5, 2) := by decide +kernel
theorem dX7_faultOf_15 : decode cX7_faultOf 15 = .ok (.aload_n 0, 1) := by decide +kernel
theorem dX7_faultOf_16 : decode cX7_faultOf 16 = .ok (.invokevirtual 72, 3) := by decide +kernel
theorem dX7_faultOf_19 : decode cX7_faultOf 19 = .ok (.if_icmp .gt 14, 3) := by decide +kernel
theorem dX7_faultOf_22 : decode cX7_faultOf 22 = .ok (.aload_n 0, 1) := by decide +kernel
theorem dX7_faultOf_23 : decode cX7_faultOf 23 = .ok (.iload_n 2, 1) := by decide +kernel
theorem dX7_faultOf_24 : decode cX7_faultOf 24 = .ok (.iload_n 3, 1) := by decide +kernel
theorem dX7_faultOf_25 : decode cX7_faultOf 25 = .ok (.iload 4, 2) := by decide +kernel
theorem dX7_faultOf_27 : decode cX7_faultOf 27 = .ok (.invokevirtual 76, 3) := by decide +kernel
theorem dX7_faultOf_30 : decode cX7_faultOf 30 = .ok (.ifCond .ne 5, 3) := by decide +kernel
theorem dX7_faultOf_33 : decode cX7_faultOf 33 = .ok (.iconst (-1), 1) := by decide +kernel
theorem dX7_faultOf_34 : decode cX7_faultOf 34 = .ok (.ireturn, 1) := by decide +kernel
theorem dX7_faultOf_35 : decode cX7_faultOf 35 = .ok (.aload_n 0, 1) := by decide +kernel
theorem dX7_faultOf_36 : decode cX7_faultOf 36 = .ok (.iload_n 1, 1) := by decide +kernel
theorem dX7_faultOf_37 : decode cX7_faultOf 37 = .ok (.invokevirtual 61, 3) := by decide +kernel
theorem dX7_faultOf_40 : decode cX7_faultOf 40 = .ok (.astore 6, 2) := by decide +kernel
theorem dX7_faultOf_42 : decode cX7_faultOf 42 = .ok (.iload_n 2, 1) := by decide +kernel
theorem dX7_faultOf_43 : decode cX7_faultOf 43 = .ok (.iconst 5, 1) := by decide +kernel
theorem dX7_faultOf_44 : decode cX7_faultOf 44 = .ok (.if_icmp .gt 16, 3) := by decide +kernel
theorem dX7_faultOf_47 : decode cX7_faultOf 47 = .ok (.aload_n 0, 1) := by decide +kernel
theorem dX7_faultOf_48 : decode cX7_faultOf 48 = .ok (.iload_n 3, 1) := by decide +kernel
theorem dX7_faultOf_49 : decode cX7_faultOf 49 = .ok (.invokevirtual 57, 3) := by decide +kernel
theorem dX7_faultOf_52 : decode cX7_faultOf 52 = .ok (.iload_n 1, 1) := by decide +kernel
theorem dX7_faultOf_53 : decode cX7_faultOf 53 = .ok (.if_icmp .eq 7, 3) := by decide +kernel
theorem dX7_faultOf_56 : decode cX7_faultOf 56 = .ok (.iconst 1, 1) := by decide +kernel
theorem dX7_faultOf_57 : decode cX7_faultOf 57 = .ok (.goto 4, 3) := by decide +kernel
theorem dX7_faultOf_60 : decode cX7_faultOf 60 = .ok (.iconst 0, 1) := by decide +kernel
theorem dX7_faultOf_61 : decode cX7_faultOf 61 = .ok (.istore 7, 2) := by decide +kernel
theorem dX7_faultOf_63 : decode cX7_faultOf 63 = .ok (.iload 7, 2) := by decide +kernel
theorem dX7_faultOf_65 : decode cX7_faultOf 65 = .ok (.ifCond .ne 18, 3) := by decide +kernel
theorem dX7_faultOf_68 : decode cX7_faultOf 68 = .ok (.aload 6, 2) := by decide +kernel
theorem dX7_faultOf_70 : decode cX7_faultOf 70 = .ok (.getfield 80, 3) := by decide +kernel
theorem dX7_faultOf_73 : decode cX7_faultOf 73 = .ok (.iload_n 2, 1) := by decide +kernel
theorem dX7_faultOf_74 : decode cX7_faultOf 74 = .ok (.iload_n 3, 1) := by decide +kernel
theorem dX7_faultOf_75 : decode cX7_faultOf 75 = .ok (.iload 4, 2) := by decide +kernel
theorem dX7_faultOf_77 : decode cX7_faultOf 77 = .ok (.invokevirtual 84, 3) := by decide +kernel
theorem dX7_faultOf_80 : decode cX7_faultOf 80 = .ok (.ifCond .ne 6, 3) := by decide +kernel
theorem dX7_faultOf_83 : decode cX7_faultOf 83 = .ok (.bipush (-3), 2) := by decide +kernel
theorem dX7_faultOf_85 : decode cX7_faultOf 85 = .ok (.ireturn, 1) := by decide +kernel
theorem dX7_faultOf_86 : decode cX7_faultOf 86 = .ok (.iload_n 2, 1) := by decide +kernel
theorem dX7_faultOf_87 : decode cX7_faultOf 87 = .ok (.bipush 9, 2) := by decide +kernel
theorem dX7_faultOf_89 : decode cX7_faultOf 89 = .ok (.if_icmp .lt 17, 3) := by decide +kernel
theorem dX7_faultOf_92 : decode cX7_faultOf 92 = .ok (.aload_n 0, 1) := by decide +kernel
theorem dX7_faultOf_93 : decode cX7_faultOf 93 = .ok (.iload_n 2, 1) := by decide +kernel
theorem dX7_faultOf_94 : decode cX7_faultOf 94 = .ok (.iload 4, 2) := by decide +kernel
theorem dX7_faultOf_96 : decode cX7_faultOf 96 = .ok (.invokevirtual 89, 3) := by decide +kernel
theorem dX7_faultOf_99 : decode cX7_faultOf 99 = .ok (.iconst (-1), 1) := by decide +kernel
theorem dX7_faultOf_100 : decode cX7_faultOf 100 = .ok (.if_icmp .eq 6, 3) := by decide +kernel
theorem dX7_faultOf_103 : decode cX7_faultOf 103 = .ok (.bipush (-5), 2) := by decide +kernel
theorem dX7_faultOf_105 : decode cX7_faultOf 105 = .ok (.ireturn, 1) := by decide +kernel
theorem dX7_faultOf_106 : decode cX7_faultOf 106 = .ok (.aload 6, 2) := by decide +kernel
theorem dX7_faultOf_108 : decode cX7_faultOf 108 = .ok (.invokevirtual 93, 3) := by decide +kernel
theorem dX7_faultOf_111 : decode cX7_faultOf 111 = .ok (.ifCond .eq 8, 3) := by decide +kernel
theorem dX7_faultOf_114 : decode cX7_faultOf 114 = .ok (.bipush (-4), 2) := by decide +kernel
theorem dX7_faultOf_116 : decode cX7_faultOf 116 = .ok (.goto 4, 3) := by decide +kernel
theorem dX7_faultOf_119 : decode cX7_faultOf 119 = .ok (.iconst 0, 1) := by decide +kernel
theorem dX7_faultOf_120 : decode cX7_faultOf 120 = .ok (.ireturn, 1) := by decide +kernel
def f_X7_faultOf_b106 (μ : Mm) (a6 : Nat) : Option Int32 :=
 (f_X2_isFull μ a6).bind fun q17 =>
 if q17 = 0 then
 some (0 : Int32)
 else
 some (-4 : Int32)
set_option maxHeartbeats 4000000 in
set_option maxRecDepth 100000 in
theorem cb_X7_faultOf_106 {l : Launch} {E : En} {p : Program} {e : Env} {s : State} {m : MethodId} {av : Array Value} {below : List Frame} {meth : Method} {c : Code} (C : Cx E p s m av c cX7_faultOf 8 yX7_faultOf.cls) (hr : meth.sig.returnType = (some .int)) (hlk : meth.locks = false) {μ : Mm} {z : Int32} : ∀ (a6 : Nat) (h_a6 : l2 E a6), f_X7_faultOf_b106 μ a6 = some z → ∀ {H : Heap} {locs : List Loc} {ls : Array Slot}, Iv E s μ H locs → lv_has ls 8 [(6, .ref (ad E 200 a6))] → W p l e { frames := 3, cells := 0, slots := 0, locals := 67 } s m av below meth c H locs 0 0 (MQ below (Qm E (some (.int z)) μ) av s 0 0 (Ad E)) (F0 m 106 ls []) := by
  have hx := C.1.1
  have hb := C.1.2.1
  intro a6 h_a6 hf H locs ls hI hl
  unfold f_X7_faultOf_b106 at hf
  refine lv_aload hx hb dX7_faultOf_106 (lv_at hl 0 rfl) ?_
  obtain ⟨q17, e18, hf⟩ := ob hf
  refine mcV (As := []) (rest := []) C hI (c_X2_isFull l E h_a6 e18) ml_X7_93 kv_X2_isFull (m_recv C hI h_a6.1 (ce_200 E _ _ _) rfl) rfl rfl ⟨Nat.le_of_ble_eq_true rfl, Nat.le_of_ble_eq_true rfl⟩ ⟨Nat.zero_le _, Nat.zero_le _⟩ rfl rfl hl.1 (Nat.le_of_ble_eq_true rfl) dX7_faultOf_108 (st1 := [.int q17]) rfl (fun H locs hI => ?_)
  refine lv_if_eq (tgt := 119) hx hb dX7_faultOf_111 rfl (fun hc => ?_) (fun hc => ?_)
  · replace hf := it hf hc
    refine lv_iconst (v := (0 : Int32)) hx hb dX7_faultOf_119 kc_0 ?_
    obtain rfl := Option.some.inj hf
    exact m_iret C hr hlk hI dX7_faultOf_120
  · replace hf := ie hf hc
    refine lv_bipush (v := (-4 : Int32)) hx hb dX7_faultOf_114 kb_m4 ?_
    refine lv_goto (tgt := 120) hx hb dX7_faultOf_116 rfl ?_
    obtain rfl := Option.some.inj hf
    exact m_iret C hr hlk hI dX7_faultOf_120
def f_X7_faultOf_b61 (μ : Mm) (a0 : Nat) (a2 : Int32) (a3 : Int32) (a4 : Int32) (a6 : Nat) (s0 : Int32) : Option Int32 :=
 if s0 = 0 then
 (f_X4_allows μ a6 a2 a3 a4).bind fun q19 =>
 if q19 = 0 then
 some (-3 : Int32)
 else
 if a2 < (9 : Int32) then
 f_X7_faultOf_b106 μ a6
 else
 (f_X7_letterAt μ a0 a2 a4).bind fun q21 =>
 if q21 = (-1 : Int32) then
 f_X7_faultOf_b106 μ a6
 else
 some (-5 : Int32)
 else
 some (-3 : Int32)
set_option maxHeartbeats 4000000 in
set_option maxRecDepth 100000 in
theorem cb_X7_faultOf_61 {l : Launch} {E : En} {p : Program} {e : Env} {s : State} {m : MethodId} {av : Array Value} {below : List Frame} {meth : Method} {c : Code} (C : Cx E p s m av c cX7_faultOf 8 yX7_faultOf.cls) (hr : meth.sig.returnType = (some .int)) (hlk : meth.locks = false) {μ : Mm} {z : Int32} : ∀ (a0 : Nat) (a2 : Int32) (a3 : Int32) (a4 : Int32) (a6 : Nat) (s0 : Int32) (h_a0 : l7 E a0) (h_a6 : l2 E a6), f_X7_faultOf_b61 μ a0 a2 a3 a4 a6 s0 = some z → ∀ {H : Heap} {locs : List Loc} {ls : Array Slot}, Iv E s μ H locs → lv_has ls 8 [(0, .ref (ad E 700 a0)), (2, .int a2), (3, .int a3), (4, .int a4), (6, .ref (ad E 200 a6))] → W p l e { frames := 3, cells := 0, slots := 0, locals := 67 } s m av below meth c H locs 0 0 (MQ below (Qm E (some (.int z)) μ) av s 0 0 (Ad E)) (F0 m 61 ls [.int s0]) := by
  have hx := C.1.1
  have hb := C.1.2.1
  intro a0 a2 a3 a4 a6 s0 h_a0 h_a6 hf H locs ls hI hl
  unfold f_X7_faultOf_b61 at hf
  refine lv_istore hx hb dX7_faultOf_61 hl (by decide) rfl (fun ls hl => ?_)
  have hl : lv_has ls 8 [(7, .int s0), (0, .ref (ad E 700 a0)), (2, .int a2), (3, .int a3), (4, .int a4), (6, .ref (ad E 200 a6))] := hl
  refine lv_iload hx hb dX7_faultOf_63 (lv_at hl 0 rfl) ?_
  refine lv_if_ne (tgt := 83) hx hb dX7_faultOf_65 rfl (fun hc => ?_) (fun hc => ?_)
  · replace hf := ie hf hc
    refine lv_bipush (v := (-3 : Int32)) hx hb dX7_faultOf_83 kb_m3 ?_
    obtain rfl := Option.some.inj hf
    exact m_iret C hr hlk hI dX7_faultOf_85
  · replace hf := it hf hc
    refine lv_aload hx hb dX7_faultOf_68 (lv_at hl 5 rfl) ?_
    refine gf_2_4 C hI h_a6.1 fl_X7_80 dX7_faultOf_70 ?_
    refine lv_iload_n hx hb dX7_faultOf_73 rfl (lv_at hl 2 rfl) ?_
    refine lv_iload_n hx hb dX7_faultOf_74 rfl (lv_at hl 3 rfl) ?_
    refine lv_iload hx hb dX7_faultOf_75 (lv_at hl 4 rfl) ?_
    obtain ⟨q19, e20, hf⟩ := ob hf
    refine mcV (As := [.int a2, .int a3, .int a4]) (rest := []) C hI (c_X4_allows l E h_a6.2.2.2.2.2 e20) ml_X7_84 kv_X4_allows (m_recv C hI h_a6.2.2.2.2.2.1 (ce_400 E _ _ _) rfl) rfl rfl ⟨Nat.le_of_ble_eq_true rfl, Nat.le_of_ble_eq_true rfl⟩ ⟨Nat.zero_le _, Nat.zero_le _⟩ rfl rfl hl.1 (Nat.le_of_ble_eq_true rfl) dX7_faultOf_77 (st1 := [.int q19]) rfl (fun H locs hI => ?_)
    refine lv_if_ne (tgt := 86) hx hb dX7_faultOf_80 rfl (fun hc => ?_) (fun hc => ?_)
    · replace hf := ie hf hc
      refine lv_iload_n hx hb dX7_faultOf_86 rfl (lv_at hl 2 rfl) ?_
      refine lv_bipush (v := (9 : Int32)) hx hb dX7_faultOf_87 kb_9 ?_
      refine lv_icmp_lt (tgt := 106) hx hb dX7_faultOf_89 rfl (fun hc => ?_) (fun hc => ?_)
      · replace hf := it hf hc
        exact cb_X7_faultOf_106 C hr hlk  _ h_a6 hf hI (lv_sub hl [5] rfl)
      · replace hf := ie hf hc
        refine lv_aload_n hx hb dX7_faultOf_92 rfl (lv_at hl 1 rfl) ?_
        refine lv_iload_n hx hb dX7_faultOf_93 rfl (lv_at hl 2 rfl) ?_
        refine lv_iload hx hb dX7_faultOf_94 (lv_at hl 4 rfl) ?_
        obtain ⟨q21, e22, hf⟩ := ob hf
        refine mcV (As := [.int a2, .int a4]) (rest := []) C hI (c_X7_letterAt l E h_a0 e22) ml_X7_89 kv_X7_letterAt (m_recv C hI h_a0.1 (ce_700 E _ _ _) rfl) rfl rfl ⟨Nat.le_of_ble_eq_true rfl, Nat.le_of_ble_eq_true rfl⟩ ⟨Nat.zero_le _, Nat.zero_le _⟩ rfl rfl hl.1 (Nat.le_of_ble_eq_true rfl) dX7_faultOf_96 (st1 := [.int q21]) rfl (fun H locs hI => ?_)
        refine lv_iconst (v := (-1 : Int32)) hx hb dX7_faultOf_99 kc_m1 ?_
        refine lv_icmp_eq (tgt := 106) hx hb dX7_faultOf_100 rfl (fun hc => ?_) (fun hc => ?_)
        · replace hf := it hf hc
          exact cb_X7_faultOf_106 C hr hlk  _ h_a6 hf hI (lv_sub hl [5] rfl)
        · replace hf := ie hf hc
          refine lv_bipush (v := (-5 : Int32)) hx hb dX7_faultOf_103 kb_m5 ?_
          obtain rfl := Option.some.inj hf
          exact m_iret C hr hlk hI dX7_faultOf_105
    · replace hf := it hf hc
      refine lv_bipush (v := (-3 : Int32)) hx hb dX7_faultOf_83 kb_m3 ?_
      obtain rfl := Option.some.inj hf
      exact m_iret C hr hlk hI dX7_faultOf_85
def f_X7_faultOf (μ : Mm) (i0 : Nat) (p1 : Int32) (p2 : Int32) (p3 : Int32) (p4 : Int32) (p5 : Int32) : Option Int32 :=
 (f_X7_hasProcessor μ i0 p1).bind fun q23 =>
 if q23 = 0 then
 some (-1 : Int32)
 else
 if p5 < 0 then
 some (-1 : Int32)
 else
 (f_X7_clockMask μ i0).bind fun q25 =>
 if q25 < p5 then
 some (-1 : Int32)
 else
 (f_X7_isFormed μ i0 p2 p3 p4).bind fun q27 =>
 if q27 = 0 then
 some (-1 : Int32)
 else
 (f_X7_laneOf μ i0 p1).bind fun q29 =>
 if (5 : Int32) < p2 then
 f_X7_faultOf_b61 μ i0 p2 p3 p4 q29 (0 : Int32)
 else
 (f_X7_homeOf μ i0 p3).bind fun q31 =>
 if q31 = p1 then
 f_X7_faultOf_b61 μ i0 p2 p3 p4 q29 (0 : Int32)
 else
 f_X7_faultOf_b61 μ i0 p2 p3 p4 q29 (1 : Int32)
set_option maxHeartbeats 4000000 in
set_option maxRecDepth 100000 in
theorem c_X7_faultOf (l : Launch) (E : En) {μ : Mm} {i0 : Nat} {p1 : Int32} {p2 : Int32} {p3 : Int32} {p4 : Int32} {p5 : Int32} (h0 : l7 E i0) {z : Int32} (hf : f_X7_faultOf μ i0 p1 p2 p3 p4 p5 = some z) : Met l yX7_faultOf (wt yX7_faultOf cX7_faultOf 8 (some .int)) { frames := 3, cells := 0, slots := 0, locals := 67 } (Pm E [.ref (ad E 700 i0), .int p1, .int p2, .int p3, .int p4, .int p5] μ) (Qm E (some (.int z)) μ) 0 0 (Ad E) := by
  unfold f_X7_faultOf at hf
  refine met_of (cc := cX7_faultOf) (nL := 8) (ret := (some .int)) (by decide) _ (Nat.le_of_ble_eq_true rfl) ?_
  intro p e s m below meth c C hr hlk hI ls hl
  have hx := C.1.1
  have hb := C.1.2.1
  have hl : lv_has ls 8 [(0, .ref (ad E 700 i0)), (1, .int p1), (2, .int p2), (3, .int p3), (4, .int p4), (5, .int p5)] := hl
  refine lv_aload_n hx hb dX7_faultOf_0 rfl (lv_at hl 0 rfl) ?_
  refine lv_iload_n hx hb dX7_faultOf_1 rfl (lv_at hl 1 rfl) ?_
  obtain ⟨q23, e24, hf⟩ := ob hf
  refine mcV (As := [.int p1]) (rest := []) C hI (c_X7_hasProcessor l E h0 e24) ml_X7_68 kv_X7_hasProcessor (m_recv C hI h0.1 (ce_700 E _ _ _) rfl) rfl rfl ⟨Nat.le_of_ble_eq_true rfl, Nat.le_of_ble_eq_true rfl⟩ ⟨Nat.zero_le _, Nat.zero_le _⟩ rfl rfl hl.1 (Nat.le_of_ble_eq_true rfl) dX7_faultOf_2 (st1 := [.int q23]) rfl (fun H locs hI => ?_)
  refine lv_if_eq (tgt := 33) hx hb dX7_faultOf_5 rfl (fun hc => ?_) (fun hc => ?_)
  · replace hf := it hf hc
    refine lv_iconst (v := (-1 : Int32)) hx hb dX7_faultOf_33 kc_m1 ?_
    obtain rfl := Option.some.inj hf
    exact m_iret C hr hlk hI dX7_faultOf_34
  · replace hf := ie hf hc
    refine lv_iload hx hb dX7_faultOf_8 (lv_at hl 5 rfl) ?_
    refine lv_if_lt (tgt := 33) hx hb dX7_faultOf_10 rfl (fun hc => ?_) (fun hc => ?_)
    · replace hf := it hf hc
      refine lv_iconst (v := (-1 : Int32)) hx hb dX7_faultOf_33 kc_m1 ?_
      obtain rfl := Option.some.inj hf
      exact m_iret C hr hlk hI dX7_faultOf_34
    · replace hf := ie hf hc
      refine lv_iload hx hb dX7_faultOf_13 (lv_at hl 5 rfl) ?_
      refine lv_aload_n hx hb dX7_faultOf_15 rfl (lv_at hl 0 rfl) ?_
      obtain ⟨q25, e26, hf⟩ := ob hf
      refine mcV (As := []) (rest := [.int p5]) C hI (c_X7_clockMask l E h0 e26) ml_X7_72 kv_X7_clockMask (m_recv C hI h0.1 (ce_700 E _ _ _) rfl) rfl rfl ⟨Nat.le_of_ble_eq_true rfl, Nat.le_of_ble_eq_true rfl⟩ ⟨Nat.zero_le _, Nat.zero_le _⟩ rfl rfl hl.1 (Nat.le_of_ble_eq_true rfl) dX7_faultOf_16 (st1 := [.int q25, .int p5]) rfl (fun H locs hI => ?_)
      refine lv_icmp_gt (tgt := 33) hx hb dX7_faultOf_19 rfl (fun hc => ?_) (fun hc => ?_)
      · replace hf := it hf hc
        refine lv_iconst (v := (-1 : Int32)) hx hb dX7_faultOf_33 kc_m1 ?_
        obtain rfl := Option.some.inj hf
        exact m_iret C hr hlk hI dX7_faultOf_34
      · replace hf := ie hf hc
        refine lv_aload_n hx hb dX7_faultOf_22 rfl (lv_at hl 0 rfl) ?_
        refine lv_iload_n hx hb dX7_faultOf_23 rfl (lv_at hl 2 rfl) ?_
        refine lv_iload_n hx hb dX7_faultOf_24 rfl (lv_at hl 3 rfl) ?_
        refine lv_iload hx hb dX7_faultOf_25 (lv_at hl 4 rfl) ?_
        obtain ⟨q27, e28, hf⟩ := ob hf
        refine mcV (As := [.int p2, .int p3, .int p4]) (rest := []) C hI (c_X7_isFormed l E h0 e28) ml_X7_76 kv_X7_isFormed (m_recv C hI h0.1 (ce_700 E _ _ _) rfl) rfl rfl ⟨Nat.le_of_ble_eq_true rfl, Nat.le_of_ble_eq_true rfl⟩ ⟨Nat.zero_le _, Nat.zero_le _⟩ rfl rfl hl.1 (Nat.le_of_ble_eq_true rfl) dX7_faultOf_27 (st1 := [.int q27]) rfl (fun H locs hI => ?_)
        refine lv_if_ne (tgt := 35) hx hb dX7_faultOf_30 rfl (fun hc => ?_) (fun hc => ?_)
        · replace hf := ie hf hc
          refine lv_aload_n hx hb dX7_faultOf_35 rfl (lv_at hl 0 rfl) ?_
          refine lv_iload_n hx hb dX7_faultOf_36 rfl (lv_at hl 1 rfl) ?_
          obtain ⟨q29, e30, hf⟩ := ob hf
          refine mcV (As := [.int p1]) (rest := []) C hI (c_X7_laneOf l E h0 e30) ml_X7_61 kv_X7_laneOf (m_recv C hI h0.1 (ce_700 E _ _ _) rfl) rfl rfl ⟨Nat.le_of_ble_eq_true rfl, Nat.le_of_ble_eq_true rfl⟩ ⟨Nat.zero_le _, Nat.zero_le _⟩ rfl rfl hl.1 (Nat.le_of_ble_eq_true rfl) dX7_faultOf_37 (st1 := [.ref (ad E 200 q29)]) rfl (fun H locs hI => ?_)
          refine lv_astore hx hb dX7_faultOf_40 hl (by decide) rfl (fun ls hl => ?_)
          have hl : lv_has ls 8 [(6, .ref (ad E 200 q29)), (0, .ref (ad E 700 i0)), (1, .int p1), (2, .int p2), (3, .int p3), (4, .int p4), (5, .int p5)] := hl
          refine lv_iload_n hx hb dX7_faultOf_42 rfl (lv_at hl 3 rfl) ?_
          refine lv_iconst (v := (5 : Int32)) hx hb dX7_faultOf_43 kc_5 ?_
          refine lv_icmp_gt (tgt := 60) hx hb dX7_faultOf_44 rfl (fun hc => ?_) (fun hc => ?_)
          · replace hf := it hf hc
            refine lv_iconst (v := (0 : Int32)) hx hb dX7_faultOf_60 kc_0 ?_
            exact cb_X7_faultOf_61 C hr hlk  _ _ _ _ _ _ h0 (lr_X7_laneOf h0 e30) hf hI (lv_sub hl [1, 3, 4, 5, 0] rfl)
          · replace hf := ie hf hc
            refine lv_aload_n hx hb dX7_faultOf_47 rfl (lv_at hl 1 rfl) ?_
            refine lv_iload_n hx hb dX7_faultOf_48 rfl (lv_at hl 4 rfl) ?_
            obtain ⟨q31, e32, hf⟩ := ob hf
            refine mcV (As := [.int p3]) (rest := []) C hI (c_X7_homeOf l E h0 e32) ml_X7_57 kv_X7_homeOf (m_recv C hI h0.1 (ce_700 E _ _ _) rfl) rfl rfl ⟨Nat.le_of_ble_eq_true rfl, Nat.le_of_ble_eq_true rfl⟩ ⟨Nat.zero_le _, Nat.zero_le _⟩ rfl rfl hl.1 (Nat.le_of_ble_eq_true rfl) dX7_faultOf_49 (st1 := [.int q31]) rfl (fun H locs hI => ?_)
            refine lv_iload_n hx hb dX7_faultOf_52 rfl (lv_at hl 2 rfl) ?_
            refine lv_icmp_eq (tgt := 60) hx hb dX7_faultOf_53 rfl (fun hc => ?_) (fun hc => ?_)
            · replace hf := it hf hc
              refine lv_iconst (v := (0 : Int32)) hx hb dX7_faultOf_60 kc_0 ?_
              exact cb_X7_faultOf_61 C hr hlk  _ _ _ _ _ _ h0 (lr_X7_laneOf h0 e30) hf hI (lv_sub hl [1, 3, 4, 5, 0] rfl)
            · replace hf := ie hf hc
              refine lv_iconst (v := (1 : Int32)) hx hb dX7_faultOf_56 kc_1 ?_
              refine lv_goto (tgt := 61) hx hb dX7_faultOf_57 rfl ?_
              exact cb_X7_faultOf_61 C hr hlk  _ _ _ _ _ _ h0 (lr_X7_laneOf h0 e30) hf hI (lv_sub hl [1, 3, 4, 5, 0] rfl)
        · replace hf := it hf hc
          refine lv_iconst (v := (-1 : Int32)) hx hb dX7_faultOf_33 kc_m1 ?_
          obtain rfl := Option.some.inj hf
          exact m_iret C hr hlk hI dX7_faultOf_34

theorem dX7_addMark_0 : decode cX7_addMark 0 = .ok (.aload_n 0, 1) := by decide +kernel
theorem dX7_addMark_1 : decode cX7_addMark 1 = .ok (.iload_n 1, 1) := by decide +kernel
theorem dX7_addMark_2 : decode cX7_addMark 2 = .ok (.invokevirtual 61, 3) := by decide +kernel
theorem dX7_addMark_5 : decode cX7_addMark 5 = .ok (.astore 6, 2) := by decide +kernel
theorem dX7_addMark_7 : decode cX7_addMark 7 = .ok (.aload 6, 2) := by decide +kernel
theorem dX7_addMark_9 : decode cX7_addMark 9 = .ok (.getfield 65, 3) := by decide +kernel
theorem dX7_addMark_12 : decode cX7_addMark 12 = .ok (.istore 7, 2) := by decide +kernel
theorem dX7_addMark_14 : decode cX7_addMark 14 = .ok (.aload 6, 2) := by decide +kernel
theorem dX7_addMark_16 : decode cX7_addMark 16 = .ok (.iload 7, 2) := by decide +kernel
theorem dX7_addMark_18 : decode cX7_addMark 18 = .ok (.iconst 1, 1) := by decide +kernel
theorem dX7_addMark_19 : decode cX7_addMark 19 = .ok (.isub, 1) := by decide +kernel
theorem dX7_addMark_20 : decode cX7_addMark 20 = .ok (.invokevirtual 100, 3) := by decide +kernel
theorem dX7_addMark_23 : decode cX7_addMark 23 = .ok (.istore 8, 2) := by decide +kernel
theorem dX7_addMark_25 : decode cX7_addMark 25 = .ok (.iload 7, 2) := by decide +kernel
theorem dX7_addMark_27 : decode cX7_addMark 27 = .ok (.ifCond .ne 8, 3) := by decide +kernel
theorem dX7_addMark_30 : decode cX7_addMark 30 = .ok (.iload 5, 2) := by decide +kernel
theorem dX7_addMark_32 : decode cX7_addMark 32 = .ok (.goto 16, 3) := by decide +kernel
theorem dX7_addMark_35 : decode cX7_addMark 35 = .ok (.iload 8, 2) := by decide +kernel
theorem dX7_addMark_37 : decode cX7_addMark 37 = .ok (.iload 5, 2) := by decide +kernel
theorem dX7_addMark_39 : decode cX7_addMark 39 = .ok (.iload 8, 2) := by decide +kernel
theorem dX7_addMark_41 : decode cX7_addMark 41 = .ok (.isub, 1) := by decide +kernel
theorem dX7_addMark_42 : decode cX7_addMark 42 = .ok (.aload_n 0, 1) := by decide +kernel
theorem dX7_addMark_43 : decode cX7_addMark 43 = .ok (.invokevirtual 72, 3) := by decide +kernel
theorem dX7_addMark_46 : decode cX7_addMark 46 = .ok (.iand, 1) := by decide +kernel
theorem dX7_addMark_47 : decode cX7_addMark 47 = .ok (.iadd, 1) := by decide +kernel
theorem dX7_addMark_48 : decode cX7_addMark 48 = .ok (.istore 9, 2) := by decide +kernel
theorem dX7_addMark_50 : decode cX7_addMark 50 = .ok (.aload 6, 2) := by decide +kernel
theorem dX7_addMark_52 : decode cX7_addMark 52 = .ok (.iload_n 2, 1) := by decide +kernel
theorem dX7_addMark_53 : decode cX7_addMark 53 = .ok (.iload_n 3, 1) := by decide +kernel
theorem dX7_addMark_54 : decode cX7_addMark 54 = .ok (.iload 4, 2) := by decide +kernel
theorem dX7_addMark_56 : decode cX7_addMark 56 = .ok (.iload 9, 2) := by decide +kernel
theorem dX7_addMark_58 : decode cX7_addMark 58 = .ok (.invokevirtual 103, 3) := by decide +kernel
theorem dX7_addMark_61 : decode cX7_addMark 61 = .ok (.iload_n 2, 1) := by decide +kernel
theorem dX7_addMark_62 : decode cX7_addMark 62 = .ok (.iload 4, 2) := by decide +kernel
theorem dX7_addMark_64 : decode cX7_addMark 64 = .ok (.invokestatic 107, 3) := by decide +kernel
theorem dX7_addMark_67 : decode cX7_addMark 67 = .ok (.istore 10, 2) := by decide +kernel
theorem dX7_addMark_69 : decode cX7_addMark 69 = .ok (.iload 10, 2) := by decide +kernel
theorem dX7_addMark_71 : decode cX7_addMark 71 = .ok (.iconst (-1), 1) := by decide +kernel
theorem dX7_addMark_72 : decode cX7_addMark 72 = .ok (.if_icmp .eq 18, 3) := by decide +kernel
theorem dX7_addMark_75 : decode cX7_addMark 75 = .ok (.aload_n 0, 1) := by decide +kernel
theorem dX7_addMark_76 : decode cX7_addMark 76 = .ok (.getfield 24, 3) := by decide +kernel
theorem dX7_addMark_79 : decode cX7_addMark 79 = .ok (.iload 10, 2) := by decide +kernel
theorem dX7_addMark_81 : decode cX7_addMark 81 = .ok (.iload_n 1, 1) := by decide +kernel
theorem dX7_addMark_82 : decode cX7_addMark 82 = .ok (.sipush 200, 3) := by decide +kernel
theorem dX7_addMark_85 : decode cX7_addMark 85 = .ok (.imul, 1) := by decide +kernel
theorem dX7_addMark_86 : decode cX7_addMark 86 = .ok (.iload 7, 2) := by decide +kernel
theorem dX7_addMark_88 : decode cX7_addMark 88 = .ok (.iadd, 1) := by decide +kernel
theorem dX7_addMark_89 : decode cX7_addMark 89 = .ok (.iastore, 1) := by decide +kernel
theorem dX7_addMark_90 : decode cX7_addMark 90 = .ok (.iload 7, 2) := by decide +kernel
theorem dX7_addMark_92 : decode cX7_addMark 92 = .ok (.ireturn, 1) := by decide +kernel
def f_X7_addMark_b48 (μ : Mm) (a0 : Nat) (a1 : Int32) (a2 : Int32) (a3 : Int32) (a4 : Int32) (a6 : Nat) (a7 : Int32) (s0 : Int32) : Option (Int32 × Mm) :=
 (f_X2_add μ a6 a2 a3 a4 s0).bind fun q13 =>
 (f_X7_letterPlace q13 a2 a4).bind fun q15 =>
 if q15 = (-1 : Int32) then
 some (a7, q13)
 else
 (wa q13 704 a0 256 q15 ((a1 * (200 : Int32)) + a7)).bind fun m17 =>
 some (a7, m17)
set_option maxHeartbeats 4000000 in
set_option maxRecDepth 100000 in
theorem cb_X7_addMark_48 {l : Launch} {E : En} {p : Program} {e : Env} {s : State} {m : MethodId} {av : Array Value} {below : List Frame} {meth : Method} {c : Code} (C : Cx E p s m av c cX7_addMark 11 yX7_addMark.cls) (hr : meth.sig.returnType = (some .int)) (hlk : meth.locks = false) {z : Int32 × Mm} : ∀ (μ : Mm) (a0 : Nat) (a1 : Int32) (a2 : Int32) (a3 : Int32) (a4 : Int32) (a6 : Nat) (a7 : Int32) (s0 : Int32) (h_a0 : l7 E a0) (h_a6 : l2 E a6), f_X7_addMark_b48 μ a0 a1 a2 a3 a4 a6 a7 s0 = some z → ∀ {H : Heap} {locs : List Loc} {ls : Array Slot}, Iv E s μ H locs → lv_has ls 11 [(0, .ref (ad E 700 a0)), (1, .int a1), (2, .int a2), (3, .int a3), (4, .int a4), (6, .ref (ad E 200 a6)), (7, .int a7)] → W p l e { frames := 4, cells := 0, slots := 0, locals := 91 } s m av below meth c H locs 0 0 (MQ below (Qm E (some (.int z.1)) z.2) av s 0 0 (Ad E)) (F0 m 48 ls [.int s0]) := by
  have hx := C.1.1
  have hb := C.1.2.1
  intro μ a0 a1 a2 a3 a4 a6 a7 s0 h_a0 h_a6 hf H locs ls hI hl
  unfold f_X7_addMark_b48 at hf
  refine lv_istore hx hb dX7_addMark_48 hl (by decide) rfl (fun ls hl => ?_)
  have hl : lv_has ls 11 [(9, .int s0), (0, .ref (ad E 700 a0)), (1, .int a1), (2, .int a2), (3, .int a3), (4, .int a4), (6, .ref (ad E 200 a6)), (7, .int a7)] := hl
  refine lv_aload hx hb dX7_addMark_50 (lv_at hl 6 rfl) ?_
  refine lv_iload_n hx hb dX7_addMark_52 rfl (lv_at hl 3 rfl) ?_
  refine lv_iload_n hx hb dX7_addMark_53 rfl (lv_at hl 4 rfl) ?_
  refine lv_iload hx hb dX7_addMark_54 (lv_at hl 5 rfl) ?_
  refine lv_iload hx hb dX7_addMark_56 (lv_at hl 0 rfl) ?_
  obtain ⟨q13, e14, hf⟩ := ob hf
  refine mcV (As := [.int a2, .int a3, .int a4, .int s0]) (rest := []) C hI (c_X2_add l E h_a6 e14) ml_X7_103 kv_X2_add (m_recv C hI h_a6.1 (ce_200 E _ _ _) rfl) rfl rfl ⟨Nat.le_of_ble_eq_true rfl, Nat.le_of_ble_eq_true rfl⟩ ⟨Nat.zero_le _, Nat.zero_le _⟩ rfl rfl hl.1 (Nat.le_of_ble_eq_true rfl) dX7_addMark_58 (st1 := []) rfl (fun H locs hI => ?_)
  refine lv_iload_n hx hb dX7_addMark_61 rfl (lv_at hl 3 rfl) ?_
  refine lv_iload hx hb dX7_addMark_62 (lv_at hl 5 rfl) ?_
  obtain ⟨q15, e16, hf⟩ := ob hf
  refine mcS (As := [.int a2, .int a4]) (rest := []) C hI (c_X7_letterPlace l E  e16) ml_X7_107 ks_X7_letterPlace rfl rfl ⟨Nat.le_of_ble_eq_true rfl, Nat.le_of_ble_eq_true rfl⟩ ⟨Nat.zero_le _, Nat.zero_le _⟩ rfl rfl hl.1 (Nat.le_of_ble_eq_true rfl) dX7_addMark_64 (st1 := [.int q15]) rfl (fun H locs hI => ?_)
  refine lv_istore hx hb dX7_addMark_67 hl (by decide) rfl (fun ls hl => ?_)
  have hl : lv_has ls 11 [(10, .int q15), (9, .int s0), (0, .ref (ad E 700 a0)), (1, .int a1), (2, .int a2), (3, .int a3), (4, .int a4), (6, .ref (ad E 200 a6)), (7, .int a7)] := hl
  refine lv_iload hx hb dX7_addMark_69 (lv_at hl 0 rfl) ?_
  refine lv_iconst (v := (-1 : Int32)) hx hb dX7_addMark_71 kc_m1 ?_
  refine lv_icmp_eq (tgt := 90) hx hb dX7_addMark_72 rfl (fun hc => ?_) (fun hc => ?_)
  · replace hf := it hf hc
    refine lv_iload hx hb dX7_addMark_90 (lv_at hl 8 rfl) ?_
    obtain rfl := Option.some.inj hf
    exact m_iret C hr hlk hI dX7_addMark_92
  · replace hf := ie hf hc
    refine lv_aload_n hx hb dX7_addMark_75 rfl (lv_at hl 2 rfl) ?_
    refine gf_7_3 C hI h_a0.1 fl_X7_24 dX7_addMark_76 ?_
    refine lv_iload hx hb dX7_addMark_79 (lv_at hl 0 rfl) ?_
    refine lv_iload_n hx hb dX7_addMark_81 rfl (lv_at hl 3 rfl) ?_
    refine lv_sipush (v := (200 : Int32)) hx hb dX7_addMark_82 ks_200 ?_
    refine lv_imul hx hb dX7_addMark_85 ?_
    refine lv_iload hx hb dX7_addMark_86 (lv_at hl 8 rfl) ?_
    refine lv_iadd hx hb dX7_addMark_88 ?_
    obtain ⟨m17, e18, hf⟩ := ob hf
    refine m_iast C hI h_a0.2.2.2.2.1 (ce_704 E _) e18 dX7_addMark_89 (fun H locs hI => ?_)
    refine lv_iload hx hb dX7_addMark_90 (lv_at hl 8 rfl) ?_
    obtain rfl := Option.some.inj hf
    exact m_iret C hr hlk hI dX7_addMark_92
def f_X7_addMark (μ : Mm) (i0 : Nat) (p1 : Int32) (p2 : Int32) (p3 : Int32) (p4 : Int32) (p5 : Int32) : Option (Int32 × Mm) :=
 (f_X7_laneOf μ i0 p1).bind fun q19 =>
 (f_X2_timeOf μ q19 ((μ.1 200 q19 5) - (1 : Int32))).bind fun q21 =>
 if (μ.1 200 q19 5) = 0 then
 f_X7_addMark_b48 μ i0 p1 p2 p3 p4 q19 (μ.1 200 q19 5) p5
 else
 (f_X7_clockMask μ i0).bind fun q23 =>
 f_X7_addMark_b48 μ i0 p1 p2 p3 p4 q19 (μ.1 200 q19 5) (q21 + ((p5 - q21) &&& q23))
set_option maxHeartbeats 4000000 in
set_option maxRecDepth 100000 in
theorem c_X7_addMark (l : Launch) (E : En) {μ : Mm} {i0 : Nat} {p1 : Int32} {p2 : Int32} {p3 : Int32} {p4 : Int32} {p5 : Int32} (h0 : l7 E i0) {z : Int32 × Mm} (hf : f_X7_addMark μ i0 p1 p2 p3 p4 p5 = some z) : Met l yX7_addMark (wt yX7_addMark cX7_addMark 11 (some .int)) { frames := 4, cells := 0, slots := 0, locals := 91 } (Pm E [.ref (ad E 700 i0), .int p1, .int p2, .int p3, .int p4, .int p5] μ) (Qm E (some (.int z.1)) z.2) 0 0 (Ad E) := by
  unfold f_X7_addMark at hf
  refine met_of (cc := cX7_addMark) (nL := 11) (ret := (some .int)) (by decide) _ (Nat.le_of_ble_eq_true rfl) ?_
  intro p e s m below meth c C hr hlk hI ls hl
  have hx := C.1.1
  have hb := C.1.2.1
  have hl : lv_has ls 11 [(0, .ref (ad E 700 i0)), (1, .int p1), (2, .int p2), (3, .int p3), (4, .int p4), (5, .int p5)] := hl
  refine lv_aload_n hx hb dX7_addMark_0 rfl (lv_at hl 0 rfl) ?_
  refine lv_iload_n hx hb dX7_addMark_1 rfl (lv_at hl 1 rfl) ?_
  obtain ⟨q19, e20, hf⟩ := ob hf
  refine mcV (As := [.int p1]) (rest := []) C hI (c_X7_laneOf l E h0 e20) ml_X7_61 kv_X7_laneOf (m_recv C hI h0.1 (ce_700 E _ _ _) rfl) rfl rfl ⟨Nat.le_of_ble_eq_true rfl, Nat.le_of_ble_eq_true rfl⟩ ⟨Nat.zero_le _, Nat.zero_le _⟩ rfl rfl hl.1 (Nat.le_of_ble_eq_true rfl) dX7_addMark_2 (st1 := [.ref (ad E 200 q19)]) rfl (fun H locs hI => ?_)
  refine lv_astore hx hb dX7_addMark_5 hl (by decide) rfl (fun ls hl => ?_)
  have hl : lv_has ls 11 [(6, .ref (ad E 200 q19)), (0, .ref (ad E 700 i0)), (1, .int p1), (2, .int p2), (3, .int p3), (4, .int p4), (5, .int p5)] := hl
  refine lv_aload hx hb dX7_addMark_7 (lv_at hl 0 rfl) ?_
  refine gf_2_5 C hI (lr_X7_laneOf h0 e20).1 fl_X7_65 dX7_addMark_9 ?_
  refine lv_istore hx hb dX7_addMark_12 hl (by decide) rfl (fun ls hl => ?_)
  have hl : lv_has ls 11 [(7, .int (μ.1 200 q19 5)), (6, .ref (ad E 200 q19)), (0, .ref (ad E 700 i0)), (1, .int p1), (2, .int p2), (3, .int p3), (4, .int p4), (5, .int p5)] := hl
  refine lv_aload hx hb dX7_addMark_14 (lv_at hl 1 rfl) ?_
  refine lv_iload hx hb dX7_addMark_16 (lv_at hl 0 rfl) ?_
  refine lv_iconst (v := (1 : Int32)) hx hb dX7_addMark_18 kc_1 ?_
  refine lv_isub hx hb dX7_addMark_19 ?_
  obtain ⟨q21, e22, hf⟩ := ob hf
  refine mcV (As := [.int ((μ.1 200 q19 5) - (1 : Int32))]) (rest := []) C hI (c_X2_timeOf l E (lr_X7_laneOf h0 e20) e22) ml_X7_100 kv_X2_timeOf (m_recv C hI (lr_X7_laneOf h0 e20).1 (ce_200 E _ _ _) rfl) rfl rfl ⟨Nat.le_of_ble_eq_true rfl, Nat.le_of_ble_eq_true rfl⟩ ⟨Nat.zero_le _, Nat.zero_le _⟩ rfl rfl hl.1 (Nat.le_of_ble_eq_true rfl) dX7_addMark_20 (st1 := [.int q21]) rfl (fun H locs hI => ?_)
  refine lv_istore hx hb dX7_addMark_23 hl (by decide) rfl (fun ls hl => ?_)
  have hl : lv_has ls 11 [(8, .int q21), (7, .int (μ.1 200 q19 5)), (6, .ref (ad E 200 q19)), (0, .ref (ad E 700 i0)), (1, .int p1), (2, .int p2), (3, .int p3), (4, .int p4), (5, .int p5)] := hl
  refine lv_iload hx hb dX7_addMark_25 (lv_at hl 1 rfl) ?_
  refine lv_if_ne (tgt := 35) hx hb dX7_addMark_27 rfl (fun hc => ?_) (fun hc => ?_)
  · replace hf := ie hf hc
    refine lv_iload hx hb dX7_addMark_35 (lv_at hl 0 rfl) ?_
    refine lv_iload hx hb dX7_addMark_37 (lv_at hl 8 rfl) ?_
    refine lv_iload hx hb dX7_addMark_39 (lv_at hl 0 rfl) ?_
    refine lv_isub hx hb dX7_addMark_41 ?_
    refine lv_aload_n hx hb dX7_addMark_42 rfl (lv_at hl 3 rfl) ?_
    obtain ⟨q23, e24, hf⟩ := ob hf
    refine mcV (As := []) (rest := [.int (p5 - q21), .int q21]) C hI (c_X7_clockMask l E h0 e24) ml_X7_72 kv_X7_clockMask (m_recv C hI h0.1 (ce_700 E _ _ _) rfl) rfl rfl ⟨Nat.le_of_ble_eq_true rfl, Nat.le_of_ble_eq_true rfl⟩ ⟨Nat.zero_le _, Nat.zero_le _⟩ rfl rfl hl.1 (Nat.le_of_ble_eq_true rfl) dX7_addMark_43 (st1 := [.int q23, .int (p5 - q21), .int q21]) rfl (fun H locs hI => ?_)
    refine lv_iand hx hb dX7_addMark_46 ?_
    refine lv_iadd hx hb dX7_addMark_47 ?_
    exact cb_X7_addMark_48 C hr hlk  _ _ _ _ _ _ _ _ _ h0 (lr_X7_laneOf h0 e20) hf hI (lv_sub hl [3, 4, 5, 6, 7, 2, 1] rfl)
  · replace hf := it hf hc
    refine lv_iload hx hb dX7_addMark_30 (lv_at hl 8 rfl) ?_
    refine lv_goto (tgt := 48) hx hb dX7_addMark_32 rfl ?_
    exact cb_X7_addMark_48 C hr hlk  _ _ _ _ _ _ _ _ _ h0 (lr_X7_laneOf h0 e20) hf hI (lv_sub hl [3, 4, 5, 6, 7, 2, 1] rfl)
