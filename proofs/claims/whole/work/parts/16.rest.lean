theorem dX0_forget_0 : decode cX0_forget 0 = .ok (.aload_n 0, 1) := by decide +kernel
theorem dX0_forget_1 : decode cX0_forget 1 = .ok (.iconst 0, 1) := by decide +kernel
theorem dX0_forget_2 : decode cX0_forget 2 = .ok (.putfield 18, 3) := by decide +kernel
theorem dX0_forget_5 : decode cX0_forget 5 = .ok (.aload_n 0, 1) := by decide +kernel
theorem dX0_forget_6 : decode cX0_forget 6 = .ok (.iconst 0, 1) := by decide +kernel
theorem dX0_forget_7 : decode cX0_forget 7 = .ok (.putfield 22, 3) := by decide +kernel
theorem dX0_forget_10 : decode cX0_forget 10 = .ok (.return_, 1) := by decide +kernel
def f_X0_forget (μ : Mm) : Option Mm :=
 (wf μ 0 0 2 (0 : Int32)).bind fun m5 =>
 (wf m5 0 0 3 (0 : Int32)).bind fun m7 =>
 some m7
set_option maxHeartbeats 4000000 in
set_option maxRecDepth 100000 in
theorem c_X0_forget (l : Launch) (E : En) {μ : Mm} (h0 : l0 E 0) {z : Mm} (hf : f_X0_forget μ = some z) : Met l yX0_forget (wt yX0_forget cX0_forget 1 (none : Option FieldType)) { frames := 0, cells := 0, slots := 0, locals := 0 } (Pm E [.ref (ad E 0 0)] μ) (Qm E none z) 0 0 (Ad E) := by
  unfold f_X0_forget at hf
  refine met_of (cc := cX0_forget) (nL := 1) (ret := (none : Option FieldType)) (by decide) _ (Nat.le_of_ble_eq_true rfl) ?_
  intro p e s m below meth c C hr hlk hI ls hl
  have hx := C.1.1
  have hb := C.1.2.1
  have hl : lv_has ls 1 [(0, .ref (ad E 0 0))] := hl
  refine lv_aload_n hx hb dX0_forget_0 rfl (lv_at hl 0 rfl) ?_
  refine lv_iconst (v := (0 : Int32)) hx hb dX0_forget_1 kc_0 ?_
  obtain ⟨m5, e6, hf⟩ := ob hf
  refine pf_0_2 C hI h0.1 fl_X0_18 e6 dX0_forget_2 (fun H locs hI => ?_)
  refine lv_aload_n hx hb dX0_forget_5 rfl (lv_at hl 0 rfl) ?_
  refine lv_iconst (v := (0 : Int32)) hx hb dX0_forget_6 kc_0 ?_
  obtain ⟨m7, e8, hf⟩ := ob hf
  refine pf_0_3 C hI h0.1 fl_X0_22 e8 dX0_forget_7 (fun H locs hI => ?_)
  obtain rfl := Option.some.inj hf
  exact m_vret C hr hlk hI dX0_forget_10

theorem dX0_sureAt_0 : decode cX0_sureAt 0 = .ok (.iload_n 1, 1) := by decide +kernel
theorem dX0_sureAt_1 : decode cX0_sureAt 1 = .ok (.ifCond .lt 27, 3) := by decide +kernel
theorem dX0_sureAt_4 : decode cX0_sureAt 4 = .ok (.iload_n 1, 1) := by decide +kernel
theorem dX0_sureAt_5 : decode cX0_sureAt 5 = .ok (.aload_n 0, 1) := by decide +kernel
theorem dX0_sureAt_6 : decode cX0_sureAt 6 = .ok (.getfield 18, 3) := by decide +kernel
theorem dX0_sureAt_9 : decode cX0_sureAt 9 = .ok (.if_icmp .ge 19, 3) := by decide +kernel
theorem dX0_sureAt_12 : decode cX0_sureAt 12 = .ok (.iload_n 1, 1) := by decide +kernel
theorem dX0_sureAt_13 : decode cX0_sureAt 13 = .ok (.sipush 200, 3) := by decide +kernel
theorem dX0_sureAt_16 : decode cX0_sureAt 16 = .ok (.if_icmp .ge 12, 3) := by decide +kernel
theorem dX0_sureAt_19 : decode cX0_sureAt 19 = .ok (.aload_n 0, 1) := by decide +kernel
theorem dX0_sureAt_20 : decode cX0_sureAt 20 = .ok (.getfield 9, 3) := by decide +kernel
theorem dX0_sureAt_23 : decode cX0_sureAt 23 = .ok (.iload_n 1, 1) := by decide +kernel
theorem dX0_sureAt_24 : decode cX0_sureAt 24 = .ok (.iaload, 1) := by decide +kernel
theorem dX0_sureAt_25 : decode cX0_sureAt 25 = .ok (.goto 4, 3) := by decide +kernel
theorem dX0_sureAt_28 : decode cX0_sureAt 28 = .ok (.iconst (-1), 1) := by decide +kernel
theorem dX0_sureAt_29 : decode cX0_sureAt 29 = .ok (.ireturn, 1) := by decide +kernel
def f_X0_sureAt (μ : Mm) (p1 : Int32) : Option Int32 :=
 if p1 < 0 then
 some (-1 : Int32)
 else
 if (μ.1 0 0 2) ≤ p1 then
 some (-1 : Int32)
 else
 if (200 : Int32) ≤ p1 then
 some (-1 : Int32)
 else
 (ra μ 1 0 200 p1).bind fun v3 =>
 some v3
set_option maxHeartbeats 4000000 in
set_option maxRecDepth 100000 in
theorem c_X0_sureAt (l : Launch) (E : En) {μ : Mm} {p1 : Int32} (h0 : l0 E 0) {z : Int32} (hf : f_X0_sureAt μ p1 = some z) : Met l yX0_sureAt (wt yX0_sureAt cX0_sureAt 2 (some .int)) { frames := 0, cells := 0, slots := 0, locals := 0 } (Pm E [.ref (ad E 0 0), .int p1] μ) (Qm E (some (.int z)) μ) 0 0 (Ad E) := by
  unfold f_X0_sureAt at hf
  refine met_of (cc := cX0_sureAt) (nL := 2) (ret := (some .int)) (by decide) _ (Nat.le_of_ble_eq_true rfl) ?_
  intro p e s m below meth c C hr hlk hI ls hl
  have hx := C.1.1
  have hb := C.1.2.1
  have hl : lv_has ls 2 [(0, .ref (ad E 0 0)), (1, .int p1)] := hl
  refine lv_iload_n hx hb dX0_sureAt_0 rfl (lv_at hl 1 rfl) ?_
  refine lv_if_lt (tgt := 28) hx hb dX0_sureAt_1 rfl (fun hc => ?_) (fun hc => ?_)
  · replace hf := it hf hc
    refine lv_iconst (v := (-1 : Int32)) hx hb dX0_sureAt_28 kc_m1 ?_
    obtain rfl := Option.some.inj hf
    exact m_iret C hr hlk hI dX0_sureAt_29
  · replace hf := ie hf hc
    refine lv_iload_n hx hb dX0_sureAt_4 rfl (lv_at hl 1 rfl) ?_
    refine lv_aload_n hx hb dX0_sureAt_5 rfl (lv_at hl 0 rfl) ?_
    refine gf_0_2 C hI h0.1 fl_X0_18 dX0_sureAt_6 ?_
    refine lv_icmp_ge (tgt := 28) hx hb dX0_sureAt_9 rfl (fun hc => ?_) (fun hc => ?_)
    · replace hf := it hf hc
      refine lv_iconst (v := (-1 : Int32)) hx hb dX0_sureAt_28 kc_m1 ?_
      obtain rfl := Option.some.inj hf
      exact m_iret C hr hlk hI dX0_sureAt_29
    · replace hf := ie hf hc
      refine lv_iload_n hx hb dX0_sureAt_12 rfl (lv_at hl 1 rfl) ?_
      refine lv_sipush (v := (200 : Int32)) hx hb dX0_sureAt_13 ks_200 ?_
      refine lv_icmp_ge (tgt := 28) hx hb dX0_sureAt_16 rfl (fun hc => ?_) (fun hc => ?_)
      · replace hf := it hf hc
        refine lv_iconst (v := (-1 : Int32)) hx hb dX0_sureAt_28 kc_m1 ?_
        obtain rfl := Option.some.inj hf
        exact m_iret C hr hlk hI dX0_sureAt_29
      · replace hf := ie hf hc
        refine lv_aload_n hx hb dX0_sureAt_19 rfl (lv_at hl 0 rfl) ?_
        refine gf_0_0 C hI h0.1 fl_X0_9 dX0_sureAt_20 ?_
        refine lv_iload_n hx hb dX0_sureAt_23 rfl (lv_at hl 1 rfl) ?_
        obtain ⟨v3, e4, hf⟩ := ob hf
        refine m_iald C hI h0.2.1 (ce_1 E _ _ _) e4 dX0_sureAt_24 ?_
        refine lv_goto (tgt := 29) hx hb dX0_sureAt_25 rfl ?_
        obtain rfl := Option.some.inj hf
        exact m_iret C hr hlk hI dX0_sureAt_29

theorem dX0_maybeAt_0 : decode cX0_maybeAt 0 = .ok (.iload_n 1, 1) := by decide +kernel
theorem dX0_maybeAt_1 : decode cX0_maybeAt 1 = .ok (.ifCond .lt 27, 3) := by decide +kernel
theorem dX0_maybeAt_4 : decode cX0_maybeAt 4 = .ok (.iload_n 1, 1) := by decide +kernel
theorem dX0_maybeAt_5 : decode cX0_maybeAt 5 = .ok (.aload_n 0, 1) := by decide +kernel
theorem dX0_maybeAt_6 : decode cX0_maybeAt 6 = .ok (.getfield 22, 3) := by decide +kernel
theorem dX0_maybeAt_9 : decode cX0_maybeAt 9 = .ok (.if_icmp .ge 19, 3) := by decide +kernel
theorem dX0_maybeAt_12 : decode cX0_maybeAt 12 = .ok (.iload_n 1, 1) := by decide +kernel
theorem dX0_maybeAt_13 : decode cX0_maybeAt 13 = .ok (.sipush 200, 3) := by decide +kernel
theorem dX0_maybeAt_16 : decode cX0_maybeAt 16 = .ok (.if_icmp .ge 12, 3) := by decide +kernel
theorem dX0_maybeAt_19 : decode cX0_maybeAt 19 = .ok (.aload_n 0, 1) := by decide +kernel
theorem dX0_maybeAt_20 : decode cX0_maybeAt 20 = .ok (.getfield 15, 3) := by decide +kernel
theorem dX0_maybeAt_23 : decode cX0_maybeAt 23 = .ok (.iload_n 1, 1) := by decide +kernel
theorem dX0_maybeAt_24 : decode cX0_maybeAt 24 = .ok (.iaload, 1) := by decide +kernel
theorem dX0_maybeAt_25 : decode cX0_maybeAt 25 = .ok (.goto 4, 3) := by decide +kernel
theorem dX0_maybeAt_28 : decode cX0_maybeAt 28 = .ok (.iconst (-1), 1) := by decide +kernel
theorem dX0_maybeAt_29 : decode cX0_maybeAt 29 = .ok (.ireturn, 1) := by decide +kernel
def f_X0_maybeAt (μ : Mm) (p1 : Int32) : Option Int32 :=
 if p1 < 0 then
 some (-1 : Int32)
 else
 if (μ.1 0 0 3) ≤ p1 then
 some (-1 : Int32)
 else
 if (200 : Int32) ≤ p1 then
 some (-1 : Int32)
 else
 (ra μ 2 0 200 p1).bind fun v3 =>
 some v3
set_option maxHeartbeats 4000000 in
set_option maxRecDepth 100000 in
theorem c_X0_maybeAt (l : Launch) (E : En) {μ : Mm} {p1 : Int32} (h0 : l0 E 0) {z : Int32} (hf : f_X0_maybeAt μ p1 = some z) : Met l yX0_maybeAt (wt yX0_maybeAt cX0_maybeAt 2 (some .int)) { frames := 0, cells := 0, slots := 0, locals := 0 } (Pm E [.ref (ad E 0 0), .int p1] μ) (Qm E (some (.int z)) μ) 0 0 (Ad E) := by
  unfold f_X0_maybeAt at hf
  refine met_of (cc := cX0_maybeAt) (nL := 2) (ret := (some .int)) (by decide) _ (Nat.le_of_ble_eq_true rfl) ?_
  intro p e s m below meth c C hr hlk hI ls hl
  have hx := C.1.1
  have hb := C.1.2.1
  have hl : lv_has ls 2 [(0, .ref (ad E 0 0)), (1, .int p1)] := hl
  refine lv_iload_n hx hb dX0_maybeAt_0 rfl (lv_at hl 1 rfl) ?_
  refine lv_if_lt (tgt := 28) hx hb dX0_maybeAt_1 rfl (fun hc => ?_) (fun hc => ?_)
  · replace hf := it hf hc
    refine lv_iconst (v := (-1 : Int32)) hx hb dX0_maybeAt_28 kc_m1 ?_
    obtain rfl := Option.some.inj hf
    exact m_iret C hr hlk hI dX0_maybeAt_29
  · replace hf := ie hf hc
    refine lv_iload_n hx hb dX0_maybeAt_4 rfl (lv_at hl 1 rfl) ?_
    refine lv_aload_n hx hb dX0_maybeAt_5 rfl (lv_at hl 0 rfl) ?_
    refine gf_0_3 C hI h0.1 fl_X0_22 dX0_maybeAt_6 ?_
    refine lv_icmp_ge (tgt := 28) hx hb dX0_maybeAt_9 rfl (fun hc => ?_) (fun hc => ?_)
    · replace hf := it hf hc
      refine lv_iconst (v := (-1 : Int32)) hx hb dX0_maybeAt_28 kc_m1 ?_
      obtain rfl := Option.some.inj hf
      exact m_iret C hr hlk hI dX0_maybeAt_29
    · replace hf := ie hf hc
      refine lv_iload_n hx hb dX0_maybeAt_12 rfl (lv_at hl 1 rfl) ?_
      refine lv_sipush (v := (200 : Int32)) hx hb dX0_maybeAt_13 ks_200 ?_
      refine lv_icmp_ge (tgt := 28) hx hb dX0_maybeAt_16 rfl (fun hc => ?_) (fun hc => ?_)
      · replace hf := it hf hc
        refine lv_iconst (v := (-1 : Int32)) hx hb dX0_maybeAt_28 kc_m1 ?_
        obtain rfl := Option.some.inj hf
        exact m_iret C hr hlk hI dX0_maybeAt_29
      · replace hf := ie hf hc
        refine lv_aload_n hx hb dX0_maybeAt_19 rfl (lv_at hl 0 rfl) ?_
        refine gf_0_1 C hI h0.1 fl_X0_15 dX0_maybeAt_20 ?_
        refine lv_iload_n hx hb dX0_maybeAt_23 rfl (lv_at hl 1 rfl) ?_
        obtain ⟨v3, e4, hf⟩ := ob hf
        refine m_iald C hI h0.2.2 (ce_2 E _ _ _) e4 dX0_maybeAt_24 ?_
        refine lv_goto (tgt := 29) hx hb dX0_maybeAt_25 rfl ?_
        obtain rfl := Option.some.inj hf
        exact m_iret C hr hlk hI dX0_maybeAt_29

theorem dX0_addSure_0 : decode cX0_addSure 0 = .ok (.aload_n 0, 1) := by decide +kernel
theorem dX0_addSure_1 : decode cX0_addSure 1 = .ok (.getfield 18, 3) := by decide +kernel
theorem dX0_addSure_4 : decode cX0_addSure 4 = .ok (.ifCond .lt 33, 3) := by decide +kernel
theorem dX0_addSure_7 : decode cX0_addSure 7 = .ok (.aload_n 0, 1) := by decide +kernel
theorem dX0_addSure_8 : decode cX0_addSure 8 = .ok (.getfield 18, 3) := by decide +kernel
theorem dX0_addSure_11 : decode cX0_addSure 11 = .ok (.sipush 200, 3) := by decide +kernel
theorem dX0_addSure_14 : decode cX0_addSure 14 = .ok (.if_icmp .ge 23, 3) := by decide +kernel
theorem dX0_addSure_17 : decode cX0_addSure 17 = .ok (.aload_n 0, 1) := by decide +kernel
theorem dX0_addSure_18 : decode cX0_addSure 18 = .ok (.getfield 9, 3) := by decide +kernel
theorem dX0_addSure_21 : decode cX0_addSure 21 = .ok (.aload_n 0, 1) := by decide +kernel
theorem dX0_addSure_22 : decode cX0_addSure 22 = .ok (.getfield 18, 3) := by decide +kernel
theorem dX0_addSure_25 : decode cX0_addSure 25 = .ok (.iload_n 1, 1) := by decide +kernel
theorem dX0_addSure_26 : decode cX0_addSure 26 = .ok (.iastore, 1) := by decide +kernel
theorem dX0_addSure_27 : decode cX0_addSure 27 = .ok (.aload_n 0, 1) := by decide +kernel
theorem dX0_addSure_28 : decode cX0_addSure 28 = .ok (.dup, 1) := by decide +kernel
theorem dX0_addSure_29 : decode cX0_addSure 29 = .ok (.getfield 18, 3) := by decide +kernel
theorem dX0_addSure_32 : decode cX0_addSure 32 = .ok (.iconst 1, 1) := by decide +kernel
theorem dX0_addSure_33 : decode cX0_addSure 33 = .ok (.iadd, 1) := by decide +kernel
theorem dX0_addSure_34 : decode cX0_addSure 34 = .ok (.putfield 18, 3) := by decide +kernel
theorem dX0_addSure_37 : decode cX0_addSure 37 = .ok (.return_, 1) := by decide +kernel
def f_X0_addSure (μ : Mm) (p1 : Int32) : Option Mm :=
 if (μ.1 0 0 2) < 0 then
 some μ
 else
 if (200 : Int32) ≤ (μ.1 0 0 2) then
 some μ
 else
 (wa μ 1 0 200 (μ.1 0 0 2) p1).bind fun m5 =>
 (wf m5 0 0 2 ((m5.1 0 0 2) + (1 : Int32))).bind fun m7 =>
 some m7
set_option maxHeartbeats 4000000 in
set_option maxRecDepth 100000 in
theorem c_X0_addSure (l : Launch) (E : En) {μ : Mm} {p1 : Int32} (h0 : l0 E 0) {z : Mm} (hf : f_X0_addSure μ p1 = some z) : Met l yX0_addSure (wt yX0_addSure cX0_addSure 2 (none : Option FieldType)) { frames := 0, cells := 0, slots := 0, locals := 0 } (Pm E [.ref (ad E 0 0), .int p1] μ) (Qm E none z) 0 0 (Ad E) := by
  unfold f_X0_addSure at hf
  refine met_of (cc := cX0_addSure) (nL := 2) (ret := (none : Option FieldType)) (by decide) _ (Nat.le_of_ble_eq_true rfl) ?_
  intro p e s m below meth c C hr hlk hI ls hl
  have hx := C.1.1
  have hb := C.1.2.1
  have hl : lv_has ls 2 [(0, .ref (ad E 0 0)), (1, .int p1)] := hl
  refine lv_aload_n hx hb dX0_addSure_0 rfl (lv_at hl 0 rfl) ?_
  refine gf_0_2 C hI h0.1 fl_X0_18 dX0_addSure_1 ?_
  refine lv_if_lt (tgt := 37) hx hb dX0_addSure_4 rfl (fun hc => ?_) (fun hc => ?_)
  · replace hf := it hf hc
    obtain rfl := Option.some.inj hf
    exact m_vret C hr hlk hI dX0_addSure_37
  · replace hf := ie hf hc
    refine lv_aload_n hx hb dX0_addSure_7 rfl (lv_at hl 0 rfl) ?_
    refine gf_0_2 C hI h0.1 fl_X0_18 dX0_addSure_8 ?_
    refine lv_sipush (v := (200 : Int32)) hx hb dX0_addSure_11 ks_200 ?_
    refine lv_icmp_ge (tgt := 37) hx hb dX0_addSure_14 rfl (fun hc => ?_) (fun hc => ?_)
    · replace hf := it hf hc
      obtain rfl := Option.some.inj hf
      exact m_vret C hr hlk hI dX0_addSure_37
    · replace hf := ie hf hc
      refine lv_aload_n hx hb dX0_addSure_17 rfl (lv_at hl 0 rfl) ?_
      refine gf_0_0 C hI h0.1 fl_X0_9 dX0_addSure_18 ?_
      refine lv_aload_n hx hb dX0_addSure_21 rfl (lv_at hl 0 rfl) ?_
      refine gf_0_2 C hI h0.1 fl_X0_18 dX0_addSure_22 ?_
      refine lv_iload_n hx hb dX0_addSure_25 rfl (lv_at hl 1 rfl) ?_
      obtain ⟨m5, e6, hf⟩ := ob hf
      refine m_iast C hI h0.2.1 (ce_1 E _) e6 dX0_addSure_26 (fun H locs hI => ?_)
      refine lv_aload_n hx hb dX0_addSure_27 rfl (lv_at hl 0 rfl) ?_
      refine lv_dup hx hb dX0_addSure_28 rfl ?_
      refine gf_0_2 C hI h0.1 fl_X0_18 dX0_addSure_29 ?_
      refine lv_iconst (v := (1 : Int32)) hx hb dX0_addSure_32 kc_1 ?_
      refine lv_iadd hx hb dX0_addSure_33 ?_
      obtain ⟨m7, e8, hf⟩ := ob hf
      refine pf_0_2 C hI h0.1 fl_X0_18 e8 dX0_addSure_34 (fun H locs hI => ?_)
      obtain rfl := Option.some.inj hf
      exact m_vret C hr hlk hI dX0_addSure_37

theorem dX0_addMaybe_0 : decode cX0_addMaybe 0 = .ok (.aload_n 0, 1) := by decide +kernel
theorem dX0_addMaybe_1 : decode cX0_addMaybe 1 = .ok (.getfield 22, 3) := by decide +kernel
theorem dX0_addMaybe_4 : decode cX0_addMaybe 4 = .ok (.ifCond .lt 33, 3) := by decide +kernel
theorem dX0_addMaybe_7 : decode cX0_addMaybe 7 = .ok (.aload_n 0, 1) := by decide +kernel
theorem dX0_addMaybe_8 : decode cX0_addMaybe 8 = .ok (.getfield 22, 3) := by decide +kernel
theorem dX0_addMaybe_11 : decode cX0_addMaybe 11 = .ok (.sipush 200, 3) := by decide +kernel
theorem dX0_addMaybe_14 : decode cX0_addMaybe 14 = .ok (.if_icmp .ge 23, 3) := by decide +kernel
theorem dX0_addMaybe_17 : decode cX0_addMaybe 17 = .ok (.aload_n 0, 1) := by decide +kernel
theorem dX0_addMaybe_18 : decode cX0_addMaybe 18 = .ok (.getfield 15, 3) := by decide +kernel
theorem dX0_addMaybe_21 : decode cX0_addMaybe 21 = .ok (.aload_n 0, 1) := by decide +kernel
theorem dX0_addMaybe_22 : decode cX0_addMaybe 22 = .ok (.getfield 22, 3) := by decide +kernel
theorem dX0_addMaybe_25 : decode cX0_addMaybe 25 = .ok (.iload_n 1, 1) := by decide +kernel
theorem dX0_addMaybe_26 : decode cX0_addMaybe 26 = .ok (.iastore, 1) := by decide +kernel
theorem dX0_addMaybe_27 : decode cX0_addMaybe 27 = .ok (.aload_n 0, 1) := by decide +kernel
theorem dX0_addMaybe_28 : decode cX0_addMaybe 28 = .ok (.dup, 1) := by decide +kernel
theorem dX0_addMaybe_29 : decode cX0_addMaybe 29 = .ok (.getfield 22, 3) := by decide +kernel
theorem dX0_addMaybe_32 : decode cX0_addMaybe 32 = .ok (.iconst 1, 1) := by decide +kernel
theorem dX0_addMaybe_33 : decode cX0_addMaybe 33 = .ok (.iadd, 1) := by decide +kernel
theorem dX0_addMaybe_34 : decode cX0_addMaybe 34 = .ok (.putfield 22, 3) := by decide +kernel
theorem dX0_addMaybe_37 : decode cX0_addMaybe 37 = .ok (.return_, 1) := by decide +kernel
def f_X0_addMaybe (μ : Mm) (p1 : Int32) : Option Mm :=
 if (μ.1 0 0 3) < 0 then
 some μ
 else
 if (200 : Int32) ≤ (μ.1 0 0 3) then
 some μ
 else
 (wa μ 2 0 200 (μ.1 0 0 3) p1).bind fun m5 =>
 (wf m5 0 0 3 ((m5.1 0 0 3) + (1 : Int32))).bind fun m7 =>
 some m7
set_option maxHeartbeats 4000000 in
set_option maxRecDepth 100000 in
theorem c_X0_addMaybe (l : Launch) (E : En) {μ : Mm} {p1 : Int32} (h0 : l0 E 0) {z : Mm} (hf : f_X0_addMaybe μ p1 = some z) : Met l yX0_addMaybe (wt yX0_addMaybe cX0_addMaybe 2 (none : Option FieldType)) { frames := 0, cells := 0, slots := 0, locals := 0 } (Pm E [.ref (ad E 0 0), .int p1] μ) (Qm E none z) 0 0 (Ad E) := by
  unfold f_X0_addMaybe at hf
  refine met_of (cc := cX0_addMaybe) (nL := 2) (ret := (none : Option FieldType)) (by decide) _ (Nat.le_of_ble_eq_true rfl) ?_
  intro p e s m below meth c C hr hlk hI ls hl
  have hx := C.1.1
  have hb := C.1.2.1
  have hl : lv_has ls 2 [(0, .ref (ad E 0 0)), (1, .int p1)] := hl
  refine lv_aload_n hx hb dX0_addMaybe_0 rfl (lv_at hl 0 rfl) ?_
  refine gf_0_3 C hI h0.1 fl_X0_22 dX0_addMaybe_1 ?_
  refine lv_if_lt (tgt := 37) hx hb dX0_addMaybe_4 rfl (fun hc => ?_) (fun hc => ?_)
  · replace hf := it hf hc
    obtain rfl := Option.some.inj hf
    exact m_vret C hr hlk hI dX0_addMaybe_37
  · replace hf := ie hf hc
    refine lv_aload_n hx hb dX0_addMaybe_7 rfl (lv_at hl 0 rfl) ?_
    refine gf_0_3 C hI h0.1 fl_X0_22 dX0_addMaybe_8 ?_
    refine lv_sipush (v := (200 : Int32)) hx hb dX0_addMaybe_11 ks_200 ?_
    refine lv_icmp_ge (tgt := 37) hx hb dX0_addMaybe_14 rfl (fun hc => ?_) (fun hc => ?_)
    · replace hf := it hf hc
      obtain rfl := Option.some.inj hf
      exact m_vret C hr hlk hI dX0_addMaybe_37
    · replace hf := ie hf hc
      refine lv_aload_n hx hb dX0_addMaybe_17 rfl (lv_at hl 0 rfl) ?_
      refine gf_0_1 C hI h0.1 fl_X0_15 dX0_addMaybe_18 ?_
      refine lv_aload_n hx hb dX0_addMaybe_21 rfl (lv_at hl 0 rfl) ?_
      refine gf_0_3 C hI h0.1 fl_X0_22 dX0_addMaybe_22 ?_
      refine lv_iload_n hx hb dX0_addMaybe_25 rfl (lv_at hl 1 rfl) ?_
      obtain ⟨m5, e6, hf⟩ := ob hf
      refine m_iast C hI h0.2.2 (ce_2 E _) e6 dX0_addMaybe_26 (fun H locs hI => ?_)
      refine lv_aload_n hx hb dX0_addMaybe_27 rfl (lv_at hl 0 rfl) ?_
      refine lv_dup hx hb dX0_addMaybe_28 rfl ?_
      refine gf_0_3 C hI h0.1 fl_X0_22 dX0_addMaybe_29 ?_
      refine lv_iconst (v := (1 : Int32)) hx hb dX0_addMaybe_32 kc_1 ?_
      refine lv_iadd hx hb dX0_addMaybe_33 ?_
      obtain ⟨m7, e8, hf⟩ := ob hf
      refine pf_0_3 C hI h0.1 fl_X0_22 e8 dX0_addMaybe_34 (fun H locs hI => ?_)
      obtain rfl := Option.some.inj hf
      exact m_vret C hr hlk hI dX0_addMaybe_37

theorem dX0_judgePair_0 : decode cX0_judgePair 0 = .ok (.iload_n 2, 1) := by decide +kernel
theorem dX0_judgePair_1 : decode cX0_judgePair 1 = .ok (.iload_n 1, 1) := by decide +kernel
theorem dX0_judgePair_2 : decode cX0_judgePair 2 = .ok (.isub, 1) := by decide +kernel
theorem dX0_judgePair_3 : decode cX0_judgePair 3 = .ok (.iload 4, 2) := by decide +kernel
theorem dX0_judgePair_5 : decode cX0_judgePair 5 = .ok (.if_icmp .ge 11, 3) := by decide +kernel
theorem dX0_judgePair_8 : decode cX0_judgePair 8 = .ok (.aload_n 0, 1) := by decide +kernel
theorem dX0_judgePair_9 : decode cX0_judgePair 9 = .ok (.iload_n 1, 1) := by decide +kernel
theorem dX0_judgePair_10 : decode cX0_judgePair 10 = .ok (.invokevirtual 58, 3) := by decide +kernel
theorem dX0_judgePair_13 : decode cX0_judgePair 13 = .ok (.goto 12, 3) := by decide +kernel
theorem dX0_judgePair_16 : decode cX0_judgePair 16 = .ok (.iload_n 3, 1) := by decide +kernel
theorem dX0_judgePair_17 : decode cX0_judgePair 17 = .ok (.ifCond .eq 8, 3) := by decide +kernel
theorem dX0_judgePair_20 : decode cX0_judgePair 20 = .ok (.aload_n 0, 1) := by decide +kernel
theorem dX0_judgePair_21 : decode cX0_judgePair 21 = .ok (.iload_n 1, 1) := by decide +kernel
theorem dX0_judgePair_22 : decode cX0_judgePair 22 = .ok (.invokevirtual 62, 3) := by decide +kernel
theorem dX0_judgePair_25 : decode cX0_judgePair 25 = .ok (.return_, 1) := by decide +kernel
def f_X0_judgePair (μ : Mm) (p1 : Int32) (p2 : Int32) (p3 : Int32) (p4 : Int32) : Option Mm :=
 if p4 ≤ (p2 - p1) then
 if p3 = 0 then
 some μ
 else
 (f_X0_addMaybe μ p1).bind fun q5 =>
 some q5
 else
 (f_X0_addSure μ p1).bind fun q7 =>
 some q7
set_option maxHeartbeats 4000000 in
set_option maxRecDepth 100000 in
theorem c_X0_judgePair (l : Launch) (E : En) {μ : Mm} {p1 : Int32} {p2 : Int32} {p3 : Int32} {p4 : Int32} (h0 : l0 E 0) {z : Mm} (hf : f_X0_judgePair μ p1 p2 p3 p4 = some z) : Met l yX0_judgePair (wt yX0_judgePair cX0_judgePair 5 (none : Option FieldType)) { frames := 1, cells := 0, slots := 0, locals := 21 } (Pm E [.ref (ad E 0 0), .int p1, .int p2, .int p3, .int p4] μ) (Qm E none z) 0 0 (Ad E) := by
  unfold f_X0_judgePair at hf
  refine met_of (cc := cX0_judgePair) (nL := 5) (ret := (none : Option FieldType)) (by decide) _ (Nat.le_of_ble_eq_true rfl) ?_
  intro p e s m below meth c C hr hlk hI ls hl
  have hx := C.1.1
  have hb := C.1.2.1
  have hl : lv_has ls 5 [(0, .ref (ad E 0 0)), (1, .int p1), (2, .int p2), (3, .int p3), (4, .int p4)] := hl
  refine lv_iload_n hx hb dX0_judgePair_0 rfl (lv_at hl 2 rfl) ?_
  refine lv_iload_n hx hb dX0_judgePair_1 rfl (lv_at hl 1 rfl) ?_
  refine lv_isub hx hb dX0_judgePair_2 ?_
  refine lv_iload hx hb dX0_judgePair_3 (lv_at hl 4 rfl) ?_
  refine lv_icmp_ge (tgt := 16) hx hb dX0_judgePair_5 rfl (fun hc => ?_) (fun hc => ?_)
  · replace hf := it hf hc
    refine lv_iload_n hx hb dX0_judgePair_16 rfl (lv_at hl 3 rfl) ?_
    refine lv_if_eq (tgt := 25) hx hb dX0_judgePair_17 rfl (fun hc => ?_) (fun hc => ?_)
    · replace hf := it hf hc
      obtain rfl := Option.some.inj hf
      exact m_vret C hr hlk hI dX0_judgePair_25
    · replace hf := ie hf hc
      refine lv_aload_n hx hb dX0_judgePair_20 rfl (lv_at hl 0 rfl) ?_
      refine lv_iload_n hx hb dX0_judgePair_21 rfl (lv_at hl 1 rfl) ?_
      obtain ⟨q5, e6, hf⟩ := ob hf
      refine mcV (As := [.int p1]) (rest := []) C hI (c_X0_addMaybe l E h0 e6) ml_X0_62 kv_X0_addMaybe (m_recv C hI h0.1 (ce_0 E _ _ _) rfl) rfl rfl ⟨Nat.le_of_ble_eq_true rfl, Nat.le_of_ble_eq_true rfl⟩ ⟨Nat.zero_le _, Nat.zero_le _⟩ rfl rfl hl.1 (Nat.le_of_ble_eq_true rfl) dX0_judgePair_22 (st1 := []) rfl (fun H locs hI => ?_)
      obtain rfl := Option.some.inj hf
      exact m_vret C hr hlk hI dX0_judgePair_25
  · replace hf := ie hf hc
    refine lv_aload_n hx hb dX0_judgePair_8 rfl (lv_at hl 0 rfl) ?_
    refine lv_iload_n hx hb dX0_judgePair_9 rfl (lv_at hl 1 rfl) ?_
    obtain ⟨q7, e8, hf⟩ := ob hf
    refine mcV (As := [.int p1]) (rest := []) C hI (c_X0_addSure l E h0 e8) ml_X0_58 kv_X0_addSure (m_recv C hI h0.1 (ce_0 E _ _ _) rfl) rfl rfl ⟨Nat.le_of_ble_eq_true rfl, Nat.le_of_ble_eq_true rfl⟩ ⟨Nat.zero_le _, Nat.zero_le _⟩ rfl rfl hl.1 (Nat.le_of_ble_eq_true rfl) dX0_judgePair_10 (st1 := []) rfl (fun H locs hI => ?_)
    refine lv_goto (tgt := 25) hx hb dX0_judgePair_13 rfl ?_
    obtain rfl := Option.some.inj hf
    exact m_vret C hr hlk hI dX0_judgePair_25

theorem dX3_has_0 : decode cX3_has 0 = .ok (.iload_n 1, 1) := by decide +kernel
theorem dX3_has_1 : decode cX3_has 1 = .ok (.ifCond .lt 21, 3) := by decide +kernel
theorem dX3_has_4 : decode cX3_has 4 = .ok (.iload_n 1, 1) := by decide +kernel
theorem dX3_has_5 : decode cX3_has 5 = .ok (.aload_n 0, 1) := by decide +kernel
theorem dX3_has_6 : decode cX3_has 6 = .ok (.getfield 24, 3) := by decide +kernel
theorem dX3_has_9 : decode cX3_has 9 = .ok (.if_icmp .ge 13, 3) := by decide +kernel
theorem dX3_has_12 : decode cX3_has 12 = .ok (.iload_n 1, 1) := by decide +kernel
theorem dX3_has_13 : decode cX3_has 13 = .ok (.bipush 8, 2) := by decide +kernel
theorem dX3_has_15 : decode cX3_has 15 = .ok (.if_icmp .ge 7, 3) := by decide +kernel
theorem dX3_has_18 : decode cX3_has 18 = .ok (.iconst 1, 1) := by decide +kernel
theorem dX3_has_19 : decode cX3_has 19 = .ok (.goto 4, 3) := by decide +kernel
theorem dX3_has_22 : decode cX3_has 22 = .ok (.iconst 0, 1) := by decide +kernel
theorem dX3_has_23 : decode cX3_has 23 = .ok (.ireturn, 1) := by decide +kernel
def f_X3_has (μ : Mm) (p1 : Int32) : Option Int32 :=
 if p1 < 0 then
 some (0 : Int32)
 else
 if (μ.1 300 0 4) ≤ p1 then
 some (0 : Int32)
 else
 if (8 : Int32) ≤ p1 then
 some (0 : Int32)
 else
 some (1 : Int32)
set_option maxHeartbeats 4000000 in
set_option maxRecDepth 100000 in
theorem c_X3_has (l : Launch) (E : En) {μ : Mm} {p1 : Int32} (h0 : l3 E 0) {z : Int32} (hf : f_X3_has μ p1 = some z) : Met l yX3_has (wt yX3_has cX3_has 2 (some .boolean)) { frames := 0, cells := 0, slots := 0, locals := 0 } (Pm E [.ref (ad E 300 0), .int p1] μ) (Qm E (some (.int z)) μ) 0 0 (Ad E) := by
  unfold f_X3_has at hf
  refine met_of (cc := cX3_has) (nL := 2) (ret := (some .boolean)) (by decide) _ (Nat.le_of_ble_eq_true rfl) ?_
  intro p e s m below meth c C hr hlk hI ls hl
  have hx := C.1.1
  have hb := C.1.2.1
  have hl : lv_has ls 2 [(0, .ref (ad E 300 0)), (1, .int p1)] := hl
  refine lv_iload_n hx hb dX3_has_0 rfl (lv_at hl 1 rfl) ?_
  refine lv_if_lt (tgt := 22) hx hb dX3_has_1 rfl (fun hc => ?_) (fun hc => ?_)
  · replace hf := it hf hc
    refine lv_iconst (v := (0 : Int32)) hx hb dX3_has_22 kc_0 ?_
    obtain rfl := Option.some.inj hf
    exact m_zret C hr hlk hI (by decide) dX3_has_23
  · replace hf := ie hf hc
    refine lv_iload_n hx hb dX3_has_4 rfl (lv_at hl 1 rfl) ?_
    refine lv_aload_n hx hb dX3_has_5 rfl (lv_at hl 0 rfl) ?_
    refine gf_3_4 C hI h0.1 fl_X3_24 dX3_has_6 ?_
    refine lv_icmp_ge (tgt := 22) hx hb dX3_has_9 rfl (fun hc => ?_) (fun hc => ?_)
    · replace hf := it hf hc
      refine lv_iconst (v := (0 : Int32)) hx hb dX3_has_22 kc_0 ?_
      obtain rfl := Option.some.inj hf
      exact m_zret C hr hlk hI (by decide) dX3_has_23
    · replace hf := ie hf hc
      refine lv_iload_n hx hb dX3_has_12 rfl (lv_at hl 1 rfl) ?_
      refine lv_bipush (v := (8 : Int32)) hx hb dX3_has_13 kb_8 ?_
      refine lv_icmp_ge (tgt := 22) hx hb dX3_has_15 rfl (fun hc => ?_) (fun hc => ?_)
      · replace hf := it hf hc
        refine lv_iconst (v := (0 : Int32)) hx hb dX3_has_22 kc_0 ?_
        obtain rfl := Option.some.inj hf
        exact m_zret C hr hlk hI (by decide) dX3_has_23
      · replace hf := ie hf hc
        refine lv_iconst (v := (1 : Int32)) hx hb dX3_has_18 kc_1 ?_
        refine lv_goto (tgt := 23) hx hb dX3_has_19 rfl ?_
        obtain rfl := Option.some.inj hf
        exact m_zret C hr hlk hI (by decide) dX3_has_23

theorem dX3_add_0 : decode cX3_add 0 = .ok (.aload_n 0, 1) := by decide +kernel
theorem dX3_add_1 : decode cX3_add 1 = .ok (.getfield 24, 3) := by decide +kernel
theorem dX3_add_4 : decode cX3_add 4 = .ok (.ifCond .lt 12, 3) := by decide +kernel
theorem dX3_add_7 : decode cX3_add 7 = .ok (.aload_n 0, 1) := by decide +kernel
theorem dX3_add_8 : decode cX3_add 8 = .ok (.getfield 24, 3) := by decide +kernel
theorem dX3_add_11 : decode cX3_add 11 = .ok (.bipush 8, 2) := by decide +kernel
theorem dX3_add_13 : decode cX3_add 13 = .ok (.if_icmp .lt 6, 3) := by decide +kernel
theorem dX3_add_16 : decode cX3_add 16 = .ok (.bipush (-4), 2) := by decide +kernel
theorem dX3_add_18 : decode cX3_add 18 = .ok (.ireturn, 1) := by decide +kernel
theorem dX3_add_19 : decode cX3_add 19 = .ok (.aload_n 0, 1) := by decide +kernel
theorem dX3_add_20 : decode cX3_add 20 = .ok (.getfield 9, 3) := by decide +kernel
theorem dX3_add_23 : decode cX3_add 23 = .ok (.aload_n 0, 1) := by decide +kernel
theorem dX3_add_24 : decode cX3_add 24 = .ok (.getfield 24, 3) := by decide +kernel
theorem dX3_add_27 : decode cX3_add 27 = .ok (.iload_n 1, 1) := by decide +kernel
theorem dX3_add_28 : decode cX3_add 28 = .ok (.iastore, 1) := by decide +kernel
theorem dX3_add_29 : decode cX3_add 29 = .ok (.aload_n 0, 1) := by decide +kernel
theorem dX3_add_30 : decode cX3_add 30 = .ok (.getfield 15, 3) := by decide +kernel
theorem dX3_add_33 : decode cX3_add 33 = .ok (.aload_n 0, 1) := by decide +kernel
theorem dX3_add_34 : decode cX3_add 34 = .ok (.getfield 24, 3) := by decide +kernel
theorem dX3_add_37 : decode cX3_add 37 = .ok (.iload_n 2, 1) := by decide +kernel
theorem dX3_add_38 : decode cX3_add 38 = .ok (.iastore, 1) := by decide +kernel
theorem dX3_add_39 : decode cX3_add 39 = .ok (.aload_n 0, 1) := by decide +kernel
theorem dX3_add_40 : decode cX3_add 40 = .ok (.getfield 18, 3) := by decide +kernel
theorem dX3_add_43 : decode cX3_add 43 = .ok (.aload_n 0, 1) := by decide +kernel
theorem dX3_add_44 : decode cX3_add 44 = .ok (.getfield 24, 3) := by decide +kernel
theorem dX3_add_47 : decode cX3_add 47 = .ok (.iload_n 3, 1) := by decide +kernel
theorem dX3_add_48 : decode cX3_add 48 = .ok (.iastore, 1) := by decide +kernel
theorem dX3_add_49 : decode cX3_add 49 = .ok (.aload_n 0, 1) := by decide +kernel
theorem dX3_add_50 : decode cX3_add 50 = .ok (.getfield 21, 3) := by decide +kernel
theorem dX3_add_53 : decode cX3_add 53 = .ok (.aload_n 0, 1) := by decide +kernel
theorem dX3_add_54 : decode cX3_add 54 = .ok (.getfield 24, 3) := by decide +kernel
theorem dX3_add_57 : decode cX3_add 57 = .ok (.iload 4, 2) := by decide +kernel
theorem dX3_add_59 : decode cX3_add 59 = .ok (.iastore, 1) := by decide +kernel
theorem dX3_add_60 : decode cX3_add 60 = .ok (.aload_n 0, 1) := by decide +kernel
theorem dX3_add_61 : decode cX3_add 61 = .ok (.dup, 1) := by decide +kernel
theorem dX3_add_62 : decode cX3_add 62 = .ok (.getfield 24, 3) := by decide +kernel
theorem dX3_add_65 : decode cX3_add 65 = .ok (.iconst 1, 1) := by decide +kernel
theorem dX3_add_66 : decode cX3_add 66 = .ok (.iadd, 1) := by decide +kernel
theorem dX3_add_67 : decode cX3_add 67 = .ok (.putfield 24, 3) := by decide +kernel
theorem dX3_add_70 : decode cX3_add 70 = .ok (.aload_n 0, 1) := by decide +kernel
theorem dX3_add_71 : decode cX3_add 71 = .ok (.getfield 24, 3) := by decide +kernel
theorem dX3_add_74 : decode cX3_add 74 = .ok (.iconst 1, 1) := by decide +kernel
theorem dX3_add_75 : decode cX3_add 75 = .ok (.isub, 1) := by decide +kernel
theorem dX3_add_76 : decode cX3_add 76 = .ok (.ireturn, 1) := by decide +kernel
def f_X3_add (μ : Mm) (p1 : Int32) (p2 : Int32) (p3 : Int32) (p4 : Int32) : Option (Int32 × Mm) :=
 if (μ.1 300 0 4) < 0 then
 some ((-4 : Int32), μ)
 else
 if (μ.1 300 0 4) < (8 : Int32) then
 (wa μ 301 0 8 (μ.1 300 0 4) p1).bind fun m11 =>
 (wa m11 302 0 8 (m11.1 300 0 4) p2).bind fun m13 =>
 (wa m13 303 0 8 (m13.1 300 0 4) p3).bind fun m15 =>
 (wa m15 304 0 8 (m15.1 300 0 4) p4).bind fun m17 =>
 (wf m17 300 0 4 ((m17.1 300 0 4) + (1 : Int32))).bind fun m19 =>
 some ((m19.1 300 0 4) - (1 : Int32), m19)
 else
 some ((-4 : Int32), μ)
set_option maxHeartbeats 4000000 in
set_option maxRecDepth 100000 in
theorem c_X3_add (l : Launch) (E : En) {μ : Mm} {p1 : Int32} {p2 : Int32} {p3 : Int32} {p4 : Int32} (h0 : l3 E 0) {z : Int32 × Mm} (hf : f_X3_add μ p1 p2 p3 p4 = some z) : Met l yX3_add (wt yX3_add cX3_add 5 (some .int)) { frames := 0, cells := 0, slots := 0, locals := 0 } (Pm E [.ref (ad E 300 0), .int p1, .int p2, .int p3, .int p4] μ) (Qm E (some (.int z.1)) z.2) 0 0 (Ad E) := by
  unfold f_X3_add at hf
  refine met_of (cc := cX3_add) (nL := 5) (ret := (some .int)) (by decide) _ (Nat.le_of_ble_eq_true rfl) ?_
  intro p e s m below meth c C hr hlk hI ls hl
  have hx := C.1.1
  have hb := C.1.2.1
  have hl : lv_has ls 5 [(0, .ref (ad E 300 0)), (1, .int p1), (2, .int p2), (3, .int p3), (4, .int p4)] := hl
  refine lv_aload_n hx hb dX3_add_0 rfl (lv_at hl 0 rfl) ?_
  refine gf_3_4 C hI h0.1 fl_X3_24 dX3_add_1 ?_
  refine lv_if_lt (tgt := 16) hx hb dX3_add_4 rfl (fun hc => ?_) (fun hc => ?_)
  · replace hf := it hf hc
    refine lv_bipush (v := (-4 : Int32)) hx hb dX3_add_16 kb_m4 ?_
    obtain rfl := Option.some.inj hf
    exact m_iret C hr hlk hI dX3_add_18
  · replace hf := ie hf hc
    refine lv_aload_n hx hb dX3_add_7 rfl (lv_at hl 0 rfl) ?_
    refine gf_3_4 C hI h0.1 fl_X3_24 dX3_add_8 ?_
    refine lv_bipush (v := (8 : Int32)) hx hb dX3_add_11 kb_8 ?_
    refine lv_icmp_lt (tgt := 19) hx hb dX3_add_13 rfl (fun hc => ?_) (fun hc => ?_)
    · replace hf := it hf hc
      refine lv_aload_n hx hb dX3_add_19 rfl (lv_at hl 0 rfl) ?_
      refine gf_3_0 C hI h0.1 fl_X3_9 dX3_add_20 ?_
      refine lv_aload_n hx hb dX3_add_23 rfl (lv_at hl 0 rfl) ?_
      refine gf_3_4 C hI h0.1 fl_X3_24 dX3_add_24 ?_
      refine lv_iload_n hx hb dX3_add_27 rfl (lv_at hl 1 rfl) ?_
      obtain ⟨m11, e12, hf⟩ := ob hf
      refine m_iast C hI h0.2.1 (ce_301 E _) e12 dX3_add_28 (fun H locs hI => ?_)
      refine lv_aload_n hx hb dX3_add_29 rfl (lv_at hl 0 rfl) ?_
      refine gf_3_1 C hI h0.1 fl_X3_15 dX3_add_30 ?_
      refine lv_aload_n hx hb dX3_add_33 rfl (lv_at hl 0 rfl) ?_
      refine gf_3_4 C hI h0.1 fl_X3_24 dX3_add_34 ?_
      refine lv_iload_n hx hb dX3_add_37 rfl (lv_at hl 2 rfl) ?_
      obtain ⟨m13, e14, hf⟩ := ob hf
      refine m_iast C hI h0.2.2.1 (ce_302 E _) e14 dX3_add_38 (fun H locs hI => ?_)
      refine lv_aload_n hx hb dX3_add_39 rfl (lv_at hl 0 rfl) ?_
      refine gf_3_2 C hI h0.1 fl_X3_18 dX3_add_40 ?_
      refine lv_aload_n hx hb dX3_add_43 rfl (lv_at hl 0 rfl) ?_
      refine gf_3_4 C hI h0.1 fl_X3_24 dX3_add_44 ?_
      refine lv_iload_n hx hb dX3_add_47 rfl (lv_at hl 3 rfl) ?_
      obtain ⟨m15, e16, hf⟩ := ob hf
      refine m_iast C hI h0.2.2.2.1 (ce_303 E _) e16 dX3_add_48 (fun H locs hI => ?_)
      refine lv_aload_n hx hb dX3_add_49 rfl (lv_at hl 0 rfl) ?_
      refine gf_3_3 C hI h0.1 fl_X3_21 dX3_add_50 ?_
      refine lv_aload_n hx hb dX3_add_53 rfl (lv_at hl 0 rfl) ?_
      refine gf_3_4 C hI h0.1 fl_X3_24 dX3_add_54 ?_
      refine lv_iload hx hb dX3_add_57 (lv_at hl 4 rfl) ?_
      obtain ⟨m17, e18, hf⟩ := ob hf
      refine m_iast C hI h0.2.2.2.2 (ce_304 E _) e18 dX3_add_59 (fun H locs hI => ?_)
      refine lv_aload_n hx hb dX3_add_60 rfl (lv_at hl 0 rfl) ?_
      refine lv_dup hx hb dX3_add_61 rfl ?_
      refine gf_3_4 C hI h0.1 fl_X3_24 dX3_add_62 ?_
      refine lv_iconst (v := (1 : Int32)) hx hb dX3_add_65 kc_1 ?_
      refine lv_iadd hx hb dX3_add_66 ?_
      obtain ⟨m19, e20, hf⟩ := ob hf
      refine pf_3_4 C hI h0.1 fl_X3_24 e20 dX3_add_67 (fun H locs hI => ?_)
      refine lv_aload_n hx hb dX3_add_70 rfl (lv_at hl 0 rfl) ?_
      refine gf_3_4 C hI h0.1 fl_X3_24 dX3_add_71 ?_
      refine lv_iconst (v := (1 : Int32)) hx hb dX3_add_74 kc_1 ?_
      refine lv_isub hx hb dX3_add_75 ?_
      obtain rfl := Option.some.inj hf
      exact m_iret C hr hlk hI dX3_add_76
    · replace hf := ie hf hc
      refine lv_bipush (v := (-4 : Int32)) hx hb dX3_add_16 kb_m4 ?_
      obtain rfl := Option.some.inj hf
      exact m_iret C hr hlk hI dX3_add_18

theorem dX5_placeOf_0 : decode cX5_placeOf 0 = .ok (.iload_n 0, 1) := by decide +kernel
theorem dX5_placeOf_1 : decode cX5_placeOf 1 = .ok (.ifCond .lt 17, 3) := by decide +kernel
theorem dX5_placeOf_4 : decode cX5_placeOf 4 = .ok (.iload_n 0, 1) := by decide +kernel
theorem dX5_placeOf_5 : decode cX5_placeOf 5 = .ok (.iconst 3, 1) := by decide +kernel
theorem dX5_placeOf_6 : decode cX5_placeOf 6 = .ok (.if_icmp .ge 12, 3) := by decide +kernel
theorem dX5_placeOf_9 : decode cX5_placeOf 9 = .ok (.iload_n 1, 1) := by decide +kernel
theorem dX5_placeOf_10 : decode cX5_placeOf 10 = .ok (.ifCond .lt 8, 3) := by decide +kernel
theorem dX5_placeOf_13 : decode cX5_placeOf 13 = .ok (.iload_n 1, 1) := by decide +kernel
theorem dX5_placeOf_14 : decode cX5_placeOf 14 = .ok (.iconst 3, 1) := by decide +kernel
theorem dX5_placeOf_15 : decode cX5_placeOf 15 = .ok (.if_icmp .lt 5, 3) := by decide +kernel
theorem dX5_placeOf_18 : decode cX5_placeOf 18 = .ok (.iconst (-1), 1) := by decide +kernel
theorem dX5_placeOf_19 : decode cX5_placeOf 19 = .ok (.ireturn, 1) := by decide +kernel
theorem dX5_placeOf_20 : decode cX5_placeOf 20 = .ok (.iload_n 0, 1) := by decide +kernel
theorem dX5_placeOf_21 : decode cX5_placeOf 21 = .ok (.iconst 3, 1) := by decide +kernel
theorem dX5_placeOf_22 : decode cX5_placeOf 22 = .ok (.imul, 1) := by decide +kernel
theorem dX5_placeOf_23 : decode cX5_placeOf 23 = .ok (.iload_n 1, 1) := by decide +kernel
theorem dX5_placeOf_24 : decode cX5_placeOf 24 = .ok (.iadd, 1) := by decide +kernel
theorem dX5_placeOf_25 : decode cX5_placeOf 25 = .ok (.ireturn, 1) := by decide +kernel
def f_X5_placeOf (μ : Mm) (p0 : Int32) (p1 : Int32) : Option Int32 :=
 if p0 < 0 then
 some (-1 : Int32)
 else
 if (3 : Int32) ≤ p0 then
 some (-1 : Int32)
 else
 if p1 < 0 then
 some (-1 : Int32)
 else
 if p1 < (3 : Int32) then
 some ((p0 * (3 : Int32)) + p1)
 else
 some (-1 : Int32)
set_option maxHeartbeats 4000000 in
set_option maxRecDepth 100000 in
theorem c_X5_placeOf (l : Launch) (E : En) {μ : Mm} {p0 : Int32} {p1 : Int32} {z : Int32} (hf : f_X5_placeOf μ p0 p1 = some z) : Met l yX5_placeOf (wt yX5_placeOf cX5_placeOf 2 (some .int)) { frames := 0, cells := 0, slots := 0, locals := 0 } (Pm E [.int p0, .int p1] μ) (Qm E (some (.int z)) μ) 0 0 (Ad E) := by
  unfold f_X5_placeOf at hf
  refine met_of (cc := cX5_placeOf) (nL := 2) (ret := (some .int)) (by decide) _ (Nat.le_of_ble_eq_true rfl) ?_
  intro p e s m below meth c C hr hlk hI ls hl
  have hx := C.1.1
  have hb := C.1.2.1
  have hl : lv_has ls 2 [(0, .int p0), (1, .int p1)] := hl
  refine lv_iload_n hx hb dX5_placeOf_0 rfl (lv_at hl 0 rfl) ?_
  refine lv_if_lt (tgt := 18) hx hb dX5_placeOf_1 rfl (fun hc => ?_) (fun hc => ?_)
  · replace hf := it hf hc
    refine lv_iconst (v := (-1 : Int32)) hx hb dX5_placeOf_18 kc_m1 ?_
    obtain rfl := Option.some.inj hf
    exact m_iret C hr hlk hI dX5_placeOf_19
  · replace hf := ie hf hc
    refine lv_iload_n hx hb dX5_placeOf_4 rfl (lv_at hl 0 rfl) ?_
    refine lv_iconst (v := (3 : Int32)) hx hb dX5_placeOf_5 kc_3 ?_
    refine lv_icmp_ge (tgt := 18) hx hb dX5_placeOf_6 rfl (fun hc => ?_) (fun hc => ?_)
    · replace hf := it hf hc
      refine lv_iconst (v := (-1 : Int32)) hx hb dX5_placeOf_18 kc_m1 ?_
      obtain rfl := Option.some.inj hf
      exact m_iret C hr hlk hI dX5_placeOf_19
    · replace hf := ie hf hc
      refine lv_iload_n hx hb dX5_placeOf_9 rfl (lv_at hl 1 rfl) ?_
      refine lv_if_lt (tgt := 18) hx hb dX5_placeOf_10 rfl (fun hc => ?_) (fun hc => ?_)
      · replace hf := it hf hc
        refine lv_iconst (v := (-1 : Int32)) hx hb dX5_placeOf_18 kc_m1 ?_
        obtain rfl := Option.some.inj hf
        exact m_iret C hr hlk hI dX5_placeOf_19
      · replace hf := ie hf hc
        refine lv_iload_n hx hb dX5_placeOf_13 rfl (lv_at hl 1 rfl) ?_
        refine lv_iconst (v := (3 : Int32)) hx hb dX5_placeOf_14 kc_3 ?_
        refine lv_icmp_lt (tgt := 20) hx hb dX5_placeOf_15 rfl (fun hc => ?_) (fun hc => ?_)
        · replace hf := it hf hc
          refine lv_iload_n hx hb dX5_placeOf_20 rfl (lv_at hl 0 rfl) ?_
          refine lv_iconst (v := (3 : Int32)) hx hb dX5_placeOf_21 kc_3 ?_
          refine lv_imul hx hb dX5_placeOf_22 ?_
          refine lv_iload_n hx hb dX5_placeOf_23 rfl (lv_at hl 1 rfl) ?_
          refine lv_iadd hx hb dX5_placeOf_24 ?_
          obtain rfl := Option.some.inj hf
          exact m_iret C hr hlk hI dX5_placeOf_25
        · replace hf := ie hf hc
          refine lv_iconst (v := (-1 : Int32)) hx hb dX5_placeOf_18 kc_m1 ?_
          obtain rfl := Option.some.inj hf
          exact m_iret C hr hlk hI dX5_placeOf_19

theorem dX5_boundOf_0 : decode cX5_boundOf 0 = .ok (.iload_n 1, 1) := by decide +kernel
theorem dX5_boundOf_1 : decode cX5_boundOf 1 = .ok (.iload_n 2, 1) := by decide +kernel
theorem dX5_boundOf_2 : decode cX5_boundOf 2 = .ok (.invokestatic 48, 3) := by decide +kernel
theorem dX5_boundOf_5 : decode cX5_boundOf 5 = .ok (.istore_n 3, 1) := by decide +kernel
theorem dX5_boundOf_6 : decode cX5_boundOf 6 = .ok (.iload_n 3, 1) := by decide +kernel
theorem dX5_boundOf_7 : decode cX5_boundOf 7 = .ok (.iconst (-1), 1) := by decide +kernel
theorem dX5_boundOf_8 : decode cX5_boundOf 8 = .ok (.if_icmp .ne 9, 3) := by decide +kernel
theorem dX5_boundOf_11 : decode cX5_boundOf 11 = .ok (.ldc2_w 15, 3) := by decide +kernel
theorem dX5_boundOf_14 : decode cX5_boundOf 14 = .ok (.goto 9, 3) := by decide +kernel
theorem dX5_boundOf_17 : decode cX5_boundOf 17 = .ok (.aload_n 0, 1) := by decide +kernel
theorem dX5_boundOf_18 : decode cX5_boundOf 18 = .ok (.getfield 9, 3) := by decide +kernel
theorem dX5_boundOf_21 : decode cX5_boundOf 21 = .ok (.iload_n 3, 1) := by decide +kernel
theorem dX5_boundOf_22 : decode cX5_boundOf 22 = .ok (.laload, 1) := by decide +kernel
theorem dX5_boundOf_23 : decode cX5_boundOf 23 = .ok (.lreturn, 1) := by decide +kernel
def f_X5_boundOf (μ : Mm) (p1 : Int32) (p2 : Int32) : Option Int64 :=
 (f_X5_placeOf μ p1 p2).bind fun q5 =>
 if q5 = (-1 : Int32) then
 some (-1152921504606846976 : Int64)
 else
 (rl μ 501 0 9 q5).bind fun v7 =>
 some v7
set_option maxHeartbeats 4000000 in
set_option maxRecDepth 100000 in
theorem c_X5_boundOf (l : Launch) (E : En) {μ : Mm} {p1 : Int32} {p2 : Int32} (h0 : l5 E 0) {z : Int64} (hf : f_X5_boundOf μ p1 p2 = some z) : Met l yX5_boundOf (wt yX5_boundOf cX5_boundOf 4 (some .long)) { frames := 1, cells := 0, slots := 0, locals := 21 } (Pm E [.ref (ad E 500 0), .int p1, .int p2] μ) (Qm E (some (.long z)) μ) 0 0 (Ad E) := by
  unfold f_X5_boundOf at hf
  refine met_of (cc := cX5_boundOf) (nL := 4) (ret := (some .long)) (by decide) _ (Nat.le_of_ble_eq_true rfl) ?_
  intro p e s m below meth c C hr hlk hI ls hl
  have hx := C.1.1
  have hb := C.1.2.1
  have hl : lv_has ls 4 [(0, .ref (ad E 500 0)), (1, .int p1), (2, .int p2)] := hl
  refine lv_iload_n hx hb dX5_boundOf_0 rfl (lv_at hl 1 rfl) ?_
  refine lv_iload_n hx hb dX5_boundOf_1 rfl (lv_at hl 2 rfl) ?_
  obtain ⟨q5, e6, hf⟩ := ob hf
  refine mcS (As := [.int p1, .int p2]) (rest := []) C hI (c_X5_placeOf l E  e6) ml_X5_48 ks_X5_placeOf rfl rfl ⟨Nat.le_of_ble_eq_true rfl, Nat.le_of_ble_eq_true rfl⟩ ⟨Nat.zero_le _, Nat.zero_le _⟩ rfl rfl hl.1 (Nat.le_of_ble_eq_true rfl) dX5_boundOf_2 (st1 := [.int q5]) rfl (fun H locs hI => ?_)
  refine lv_istore_n hx hb dX5_boundOf_5 rfl hl (by decide) rfl (fun ls hl => ?_)
  have hl : lv_has ls 4 [(3, .int q5), (0, .ref (ad E 500 0)), (1, .int p1), (2, .int p2)] := hl
  refine lv_iload_n hx hb dX5_boundOf_6 rfl (lv_at hl 0 rfl) ?_
  refine lv_iconst (v := (-1 : Int32)) hx hb dX5_boundOf_7 kc_m1 ?_
  refine lv_icmp_ne (tgt := 17) hx hb dX5_boundOf_8 rfl (fun hc => ?_) (fun hc => ?_)
  · replace hf := ie hf hc
    refine lv_aload_n hx hb dX5_boundOf_17 rfl (lv_at hl 1 rfl) ?_
    refine gf_5_0 C hI h0.1 fl_X5_9 dX5_boundOf_18 ?_
    refine lv_iload_n hx hb dX5_boundOf_21 rfl (lv_at hl 0 rfl) ?_
    obtain ⟨v7, e8, hf⟩ := ob hf
    refine m_lald C hI h0.2 (ce_501 E _ _ _) e8 dX5_boundOf_22 ?_
    obtain rfl := Option.some.inj hf
    exact m_lret C hr hlk hI dX5_boundOf_23
  · replace hf := it hf hc
    refine lv_ldc2 (v := (-1152921504606846976 : Int64)) hx hb C.1.2.2.2.1 (m_in C kl_X5_15) dX5_boundOf_11 ?_
    refine lv_goto (tgt := 23) hx hb dX5_boundOf_14 rfl ?_
    obtain rfl := Option.some.inj hf
    exact m_lret C hr hlk hI dX5_boundOf_23

theorem dX5_raise_0 : decode cX5_raise 0 = .ok (.iload_n 1, 1) := by decide +kernel
theorem dX5_raise_1 : decode cX5_raise 1 = .ok (.iload_n 2, 1) := by decide +kernel
theorem dX5_raise_2 : decode cX5_raise 2 = .ok (.invokestatic 48, 3) := by decide +kernel
theorem dX5_raise_5 : decode cX5_raise 5 = .ok (.istore 5, 2) := by decide +kernel
theorem dX5_raise_7 : decode cX5_raise 7 = .ok (.iload 5, 2) := by decide +kernel
theorem dX5_raise_9 : decode cX5_raise 9 = .ok (.iconst (-1), 1) := by decide +kernel
theorem dX5_raise_10 : decode cX5_raise 10 = .ok (.if_icmp .eq 21, 3) := by decide +kernel
theorem dX5_raise_13 : decode cX5_raise 13 = .ok (.aload_n 0, 1) := by decide +kernel
theorem dX5_raise_14 : decode cX5_raise 14 = .ok (.getfield 9, 3) := by decide +kernel
theorem dX5_raise_17 : decode cX5_raise 17 = .ok (.iload 5, 2) := by decide +kernel
theorem dX5_raise_19 : decode cX5_raise 19 = .ok (.aload_n 0, 1) := by decide +kernel
theorem dX5_raise_20 : decode cX5_raise 20 = .ok (.getfield 9, 3) := by decide +kernel
theorem dX5_raise_23 : decode cX5_raise 23 = .ok (.iload 5, 2) := by decide +kernel
theorem dX5_raise_25 : decode cX5_raise 25 = .ok (.laload, 1) := by decide +kernel
theorem dX5_raise_26 : decode cX5_raise 26 = .ok (.lload_n 3, 1) := by decide +kernel
theorem dX5_raise_27 : decode cX5_raise 27 = .ok (.invokestatic 51, 3) := by decide +kernel
theorem dX5_raise_30 : decode cX5_raise 30 = .ok (.lastore, 1) := by decide +kernel
theorem dX5_raise_31 : decode cX5_raise 31 = .ok (.return_, 1) := by decide +kernel
def f_X5_raise (μ : Mm) (p1 : Int32) (p2 : Int32) (p3 : Int64) : Option Mm :=
 (f_X5_placeOf μ p1 p2).bind fun q7 =>
 if q7 = (-1 : Int32) then
 some μ
 else
 (rl μ 501 0 9 q7).bind fun v9 =>
 (wg μ 501 0 9 q7 (if p3 < v9 then v9 else p3)).bind fun m11 =>
 some m11
set_option maxHeartbeats 4000000 in
set_option maxRecDepth 100000 in
theorem c_X5_raise (l : Launch) (E : En) {μ : Mm} {p1 : Int32} {p2 : Int32} {p3 : Int64} (h0 : l5 E 0) {z : Mm} (hf : f_X5_raise μ p1 p2 p3 = some z) : Met l yX5_raise (wt yX5_raise cX5_raise 6 (none : Option FieldType)) { frames := 1, cells := 0, slots := 0, locals := 23 } (Pm E [.ref (ad E 500 0), .int p1, .int p2, .long p3] μ) (Qm E none z) 0 0 (Ad E) := by
  unfold f_X5_raise at hf
  refine met_of (cc := cX5_raise) (nL := 6) (ret := (none : Option FieldType)) (by decide) _ (Nat.le_of_ble_eq_true rfl) ?_
  intro p e s m below meth c C hr hlk hI ls hl
  have hx := C.1.1
  have hb := C.1.2.1
  have hl : lv_has ls 6 [(0, .ref (ad E 500 0)), (1, .int p1), (2, .int p2), (3, .long p3)] := hl
  refine lv_iload_n hx hb dX5_raise_0 rfl (lv_at hl 1 rfl) ?_
  refine lv_iload_n hx hb dX5_raise_1 rfl (lv_at hl 2 rfl) ?_
  obtain ⟨q7, e8, hf⟩ := ob hf
  refine mcS (As := [.int p1, .int p2]) (rest := []) C hI (c_X5_placeOf l E  e8) ml_X5_48 ks_X5_placeOf rfl rfl ⟨Nat.le_of_ble_eq_true rfl, Nat.le_of_ble_eq_true rfl⟩ ⟨Nat.zero_le _, Nat.zero_le _⟩ rfl rfl hl.1 (Nat.le_of_ble_eq_true rfl) dX5_raise_2 (st1 := [.int q7]) rfl (fun H locs hI => ?_)
  refine lv_istore hx hb dX5_raise_5 hl (by decide) rfl (fun ls hl => ?_)
  have hl : lv_has ls 6 [(5, .int q7), (0, .ref (ad E 500 0)), (1, .int p1), (2, .int p2), (3, .long p3)] := hl
  refine lv_iload hx hb dX5_raise_7 (lv_at hl 0 rfl) ?_
  refine lv_iconst (v := (-1 : Int32)) hx hb dX5_raise_9 kc_m1 ?_
  refine lv_icmp_eq (tgt := 31) hx hb dX5_raise_10 rfl (fun hc => ?_) (fun hc => ?_)
  · replace hf := it hf hc
    obtain rfl := Option.some.inj hf
    exact m_vret C hr hlk hI dX5_raise_31
  · replace hf := ie hf hc
    refine lv_aload_n hx hb dX5_raise_13 rfl (lv_at hl 1 rfl) ?_
    refine gf_5_0 C hI h0.1 fl_X5_9 dX5_raise_14 ?_
    refine lv_iload hx hb dX5_raise_17 (lv_at hl 0 rfl) ?_
    refine lv_aload_n hx hb dX5_raise_19 rfl (lv_at hl 1 rfl) ?_
    refine gf_5_0 C hI h0.1 fl_X5_9 dX5_raise_20 ?_
    refine lv_iload hx hb dX5_raise_23 (lv_at hl 0 rfl) ?_
    obtain ⟨v9, e10, hf⟩ := ob hf
    refine m_lald C hI h0.2 (ce_501 E _ _ _) e10 dX5_raise_25 ?_
    refine lv_lload_n hx hb dX5_raise_26 rfl (lv_at hl 4 rfl) ?_
    refine mmaxL C hl.1 ml_X5_51 (Nat.le_of_ble_eq_true rfl) (Nat.le_of_ble_eq_true rfl) (Nat.zero_le _) (Nat.zero_le _) dX5_raise_27 ?_
    obtain ⟨m11, e12, hf⟩ := ob hf
    refine m_last C hI h0.2 (ce_501 E _) e12 dX5_raise_30 (fun H locs hI => ?_)
    obtain rfl := Option.some.inj hf
    exact m_vret C hr hlk hI dX5_raise_31

theorem dX5_agrees_0 : decode cX5_agrees 0 = .ok (.iconst 0, 1) := by decide +kernel
theorem dX5_agrees_1 : decode cX5_agrees 1 = .ok (.istore_n 1, 1) := by decide +kernel
theorem dX5_agrees_2 : decode cX5_agrees 2 = .ok (.iload_n 1, 1) := by decide +kernel
theorem dX5_agrees_3 : decode cX5_agrees 3 = .ok (.iconst 3, 1) := by decide +kernel
theorem dX5_agrees_4 : decode cX5_agrees 4 = .ok (.if_icmp .ge 22, 3) := by decide +kernel
theorem dX5_agrees_7 : decode cX5_agrees 7 = .ok (.aload_n 0, 1) := by decide +kernel
theorem dX5_agrees_8 : decode cX5_agrees 8 = .ok (.iload_n 1, 1) := by decide +kernel
theorem dX5_agrees_9 : decode cX5_agrees 9 = .ok (.iload_n 1, 1) := by decide +kernel
theorem dX5_agrees_10 : decode cX5_agrees 10 = .ok (.invokevirtual 44, 3) := by decide +kernel
theorem dX5_agrees_13 : decode cX5_agrees 13 = .ok (.lconst 0, 1) := by decide +kernel
theorem dX5_agrees_14 : decode cX5_agrees 14 = .ok (.lcmp, 1) := by decide +kernel
theorem dX5_agrees_15 : decode cX5_agrees 15 = .ok (.ifCond .le 5, 3) := by decide +kernel
theorem dX5_agrees_18 : decode cX5_agrees 18 = .ok (.iconst 0, 1) := by decide +kernel
theorem dX5_agrees_19 : decode cX5_agrees 19 = .ok (.ireturn, 1) := by decide +kernel
theorem dX5_agrees_20 : decode cX5_agrees 20 = .ok (.iinc 1 1, 3) := by decide +kernel
theorem dX5_agrees_23 : decode cX5_agrees 23 = .ok (.goto (-21), 3) := by decide +kernel
theorem dX5_agrees_26 : decode cX5_agrees 26 = .ok (.iconst 1, 1) := by decide +kernel
theorem dX5_agrees_27 : decode cX5_agrees 27 = .ok (.ireturn, 1) := by decide +kernel
def f_X5_agrees_b2 (F : Nat) (μ : Mm) : Nat → Int32 → Option Int32
 | 0, _ => none
 | N + 1, a1 =>
 if (3 : Int32) ≤ a1 then
 some (1 : Int32)
 else
 (f_X5_boundOf μ a1 a1).bind fun q3 =>
 if (lg_cmp q3 (0 : Int64)) ≤ 0 then
 f_X5_agrees_b2 F μ N (a1 + (1 : Int32))
 else
 some (0 : Int32)
set_option maxHeartbeats 4000000 in
set_option maxRecDepth 100000 in
theorem cb_X5_agrees_2 {l : Launch} {E : En} {p : Program} {e : Env} {s : State} {m : MethodId} {av : Array Value} {below : List Frame} {meth : Method} {c : Code} (C : Cx E p s m av c cX5_agrees 2 yX5_agrees.cls) (hr : meth.sig.returnType = (some .boolean)) (hlk : meth.locks = false) {F : Nat} {μ : Mm} {z : Int32} : ∀ (N : Nat) (a1 : Int32) (h_a0 : l5 E 0), f_X5_agrees_b2 F μ N a1 = some z → ∀ {H : Heap} {locs : List Loc} {ls : Array Slot}, Iv E s μ H locs → lv_has ls 2 [(0, .ref (ad E 500 0)), (1, .int a1)] → W p l e { frames := 2, cells := 0, slots := 0, locals := 44 } s m av below meth c H locs 0 0 (MQ below (Qm E (some (.int z)) μ) av s 0 0 (Ad E)) (F0 m 2 ls []) := by
  have hx := C.1.1
  have hb := C.1.2.1
  intro N
  induction N with
  | zero => intro a1 h_a0 hf; cases hf
  | succ N ih =>
    intro a1 h_a0 hf H locs ls hI hl
    rw [f_X5_agrees_b2] at hf
    refine lv_iload_n hx hb dX5_agrees_2 rfl (lv_at hl 1 rfl) ?_
    refine lv_iconst (v := (3 : Int32)) hx hb dX5_agrees_3 kc_3 ?_
    refine lv_icmp_ge (tgt := 26) hx hb dX5_agrees_4 rfl (fun hc => ?_) (fun hc => ?_)
    · replace hf := it hf hc
      refine lv_iconst (v := (1 : Int32)) hx hb dX5_agrees_26 kc_1 ?_
      obtain rfl := Option.some.inj hf
      exact m_zret C hr hlk hI (by decide) dX5_agrees_27
    · replace hf := ie hf hc
      refine lv_aload_n hx hb dX5_agrees_7 rfl (lv_at hl 0 rfl) ?_
      refine lv_iload_n hx hb dX5_agrees_8 rfl (lv_at hl 1 rfl) ?_
      refine lv_iload_n hx hb dX5_agrees_9 rfl (lv_at hl 1 rfl) ?_
      obtain ⟨q3, e4, hf⟩ := ob hf
      refine mcV (As := [.int a1, .int a1]) (rest := []) C hI (c_X5_boundOf l E h_a0 e4) ml_X5_44 kv_X5_boundOf (m_recv C hI h_a0.1 (ce_500 E _ _ _) rfl) rfl rfl ⟨Nat.le_of_ble_eq_true rfl, Nat.le_of_ble_eq_true rfl⟩ ⟨Nat.zero_le _, Nat.zero_le _⟩ rfl rfl hl.1 (Nat.le_of_ble_eq_true rfl) dX5_agrees_10 (st1 := [.long q3]) rfl (fun H locs hI => ?_)
      refine lv_lconst (v := (0 : Int64)) hx hb dX5_agrees_13 kl_0 ?_
      refine W.lcmp hx hb dX5_agrees_14 ?_
      refine lv_if_le (tgt := 20) hx hb dX5_agrees_15 rfl (fun hc => ?_) (fun hc => ?_)
      · replace hf := it hf hc
        refine lv_iinc (v := a1 + (1 : Int32)) hx hb dX5_agrees_20 hl (k := 1) rfl (ki_1 _) (by decide) rfl (fun ls hl => ?_)
        have hl : lv_has ls 2 [(1, .int (a1 + (1 : Int32))), (0, .ref (ad E 500 0))] := hl
        refine lv_goto (tgt := 2) hx hb dX5_agrees_23 rfl ?_
        exact ih _ h_a0 hf hI (lv_sub hl [1, 0] rfl)
      · replace hf := ie hf hc
        refine lv_iconst (v := (0 : Int32)) hx hb dX5_agrees_18 kc_0 ?_
        obtain rfl := Option.some.inj hf
        exact m_zret C hr hlk hI (by decide) dX5_agrees_19
def f_X5_agrees (F : Nat) (μ : Mm) : Option Int32 :=
 f_X5_agrees_b2 F μ F (0 : Int32)
set_option maxHeartbeats 4000000 in
set_option maxRecDepth 100000 in
theorem c_X5_agrees (l : Launch) (E : En) {F : Nat} {μ : Mm} (h0 : l5 E 0) {z : Int32} (hf : f_X5_agrees F μ = some z) : Met l yX5_agrees (wt yX5_agrees cX5_agrees 2 (some .boolean)) { frames := 2, cells := 0, slots := 0, locals := 44 } (Pm E [.ref (ad E 500 0)] μ) (Qm E (some (.int z)) μ) 0 0 (Ad E) := by
  unfold f_X5_agrees at hf
  refine met_of (cc := cX5_agrees) (nL := 2) (ret := (some .boolean)) (by decide) _ (Nat.le_of_ble_eq_true rfl) ?_
  intro p e s m below meth c C hr hlk hI ls hl
  have hx := C.1.1
  have hb := C.1.2.1
  have hl : lv_has ls 2 [(0, .ref (ad E 500 0))] := hl
  refine lv_iconst (v := (0 : Int32)) hx hb dX5_agrees_0 kc_0 ?_
  refine lv_istore_n hx hb dX5_agrees_1 rfl hl (by decide) rfl (fun ls hl => ?_)
  have hl : lv_has ls 2 [(1, .int (0 : Int32)), (0, .ref (ad E 500 0))] := hl
  exact cb_X5_agrees_2 C hr hlk  _ _ h0 hf hI (lv_sub hl [1, 0] rfl)

theorem dX5_hasValue_0 : decode cX5_hasValue 0 = .ok (.aload_n 0, 1) := by decide +kernel
theorem dX5_hasValue_1 : decode cX5_hasValue 1 = .ok (.invokevirtual 57, 3) := by decide +kernel
theorem dX5_hasValue_4 : decode cX5_hasValue 4 = .ok (.ifCond .eq 33, 3) := by decide +kernel
theorem dX5_hasValue_7 : decode cX5_hasValue 7 = .ok (.iload_n 3, 1) := by decide +kernel
theorem dX5_hasValue_8 : decode cX5_hasValue 8 = .ok (.ifCond .ne 12, 3) := by decide +kernel
theorem dX5_hasValue_11 : decode cX5_hasValue 11 = .ok (.aload_n 0, 1) := by decide +kernel
theorem dX5_hasValue_12 : decode cX5_hasValue 12 = .ok (.iload_n 1, 1) := by decide +kernel
theorem dX5_hasValue_13 : decode cX5_hasValue 13 = .ok (.iload_n 2, 1) := by decide +kernel
theorem dX5_hasValue_14 : decode cX5_hasValue 14 = .ok (.invokevirtual 44, 3) := by decide +kernel
theorem dX5_hasValue_17 : decode cX5_hasValue 17 = .ok (.goto 9, 3) := by decide +kernel
theorem dX5_hasValue_20 : decode cX5_hasValue 20 = .ok (.aload_n 0, 1) := by decide +kernel
theorem dX5_hasValue_21 : decode cX5_hasValue 21 = .ok (.iload_n 2, 1) := by decide +kernel
theorem dX5_hasValue_22 : decode cX5_hasValue 22 = .ok (.iload_n 1, 1) := by decide +kernel
theorem dX5_hasValue_23 : decode cX5_hasValue 23 = .ok (.invokevirtual 44, 3) := by decide +kernel
theorem dX5_hasValue_26 : decode cX5_hasValue 26 = .ok (.ldc2_w 15, 3) := by decide +kernel
theorem dX5_hasValue_29 : decode cX5_hasValue 29 = .ok (.lcmp, 1) := by decide +kernel
theorem dX5_hasValue_30 : decode cX5_hasValue 30 = .ok (.ifCond .eq 7, 3) := by decide +kernel
theorem dX5_hasValue_33 : decode cX5_hasValue 33 = .ok (.iconst 1, 1) := by decide +kernel
theorem dX5_hasValue_34 : decode cX5_hasValue 34 = .ok (.goto 4, 3) := by decide +kernel
theorem dX5_hasValue_37 : decode cX5_hasValue 37 = .ok (.iconst 0, 1) := by decide +kernel
theorem dX5_hasValue_38 : decode cX5_hasValue 38 = .ok (.ireturn, 1) := by decide +kernel
def f_X5_hasValue_b26 (F : Nat) (μ : Mm) (s0 : Int64) : Option Int32 :=
 if (lg_cmp s0 (-1152921504606846976 : Int64)) = 0 then
 some (0 : Int32)
 else
 some (1 : Int32)
set_option maxHeartbeats 4000000 in
set_option maxRecDepth 100000 in
theorem cb_X5_hasValue_26 {l : Launch} {E : En} {p : Program} {e : Env} {s : State} {m : MethodId} {av : Array Value} {below : List Frame} {meth : Method} {c : Code} (C : Cx E p s m av c cX5_hasValue 4 yX5_hasValue.cls) (hr : meth.sig.returnType = (some .boolean)) (hlk : meth.locks = false) {F : Nat} {μ : Mm} {z : Int32} : ∀ (s0 : Int64), f_X5_hasValue_b26 F μ s0 = some z → ∀ {H : Heap} {locs : List Loc} {ls : Array Slot}, Iv E s μ H locs → lv_has ls 4 [] → W p l e { frames := 3, cells := 0, slots := 0, locals := 65 } s m av below meth c H locs 0 0 (MQ below (Qm E (some (.int z)) μ) av s 0 0 (Ad E)) (F0 m 26 ls [.long s0]) := by
  have hx := C.1.1
  have hb := C.1.2.1
  intro s0 hf H locs ls hI hl
  unfold f_X5_hasValue_b26 at hf
  refine lv_ldc2 (v := (-1152921504606846976 : Int64)) hx hb C.1.2.2.2.1 (m_in C kl_X5_15) dX5_hasValue_26 ?_
  refine W.lcmp hx hb dX5_hasValue_29 ?_
  refine lv_if_eq (tgt := 37) hx hb dX5_hasValue_30 rfl (fun hc => ?_) (fun hc => ?_)
  · replace hf := it hf hc
    refine lv_iconst (v := (0 : Int32)) hx hb dX5_hasValue_37 kc_0 ?_
    obtain rfl := Option.some.inj hf
    exact m_zret C hr hlk hI (by decide) dX5_hasValue_38
  · replace hf := ie hf hc
    refine lv_iconst (v := (1 : Int32)) hx hb dX5_hasValue_33 kc_1 ?_
    refine lv_goto (tgt := 38) hx hb dX5_hasValue_34 rfl ?_
    obtain rfl := Option.some.inj hf
    exact m_zret C hr hlk hI (by decide) dX5_hasValue_38
def f_X5_hasValue (F : Nat) (μ : Mm) (p1 : Int32) (p2 : Int32) (p3 : Int32) : Option Int32 :=
 (f_X5_agrees F μ).bind fun q7 =>
 if q7 = 0 then
 some (0 : Int32)
 else
 if p3 = 0 then
 (f_X5_boundOf μ p1 p2).bind fun q11 =>
 f_X5_hasValue_b26 F μ q11
 else
 (f_X5_boundOf μ p2 p1).bind fun q9 =>
 f_X5_hasValue_b26 F μ q9
set_option maxHeartbeats 4000000 in
set_option maxRecDepth 100000 in
theorem c_X5_hasValue (l : Launch) (E : En) {F : Nat} {μ : Mm} {p1 : Int32} {p2 : Int32} {p3 : Int32} (h0 : l5 E 0) {z : Int32} (hf : f_X5_hasValue F μ p1 p2 p3 = some z) : Met l yX5_hasValue (wt yX5_hasValue cX5_hasValue 4 (some .boolean)) { frames := 3, cells := 0, slots := 0, locals := 65 } (Pm E [.ref (ad E 500 0), .int p1, .int p2, .int p3] μ) (Qm E (some (.int z)) μ) 0 0 (Ad E) := by
  unfold f_X5_hasValue at hf
  refine met_of (cc := cX5_hasValue) (nL := 4) (ret := (some .boolean)) (by decide) _ (Nat.le_of_ble_eq_true rfl) ?_
  intro p e s m below meth c C hr hlk hI ls hl
  have hx := C.1.1
  have hb := C.1.2.1
  have hl : lv_has ls 4 [(0, .ref (ad E 500 0)), (1, .int p1), (2, .int p2), (3, .int p3)] := hl
  refine lv_aload_n hx hb dX5_hasValue_0 rfl (lv_at hl 0 rfl) ?_
  obtain ⟨q7, e8, hf⟩ := ob hf
  refine mcV (As := []) (rest := []) C hI (c_X5_agrees l E h0 e8) ml_X5_57 kv_X5_agrees (m_recv C hI h0.1 (ce_500 E _ _ _) rfl) rfl rfl ⟨Nat.le_of_ble_eq_true rfl, Nat.le_of_ble_eq_true rfl⟩ ⟨Nat.zero_le _, Nat.zero_le _⟩ rfl rfl hl.1 (Nat.le_of_ble_eq_true rfl) dX5_hasValue_1 (st1 := [.int q7]) rfl (fun H locs hI => ?_)
  refine lv_if_eq (tgt := 37) hx hb dX5_hasValue_4 rfl (fun hc => ?_) (fun hc => ?_)
  · replace hf := it hf hc
    refine lv_iconst (v := (0 : Int32)) hx hb dX5_hasValue_37 kc_0 ?_
    obtain rfl := Option.some.inj hf
    exact m_zret C hr hlk hI (by decide) dX5_hasValue_38
  · replace hf := ie hf hc
    refine lv_iload_n hx hb dX5_hasValue_7 rfl (lv_at hl 3 rfl) ?_
    refine lv_if_ne (tgt := 20) hx hb dX5_hasValue_8 rfl (fun hc => ?_) (fun hc => ?_)
    · replace hf := ie hf hc
      refine lv_aload_n hx hb dX5_hasValue_20 rfl (lv_at hl 0 rfl) ?_
      refine lv_iload_n hx hb dX5_hasValue_21 rfl (lv_at hl 2 rfl) ?_
      refine lv_iload_n hx hb dX5_hasValue_22 rfl (lv_at hl 1 rfl) ?_
      obtain ⟨q9, e10, hf⟩ := ob hf
      refine mcV (As := [.int p2, .int p1]) (rest := []) C hI (c_X5_boundOf l E h0 e10) ml_X5_44 kv_X5_boundOf (m_recv C hI h0.1 (ce_500 E _ _ _) rfl) rfl rfl ⟨Nat.le_of_ble_eq_true rfl, Nat.le_of_ble_eq_true rfl⟩ ⟨Nat.zero_le _, Nat.zero_le _⟩ rfl rfl hl.1 (Nat.le_of_ble_eq_true rfl) dX5_hasValue_23 (st1 := [.long q9]) rfl (fun H locs hI => ?_)
      exact cb_X5_hasValue_26 C hr hlk  _  hf hI (lv_sub hl [] rfl)
    · replace hf := it hf hc
      refine lv_aload_n hx hb dX5_hasValue_11 rfl (lv_at hl 0 rfl) ?_
      refine lv_iload_n hx hb dX5_hasValue_12 rfl (lv_at hl 1 rfl) ?_
      refine lv_iload_n hx hb dX5_hasValue_13 rfl (lv_at hl 2 rfl) ?_
      obtain ⟨q11, e12, hf⟩ := ob hf
      refine mcV (As := [.int p1, .int p2]) (rest := []) C hI (c_X5_boundOf l E h0 e12) ml_X5_44 kv_X5_boundOf (m_recv C hI h0.1 (ce_500 E _ _ _) rfl) rfl rfl ⟨Nat.le_of_ble_eq_true rfl, Nat.le_of_ble_eq_true rfl⟩ ⟨Nat.zero_le _, Nat.zero_le _⟩ rfl rfl hl.1 (Nat.le_of_ble_eq_true rfl) dX5_hasValue_14 (st1 := [.long q11]) rfl (fun H locs hI => ?_)
      refine lv_goto (tgt := 26) hx hb dX5_hasValue_17 rfl ?_
      exact cb_X5_hasValue_26 C hr hlk  _  hf hI (lv_sub hl [] rfl)

theorem dX5_valueOf_0 : decode cX5_valueOf 0 = .ok (.iload_n 3, 1) := by decide +kernel
theorem dX5_valueOf_1 : decode cX5_valueOf 1 = .ok (.ifCond .ne 12, 3) := by decide +kernel
theorem dX5_valueOf_4 : decode cX5_valueOf 4 = .ok (.aload_n 0, 1) := by decide +kernel
theorem dX5_valueOf_5 : decode cX5_valueOf 5 = .ok (.iload_n 1, 1) := by decide +kernel
theorem dX5_valueOf_6 : decode cX5_valueOf 6 = .ok (.iload_n 2, 1) := by decide +kernel
theorem dX5_valueOf_7 : decode cX5_valueOf 7 = .ok (.invokevirtual 44, 3) := by decide +kernel
theorem dX5_valueOf_10 : decode cX5_valueOf 10 = .ok (.goto 10, 3) := by decide +kernel
theorem dX5_valueOf_13 : decode cX5_valueOf 13 = .ok (.aload_n 0, 1) := by decide +kernel
theorem dX5_valueOf_14 : decode cX5_valueOf 14 = .ok (.iload_n 2, 1) := by decide +kernel
theorem dX5_valueOf_15 : decode cX5_valueOf 15 = .ok (.iload_n 1, 1) := by decide +kernel
theorem dX5_valueOf_16 : decode cX5_valueOf 16 = .ok (.invokevirtual 44, 3) := by decide +kernel
theorem dX5_valueOf_19 : decode cX5_valueOf 19 = .ok (.lneg, 1) := by decide +kernel
theorem dX5_valueOf_20 : decode cX5_valueOf 20 = .ok (.l2i, 1) := by decide +kernel
theorem dX5_valueOf_21 : decode cX5_valueOf 21 = .ok (.ireturn, 1) := by decide +kernel
def f_X5_valueOf (μ : Mm) (p1 : Int32) (p2 : Int32) (p3 : Int32) : Option Int32 :=
 if p3 = 0 then
 (f_X5_boundOf μ p1 p2).bind fun q7 =>
 some q7.toInt32
 else
 (f_X5_boundOf μ p2 p1).bind fun q5 =>
 some ((-q5).toInt32)
set_option maxHeartbeats 4000000 in
set_option maxRecDepth 100000 in
theorem c_X5_valueOf (l : Launch) (E : En) {μ : Mm} {p1 : Int32} {p2 : Int32} {p3 : Int32} (h0 : l5 E 0) {z : Int32} (hf : f_X5_valueOf μ p1 p2 p3 = some z) : Met l yX5_valueOf (wt yX5_valueOf cX5_valueOf 4 (some .int)) { frames := 2, cells := 0, slots := 0, locals := 44 } (Pm E [.ref (ad E 500 0), .int p1, .int p2, .int p3] μ) (Qm E (some (.int z)) μ) 0 0 (Ad E) := by
  unfold f_X5_valueOf at hf
  refine met_of (cc := cX5_valueOf) (nL := 4) (ret := (some .int)) (by decide) _ (Nat.le_of_ble_eq_true rfl) ?_
  intro p e s m below meth c C hr hlk hI ls hl
  have hx := C.1.1
  have hb := C.1.2.1
  have hl : lv_has ls 4 [(0, .ref (ad E 500 0)), (1, .int p1), (2, .int p2), (3, .int p3)] := hl
  refine lv_iload_n hx hb dX5_valueOf_0 rfl (lv_at hl 3 rfl) ?_
  refine lv_if_ne (tgt := 13) hx hb dX5_valueOf_1 rfl (fun hc => ?_) (fun hc => ?_)
  · replace hf := ie hf hc
    refine lv_aload_n hx hb dX5_valueOf_13 rfl (lv_at hl 0 rfl) ?_
    refine lv_iload_n hx hb dX5_valueOf_14 rfl (lv_at hl 2 rfl) ?_
    refine lv_iload_n hx hb dX5_valueOf_15 rfl (lv_at hl 1 rfl) ?_
    obtain ⟨q5, e6, hf⟩ := ob hf
    refine mcV (As := [.int p2, .int p1]) (rest := []) C hI (c_X5_boundOf l E h0 e6) ml_X5_44 kv_X5_boundOf (m_recv C hI h0.1 (ce_500 E _ _ _) rfl) rfl rfl ⟨Nat.le_of_ble_eq_true rfl, Nat.le_of_ble_eq_true rfl⟩ ⟨Nat.zero_le _, Nat.zero_le _⟩ rfl rfl hl.1 (Nat.le_of_ble_eq_true rfl) dX5_valueOf_16 (st1 := [.long q5]) rfl (fun H locs hI => ?_)
    refine lv_lneg hx hb dX5_valueOf_19 ?_
    refine lv_l2i (v := (-q5).toInt32) hx hb dX5_valueOf_20 rfl ?_
    obtain rfl := Option.some.inj hf
    exact m_iret C hr hlk hI dX5_valueOf_21
  · replace hf := it hf hc
    refine lv_aload_n hx hb dX5_valueOf_4 rfl (lv_at hl 0 rfl) ?_
    refine lv_iload_n hx hb dX5_valueOf_5 rfl (lv_at hl 1 rfl) ?_
    refine lv_iload_n hx hb dX5_valueOf_6 rfl (lv_at hl 2 rfl) ?_
    obtain ⟨q7, e8, hf⟩ := ob hf
    refine mcV (As := [.int p1, .int p2]) (rest := []) C hI (c_X5_boundOf l E h0 e8) ml_X5_44 kv_X5_boundOf (m_recv C hI h0.1 (ce_500 E _ _ _) rfl) rfl rfl ⟨Nat.le_of_ble_eq_true rfl, Nat.le_of_ble_eq_true rfl⟩ ⟨Nat.zero_le _, Nat.zero_le _⟩ rfl rfl hl.1 (Nat.le_of_ble_eq_true rfl) dX5_valueOf_7 (st1 := [.long q7]) rfl (fun H locs hI => ?_)
    refine lv_goto (tgt := 20) hx hb dX5_valueOf_10 rfl ?_
    refine lv_l2i (v := q7.toInt32) hx hb dX5_valueOf_20 rfl ?_
    obtain rfl := Option.some.inj hf
    exact m_iret C hr hlk hI dX5_valueOf_21

theorem dX6_layRow_0 : decode cX6_layRow 0 = .ok (.aload_n 0, 1) := by decide +kernel
theorem dX6_layRow_1 : decode cX6_layRow 1 = .ok (.getfield 9, 3) := by decide +kernel
theorem dX6_layRow_4 : decode cX6_layRow 4 = .ok (.lconst 0, 1) := by decide +kernel
theorem dX6_layRow_5 : decode cX6_layRow 5 = .ok (.invokestatic 26, 3) := by decide +kernel
theorem dX6_layRow_8 : decode cX6_layRow 8 = .ok (.aload_n 0, 1) := by decide +kernel
theorem dX6_layRow_9 : decode cX6_layRow 9 = .ok (.iload_n 1, 1) := by decide +kernel
theorem dX6_layRow_10 : decode cX6_layRow 10 = .ok (.putfield 15, 3) := by decide +kernel
theorem dX6_layRow_13 : decode cX6_layRow 13 = .ok (.aload_n 0, 1) := by decide +kernel
theorem dX6_layRow_14 : decode cX6_layRow 14 = .ok (.iload_n 2, 1) := by decide +kernel
theorem dX6_layRow_15 : decode cX6_layRow 15 = .ok (.putfield 19, 3) := by decide +kernel
theorem dX6_layRow_18 : decode cX6_layRow 18 = .ok (.return_, 1) := by decide +kernel
def f_X6_layRow (μ : Mm) (i0 : Nat) (p1 : Int32) (p2 : Int32) : Option Mm :=
 (f_J7_fill_d0a16 μ 601 i0 100 (0 : Int64)).bind fun q7 =>
 (wf q7 600 i0 1 p1).bind fun m9 =>
 (wf m9 600 i0 2 p2).bind fun m11 =>
 some m11
set_option maxHeartbeats 4000000 in
set_option maxRecDepth 100000 in
theorem c_X6_layRow (l : Launch) (E : En) {μ : Mm} {i0 : Nat} {p1 : Int32} {p2 : Int32} (h0 : l6 E i0) {z : Mm} (hf : f_X6_layRow μ i0 p1 p2 = some z) : Met l yX6_layRow (wt yX6_layRow cX6_layRow 3 (none : Option FieldType)) { frames := 1, cells := 0, slots := 0, locals := 24 } (Pm E [.ref (ad E 600 i0), .int p1, .int p2] μ) (Qm E none z) 0 0 (Ad E) := by
  unfold f_X6_layRow at hf
  refine met_of (cc := cX6_layRow) (nL := 3) (ret := (none : Option FieldType)) (by decide) _ (Nat.le_of_ble_eq_true rfl) ?_
  intro p e s m below meth c C hr hlk hI ls hl
  have hx := C.1.1
  have hb := C.1.2.1
  have hl : lv_has ls 3 [(0, .ref (ad E 600 i0)), (1, .int p1), (2, .int p2)] := hl
  refine lv_aload_n hx hb dX6_layRow_0 rfl (lv_at hl 0 rfl) ?_
  refine gf_6_0 C hI h0.1 fl_X6_9 dX6_layRow_1 ?_
  refine lv_lconst (v := (0 : Int64)) hx hb dX6_layRow_4 kl_0 ?_
  obtain ⟨q7, e8, hf⟩ := ob hf
  refine mcS (As := [.ref (ad E 601 i0), .long (0 : Int64)]) (rest := []) C hI (c_J7_fill_d0a16 l E h0.2 (ce_601 E i0) (Nat.le_of_ble_eq_true rfl) e8) ml_X6_26 ks_J7_fill_d0a16 rfl rfl ⟨Nat.le_of_ble_eq_true rfl, Nat.le_of_ble_eq_true rfl⟩ ⟨Nat.zero_le _, Nat.zero_le _⟩ rfl rfl hl.1 (Nat.le_of_ble_eq_true rfl) dX6_layRow_5 (st1 := []) rfl (fun H locs hI => ?_)
  refine lv_aload_n hx hb dX6_layRow_8 rfl (lv_at hl 0 rfl) ?_
  refine lv_iload_n hx hb dX6_layRow_9 rfl (lv_at hl 1 rfl) ?_
  obtain ⟨m9, e10, hf⟩ := ob hf
  refine pf_6_1 C hI h0.1 fl_X6_15 e10 dX6_layRow_10 (fun H locs hI => ?_)
  refine lv_aload_n hx hb dX6_layRow_13 rfl (lv_at hl 0 rfl) ?_
  refine lv_iload_n hx hb dX6_layRow_14 rfl (lv_at hl 2 rfl) ?_
  obtain ⟨m11, e12, hf⟩ := ob hf
  refine pf_6_2 C hI h0.1 fl_X6_19 e12 dX6_layRow_15 (fun H locs hI => ?_)
  obtain rfl := Option.some.inj hf
  exact m_vret C hr hlk hI dX6_layRow_18

theorem dX6_hasRow_0 : decode cX6_hasRow 0 = .ok (.aload_n 0, 1) := by decide +kernel
theorem dX6_hasRow_1 : decode cX6_hasRow 1 = .ok (.getfield 15, 3) := by decide +kernel
theorem dX6_hasRow_4 : decode cX6_hasRow 4 = .ok (.iconst 1, 1) := by decide +kernel
theorem dX6_hasRow_5 : decode cX6_hasRow 5 = .ok (.if_icmp .lt 15, 3) := by decide +kernel
theorem dX6_hasRow_8 : decode cX6_hasRow 8 = .ok (.aload_n 0, 1) := by decide +kernel
theorem dX6_hasRow_9 : decode cX6_hasRow 9 = .ok (.getfield 15, 3) := by decide +kernel
theorem dX6_hasRow_12 : decode cX6_hasRow 12 = .ok (.iconst 4, 1) := by decide +kernel
theorem dX6_hasRow_13 : decode cX6_hasRow 13 = .ok (.if_icmp .gt 7, 3) := by decide +kernel
theorem dX6_hasRow_16 : decode cX6_hasRow 16 = .ok (.iconst 1, 1) := by decide +kernel
theorem dX6_hasRow_17 : decode cX6_hasRow 17 = .ok (.goto 4, 3) := by decide +kernel
theorem dX6_hasRow_20 : decode cX6_hasRow 20 = .ok (.iconst 0, 1) := by decide +kernel
theorem dX6_hasRow_21 : decode cX6_hasRow 21 = .ok (.ireturn, 1) := by decide +kernel
def f_X6_hasRow (μ : Mm) (i0 : Nat) : Option Int32 :=
 if (μ.1 600 i0 1) < (1 : Int32) then
 some (0 : Int32)
 else
 if (4 : Int32) < (μ.1 600 i0 1) then
 some (0 : Int32)
 else
 some (1 : Int32)
set_option maxHeartbeats 4000000 in
set_option maxRecDepth 100000 in
theorem c_X6_hasRow (l : Launch) (E : En) {μ : Mm} {i0 : Nat} (h0 : l6 E i0) {z : Int32} (hf : f_X6_hasRow μ i0 = some z) : Met l yX6_hasRow (wt yX6_hasRow cX6_hasRow 1 (some .boolean)) { frames := 0, cells := 0, slots := 0, locals := 0 } (Pm E [.ref (ad E 600 i0)] μ) (Qm E (some (.int z)) μ) 0 0 (Ad E) := by
  unfold f_X6_hasRow at hf
  refine met_of (cc := cX6_hasRow) (nL := 1) (ret := (some .boolean)) (by decide) _ (Nat.le_of_ble_eq_true rfl) ?_
  intro p e s m below meth c C hr hlk hI ls hl
  have hx := C.1.1
  have hb := C.1.2.1
  have hl : lv_has ls 1 [(0, .ref (ad E 600 i0))] := hl
  refine lv_aload_n hx hb dX6_hasRow_0 rfl (lv_at hl 0 rfl) ?_
  refine gf_6_1 C hI h0.1 fl_X6_15 dX6_hasRow_1 ?_
  refine lv_iconst (v := (1 : Int32)) hx hb dX6_hasRow_4 kc_1 ?_
  refine lv_icmp_lt (tgt := 20) hx hb dX6_hasRow_5 rfl (fun hc => ?_) (fun hc => ?_)
  · replace hf := it hf hc
    refine lv_iconst (v := (0 : Int32)) hx hb dX6_hasRow_20 kc_0 ?_
    obtain rfl := Option.some.inj hf
    exact m_zret C hr hlk hI (by decide) dX6_hasRow_21
  · replace hf := ie hf hc
    refine lv_aload_n hx hb dX6_hasRow_8 rfl (lv_at hl 0 rfl) ?_
    refine gf_6_1 C hI h0.1 fl_X6_15 dX6_hasRow_9 ?_
    refine lv_iconst (v := (4 : Int32)) hx hb dX6_hasRow_12 kc_4 ?_
    refine lv_icmp_gt (tgt := 20) hx hb dX6_hasRow_13 rfl (fun hc => ?_) (fun hc => ?_)
    · replace hf := it hf hc
      refine lv_iconst (v := (0 : Int32)) hx hb dX6_hasRow_20 kc_0 ?_
      obtain rfl := Option.some.inj hf
      exact m_zret C hr hlk hI (by decide) dX6_hasRow_21
    · replace hf := ie hf hc
      refine lv_iconst (v := (1 : Int32)) hx hb dX6_hasRow_16 kc_1 ?_
      refine lv_goto (tgt := 21) hx hb dX6_hasRow_17 rfl ?_
      obtain rfl := Option.some.inj hf
      exact m_zret C hr hlk hI (by decide) dX6_hasRow_21

theorem dX6_hasPlaces_0 : decode cX6_hasPlaces 0 = .ok (.lload_n 1, 1) := by decide +kernel
theorem dX6_hasPlaces_1 : decode cX6_hasPlaces 1 = .ok (.lconst 0, 1) := by decide +kernel
theorem dX6_hasPlaces_2 : decode cX6_hasPlaces 2 = .ok (.lcmp, 1) := by decide +kernel
theorem dX6_hasPlaces_3 : decode cX6_hasPlaces 3 = .ok (.ifCond .lt 35, 3) := by decide +kernel
theorem dX6_hasPlaces_6 : decode cX6_hasPlaces 6 = .ok (.iload_n 3, 1) := by decide +kernel
theorem dX6_hasPlaces_7 : decode cX6_hasPlaces 7 = .ok (.ifCond .lt 31, 3) := by decide +kernel
theorem dX6_hasPlaces_10 : decode cX6_hasPlaces 10 = .ok (.lload_n 1, 1) := by decide +kernel
theorem dX6_hasPlaces_11 : decode cX6_hasPlaces 11 = .ok (.iload_n 3, 1) := by decide +kernel
theorem dX6_hasPlaces_12 : decode cX6_hasPlaces 12 = .ok (.i2l, 1) := by decide +kernel
theorem dX6_hasPlaces_13 : decode cX6_hasPlaces 13 = .ok (.ladd, 1) := by decide +kernel
theorem dX6_hasPlaces_14 : decode cX6_hasPlaces 14 = .ok (.aload_n 0, 1) := by decide +kernel
theorem dX6_hasPlaces_15 : decode cX6_hasPlaces 15 = .ok (.getfield 19, 3) := by decide +kernel
theorem dX6_hasPlaces_18 : decode cX6_hasPlaces 18 = .ok (.i2l, 1) := by decide +kernel
theorem dX6_hasPlaces_19 : decode cX6_hasPlaces 19 = .ok (.lcmp, 1) := by decide +kernel
theorem dX6_hasPlaces_20 : decode cX6_hasPlaces 20 = .ok (.ifCond .gt 18, 3) := by decide +kernel
theorem dX6_hasPlaces_23 : decode cX6_hasPlaces 23 = .ok (.lload_n 1, 1) := by decide +kernel
theorem dX6_hasPlaces_24 : decode cX6_hasPlaces 24 = .ok (.iload_n 3, 1) := by decide +kernel
theorem dX6_hasPlaces_25 : decode cX6_hasPlaces 25 = .ok (.i2l, 1) := by decide +kernel
theorem dX6_hasPlaces_26 : decode cX6_hasPlaces 26 = .ok (.ladd, 1) := by decide +kernel
theorem dX6_hasPlaces_27 : decode cX6_hasPlaces 27 = .ok (.ldc2_w 39, 3) := by decide +kernel
theorem dX6_hasPlaces_30 : decode cX6_hasPlaces 30 = .ok (.lcmp, 1) := by decide +kernel
theorem dX6_hasPlaces_31 : decode cX6_hasPlaces 31 = .ok (.ifCond .gt 7, 3) := by decide +kernel
theorem dX6_hasPlaces_34 : decode cX6_hasPlaces 34 = .ok (.iconst 1, 1) := by decide +kernel
theorem dX6_hasPlaces_35 : decode cX6_hasPlaces 35 = .ok (.goto 4, 3) := by decide +kernel
theorem dX6_hasPlaces_38 : decode cX6_hasPlaces 38 = .ok (.iconst 0, 1) := by decide +kernel
theorem dX6_hasPlaces_39 : decode cX6_hasPlaces 39 = .ok (.ireturn, 1) := by decide +kernel
def f_X6_hasPlaces (μ : Mm) (i0 : Nat) (p1 : Int64) (p3 : Int32) : Option Int32 :=
 if (lg_cmp p1 (0 : Int64)) < 0 then
 some (0 : Int32)
 else
 if p3 < 0 then
 some (0 : Int32)
 else
 if 0 < (lg_cmp (p1 + p3.toInt64) ((μ.1 600 i0 2).toInt64)) then
 some (0 : Int32)
 else
 if 0 < (lg_cmp (p1 + p3.toInt64) (100 : Int64)) then
 some (0 : Int32)
 else
 some (1 : Int32)
set_option maxHeartbeats 4000000 in
set_option maxRecDepth 100000 in
theorem c_X6_hasPlaces (l : Launch) (E : En) {μ : Mm} {i0 : Nat} {p1 : Int64} {p3 : Int32} (h0 : l6 E i0) {z : Int32} (hf : f_X6_hasPlaces μ i0 p1 p3 = some z) : Met l yX6_hasPlaces (wt yX6_hasPlaces cX6_hasPlaces 4 (some .boolean)) { frames := 0, cells := 0, slots := 0, locals := 0 } (Pm E [.ref (ad E 600 i0), .long p1, .int p3] μ) (Qm E (some (.int z)) μ) 0 0 (Ad E) := by
  unfold f_X6_hasPlaces at hf
  refine met_of (cc := cX6_hasPlaces) (nL := 4) (ret := (some .boolean)) (by decide) _ (Nat.le_of_ble_eq_true rfl) ?_
  intro p e s m below meth c C hr hlk hI ls hl
  have hx := C.1.1
  have hb := C.1.2.1
  have hl : lv_has ls 4 [(0, .ref (ad E 600 i0)), (1, .long p1), (3, .int p3)] := hl
  refine lv_lload_n hx hb dX6_hasPlaces_0 rfl (lv_at hl 1 rfl) ?_
  refine lv_lconst (v := (0 : Int64)) hx hb dX6_hasPlaces_1 kl_0 ?_
  refine W.lcmp hx hb dX6_hasPlaces_2 ?_
  refine lv_if_lt (tgt := 38) hx hb dX6_hasPlaces_3 rfl (fun hc => ?_) (fun hc => ?_)
  · replace hf := it hf hc
    refine lv_iconst (v := (0 : Int32)) hx hb dX6_hasPlaces_38 kc_0 ?_
    obtain rfl := Option.some.inj hf
    exact m_zret C hr hlk hI (by decide) dX6_hasPlaces_39
  · replace hf := ie hf hc
    refine lv_iload_n hx hb dX6_hasPlaces_6 rfl (lv_at hl 2 rfl) ?_
    refine lv_if_lt (tgt := 38) hx hb dX6_hasPlaces_7 rfl (fun hc => ?_) (fun hc => ?_)
    · replace hf := it hf hc
      refine lv_iconst (v := (0 : Int32)) hx hb dX6_hasPlaces_38 kc_0 ?_
      obtain rfl := Option.some.inj hf
      exact m_zret C hr hlk hI (by decide) dX6_hasPlaces_39
    · replace hf := ie hf hc
      refine lv_lload_n hx hb dX6_hasPlaces_10 rfl (lv_at hl 1 rfl) ?_
      refine lv_iload_n hx hb dX6_hasPlaces_11 rfl (lv_at hl 2 rfl) ?_
      refine lv_i2l (v := p3.toInt64) hx hb dX6_hasPlaces_12 rfl ?_
      refine lv_ladd hx hb dX6_hasPlaces_13 ?_
      refine lv_aload_n hx hb dX6_hasPlaces_14 rfl (lv_at hl 0 rfl) ?_
      refine gf_6_2 C hI h0.1 fl_X6_19 dX6_hasPlaces_15 ?_
      refine lv_i2l (v := (μ.1 600 i0 2).toInt64) hx hb dX6_hasPlaces_18 rfl ?_
      refine W.lcmp hx hb dX6_hasPlaces_19 ?_
      refine lv_if_gt (tgt := 38) hx hb dX6_hasPlaces_20 rfl (fun hc => ?_) (fun hc => ?_)
      · replace hf := it hf hc
        refine lv_iconst (v := (0 : Int32)) hx hb dX6_hasPlaces_38 kc_0 ?_
        obtain rfl := Option.some.inj hf
        exact m_zret C hr hlk hI (by decide) dX6_hasPlaces_39
      · replace hf := ie hf hc
        refine lv_lload_n hx hb dX6_hasPlaces_23 rfl (lv_at hl 1 rfl) ?_
        refine lv_iload_n hx hb dX6_hasPlaces_24 rfl (lv_at hl 2 rfl) ?_
        refine lv_i2l (v := p3.toInt64) hx hb dX6_hasPlaces_25 rfl ?_
        refine lv_ladd hx hb dX6_hasPlaces_26 ?_
        refine lv_ldc2 (v := (100 : Int64)) hx hb C.1.2.2.2.1 (m_in C kl_X6_39) dX6_hasPlaces_27 ?_
        refine W.lcmp hx hb dX6_hasPlaces_30 ?_
        refine lv_if_gt (tgt := 38) hx hb dX6_hasPlaces_31 rfl (fun hc => ?_) (fun hc => ?_)
        · replace hf := it hf hc
          refine lv_iconst (v := (0 : Int32)) hx hb dX6_hasPlaces_38 kc_0 ?_
          obtain rfl := Option.some.inj hf
          exact m_zret C hr hlk hI (by decide) dX6_hasPlaces_39
        · replace hf := ie hf hc
          refine lv_iconst (v := (1 : Int32)) hx hb dX6_hasPlaces_34 kc_1 ?_
          refine lv_goto (tgt := 39) hx hb dX6_hasPlaces_35 rfl ?_
          obtain rfl := Option.some.inj hf
          exact m_zret C hr hlk hI (by decide) dX6_hasPlaces_39

theorem dX6_intAt_0 : decode cX6_intAt 0 = .ok (.iload_n 1, 1) := by decide +kernel
theorem dX6_intAt_1 : decode cX6_intAt 1 = .ok (.ifCond .lt 19, 3) := by decide +kernel
theorem dX6_intAt_4 : decode cX6_intAt 4 = .ok (.iload_n 1, 1) := by decide +kernel
theorem dX6_intAt_5 : decode cX6_intAt 5 = .ok (.bipush 100, 2) := by decide +kernel
theorem dX6_intAt_7 : decode cX6_intAt 7 = .ok (.if_icmp .ge 13, 3) := by decide +kernel
theorem dX6_intAt_10 : decode cX6_intAt 10 = .ok (.aload_n 0, 1) := by decide +kernel
theorem dX6_intAt_11 : decode cX6_intAt 11 = .ok (.getfield 9, 3) := by decide +kernel
theorem dX6_intAt_14 : decode cX6_intAt 14 = .ok (.iload_n 1, 1) := by decide +kernel
theorem dX6_intAt_15 : decode cX6_intAt 15 = .ok (.laload, 1) := by decide +kernel
theorem dX6_intAt_16 : decode cX6_intAt 16 = .ok (.l2i, 1) := by decide +kernel
theorem dX6_intAt_17 : decode cX6_intAt 17 = .ok (.goto 4, 3) := by decide +kernel
theorem dX6_intAt_20 : decode cX6_intAt 20 = .ok (.iconst 0, 1) := by decide +kernel
theorem dX6_intAt_21 : decode cX6_intAt 21 = .ok (.ireturn, 1) := by decide +kernel
def f_X6_intAt (μ : Mm) (i0 : Nat) (p1 : Int32) : Option Int32 :=
 if p1 < 0 then
 some (0 : Int32)
 else
 if (100 : Int32) ≤ p1 then
 some (0 : Int32)
 else
 (rl μ 601 i0 100 p1).bind fun v3 =>
 some v3.toInt32
set_option maxHeartbeats 4000000 in
set_option maxRecDepth 100000 in
theorem c_X6_intAt (l : Launch) (E : En) {μ : Mm} {i0 : Nat} {p1 : Int32} (h0 : l6 E i0) {z : Int32} (hf : f_X6_intAt μ i0 p1 = some z) : Met l yX6_intAt (wt yX6_intAt cX6_intAt 2 (some .int)) { frames := 0, cells := 0, slots := 0, locals := 0 } (Pm E [.ref (ad E 600 i0), .int p1] μ) (Qm E (some (.int z)) μ) 0 0 (Ad E) := by
  unfold f_X6_intAt at hf
  refine met_of (cc := cX6_intAt) (nL := 2) (ret := (some .int)) (by decide) _ (Nat.le_of_ble_eq_true rfl) ?_
  intro p e s m below meth c C hr hlk hI ls hl
  have hx := C.1.1
  have hb := C.1.2.1
  have hl : lv_has ls 2 [(0, .ref (ad E 600 i0)), (1, .int p1)] := hl
  refine lv_iload_n hx hb dX6_intAt_0 rfl (lv_at hl 1 rfl) ?_
  refine lv_if_lt (tgt := 20) hx hb dX6_intAt_1 rfl (fun hc => ?_) (fun hc => ?_)
  · replace hf := it hf hc
    refine lv_iconst (v := (0 : Int32)) hx hb dX6_intAt_20 kc_0 ?_
    obtain rfl := Option.some.inj hf
    exact m_iret C hr hlk hI dX6_intAt_21
  · replace hf := ie hf hc
    refine lv_iload_n hx hb dX6_intAt_4 rfl (lv_at hl 1 rfl) ?_
    refine lv_bipush (v := (100 : Int32)) hx hb dX6_intAt_5 kb_100 ?_
    refine lv_icmp_ge (tgt := 20) hx hb dX6_intAt_7 rfl (fun hc => ?_) (fun hc => ?_)
    · replace hf := it hf hc
      refine lv_iconst (v := (0 : Int32)) hx hb dX6_intAt_20 kc_0 ?_
      obtain rfl := Option.some.inj hf
      exact m_iret C hr hlk hI dX6_intAt_21
    · replace hf := ie hf hc
      refine lv_aload_n hx hb dX6_intAt_10 rfl (lv_at hl 0 rfl) ?_
      refine gf_6_0 C hI h0.1 fl_X6_9 dX6_intAt_11 ?_
      refine lv_iload_n hx hb dX6_intAt_14 rfl (lv_at hl 1 rfl) ?_
      obtain ⟨v3, e4, hf⟩ := ob hf
      refine m_lald C hI h0.2 (ce_601 E _ _ _) e4 dX6_intAt_15 ?_
      refine lv_l2i (v := v3.toInt32) hx hb dX6_intAt_16 rfl ?_
      refine lv_goto (tgt := 21) hx hb dX6_intAt_17 rfl ?_
      obtain rfl := Option.some.inj hf
      exact m_iret C hr hlk hI dX6_intAt_21

theorem dX6_narrow_0 : decode cX6_narrow 0 = .ok (.aload_n 0, 1) := by decide +kernel
theorem dX6_narrow_1 : decode cX6_narrow 1 = .ok (.getfield 15, 3) := by decide +kernel
theorem dX6_narrow_4 : decode cX6_narrow 4 = .ok (.tableswitch 42 1 3 #[28, 33, 38], 28) := by decide +kernel
theorem dX6_narrow_32 : decode cX6_narrow 32 = .ok (.lload_n 1, 1) := by decide +kernel
theorem dX6_narrow_33 : decode cX6_narrow 33 = .ok (.l2i, 1) := by decide +kernel
theorem dX6_narrow_34 : decode cX6_narrow 34 = .ok (.i2b, 1) := by decide +kernel
theorem dX6_narrow_35 : decode cX6_narrow 35 = .ok (.i2l, 1) := by decide +kernel
theorem dX6_narrow_36 : decode cX6_narrow 36 = .ok (.lreturn, 1) := by decide +kernel
theorem dX6_narrow_37 : decode cX6_narrow 37 = .ok (.lload_n 1, 1) := by decide +kernel
theorem dX6_narrow_38 : decode cX6_narrow 38 = .ok (.l2i, 1) := by decide +kernel
theorem dX6_narrow_39 : decode cX6_narrow 39 = .ok (.i2s, 1) := by decide +kernel
theorem dX6_narrow_40 : decode cX6_narrow 40 = .ok (.i2l, 1) := by decide +kernel
theorem dX6_narrow_41 : decode cX6_narrow 41 = .ok (.lreturn, 1) := by decide +kernel
theorem dX6_narrow_42 : decode cX6_narrow 42 = .ok (.lload_n 1, 1) := by decide +kernel
theorem dX6_narrow_43 : decode cX6_narrow 43 = .ok (.l2i, 1) := by decide +kernel
theorem dX6_narrow_44 : decode cX6_narrow 44 = .ok (.i2l, 1) := by decide +kernel
theorem dX6_narrow_45 : decode cX6_narrow 45 = .ok (.lreturn, 1) := by decide +kernel
theorem dX6_narrow_46 : decode cX6_narrow 46 = .ok (.lload_n 1, 1) := by decide +kernel
theorem dX6_narrow_47 : decode cX6_narrow 47 = .ok (.lreturn, 1) := by decide +kernel
def f_X6_narrow (μ : Mm) (i0 : Nat) (p1 : Int64) : Option Int64 :=
 if (μ.1 600 i0 1) = (1 : Int32) then
 some p1.toInt32.toInt8.toInt32.toInt64
 else
 if (μ.1 600 i0 1) = (2 : Int32) then
 some p1.toInt32.toInt16.toInt32.toInt64
 else
 if (μ.1 600 i0 1) = (3 : Int32) then
 some p1.toInt32.toInt64
 else
 some p1
set_option maxHeartbeats 4000000 in
set_option maxRecDepth 100000 in
theorem c_X6_narrow (l : Launch) (E : En) {μ : Mm} {i0 : Nat} {p1 : Int64} (h0 : l6 E i0) {z : Int64} (hf : f_X6_narrow μ i0 p1 = some z) : Met l yX6_narrow (wt yX6_narrow cX6_narrow 3 (some .long)) { frames := 0, cells := 0, slots := 0, locals := 0 } (Pm E [.ref (ad E 600 i0), .long p1] μ) (Qm E (some (.long z)) μ) 0 0 (Ad E) := by
  unfold f_X6_narrow at hf
  refine met_of (cc := cX6_narrow) (nL := 3) (ret := (some .long)) (by decide) _ (Nat.le_of_ble_eq_true rfl) ?_
  intro p e s m below meth c C hr hlk hI ls hl
  have hx := C.1.1
  have hb := C.1.2.1
  have hl : lv_has ls 3 [(0, .ref (ad E 600 i0)), (1, .long p1)] := hl
  refine lv_aload_n hx hb dX6_narrow_0 rfl (lv_at hl 0 rfl) ?_
  refine gf_6_1 C hI h0.1 fl_X6_15 dX6_narrow_1 ?_
  by_cases hn0 : (μ.1 600 i0 1) = (1 : Int32)
  · replace hf := it hf hn0
    refine lv_tableIn (tgt := 32) (off := 28) hx hb dX6_narrow_4 (by rw [hn0]; decide) (by rw [hn0]; decide) (by rw [hn0]; rfl) rfl ?_
    refine lv_lload_n hx hb dX6_narrow_32 rfl (lv_at hl 1 rfl) ?_
    refine lv_l2i (v := p1.toInt32) hx hb dX6_narrow_33 rfl ?_
    refine lv_i2b (v := p1.toInt32.toInt8.toInt32) hx hb dX6_narrow_34 rfl ?_
    refine lv_i2l (v := p1.toInt32.toInt8.toInt32.toInt64) hx hb dX6_narrow_35 rfl ?_
    obtain rfl := Option.some.inj hf
    exact m_lret C hr hlk hI dX6_narrow_36
  replace hf := ie hf hn0
  by_cases hn1 : (μ.1 600 i0 1) = (2 : Int32)
  · replace hf := it hf hn1
    refine lv_tableIn (tgt := 37) (off := 33) hx hb dX6_narrow_4 (by rw [hn1]; decide) (by rw [hn1]; decide) (by rw [hn1]; rfl) rfl ?_
    refine lv_lload_n hx hb dX6_narrow_37 rfl (lv_at hl 1 rfl) ?_
    refine lv_l2i (v := p1.toInt32) hx hb dX6_narrow_38 rfl ?_
    refine lv_i2s (v := p1.toInt32.toInt16.toInt32) hx hb dX6_narrow_39 rfl ?_
    refine lv_i2l (v := p1.toInt32.toInt16.toInt32.toInt64) hx hb dX6_narrow_40 rfl ?_
    obtain rfl := Option.some.inj hf
    exact m_lret C hr hlk hI dX6_narrow_41
  replace hf := ie hf hn1
  by_cases hn2 : (μ.1 600 i0 1) = (3 : Int32)
  · replace hf := it hf hn2
    refine lv_tableIn (tgt := 42) (off := 38) hx hb dX6_narrow_4 (by rw [hn2]; decide) (by rw [hn2]; decide) (by rw [hn2]; rfl) rfl ?_
    refine lv_lload_n hx hb dX6_narrow_42 rfl (lv_at hl 1 rfl) ?_
    refine lv_l2i (v := p1.toInt32) hx hb dX6_narrow_43 rfl ?_
    refine lv_i2l (v := p1.toInt32.toInt64) hx hb dX6_narrow_44 rfl ?_
    obtain rfl := Option.some.inj hf
    exact m_lret C hr hlk hI dX6_narrow_45
  replace hf := ie hf hn2
  have a1_ := ts_ne (n := 1) hn0 (by decide)
  have a2_ := ts_ne (n := 2) hn1 (by decide)
  have a3_ := ts_ne (n := 3) hn2 (by decide)
  refine lv_tableOut (tgt := 46) hx hb dX6_narrow_4 (by omega) rfl ?_
  refine lv_lload_n hx hb dX6_narrow_46 rfl (lv_at hl 1 rfl) ?_
  obtain rfl := Option.some.inj hf
  exact m_lret C hr hlk hI dX6_narrow_47

theorem dX0_judgeSpan_0 : decode cX0_judgeSpan 0 = .ok (.aload_n 1, 1) := by decide +kernel
theorem dX0_judgeSpan_1 : decode cX0_judgeSpan 1 = .ok (.iload_n 2, 1) := by decide +kernel
theorem dX0_judgeSpan_2 : decode cX0_judgeSpan 2 = .ok (.invokevirtual 51, 3) := by decide +kernel
theorem dX0_judgeSpan_5 : decode cX0_judgeSpan 5 = .ok (.istore 6, 2) := by decide +kernel
theorem dX0_judgeSpan_7 : decode cX0_judgeSpan 7 = .ok (.aload_n 1, 1) := by decide +kernel
theorem dX0_judgeSpan_8 : decode cX0_judgeSpan 8 = .ok (.iload_n 3, 1) := by decide +kernel
theorem dX0_judgeSpan_9 : decode cX0_judgeSpan 9 = .ok (.invokevirtual 55, 3) := by decide +kernel
theorem dX0_judgeSpan_12 : decode cX0_judgeSpan 12 = .ok (.bipush 8, 2) := by decide +kernel
theorem dX0_judgeSpan_14 : decode cX0_judgeSpan 14 = .ok (.if_icmp .ne 7, 3) := by decide +kernel
theorem dX0_judgeSpan_17 : decode cX0_judgeSpan 17 = .ok (.iconst 1, 1) := by decide +kernel
theorem dX0_judgeSpan_18 : decode cX0_judgeSpan 18 = .ok (.goto 4, 3) := by decide +kernel
theorem dX0_judgeSpan_21 : decode cX0_judgeSpan 21 = .ok (.iconst 0, 1) := by decide +kernel
theorem dX0_judgeSpan_22 : decode cX0_judgeSpan 22 = .ok (.istore 7, 2) := by decide +kernel
theorem dX0_judgeSpan_24 : decode cX0_judgeSpan 24 = .ok (.aload_n 1, 1) := by decide +kernel
theorem dX0_judgeSpan_25 : decode cX0_judgeSpan 25 = .ok (.iload 7, 2) := by decide +kernel
theorem dX0_judgeSpan_27 : decode cX0_judgeSpan 27 = .ok (.ifCond .eq 9, 3) := by decide +kernel
theorem dX0_judgeSpan_30 : decode cX0_judgeSpan 30 = .ok (.iload_n 3, 1) := by decide +kernel
theorem dX0_judgeSpan_31 : decode cX0_judgeSpan 31 = .ok (.iconst 1, 1) := by decide +kernel
theorem dX0_judgeSpan_32 : decode cX0_judgeSpan 32 = .ok (.isub, 1) := by decide +kernel
theorem dX0_judgeSpan_33 : decode cX0_judgeSpan 33 = .ok (.goto 4, 3) := by decide +kernel
theorem dX0_judgeSpan_36 : decode cX0_judgeSpan 36 = .ok (.iload_n 3, 1) := by decide +kernel
theorem dX0_judgeSpan_37 : decode cX0_judgeSpan 37 = .ok (.invokevirtual 51, 3) := by decide +kernel
theorem dX0_judgeSpan_40 : decode cX0_judgeSpan 40 = .ok (.istore 8, 2) := by decide +kernel
theorem dX0_judgeSpan_42 : decode cX0_judgeSpan 42 = .ok (.iload 8, 2) := by decide +kernel
theorem dX0_judgeSpan_44 : decode cX0_judgeSpan 44 = .ok (.iload 6, 2) := by decide +kernel
theorem dX0_judgeSpan_46 : decode cX0_judgeSpan 46 = .ok (.isub, 1) := by decide +kernel
theorem dX0_judgeSpan_47 : decode cX0_judgeSpan 47 = .ok (.iload 5, 2) := by decide +kernel
theorem dX0_judgeSpan_49 : decode cX0_judgeSpan 49 = .ok (.if_icmp .le 12, 3) := by decide +kernel
theorem dX0_judgeSpan_52 : decode cX0_judgeSpan 52 = .ok (.aload_n 0, 1) := by decide +kernel
theorem dX0_judgeSpan_53 : decode cX0_judgeSpan 53 = .ok (.iload 6, 2) := by decide +kernel
theorem dX0_judgeSpan_55 : decode cX0_judgeSpan 55 = .ok (.invokevirtual 58, 3) := by decide +kernel
theorem dX0_judgeSpan_58 : decode cX0_judgeSpan 58 = .ok (.goto 28, 3) := by decide +kernel
theorem dX0_judgeSpan_61 : decode cX0_judgeSpan 61 = .ok (.iload 7, 2) := by decide +kernel
theorem dX0_judgeSpan_63 : decode cX0_judgeSpan 63 = .ok (.ifCond .eq 23, 3) := by decide +kernel
theorem dX0_judgeSpan_66 : decode cX0_judgeSpan 66 = .ok (.aload_n 1, 1) := by decide +kernel
theorem dX0_judgeSpan_67 : decode cX0_judgeSpan 67 = .ok (.iload 4, 2) := by decide +kernel
theorem dX0_judgeSpan_69 : decode cX0_judgeSpan 69 = .ok (.invokevirtual 51, 3) := by decide +kernel
theorem dX0_judgeSpan_72 : decode cX0_judgeSpan 72 = .ok (.iload 6, 2) := by decide +kernel
theorem dX0_judgeSpan_74 : decode cX0_judgeSpan 74 = .ok (.isub, 1) := by decide +kernel
theorem dX0_judgeSpan_75 : decode cX0_judgeSpan 75 = .ok (.iload 5, 2) := by decide +kernel
theorem dX0_judgeSpan_77 : decode cX0_judgeSpan 77 = .ok (.if_icmp .le 9, 3) := by decide +kernel
theorem dX0_judgeSpan_80 : decode cX0_judgeSpan 80 = .ok (.aload_n 0, 1) := by decide +kernel
theorem dX0_judgeSpan_81 : decode cX0_judgeSpan 81 = .ok (.iload 6, 2) := by decide +kernel
theorem dX0_judgeSpan_83 : decode cX0_judgeSpan 83 = .ok (.invokevirtual 62, 3) := by decide +kernel
theorem dX0_judgeSpan_86 : decode cX0_judgeSpan 86 = .ok (.return_, 1) := by decide +kernel
def f_X0_judgeSpan_b37 (μ : Mm) (a1 : Nat) (a4 : Int32) (a5 : Int32) (a6 : Int32) (a7 : Int32) (s0 : Int32) (s1 : Nat) : Option Mm :=
 (f_X2_timeOf μ s1 s0).bind fun q13 =>
 if (q13 - a6) ≤ a5 then
 if a7 = 0 then
 some μ
 else
 (f_X2_timeOf μ a1 a4).bind fun q15 =>
 if (q15 - a6) ≤ a5 then
 some μ
 else
 (f_X0_addMaybe μ a6).bind fun q17 =>
 some q17
 else
 (f_X0_addSure μ a6).bind fun q19 =>
 some q19
set_option maxHeartbeats 4000000 in
set_option maxRecDepth 100000 in
theorem cb_X0_judgeSpan_37 {l : Launch} {E : En} {p : Program} {e : Env} {s : State} {m : MethodId} {av : Array Value} {below : List Frame} {meth : Method} {c : Code} (C : Cx E p s m av c cX0_judgeSpan 9 yX0_judgeSpan.cls) (hr : meth.sig.returnType = (none : Option FieldType)) (hlk : meth.locks = false) {z : Mm} : ∀ (μ : Mm) (a1 : Nat) (a4 : Int32) (a5 : Int32) (a6 : Int32) (a7 : Int32) (s0 : Int32) (s1 : Nat) (h_a0 : l0 E 0) (h_a1 : l2 E a1) (h_s1 : l2 E s1), f_X0_judgeSpan_b37 μ a1 a4 a5 a6 a7 s0 s1 = some z → ∀ {H : Heap} {locs : List Loc} {ls : Array Slot}, Iv E s μ H locs → lv_has ls 9 [(0, .ref (ad E 0 0)), (1, .ref (ad E 200 a1)), (4, .int a4), (5, .int a5), (6, .int a6), (7, .int a7)] → W p l e { frames := 2, cells := 0, slots := 0, locals := 42 } s m av below meth c H locs 0 0 (MQ below (Qm E none z) av s 0 0 (Ad E)) (F0 m 37 ls [.int s0, .ref (ad E 200 s1)]) := by
  have hx := C.1.1
  have hb := C.1.2.1
  intro μ a1 a4 a5 a6 a7 s0 s1 h_a0 h_a1 h_s1 hf H locs ls hI hl
  unfold f_X0_judgeSpan_b37 at hf
  obtain ⟨q13, e14, hf⟩ := ob hf
  refine mcV (As := [.int s0]) (rest := []) C hI (c_X2_timeOf l E h_s1 e14) ml_X0_51 kv_X2_timeOf (m_recv C hI h_s1.1 (ce_200 E _ _ _) rfl) rfl rfl ⟨Nat.le_of_ble_eq_true rfl, Nat.le_of_ble_eq_true rfl⟩ ⟨Nat.zero_le _, Nat.zero_le _⟩ rfl rfl hl.1 (Nat.le_of_ble_eq_true rfl) dX0_judgeSpan_37 (st1 := [.int q13]) rfl (fun H locs hI => ?_)
  refine lv_istore hx hb dX0_judgeSpan_40 hl (by decide) rfl (fun ls hl => ?_)
  have hl : lv_has ls 9 [(8, .int q13), (0, .ref (ad E 0 0)), (1, .ref (ad E 200 a1)), (4, .int a4), (5, .int a5), (6, .int a6), (7, .int a7)] := hl
  refine lv_iload hx hb dX0_judgeSpan_42 (lv_at hl 0 rfl) ?_
  refine lv_iload hx hb dX0_judgeSpan_44 (lv_at hl 5 rfl) ?_
  refine lv_isub hx hb dX0_judgeSpan_46 ?_
  refine lv_iload hx hb dX0_judgeSpan_47 (lv_at hl 4 rfl) ?_
  refine lv_icmp_le (tgt := 61) hx hb dX0_judgeSpan_49 rfl (fun hc => ?_) (fun hc => ?_)
  · replace hf := it hf hc
    refine lv_iload hx hb dX0_judgeSpan_61 (lv_at hl 6 rfl) ?_
    refine lv_if_eq (tgt := 86) hx hb dX0_judgeSpan_63 rfl (fun hc => ?_) (fun hc => ?_)
    · replace hf := it hf hc
      obtain rfl := Option.some.inj hf
      exact m_vret C hr hlk hI dX0_judgeSpan_86
    · replace hf := ie hf hc
      refine lv_aload_n hx hb dX0_judgeSpan_66 rfl (lv_at hl 2 rfl) ?_
      refine lv_iload hx hb dX0_judgeSpan_67 (lv_at hl 3 rfl) ?_
      obtain ⟨q15, e16, hf⟩ := ob hf
      refine mcV (As := [.int a4]) (rest := []) C hI (c_X2_timeOf l E h_a1 e16) ml_X0_51 kv_X2_timeOf (m_recv C hI h_a1.1 (ce_200 E _ _ _) rfl) rfl rfl ⟨Nat.le_of_ble_eq_true rfl, Nat.le_of_ble_eq_true rfl⟩ ⟨Nat.zero_le _, Nat.zero_le _⟩ rfl rfl hl.1 (Nat.le_of_ble_eq_true rfl) dX0_judgeSpan_69 (st1 := [.int q15]) rfl (fun H locs hI => ?_)
      refine lv_iload hx hb dX0_judgeSpan_72 (lv_at hl 5 rfl) ?_
      refine lv_isub hx hb dX0_judgeSpan_74 ?_
      refine lv_iload hx hb dX0_judgeSpan_75 (lv_at hl 4 rfl) ?_
      refine lv_icmp_le (tgt := 86) hx hb dX0_judgeSpan_77 rfl (fun hc => ?_) (fun hc => ?_)
      · replace hf := it hf hc
        obtain rfl := Option.some.inj hf
        exact m_vret C hr hlk hI dX0_judgeSpan_86
      · replace hf := ie hf hc
        refine lv_aload_n hx hb dX0_judgeSpan_80 rfl (lv_at hl 1 rfl) ?_
        refine lv_iload hx hb dX0_judgeSpan_81 (lv_at hl 5 rfl) ?_
        obtain ⟨q17, e18, hf⟩ := ob hf
        refine mcV (As := [.int a6]) (rest := []) C hI (c_X0_addMaybe l E h_a0 e18) ml_X0_62 kv_X0_addMaybe (m_recv C hI h_a0.1 (ce_0 E _ _ _) rfl) rfl rfl ⟨Nat.le_of_ble_eq_true rfl, Nat.le_of_ble_eq_true rfl⟩ ⟨Nat.zero_le _, Nat.zero_le _⟩ rfl rfl hl.1 (Nat.le_of_ble_eq_true rfl) dX0_judgeSpan_83 (st1 := []) rfl (fun H locs hI => ?_)
        obtain rfl := Option.some.inj hf
        exact m_vret C hr hlk hI dX0_judgeSpan_86
  · replace hf := ie hf hc
    refine lv_aload_n hx hb dX0_judgeSpan_52 rfl (lv_at hl 1 rfl) ?_
    refine lv_iload hx hb dX0_judgeSpan_53 (lv_at hl 5 rfl) ?_
    obtain ⟨q19, e20, hf⟩ := ob hf
    refine mcV (As := [.int a6]) (rest := []) C hI (c_X0_addSure l E h_a0 e20) ml_X0_58 kv_X0_addSure (m_recv C hI h_a0.1 (ce_0 E _ _ _) rfl) rfl rfl ⟨Nat.le_of_ble_eq_true rfl, Nat.le_of_ble_eq_true rfl⟩ ⟨Nat.zero_le _, Nat.zero_le _⟩ rfl rfl hl.1 (Nat.le_of_ble_eq_true rfl) dX0_judgeSpan_55 (st1 := []) rfl (fun H locs hI => ?_)
    refine lv_goto (tgt := 86) hx hb dX0_judgeSpan_58 rfl ?_
    obtain rfl := Option.some.inj hf
    exact m_vret C hr hlk hI dX0_judgeSpan_86
def f_X0_judgeSpan_b22 (μ : Mm) (a1 : Nat) (a3 : Int32) (a4 : Int32) (a5 : Int32) (a6 : Int32) (s0 : Int32) : Option Mm :=
 if s0 = 0 then
 f_X0_judgeSpan_b37 μ a1 a4 a5 a6 s0 a3 a1
 else
 f_X0_judgeSpan_b37 μ a1 a4 a5 a6 s0 (a3 - (1 : Int32)) a1
set_option maxHeartbeats 4000000 in
set_option maxRecDepth 100000 in
theorem cb_X0_judgeSpan_22 {l : Launch} {E : En} {p : Program} {e : Env} {s : State} {m : MethodId} {av : Array Value} {below : List Frame} {meth : Method} {c : Code} (C : Cx E p s m av c cX0_judgeSpan 9 yX0_judgeSpan.cls) (hr : meth.sig.returnType = (none : Option FieldType)) (hlk : meth.locks = false) {z : Mm} : ∀ (μ : Mm) (a1 : Nat) (a3 : Int32) (a4 : Int32) (a5 : Int32) (a6 : Int32) (s0 : Int32) (h_a0 : l0 E 0) (h_a1 : l2 E a1), f_X0_judgeSpan_b22 μ a1 a3 a4 a5 a6 s0 = some z → ∀ {H : Heap} {locs : List Loc} {ls : Array Slot}, Iv E s μ H locs → lv_has ls 9 [(0, .ref (ad E 0 0)), (1, .ref (ad E 200 a1)), (3, .int a3), (4, .int a4), (5, .int a5), (6, .int a6)] → W p l e { frames := 2, cells := 0, slots := 0, locals := 42 } s m av below meth c H locs 0 0 (MQ below (Qm E none z) av s 0 0 (Ad E)) (F0 m 22 ls [.int s0]) := by
  have hx := C.1.1
  have hb := C.1.2.1
  intro μ a1 a3 a4 a5 a6 s0 h_a0 h_a1 hf H locs ls hI hl
  unfold f_X0_judgeSpan_b22 at hf
  refine lv_istore hx hb dX0_judgeSpan_22 hl (by decide) rfl (fun ls hl => ?_)
  have hl : lv_has ls 9 [(7, .int s0), (0, .ref (ad E 0 0)), (1, .ref (ad E 200 a1)), (3, .int a3), (4, .int a4), (5, .int a5), (6, .int a6)] := hl
  refine lv_aload_n hx hb dX0_judgeSpan_24 rfl (lv_at hl 2 rfl) ?_
  refine lv_iload hx hb dX0_judgeSpan_25 (lv_at hl 0 rfl) ?_
  refine lv_if_eq (tgt := 36) hx hb dX0_judgeSpan_27 rfl (fun hc => ?_) (fun hc => ?_)
  · replace hf := it hf hc
    refine lv_iload_n hx hb dX0_judgeSpan_36 rfl (lv_at hl 3 rfl) ?_
    exact cb_X0_judgeSpan_37 C hr hlk  _ _ _ _ _ _ _ _ h_a0 h_a1 h_a1 hf hI (lv_sub hl [1, 2, 4, 5, 6, 0] rfl)
  · replace hf := ie hf hc
    refine lv_iload_n hx hb dX0_judgeSpan_30 rfl (lv_at hl 3 rfl) ?_
    refine lv_iconst (v := (1 : Int32)) hx hb dX0_judgeSpan_31 kc_1 ?_
    refine lv_isub hx hb dX0_judgeSpan_32 ?_
    refine lv_goto (tgt := 37) hx hb dX0_judgeSpan_33 rfl ?_
    exact cb_X0_judgeSpan_37 C hr hlk  _ _ _ _ _ _ _ _ h_a0 h_a1 h_a1 hf hI (lv_sub hl [1, 2, 4, 5, 6, 0] rfl)
def f_X0_judgeSpan (μ : Mm) (n1 : Nat) (p2 : Int32) (p3 : Int32) (p4 : Int32) (p5 : Int32) : Option Mm :=
 (f_X2_timeOf μ n1 p2).bind fun q21 =>
 (f_X2_kindOf μ n1 p3).bind fun q23 =>
 if q23 = (8 : Int32) then
 f_X0_judgeSpan_b22 μ n1 p3 p4 p5 q21 (1 : Int32)
 else
 f_X0_judgeSpan_b22 μ n1 p3 p4 p5 q21 (0 : Int32)
set_option maxHeartbeats 4000000 in
set_option maxRecDepth 100000 in
theorem c_X0_judgeSpan (l : Launch) (E : En) {μ : Mm} {n1 : Nat} {p2 : Int32} {p3 : Int32} {p4 : Int32} {p5 : Int32} (h0 : l0 E 0) (h1 : l2 E n1) {z : Mm} (hf : f_X0_judgeSpan μ n1 p2 p3 p4 p5 = some z) : Met l yX0_judgeSpan (wt yX0_judgeSpan cX0_judgeSpan 9 (none : Option FieldType)) { frames := 2, cells := 0, slots := 0, locals := 42 } (Pm E [.ref (ad E 0 0), .ref (ad E 200 n1), .int p2, .int p3, .int p4, .int p5] μ) (Qm E none z) 0 0 (Ad E) := by
  unfold f_X0_judgeSpan at hf
  refine met_of (cc := cX0_judgeSpan) (nL := 9) (ret := (none : Option FieldType)) (by decide) _ (Nat.le_of_ble_eq_true rfl) ?_
  intro p e s m below meth c C hr hlk hI ls hl
  have hx := C.1.1
  have hb := C.1.2.1
  have hl : lv_has ls 9 [(0, .ref (ad E 0 0)), (1, .ref (ad E 200 n1)), (2, .int p2), (3, .int p3), (4, .int p4), (5, .int p5)] := hl
  refine lv_aload_n hx hb dX0_judgeSpan_0 rfl (lv_at hl 1 rfl) ?_
  refine lv_iload_n hx hb dX0_judgeSpan_1 rfl (lv_at hl 2 rfl) ?_
  obtain ⟨q21, e22, hf⟩ := ob hf
  refine mcV (As := [.int p2]) (rest := []) C hI (c_X2_timeOf l E h1 e22) ml_X0_51 kv_X2_timeOf (m_recv C hI h1.1 (ce_200 E _ _ _) rfl) rfl rfl ⟨Nat.le_of_ble_eq_true rfl, Nat.le_of_ble_eq_true rfl⟩ ⟨Nat.zero_le _, Nat.zero_le _⟩ rfl rfl hl.1 (Nat.le_of_ble_eq_true rfl) dX0_judgeSpan_2 (st1 := [.int q21]) rfl (fun H locs hI => ?_)
  refine lv_istore hx hb dX0_judgeSpan_5 hl (by decide) rfl (fun ls hl => ?_)
  have hl : lv_has ls 9 [(6, .int q21), (0, .ref (ad E 0 0)), (1, .ref (ad E 200 n1)), (2, .int p2), (3, .int p3), (4, .int p4), (5, .int p5)] := hl
  refine lv_aload_n hx hb dX0_judgeSpan_7 rfl (lv_at hl 2 rfl) ?_
  refine lv_iload_n hx hb dX0_judgeSpan_8 rfl (lv_at hl 4 rfl) ?_
  obtain ⟨q23, e24, hf⟩ := ob hf
  refine mcV (As := [.int p3]) (rest := []) C hI (c_X2_kindOf l E h1 e24) ml_X0_55 kv_X2_kindOf (m_recv C hI h1.1 (ce_200 E _ _ _) rfl) rfl rfl ⟨Nat.le_of_ble_eq_true rfl, Nat.le_of_ble_eq_true rfl⟩ ⟨Nat.zero_le _, Nat.zero_le _⟩ rfl rfl hl.1 (Nat.le_of_ble_eq_true rfl) dX0_judgeSpan_9 (st1 := [.int q23]) rfl (fun H locs hI => ?_)
  refine lv_bipush (v := (8 : Int32)) hx hb dX0_judgeSpan_12 kb_8 ?_
  refine lv_icmp_ne (tgt := 21) hx hb dX0_judgeSpan_14 rfl (fun hc => ?_) (fun hc => ?_)
  · replace hf := ie hf hc
    refine lv_iconst (v := (0 : Int32)) hx hb dX0_judgeSpan_21 kc_0 ?_
    exact cb_X0_judgeSpan_22 C hr hlk  _ _ _ _ _ _ _ h0 h1 hf hI (lv_sub hl [1, 2, 4, 5, 6, 0] rfl)
  · replace hf := it hf hc
    refine lv_iconst (v := (1 : Int32)) hx hb dX0_judgeSpan_17 kc_1 ?_
    refine lv_goto (tgt := 22) hx hb dX0_judgeSpan_18 rfl ?_
    exact cb_X0_judgeSpan_22 C hr hlk  _ _ _ _ _ _ _ h0 h1 hf hI (lv_sub hl [1, 2, 4, 5, 6, 0] rfl)

theorem dX0_judgeApart_0 : decode cX0_judgeApart 0 = .ok (.iconst (-1), 1) := by decide +kernel
theorem dX0_judgeApart_1 : decode cX0_judgeApart 1 = .ok (.istore 4, 2) := by decide +kernel
theorem dX0_judgeApart_3 : decode cX0_judgeApart 3 = .ok (.iconst 0, 1) := by decide +kernel
theorem dX0_judgeApart_4 : decode cX0_judgeApart 4 = .ok (.istore 5, 2) := by decide +kernel
theorem dX0_judgeApart_6 : decode cX0_judgeApart 6 = .ok (.iconst 0, 1) := by decide +kernel
theorem dX0_judgeApart_7 : decode cX0_judgeApart 7 = .ok (.istore 6, 2) := by decide +kernel
theorem dX0_judgeApart_9 : decode cX0_judgeApart 9 = .ok (.iload 6, 2) := by decide +kernel
theorem dX0_judgeApart_11 : decode cX0_judgeApart 11 = .ok (.aload_n 1, 1) := by decide +kernel
theorem dX0_judgeApart_12 : decode cX0_judgeApart 12 = .ok (.getfield 25, 3) := by decide +kernel
theorem dX0_judgeApart_15 : decode cX0_judgeApart 15 = .ok (.if_icmp .ge 66, 3) := by decide +kernel
theorem dX0_judgeApart_18 : decode cX0_judgeApart 18 = .ok (.aload_n 1, 1) := by decide +kernel
theorem dX0_judgeApart_19 : decode cX0_judgeApart 19 = .ok (.iload 6, 2) := by decide +kernel
theorem dX0_judgeApart_21 : decode cX0_judgeApart 21 = .ok (.invokevirtual 55, 3) := by decide +kernel
theorem dX0_judgeApart_24 : decode cX0_judgeApart 24 = .ok (.bipush 8, 2) := by decide +kernel
theorem dX0_judgeApart_26 : decode cX0_judgeApart 26 = .ok (.if_icmp .ne 6, 3) := by decide +kernel
theorem dX0_judgeApart_29 : decode cX0_judgeApart 29 = .ok (.iconst 1, 1) := by decide +kernel
theorem dX0_judgeApart_30 : decode cX0_judgeApart 30 = .ok (.istore 5, 2) := by decide +kernel
theorem dX0_judgeApart_32 : decode cX0_judgeApart 32 = .ok (.aload_n 1, 1) := by decide +kernel
theorem dX0_judgeApart_33 : decode cX0_judgeApart 33 = .ok (.iload 6, 2) := by decide +kernel
theorem dX0_judgeApart_35 : decode cX0_judgeApart 35 = .ok (.iconst 0, 1) := by decide +kernel
theorem dX0_judgeApart_36 : decode cX0_judgeApart 36 = .ok (.iload_n 2, 1) := by decide +kernel
theorem dX0_judgeApart_37 : decode cX0_judgeApart 37 = .ok (.invokevirtual 30, 3) := by decide +kernel
theorem dX0_judgeApart_40 : decode cX0_judgeApart 40 = .ok (.ifCond .eq 35, 3) := by decide +kernel
theorem dX0_judgeApart_43 : decode cX0_judgeApart 43 = .ok (.iload 4, 2) := by decide +kernel
theorem dX0_judgeApart_45 : decode cX0_judgeApart 45 = .ok (.iconst (-1), 1) := by decide +kernel
theorem dX0_judgeApart_46 : decode cX0_judgeApart 46 = .ok (.if_icmp .eq 22, 3) := by decide +kernel
theorem dX0_judgeApart_49 : decode cX0_judgeApart 49 = .ok (.aload_n 0, 1) := by decide +kernel
theorem dX0_judgeApart_50 : decode cX0_judgeApart 50 = .ok (.aload_n 1, 1) := by decide +kernel
theorem dX0_judgeApart_51 : decode cX0_judgeApart 51 = .ok (.iload 4, 2) := by decide +kernel
theorem dX0_judgeApart_53 : decode cX0_judgeApart 53 = .ok (.invokevirtual 51, 3) := by decide +kernel
theorem dX0_judgeApart_56 : decode cX0_judgeApart 56 = .ok (.aload_n 1, 1) := by decide +kernel
theorem dX0_judgeApart_57 : decode cX0_judgeApart 57 = .ok (.iload 6, 2) := by decide +kernel
theorem dX0_judgeApart_59 : decode cX0_judgeApart 59 = .ok (.invokevirtual 51, 3) := by decide +kernel
theorem dX0_judgeApart_62 : decode cX0_judgeApart 62 = .ok (.iload 5, 2) := by decide +kernel
theorem dX0_judgeApart_64 : decode cX0_judgeApart 64 = .ok (.iload_n 3, 1) := by decide +kernel
theorem dX0_judgeApart_65 : decode cX0_judgeApart 65 = .ok (.invokevirtual 65, 3) := by decide +kernel
theorem dX0_judgeApart_68 : decode cX0_judgeApart 68 = .ok (.iload 6, 2) := by decide +kernel
theorem dX0_judgeApart_70 : decode cX0_judgeApart 70 = .ok (.istore 4, 2) := by decide +kernel
theorem dX0_judgeApart_72 : decode cX0_judgeApart 72 = .ok (.iconst 0, 1) := by decide +kernel
theorem dX0_judgeApart_73 : decode cX0_judgeApart 73 = .ok (.istore 5, 2) := by decide +kernel
theorem dX0_judgeApart_75 : decode cX0_judgeApart 75 = .ok (.iinc 6 1, 3) := by decide +kernel
theorem dX0_judgeApart_78 : decode cX0_judgeApart 78 = .ok (.goto (-69), 3) := by decide +kernel
theorem dX0_judgeApart_81 : decode cX0_judgeApart 81 = .ok (.return_, 1) := by decide +kernel
def f_X0_judgeApart_b32 (F : Nat) (K9 : Mm → Nat → Int32 → Int32 → Int32 → Int32 → Int32 → Option Mm) (μ : Mm) (a1 : Nat) (a2 : Int32) (a3 : Int32) (a4 : Int32) (a5 : Int32) (a6 : Int32) : Option Mm :=
 (f_X2_isMarkOf μ a1 a6 (0 : Int32) a2).bind fun q11 =>
 if q11 = 0 then
 K9 μ a1 a2 a3 a4 a5 (a6 + (1 : Int32))
 else
 if a4 = (-1 : Int32) then
 K9 μ a1 a2 a3 a6 (0 : Int32) (a6 + (1 : Int32))
 else
 (f_X2_timeOf μ a1 a4).bind fun q13 =>
 (f_X2_timeOf μ a1 a6).bind fun q15 =>
 (f_X0_judgePair μ q13 q15 a5 a3).bind fun q17 =>
 K9 q17 a1 a2 a3 a6 (0 : Int32) (a6 + (1 : Int32))
set_option maxHeartbeats 4000000 in
set_option maxRecDepth 100000 in
theorem cb_X0_judgeApart_32 {l : Launch} {E : En} {p : Program} {e : Env} {s : State} {m : MethodId} {av : Array Value} {below : List Frame} {meth : Method} {c : Code} (C : Cx E p s m av c cX0_judgeApart 7 yX0_judgeApart.cls) (hr : meth.sig.returnType = (none : Option FieldType)) (hlk : meth.locks = false) {F : Nat} {K9 : Mm → Nat → Int32 → Int32 → Int32 → Int32 → Int32 → Option Mm} {z : Mm} (hK9 : ∀ (μ : Mm) (a1 : Nat) (a2 : Int32) (a3 : Int32) (a4 : Int32) (a5 : Int32) (a6 : Int32) (h_a0 : l0 E 0) (h_a1 : l2 E a1), K9 μ a1 a2 a3 a4 a5 a6 = some z → ∀ {H : Heap} {locs : List Loc} {ls : Array Slot}, Iv E s μ H locs → lv_has ls 7 [(0, .ref (ad E 0 0)), (1, .ref (ad E 200 a1)), (2, .int a2), (3, .int a3), (4, .int a4), (5, .int a5), (6, .int a6)] → W p l e { frames := 3, cells := 0, slots := 0, locals := 65 } s m av below meth c H locs 0 0 (MQ below (Qm E none z) av s 0 0 (Ad E)) (F0 m 9 ls [])) : ∀ (μ : Mm) (a1 : Nat) (a2 : Int32) (a3 : Int32) (a4 : Int32) (a5 : Int32) (a6 : Int32) (h_a0 : l0 E 0) (h_a1 : l2 E a1), f_X0_judgeApart_b32 F K9 μ a1 a2 a3 a4 a5 a6 = some z → ∀ {H : Heap} {locs : List Loc} {ls : Array Slot}, Iv E s μ H locs → lv_has ls 7 [(0, .ref (ad E 0 0)), (1, .ref (ad E 200 a1)), (2, .int a2), (3, .int a3), (4, .int a4), (5, .int a5), (6, .int a6)] → W p l e { frames := 3, cells := 0, slots := 0, locals := 65 } s m av below meth c H locs 0 0 (MQ below (Qm E none z) av s 0 0 (Ad E)) (F0 m 32 ls []) := by
  have hx := C.1.1
  have hb := C.1.2.1
  intro μ a1 a2 a3 a4 a5 a6 h_a0 h_a1 hf H locs ls hI hl
  unfold f_X0_judgeApart_b32 at hf
  refine lv_aload_n hx hb dX0_judgeApart_32 rfl (lv_at hl 1 rfl) ?_
  refine lv_iload hx hb dX0_judgeApart_33 (lv_at hl 6 rfl) ?_
  refine lv_iconst (v := (0 : Int32)) hx hb dX0_judgeApart_35 kc_0 ?_
  refine lv_iload_n hx hb dX0_judgeApart_36 rfl (lv_at hl 2 rfl) ?_
  obtain ⟨q11, e12, hf⟩ := ob hf
  refine mcV (As := [.int a6, .int (0 : Int32), .int a2]) (rest := []) C hI (c_X2_isMarkOf l E h_a1 e12) ml_X0_30 kv_X2_isMarkOf (m_recv C hI h_a1.1 (ce_200 E _ _ _) rfl) rfl rfl ⟨Nat.le_of_ble_eq_true rfl, Nat.le_of_ble_eq_true rfl⟩ ⟨Nat.zero_le _, Nat.zero_le _⟩ rfl rfl hl.1 (Nat.le_of_ble_eq_true rfl) dX0_judgeApart_37 (st1 := [.int q11]) rfl (fun H locs hI => ?_)
  refine lv_if_eq (tgt := 75) hx hb dX0_judgeApart_40 rfl (fun hc => ?_) (fun hc => ?_)
  · replace hf := it hf hc
    refine lv_iinc (v := a6 + (1 : Int32)) hx hb dX0_judgeApart_75 hl (k := 6) rfl (ki_1 _) (by decide) rfl (fun ls hl => ?_)
    have hl : lv_has ls 7 [(6, .int (a6 + (1 : Int32))), (0, .ref (ad E 0 0)), (1, .ref (ad E 200 a1)), (2, .int a2), (3, .int a3), (4, .int a4), (5, .int a5)] := hl
    refine lv_goto (tgt := 9) hx hb dX0_judgeApart_78 rfl ?_
    exact hK9 _ _ _ _ _ _ _ h_a0 h_a1 hf hI (lv_sub hl [1, 2, 3, 4, 5, 6, 0] rfl)
  · replace hf := ie hf hc
    refine lv_iload hx hb dX0_judgeApart_43 (lv_at hl 4 rfl) ?_
    refine lv_iconst (v := (-1 : Int32)) hx hb dX0_judgeApart_45 kc_m1 ?_
    refine lv_icmp_eq (tgt := 68) hx hb dX0_judgeApart_46 rfl (fun hc => ?_) (fun hc => ?_)
    · replace hf := it hf hc
      refine lv_iload hx hb dX0_judgeApart_68 (lv_at hl 6 rfl) ?_
      refine lv_istore hx hb dX0_judgeApart_70 hl (by decide) rfl (fun ls hl => ?_)
      have hl : lv_has ls 7 [(4, .int a6), (0, .ref (ad E 0 0)), (1, .ref (ad E 200 a1)), (2, .int a2), (3, .int a3), (5, .int a5), (6, .int a6)] := hl
      refine lv_iconst (v := (0 : Int32)) hx hb dX0_judgeApart_72 kc_0 ?_
      refine lv_istore hx hb dX0_judgeApart_73 hl (by decide) rfl (fun ls hl => ?_)
      have hl : lv_has ls 7 [(5, .int (0 : Int32)), (4, .int a6), (0, .ref (ad E 0 0)), (1, .ref (ad E 200 a1)), (2, .int a2), (3, .int a3), (6, .int a6)] := hl
      refine lv_iinc (v := a6 + (1 : Int32)) hx hb dX0_judgeApart_75 hl (k := 6) rfl (ki_1 _) (by decide) rfl (fun ls hl => ?_)
      have hl : lv_has ls 7 [(6, .int (a6 + (1 : Int32))), (5, .int (0 : Int32)), (4, .int a6), (0, .ref (ad E 0 0)), (1, .ref (ad E 200 a1)), (2, .int a2), (3, .int a3)] := hl
      refine lv_goto (tgt := 9) hx hb dX0_judgeApart_78 rfl ?_
      exact hK9 _ _ _ _ _ _ _ h_a0 h_a1 hf hI (lv_sub hl [3, 4, 5, 6, 2, 1, 0] rfl)
    · replace hf := ie hf hc
      refine lv_aload_n hx hb dX0_judgeApart_49 rfl (lv_at hl 0 rfl) ?_
      refine lv_aload_n hx hb dX0_judgeApart_50 rfl (lv_at hl 1 rfl) ?_
      refine lv_iload hx hb dX0_judgeApart_51 (lv_at hl 4 rfl) ?_
      obtain ⟨q13, e14, hf⟩ := ob hf
      refine mcV (As := [.int a4]) (rest := [.ref (ad E 0 0)]) C hI (c_X2_timeOf l E h_a1 e14) ml_X0_51 kv_X2_timeOf (m_recv C hI h_a1.1 (ce_200 E _ _ _) rfl) rfl rfl ⟨Nat.le_of_ble_eq_true rfl, Nat.le_of_ble_eq_true rfl⟩ ⟨Nat.zero_le _, Nat.zero_le _⟩ rfl rfl hl.1 (Nat.le_of_ble_eq_true rfl) dX0_judgeApart_53 (st1 := [.int q13, .ref (ad E 0 0)]) rfl (fun H locs hI => ?_)
      refine lv_aload_n hx hb dX0_judgeApart_56 rfl (lv_at hl 1 rfl) ?_
      refine lv_iload hx hb dX0_judgeApart_57 (lv_at hl 6 rfl) ?_
      obtain ⟨q15, e16, hf⟩ := ob hf
      refine mcV (As := [.int a6]) (rest := [.int q13, .ref (ad E 0 0)]) C hI (c_X2_timeOf l E h_a1 e16) ml_X0_51 kv_X2_timeOf (m_recv C hI h_a1.1 (ce_200 E _ _ _) rfl) rfl rfl ⟨Nat.le_of_ble_eq_true rfl, Nat.le_of_ble_eq_true rfl⟩ ⟨Nat.zero_le _, Nat.zero_le _⟩ rfl rfl hl.1 (Nat.le_of_ble_eq_true rfl) dX0_judgeApart_59 (st1 := [.int q15, .int q13, .ref (ad E 0 0)]) rfl (fun H locs hI => ?_)
      refine lv_iload hx hb dX0_judgeApart_62 (lv_at hl 5 rfl) ?_
      refine lv_iload_n hx hb dX0_judgeApart_64 rfl (lv_at hl 3 rfl) ?_
      obtain ⟨q17, e18, hf⟩ := ob hf
      refine mcV (As := [.int q13, .int q15, .int a5, .int a3]) (rest := []) C hI (c_X0_judgePair l E h_a0 e18) ml_X0_65 kv_X0_judgePair (m_recv C hI h_a0.1 (ce_0 E _ _ _) rfl) rfl rfl ⟨Nat.le_of_ble_eq_true rfl, Nat.le_of_ble_eq_true rfl⟩ ⟨Nat.zero_le _, Nat.zero_le _⟩ rfl rfl hl.1 (Nat.le_of_ble_eq_true rfl) dX0_judgeApart_65 (st1 := []) rfl (fun H locs hI => ?_)
      refine lv_iload hx hb dX0_judgeApart_68 (lv_at hl 6 rfl) ?_
      refine lv_istore hx hb dX0_judgeApart_70 hl (by decide) rfl (fun ls hl => ?_)
      have hl : lv_has ls 7 [(4, .int a6), (0, .ref (ad E 0 0)), (1, .ref (ad E 200 a1)), (2, .int a2), (3, .int a3), (5, .int a5), (6, .int a6)] := hl
      refine lv_iconst (v := (0 : Int32)) hx hb dX0_judgeApart_72 kc_0 ?_
      refine lv_istore hx hb dX0_judgeApart_73 hl (by decide) rfl (fun ls hl => ?_)
      have hl : lv_has ls 7 [(5, .int (0 : Int32)), (4, .int a6), (0, .ref (ad E 0 0)), (1, .ref (ad E 200 a1)), (2, .int a2), (3, .int a3), (6, .int a6)] := hl
      refine lv_iinc (v := a6 + (1 : Int32)) hx hb dX0_judgeApart_75 hl (k := 6) rfl (ki_1 _) (by decide) rfl (fun ls hl => ?_)
      have hl : lv_has ls 7 [(6, .int (a6 + (1 : Int32))), (5, .int (0 : Int32)), (4, .int a6), (0, .ref (ad E 0 0)), (1, .ref (ad E 200 a1)), (2, .int a2), (3, .int a3)] := hl
      refine lv_goto (tgt := 9) hx hb dX0_judgeApart_78 rfl ?_
      exact hK9 _ _ _ _ _ _ _ h_a0 h_a1 hf hI (lv_sub hl [3, 4, 5, 6, 2, 1, 0] rfl)
def f_X0_judgeApart_b9 (F : Nat) : Nat → Mm → Nat → Int32 → Int32 → Int32 → Int32 → Int32 → Option Mm
 | 0, _, _, _, _, _, _, _ => none
 | N + 1, μ, a1, a2, a3, a4, a5, a6 =>
 if (μ.1 200 a1 5) ≤ a6 then
 some μ
 else
 (f_X2_kindOf μ a1 a6).bind fun q19 =>
 if q19 = (8 : Int32) then
 f_X0_judgeApart_b32 F (fun μ a1 a2 a3 a4 a5 a6 => f_X0_judgeApart_b9 F N μ a1 a2 a3 a4 a5 a6) μ a1 a2 a3 a4 (1 : Int32) a6
 else
 f_X0_judgeApart_b32 F (fun μ a1 a2 a3 a4 a5 a6 => f_X0_judgeApart_b9 F N μ a1 a2 a3 a4 a5 a6) μ a1 a2 a3 a4 a5 a6
set_option maxHeartbeats 4000000 in
set_option maxRecDepth 100000 in
theorem cb_X0_judgeApart_9 {l : Launch} {E : En} {p : Program} {e : Env} {s : State} {m : MethodId} {av : Array Value} {below : List Frame} {meth : Method} {c : Code} (C : Cx E p s m av c cX0_judgeApart 7 yX0_judgeApart.cls) (hr : meth.sig.returnType = (none : Option FieldType)) (hlk : meth.locks = false) {F : Nat} {z : Mm} : ∀ (N : Nat) (μ : Mm) (a1 : Nat) (a2 : Int32) (a3 : Int32) (a4 : Int32) (a5 : Int32) (a6 : Int32) (h_a0 : l0 E 0) (h_a1 : l2 E a1), f_X0_judgeApart_b9 F N μ a1 a2 a3 a4 a5 a6 = some z → ∀ {H : Heap} {locs : List Loc} {ls : Array Slot}, Iv E s μ H locs → lv_has ls 7 [(0, .ref (ad E 0 0)), (1, .ref (ad E 200 a1)), (2, .int a2), (3, .int a3), (4, .int a4), (5, .int a5), (6, .int a6)] → W p l e { frames := 3, cells := 0, slots := 0, locals := 65 } s m av below meth c H locs 0 0 (MQ below (Qm E none z) av s 0 0 (Ad E)) (F0 m 9 ls []) := by
  have hx := C.1.1
  have hb := C.1.2.1
  intro N
  induction N with
  | zero => intro μ a1 a2 a3 a4 a5 a6 h_a0 h_a1 hf; cases hf
  | succ N ih =>
    intro μ a1 a2 a3 a4 a5 a6 h_a0 h_a1 hf H locs ls hI hl
    rw [f_X0_judgeApart_b9] at hf
    refine lv_iload hx hb dX0_judgeApart_9 (lv_at hl 6 rfl) ?_
    refine lv_aload_n hx hb dX0_judgeApart_11 rfl (lv_at hl 1 rfl) ?_
    refine gf_2_5 C hI h_a1.1 fl_X0_25 dX0_judgeApart_12 ?_
    refine lv_icmp_ge (tgt := 81) hx hb dX0_judgeApart_15 rfl (fun hc => ?_) (fun hc => ?_)
    · replace hf := it hf hc
      obtain rfl := Option.some.inj hf
      exact m_vret C hr hlk hI dX0_judgeApart_81
    · replace hf := ie hf hc
      refine lv_aload_n hx hb dX0_judgeApart_18 rfl (lv_at hl 1 rfl) ?_
      refine lv_iload hx hb dX0_judgeApart_19 (lv_at hl 6 rfl) ?_
      obtain ⟨q19, e20, hf⟩ := ob hf
      refine mcV (As := [.int a6]) (rest := []) C hI (c_X2_kindOf l E h_a1 e20) ml_X0_55 kv_X2_kindOf (m_recv C hI h_a1.1 (ce_200 E _ _ _) rfl) rfl rfl ⟨Nat.le_of_ble_eq_true rfl, Nat.le_of_ble_eq_true rfl⟩ ⟨Nat.zero_le _, Nat.zero_le _⟩ rfl rfl hl.1 (Nat.le_of_ble_eq_true rfl) dX0_judgeApart_21 (st1 := [.int q19]) rfl (fun H locs hI => ?_)
      refine lv_bipush (v := (8 : Int32)) hx hb dX0_judgeApart_24 kb_8 ?_
      refine lv_icmp_ne (tgt := 32) hx hb dX0_judgeApart_26 rfl (fun hc => ?_) (fun hc => ?_)
      · replace hf := ie hf hc
        exact cb_X0_judgeApart_32 C hr hlk ih _ _ _ _ _ _ _ h_a0 h_a1 hf hI (lv_sub hl [0, 1, 2, 3, 4, 5, 6] rfl)
      · replace hf := it hf hc
        refine lv_iconst (v := (1 : Int32)) hx hb dX0_judgeApart_29 kc_1 ?_
        refine lv_istore hx hb dX0_judgeApart_30 hl (by decide) rfl (fun ls hl => ?_)
        have hl : lv_has ls 7 [(5, .int (1 : Int32)), (0, .ref (ad E 0 0)), (1, .ref (ad E 200 a1)), (2, .int a2), (3, .int a3), (4, .int a4), (6, .int a6)] := hl
        exact cb_X0_judgeApart_32 C hr hlk ih _ _ _ _ _ _ _ h_a0 h_a1 hf hI (lv_sub hl [1, 2, 3, 4, 5, 0, 6] rfl)
def f_X0_judgeApart (F : Nat) (μ : Mm) (n1 : Nat) (p2 : Int32) (p3 : Int32) : Option Mm :=
 f_X0_judgeApart_b9 F F μ n1 p2 p3 (-1 : Int32) (0 : Int32) (0 : Int32)
set_option maxHeartbeats 4000000 in
set_option maxRecDepth 100000 in
theorem c_X0_judgeApart (l : Launch) (E : En) {F : Nat} {μ : Mm} {n1 : Nat} {p2 : Int32} {p3 : Int32} (h0 : l0 E 0) (h1 : l2 E n1) {z : Mm} (hf : f_X0_judgeApart F μ n1 p2 p3 = some z) : Met l yX0_judgeApart (wt yX0_judgeApart cX0_judgeApart 7 (none : Option FieldType)) { frames := 3, cells := 0, slots := 0, locals := 65 } (Pm E [.ref (ad E 0 0), .ref (ad E 200 n1), .int p2, .int p3] μ) (Qm E none z) 0 0 (Ad E) := by
  unfold f_X0_judgeApart at hf
  refine met_of (cc := cX0_judgeApart) (nL := 7) (ret := (none : Option FieldType)) (by decide) _ (Nat.le_of_ble_eq_true rfl) ?_
  intro p e s m below meth c C hr hlk hI ls hl
  have hx := C.1.1
  have hb := C.1.2.1
  have hl : lv_has ls 7 [(0, .ref (ad E 0 0)), (1, .ref (ad E 200 n1)), (2, .int p2), (3, .int p3)] := hl
  refine lv_iconst (v := (-1 : Int32)) hx hb dX0_judgeApart_0 kc_m1 ?_
  refine lv_istore hx hb dX0_judgeApart_1 hl (by decide) rfl (fun ls hl => ?_)
  have hl : lv_has ls 7 [(4, .int (-1 : Int32)), (0, .ref (ad E 0 0)), (1, .ref (ad E 200 n1)), (2, .int p2), (3, .int p3)] := hl
  refine lv_iconst (v := (0 : Int32)) hx hb dX0_judgeApart_3 kc_0 ?_
  refine lv_istore hx hb dX0_judgeApart_4 hl (by decide) rfl (fun ls hl => ?_)
  have hl : lv_has ls 7 [(5, .int (0 : Int32)), (4, .int (-1 : Int32)), (0, .ref (ad E 0 0)), (1, .ref (ad E 200 n1)), (2, .int p2), (3, .int p3)] := hl
  refine lv_iconst (v := (0 : Int32)) hx hb dX0_judgeApart_6 kc_0 ?_
  refine lv_istore hx hb dX0_judgeApart_7 hl (by decide) rfl (fun ls hl => ?_)
  have hl : lv_has ls 7 [(6, .int (0 : Int32)), (5, .int (0 : Int32)), (4, .int (-1 : Int32)), (0, .ref (ad E 0 0)), (1, .ref (ad E 200 n1)), (2, .int p2), (3, .int p3)] := hl
  exact cb_X0_judgeApart_9 C hr hlk  _ _ _ _ _ _ _ _ h0 h1 hf hI (lv_sub hl [3, 4, 5, 6, 2, 1, 0] rfl)

theorem dX5_joinThrough_0 : decode cX5_joinThrough 0 = .ok (.iconst 0, 1) := by decide +kernel
theorem dX5_joinThrough_1 : decode cX5_joinThrough 1 = .ok (.istore_n 2, 1) := by decide +kernel
theorem dX5_joinThrough_2 : decode cX5_joinThrough 2 = .ok (.iload_n 2, 1) := by decide +kernel
theorem dX5_joinThrough_3 : decode cX5_joinThrough 3 = .ok (.iconst 3, 1) := by decide +kernel
theorem dX5_joinThrough_4 : decode cX5_joinThrough 4 = .ok (.if_icmp .ge 67, 3) := by decide +kernel
theorem dX5_joinThrough_7 : decode cX5_joinThrough 7 = .ok (.iconst 0, 1) := by decide +kernel
theorem dX5_joinThrough_8 : decode cX5_joinThrough 8 = .ok (.istore_n 3, 1) := by decide +kernel
theorem dX5_joinThrough_9 : decode cX5_joinThrough 9 = .ok (.iload_n 3, 1) := by decide +kernel
theorem dX5_joinThrough_10 : decode cX5_joinThrough 10 = .ok (.iconst 3, 1) := by decide +kernel
theorem dX5_joinThrough_11 : decode cX5_joinThrough 11 = .ok (.if_icmp .ge 54, 3) := by decide +kernel
theorem dX5_joinThrough_14 : decode cX5_joinThrough 14 = .ok (.aload_n 0, 1) := by decide +kernel
theorem dX5_joinThrough_15 : decode cX5_joinThrough 15 = .ok (.iload_n 2, 1) := by decide +kernel
theorem dX5_joinThrough_16 : decode cX5_joinThrough 16 = .ok (.iload_n 1, 1) := by decide +kernel
theorem dX5_joinThrough_17 : decode cX5_joinThrough 17 = .ok (.invokevirtual 44, 3) := by decide +kernel
theorem dX5_joinThrough_20 : decode cX5_joinThrough 20 = .ok (.lstore 4, 2) := by decide +kernel
theorem dX5_joinThrough_22 : decode cX5_joinThrough 22 = .ok (.aload_n 0, 1) := by decide +kernel
theorem dX5_joinThrough_23 : decode cX5_joinThrough 23 = .ok (.iload_n 1, 1) := by decide +kernel
theorem dX5_joinThrough_24 : decode cX5_joinThrough 24 = .ok (.iload_n 3, 1) := by decide +kernel
theorem dX5_joinThrough_25 : decode cX5_joinThrough 25 = .ok (.invokevirtual 44, 3) := by decide +kernel
theorem dX5_joinThrough_28 : decode cX5_joinThrough 28 = .ok (.lstore 6, 2) := by decide +kernel
theorem dX5_joinThrough_30 : decode cX5_joinThrough 30 = .ok (.lload 4, 2) := by decide +kernel
theorem dX5_joinThrough_32 : decode cX5_joinThrough 32 = .ok (.ldc2_w 15, 3) := by decide +kernel
theorem dX5_joinThrough_35 : decode cX5_joinThrough 35 = .ok (.lcmp, 1) := by decide +kernel
theorem dX5_joinThrough_36 : decode cX5_joinThrough 36 = .ok (.ifCond .eq 23, 3) := by decide +kernel
theorem dX5_joinThrough_39 : decode cX5_joinThrough 39 = .ok (.lload 6, 2) := by decide +kernel
theorem dX5_joinThrough_41 : decode cX5_joinThrough 41 = .ok (.ldc2_w 15, 3) := by decide +kernel
theorem dX5_joinThrough_44 : decode cX5_joinThrough 44 = .ok (.lcmp, 1) := by decide +kernel
theorem dX5_joinThrough_45 : decode cX5_joinThrough 45 = .ok (.ifCond .eq 14, 3) := by decide +kernel
theorem dX5_joinThrough_48 : decode cX5_joinThrough 48 = .ok (.aload_n 0, 1) := by decide +kernel
theorem dX5_joinThrough_49 : decode cX5_joinThrough 49 = .ok (.iload_n 2, 1) := by decide +kernel
theorem dX5_joinThrough_50 : decode cX5_joinThrough 50 = .ok (.iload_n 3, 1) := by decide +kernel
theorem dX5_joinThrough_51 : decode cX5_joinThrough 51 = .ok (.lload 4, 2) := by decide +kernel
theorem dX5_joinThrough_53 : decode cX5_joinThrough 53 = .ok (.lload 6, 2) := by decide +kernel
theorem dX5_joinThrough_55 : decode cX5_joinThrough 55 = .ok (.ladd, 1) := by decide +kernel
theorem dX5_joinThrough_56 : decode cX5_joinThrough 56 = .ok (.invokevirtual 23, 3) := by decide +kernel
theorem dX5_joinThrough_59 : decode cX5_joinThrough 59 = .ok (.iinc 3 1, 3) := by decide +kernel
theorem dX5_joinThrough_62 : decode cX5_joinThrough 62 = .ok (.goto (-53), 3) := by decide +kernel
theorem dX5_joinThrough_65 : decode cX5_joinThrough 65 = .ok (.iinc 2 1, 3) := by decide +kernel
theorem dX5_joinThrough_68 : decode cX5_joinThrough 68 = .ok (.goto (-66), 3) := by decide +kernel
theorem dX5_joinThrough_71 : decode cX5_joinThrough 71 = .ok (.return_, 1) := by decide +kernel
def f_X5_joinThrough_b9 (F : Nat) (K2 : Mm → Int32 → Int32 → Option Mm) : Nat → Mm → Int32 → Int32 → Int32 → Option Mm
 | 0, _, _, _, _ => none
 | N + 1, μ, a1, a2, a3 =>
 if (3 : Int32) ≤ a3 then
 K2 μ a1 (a2 + (1 : Int32))
 else
 (f_X5_boundOf μ a2 a1).bind fun q7 =>
 (f_X5_boundOf μ a1 a3).bind fun q9 =>
 if (lg_cmp q7 (-1152921504606846976 : Int64)) = 0 then
 f_X5_joinThrough_b9 F K2 N μ a1 a2 (a3 + (1 : Int32))
 else
 if (lg_cmp q9 (-1152921504606846976 : Int64)) = 0 then
 f_X5_joinThrough_b9 F K2 N μ a1 a2 (a3 + (1 : Int32))
 else
 (f_X5_raise μ a2 a3 (q7 + q9)).bind fun q11 =>
 f_X5_joinThrough_b9 F K2 N q11 a1 a2 (a3 + (1 : Int32))
set_option maxHeartbeats 4000000 in
set_option maxRecDepth 100000 in
theorem cb_X5_joinThrough_9 {l : Launch} {E : En} {p : Program} {e : Env} {s : State} {m : MethodId} {av : Array Value} {below : List Frame} {meth : Method} {c : Code} (C : Cx E p s m av c cX5_joinThrough 8 yX5_joinThrough.cls) (hr : meth.sig.returnType = (none : Option FieldType)) (hlk : meth.locks = false) {F : Nat} {K2 : Mm → Int32 → Int32 → Option Mm} {z : Mm} (hK2 : ∀ (μ : Mm) (a1 : Int32) (a2 : Int32) (h_a0 : l5 E 0), K2 μ a1 a2 = some z → ∀ {H : Heap} {locs : List Loc} {ls : Array Slot}, Iv E s μ H locs → lv_has ls 8 [(0, .ref (ad E 500 0)), (1, .int a1), (2, .int a2)] → W p l e { frames := 2, cells := 0, slots := 0, locals := 48 } s m av below meth c H locs 0 0 (MQ below (Qm E none z) av s 0 0 (Ad E)) (F0 m 2 ls [])) : ∀ (N : Nat) (μ : Mm) (a1 : Int32) (a2 : Int32) (a3 : Int32) (h_a0 : l5 E 0), f_X5_joinThrough_b9 F K2 N μ a1 a2 a3 = some z → ∀ {H : Heap} {locs : List Loc} {ls : Array Slot}, Iv E s μ H locs → lv_has ls 8 [(0, .ref (ad E 500 0)), (1, .int a1), (2, .int a2), (3, .int a3)] → W p l e { frames := 2, cells := 0, slots := 0, locals := 48 } s m av below meth c H locs 0 0 (MQ below (Qm E none z) av s 0 0 (Ad E)) (F0 m 9 ls []) := by
  have hx := C.1.1
  have hb := C.1.2.1
  intro N
  induction N with
  | zero => intro μ a1 a2 a3 h_a0 hf; cases hf
  | succ N ih =>
    intro μ a1 a2 a3 h_a0 hf H locs ls hI hl
    rw [f_X5_joinThrough_b9] at hf
    refine lv_iload_n hx hb dX5_joinThrough_9 rfl (lv_at hl 3 rfl) ?_
    refine lv_iconst (v := (3 : Int32)) hx hb dX5_joinThrough_10 kc_3 ?_
    refine lv_icmp_ge (tgt := 65) hx hb dX5_joinThrough_11 rfl (fun hc => ?_) (fun hc => ?_)
    · replace hf := it hf hc
      refine lv_iinc (v := a2 + (1 : Int32)) hx hb dX5_joinThrough_65 hl (k := 2) rfl (ki_1 _) (by decide) rfl (fun ls hl => ?_)
      have hl : lv_has ls 8 [(2, .int (a2 + (1 : Int32))), (0, .ref (ad E 500 0)), (1, .int a1), (3, .int a3)] := hl
      refine lv_goto (tgt := 2) hx hb dX5_joinThrough_68 rfl ?_
      exact hK2 _ _ _ h_a0 hf hI (lv_sub hl [1, 2, 0] rfl)
    · replace hf := ie hf hc
      refine lv_aload_n hx hb dX5_joinThrough_14 rfl (lv_at hl 0 rfl) ?_
      refine lv_iload_n hx hb dX5_joinThrough_15 rfl (lv_at hl 2 rfl) ?_
      refine lv_iload_n hx hb dX5_joinThrough_16 rfl (lv_at hl 1 rfl) ?_
      obtain ⟨q7, e8, hf⟩ := ob hf
      refine mcV (As := [.int a2, .int a1]) (rest := []) C hI (c_X5_boundOf l E h_a0 e8) ml_X5_44 kv_X5_boundOf (m_recv C hI h_a0.1 (ce_500 E _ _ _) rfl) rfl rfl ⟨Nat.le_of_ble_eq_true rfl, Nat.le_of_ble_eq_true rfl⟩ ⟨Nat.zero_le _, Nat.zero_le _⟩ rfl rfl hl.1 (Nat.le_of_ble_eq_true rfl) dX5_joinThrough_17 (st1 := [.long q7]) rfl (fun H locs hI => ?_)
      refine lv_lstore hx hb dX5_joinThrough_20 hl (by decide) rfl (fun ls hl => ?_)
      have hl : lv_has ls 8 [(4, .long q7), (0, .ref (ad E 500 0)), (1, .int a1), (2, .int a2), (3, .int a3)] := hl
      refine lv_aload_n hx hb dX5_joinThrough_22 rfl (lv_at hl 1 rfl) ?_
      refine lv_iload_n hx hb dX5_joinThrough_23 rfl (lv_at hl 2 rfl) ?_
      refine lv_iload_n hx hb dX5_joinThrough_24 rfl (lv_at hl 4 rfl) ?_
      obtain ⟨q9, e10, hf⟩ := ob hf
      refine mcV (As := [.int a1, .int a3]) (rest := []) C hI (c_X5_boundOf l E h_a0 e10) ml_X5_44 kv_X5_boundOf (m_recv C hI h_a0.1 (ce_500 E _ _ _) rfl) rfl rfl ⟨Nat.le_of_ble_eq_true rfl, Nat.le_of_ble_eq_true rfl⟩ ⟨Nat.zero_le _, Nat.zero_le _⟩ rfl rfl hl.1 (Nat.le_of_ble_eq_true rfl) dX5_joinThrough_25 (st1 := [.long q9]) rfl (fun H locs hI => ?_)
      refine lv_lstore hx hb dX5_joinThrough_28 hl (by decide) rfl (fun ls hl => ?_)
      have hl : lv_has ls 8 [(6, .long q9), (4, .long q7), (0, .ref (ad E 500 0)), (1, .int a1), (2, .int a2), (3, .int a3)] := hl
      refine lv_lload hx hb dX5_joinThrough_30 (lv_at hl 1 rfl) ?_
      refine lv_ldc2 (v := (-1152921504606846976 : Int64)) hx hb C.1.2.2.2.1 (m_in C kl_X5_15) dX5_joinThrough_32 ?_
      refine W.lcmp hx hb dX5_joinThrough_35 ?_
      refine lv_if_eq (tgt := 59) hx hb dX5_joinThrough_36 rfl (fun hc => ?_) (fun hc => ?_)
      · replace hf := it hf hc
        refine lv_iinc (v := a3 + (1 : Int32)) hx hb dX5_joinThrough_59 hl (k := 5) rfl (ki_1 _) (by decide) rfl (fun ls hl => ?_)
        have hl : lv_has ls 8 [(3, .int (a3 + (1 : Int32))), (6, .long q9), (4, .long q7), (0, .ref (ad E 500 0)), (1, .int a1), (2, .int a2)] := hl
        refine lv_goto (tgt := 9) hx hb dX5_joinThrough_62 rfl ?_
        exact ih _ _ _ _ h_a0 hf hI (lv_sub hl [3, 4, 5, 0] rfl)
      · replace hf := ie hf hc
        refine lv_lload hx hb dX5_joinThrough_39 (lv_at hl 0 rfl) ?_
        refine lv_ldc2 (v := (-1152921504606846976 : Int64)) hx hb C.1.2.2.2.1 (m_in C kl_X5_15) dX5_joinThrough_41 ?_
        refine W.lcmp hx hb dX5_joinThrough_44 ?_
        refine lv_if_eq (tgt := 59) hx hb dX5_joinThrough_45 rfl (fun hc => ?_) (fun hc => ?_)
        · replace hf := it hf hc
          refine lv_iinc (v := a3 + (1 : Int32)) hx hb dX5_joinThrough_59 hl (k := 5) rfl (ki_1 _) (by decide) rfl (fun ls hl => ?_)
          have hl : lv_has ls 8 [(3, .int (a3 + (1 : Int32))), (6, .long q9), (4, .long q7), (0, .ref (ad E 500 0)), (1, .int a1), (2, .int a2)] := hl
          refine lv_goto (tgt := 9) hx hb dX5_joinThrough_62 rfl ?_
          exact ih _ _ _ _ h_a0 hf hI (lv_sub hl [3, 4, 5, 0] rfl)
        · replace hf := ie hf hc
          refine lv_aload_n hx hb dX5_joinThrough_48 rfl (lv_at hl 2 rfl) ?_
          refine lv_iload_n hx hb dX5_joinThrough_49 rfl (lv_at hl 4 rfl) ?_
          refine lv_iload_n hx hb dX5_joinThrough_50 rfl (lv_at hl 5 rfl) ?_
          refine lv_lload hx hb dX5_joinThrough_51 (lv_at hl 1 rfl) ?_
          refine lv_lload hx hb dX5_joinThrough_53 (lv_at hl 0 rfl) ?_
          refine lv_ladd hx hb dX5_joinThrough_55 ?_
          obtain ⟨q11, e12, hf⟩ := ob hf
          refine mcV (As := [.int a2, .int a3, .long (q7 + q9)]) (rest := []) C hI (c_X5_raise l E h_a0 e12) ml_X5_23 kv_X5_raise (m_recv C hI h_a0.1 (ce_500 E _ _ _) rfl) rfl rfl ⟨Nat.le_of_ble_eq_true rfl, Nat.le_of_ble_eq_true rfl⟩ ⟨Nat.zero_le _, Nat.zero_le _⟩ rfl rfl hl.1 (Nat.le_of_ble_eq_true rfl) dX5_joinThrough_56 (st1 := []) rfl (fun H locs hI => ?_)
          refine lv_iinc (v := a3 + (1 : Int32)) hx hb dX5_joinThrough_59 hl (k := 5) rfl (ki_1 _) (by decide) rfl (fun ls hl => ?_)
          have hl : lv_has ls 8 [(3, .int (a3 + (1 : Int32))), (6, .long q9), (4, .long q7), (0, .ref (ad E 500 0)), (1, .int a1), (2, .int a2)] := hl
          refine lv_goto (tgt := 9) hx hb dX5_joinThrough_62 rfl ?_
          exact ih _ _ _ _ h_a0 hf hI (lv_sub hl [3, 4, 5, 0] rfl)
def f_X5_joinThrough_b2 (F : Nat) : Nat → Mm → Int32 → Int32 → Option Mm
 | 0, _, _, _ => none
 | N + 1, μ, a1, a2 =>
 if (3 : Int32) ≤ a2 then
 some μ
 else
 f_X5_joinThrough_b9 F (fun μ a1 a2 => f_X5_joinThrough_b2 F N μ a1 a2) F μ a1 a2 (0 : Int32)
set_option maxHeartbeats 4000000 in
set_option maxRecDepth 100000 in
theorem cb_X5_joinThrough_2 {l : Launch} {E : En} {p : Program} {e : Env} {s : State} {m : MethodId} {av : Array Value} {below : List Frame} {meth : Method} {c : Code} (C : Cx E p s m av c cX5_joinThrough 8 yX5_joinThrough.cls) (hr : meth.sig.returnType = (none : Option FieldType)) (hlk : meth.locks = false) {F : Nat} {z : Mm} : ∀ (N : Nat) (μ : Mm) (a1 : Int32) (a2 : Int32) (h_a0 : l5 E 0), f_X5_joinThrough_b2 F N μ a1 a2 = some z → ∀ {H : Heap} {locs : List Loc} {ls : Array Slot}, Iv E s μ H locs → lv_has ls 8 [(0, .ref (ad E 500 0)), (1, .int a1), (2, .int a2)] → W p l e { frames := 2, cells := 0, slots := 0, locals := 48 } s m av below meth c H locs 0 0 (MQ below (Qm E none z) av s 0 0 (Ad E)) (F0 m 2 ls []) := by
  have hx := C.1.1
  have hb := C.1.2.1
  intro N
  induction N with
  | zero => intro μ a1 a2 h_a0 hf; cases hf
  | succ N ih =>
    intro μ a1 a2 h_a0 hf H locs ls hI hl
    rw [f_X5_joinThrough_b2] at hf
    refine lv_iload_n hx hb dX5_joinThrough_2 rfl (lv_at hl 2 rfl) ?_
    refine lv_iconst (v := (3 : Int32)) hx hb dX5_joinThrough_3 kc_3 ?_
    refine lv_icmp_ge (tgt := 71) hx hb dX5_joinThrough_4 rfl (fun hc => ?_) (fun hc => ?_)
    · replace hf := it hf hc
      obtain rfl := Option.some.inj hf
      exact m_vret C hr hlk hI dX5_joinThrough_71
    · replace hf := ie hf hc
      refine lv_iconst (v := (0 : Int32)) hx hb dX5_joinThrough_7 kc_0 ?_
      refine lv_istore_n hx hb dX5_joinThrough_8 rfl hl (by decide) rfl (fun ls hl => ?_)
      have hl : lv_has ls 8 [(3, .int (0 : Int32)), (0, .ref (ad E 500 0)), (1, .int a1), (2, .int a2)] := hl
      exact cb_X5_joinThrough_9 C hr hlk ih _ _ _ _ _ h_a0 hf hI (lv_sub hl [1, 2, 3, 0] rfl)
def f_X5_joinThrough (F : Nat) (μ : Mm) (p1 : Int32) : Option Mm :=
 f_X5_joinThrough_b2 F F μ p1 (0 : Int32)
set_option maxHeartbeats 4000000 in
set_option maxRecDepth 100000 in
theorem c_X5_joinThrough (l : Launch) (E : En) {F : Nat} {μ : Mm} {p1 : Int32} (h0 : l5 E 0) {z : Mm} (hf : f_X5_joinThrough F μ p1 = some z) : Met l yX5_joinThrough (wt yX5_joinThrough cX5_joinThrough 8 (none : Option FieldType)) { frames := 2, cells := 0, slots := 0, locals := 48 } (Pm E [.ref (ad E 500 0), .int p1] μ) (Qm E none z) 0 0 (Ad E) := by
  unfold f_X5_joinThrough at hf
  refine met_of (cc := cX5_joinThrough) (nL := 8) (ret := (none : Option FieldType)) (by decide) _ (Nat.le_of_ble_eq_true rfl) ?_
  intro p e s m below meth c C hr hlk hI ls hl
  have hx := C.1.1
  have hb := C.1.2.1
  have hl : lv_has ls 8 [(0, .ref (ad E 500 0)), (1, .int p1)] := hl
  refine lv_iconst (v := (0 : Int32)) hx hb dX5_joinThrough_0 kc_0 ?_
  refine lv_istore_n hx hb dX5_joinThrough_1 rfl hl (by decide) rfl (fun ls hl => ?_)
  have hl : lv_has ls 8 [(2, .int (0 : Int32)), (0, .ref (ad E 500 0)), (1, .int p1)] := hl
  exact cb_X5_joinThrough_2 C hr hlk  _ _ _ _ h0 hf hI (lv_sub hl [1, 2, 0] rfl)

theorem dX0_judgeBlocks_0 : decode cX0_judgeBlocks 0 = .ok (.iconst 0, 1) := by decide +kernel
theorem dX0_judgeBlocks_1 : decode cX0_judgeBlocks 1 = .ok (.istore 4, 2) := by decide +kernel
theorem dX0_judgeBlocks_3 : decode cX0_judgeBlocks 3 = .ok (.iload 4, 2) := by decide +kernel
theorem dX0_judgeBlocks_5 : decode cX0_judgeBlocks 5 = .ok (.aload_n 1, 1) := by decide +kernel
theorem dX0_judgeBlocks_6 : decode cX0_judgeBlocks 6 = .ok (.getfield 25, 3) := by decide +kernel
theorem dX0_judgeBlocks_9 : decode cX0_judgeBlocks 9 = .ok (.if_icmp .ge 46, 3) := by decide +kernel
theorem dX0_judgeBlocks_12 : decode cX0_judgeBlocks 12 = .ok (.aload_n 1, 1) := by decide +kernel
theorem dX0_judgeBlocks_13 : decode cX0_judgeBlocks 13 = .ok (.iload 4, 2) := by decide +kernel
theorem dX0_judgeBlocks_15 : decode cX0_judgeBlocks 15 = .ok (.iconst 0, 1) := by decide +kernel
theorem dX0_judgeBlocks_16 : decode cX0_judgeBlocks 16 = .ok (.iload_n 2, 1) := by decide +kernel
theorem dX0_judgeBlocks_17 : decode cX0_judgeBlocks 17 = .ok (.invokevirtual 30, 3) := by decide +kernel
theorem dX0_judgeBlocks_20 : decode cX0_judgeBlocks 20 = .ok (.ifCond .eq 29, 3) := by decide +kernel
theorem dX0_judgeBlocks_23 : decode cX0_judgeBlocks 23 = .ok (.aload_n 1, 1) := by decide +kernel
theorem dX0_judgeBlocks_24 : decode cX0_judgeBlocks 24 = .ok (.iload 4, 2) := by decide +kernel
theorem dX0_judgeBlocks_26 : decode cX0_judgeBlocks 26 = .ok (.iload_n 2, 1) := by decide +kernel
theorem dX0_judgeBlocks_27 : decode cX0_judgeBlocks 27 = .ok (.invokevirtual 34, 3) := by decide +kernel
theorem dX0_judgeBlocks_30 : decode cX0_judgeBlocks 30 = .ok (.istore 5, 2) := by decide +kernel
theorem dX0_judgeBlocks_32 : decode cX0_judgeBlocks 32 = .ok (.aload_n 0, 1) := by decide +kernel
theorem dX0_judgeBlocks_33 : decode cX0_judgeBlocks 33 = .ok (.aload_n 1, 1) := by decide +kernel
theorem dX0_judgeBlocks_34 : decode cX0_judgeBlocks 34 = .ok (.iload 4, 2) := by decide +kernel
theorem dX0_judgeBlocks_36 : decode cX0_judgeBlocks 36 = .ok (.iload 5, 2) := by decide +kernel
theorem dX0_judgeBlocks_38 : decode cX0_judgeBlocks 38 = .ok (.aload_n 1, 1) := by decide +kernel
theorem dX0_judgeBlocks_39 : decode cX0_judgeBlocks 39 = .ok (.iload 5, 2) := by decide +kernel
theorem dX0_judgeBlocks_41 : decode cX0_judgeBlocks 41 = .ok (.iload_n 2, 1) := by decide +kernel
theorem dX0_judgeBlocks_42 : decode cX0_judgeBlocks 42 = .ok (.invokevirtual 38, 3) := by decide +kernel
theorem dX0_judgeBlocks_45 : decode cX0_judgeBlocks 45 = .ok (.iload_n 3, 1) := by decide +kernel
theorem dX0_judgeBlocks_46 : decode cX0_judgeBlocks 46 = .ok (.invokevirtual 41, 3) := by decide +kernel
theorem dX0_judgeBlocks_49 : decode cX0_judgeBlocks 49 = .ok (.iinc 4 1, 3) := by decide +kernel
theorem dX0_judgeBlocks_52 : decode cX0_judgeBlocks 52 = .ok (.goto (-49), 3) := by decide +kernel
theorem dX0_judgeBlocks_55 : decode cX0_judgeBlocks 55 = .ok (.return_, 1) := by decide +kernel
def f_X0_judgeBlocks_b3 (F : Nat) : Nat → Mm → Nat → Int32 → Int32 → Int32 → Option Mm
 | 0, _, _, _, _, _ => none
 | N + 1, μ, a1, a2, a3, a4 =>
 if (μ.1 200 a1 5) ≤ a4 then
 some μ
 else
 (f_X2_isMarkOf μ a1 a4 (0 : Int32) a2).bind fun q9 =>
 if q9 = 0 then
 f_X0_judgeBlocks_b3 F N μ a1 a2 a3 (a4 + (1 : Int32))
 else
 (f_X2_endOfWork F μ a1 a4 a2).bind fun q11 =>
 (f_X2_nextSignOf F μ a1 q11 a2).bind fun q13 =>
 (f_X0_judgeSpan μ a1 a4 q11 q13 a3).bind fun q15 =>
 f_X0_judgeBlocks_b3 F N q15 a1 a2 a3 (a4 + (1 : Int32))
set_option maxHeartbeats 4000000 in
set_option maxRecDepth 100000 in
theorem cb_X0_judgeBlocks_3 {l : Launch} {E : En} {p : Program} {e : Env} {s : State} {m : MethodId} {av : Array Value} {below : List Frame} {meth : Method} {c : Code} (C : Cx E p s m av c cX0_judgeBlocks 6 yX0_judgeBlocks.cls) (hr : meth.sig.returnType = (none : Option FieldType)) (hlk : meth.locks = false) {F : Nat} {z : Mm} : ∀ (N : Nat) (μ : Mm) (a1 : Nat) (a2 : Int32) (a3 : Int32) (a4 : Int32) (h_a0 : l0 E 0) (h_a1 : l2 E a1), f_X0_judgeBlocks_b3 F N μ a1 a2 a3 a4 = some z → ∀ {H : Heap} {locs : List Loc} {ls : Array Slot}, Iv E s μ H locs → lv_has ls 6 [(0, .ref (ad E 0 0)), (1, .ref (ad E 200 a1)), (2, .int a2), (3, .int a3), (4, .int a4)] → W p l e { frames := 4, cells := 0, slots := 0, locals := 88 } s m av below meth c H locs 0 0 (MQ below (Qm E none z) av s 0 0 (Ad E)) (F0 m 3 ls []) := by
  have hx := C.1.1
  have hb := C.1.2.1
  intro N
  induction N with
  | zero => intro μ a1 a2 a3 a4 h_a0 h_a1 hf; cases hf
  | succ N ih =>
    intro μ a1 a2 a3 a4 h_a0 h_a1 hf H locs ls hI hl
    rw [f_X0_judgeBlocks_b3] at hf
    refine lv_iload hx hb dX0_judgeBlocks_3 (lv_at hl 4 rfl) ?_
    refine lv_aload_n hx hb dX0_judgeBlocks_5 rfl (lv_at hl 1 rfl) ?_
    refine gf_2_5 C hI h_a1.1 fl_X0_25 dX0_judgeBlocks_6 ?_
    refine lv_icmp_ge (tgt := 55) hx hb dX0_judgeBlocks_9 rfl (fun hc => ?_) (fun hc => ?_)
    · replace hf := it hf hc
      obtain rfl := Option.some.inj hf
      exact m_vret C hr hlk hI dX0_judgeBlocks_55
    · replace hf := ie hf hc
      refine lv_aload_n hx hb dX0_judgeBlocks_12 rfl (lv_at hl 1 rfl) ?_
      refine lv_iload hx hb dX0_judgeBlocks_13 (lv_at hl 4 rfl) ?_
      refine lv_iconst (v := (0 : Int32)) hx hb dX0_judgeBlocks_15 kc_0 ?_
      refine lv_iload_n hx hb dX0_judgeBlocks_16 rfl (lv_at hl 2 rfl) ?_
      obtain ⟨q9, e10, hf⟩ := ob hf
      refine mcV (As := [.int a4, .int (0 : Int32), .int a2]) (rest := []) C hI (c_X2_isMarkOf l E h_a1 e10) ml_X0_30 kv_X2_isMarkOf (m_recv C hI h_a1.1 (ce_200 E _ _ _) rfl) rfl rfl ⟨Nat.le_of_ble_eq_true rfl, Nat.le_of_ble_eq_true rfl⟩ ⟨Nat.zero_le _, Nat.zero_le _⟩ rfl rfl hl.1 (Nat.le_of_ble_eq_true rfl) dX0_judgeBlocks_17 (st1 := [.int q9]) rfl (fun H locs hI => ?_)
      refine lv_if_eq (tgt := 49) hx hb dX0_judgeBlocks_20 rfl (fun hc => ?_) (fun hc => ?_)
      · replace hf := it hf hc
        refine lv_iinc (v := a4 + (1 : Int32)) hx hb dX0_judgeBlocks_49 hl (k := 4) rfl (ki_1 _) (by decide) rfl (fun ls hl => ?_)
        have hl : lv_has ls 6 [(4, .int (a4 + (1 : Int32))), (0, .ref (ad E 0 0)), (1, .ref (ad E 200 a1)), (2, .int a2), (3, .int a3)] := hl
        refine lv_goto (tgt := 3) hx hb dX0_judgeBlocks_52 rfl ?_
        exact ih _ _ _ _ _ h_a0 h_a1 hf hI (lv_sub hl [1, 2, 3, 4, 0] rfl)
      · replace hf := ie hf hc
        refine lv_aload_n hx hb dX0_judgeBlocks_23 rfl (lv_at hl 1 rfl) ?_
        refine lv_iload hx hb dX0_judgeBlocks_24 (lv_at hl 4 rfl) ?_
        refine lv_iload_n hx hb dX0_judgeBlocks_26 rfl (lv_at hl 2 rfl) ?_
        obtain ⟨q11, e12, hf⟩ := ob hf
        refine mcV (As := [.int a4, .int a2]) (rest := []) C hI (c_X2_endOfWork l E h_a1 e12) ml_X0_34 kv_X2_endOfWork (m_recv C hI h_a1.1 (ce_200 E _ _ _) rfl) rfl rfl ⟨Nat.le_of_ble_eq_true rfl, Nat.le_of_ble_eq_true rfl⟩ ⟨Nat.zero_le _, Nat.zero_le _⟩ rfl rfl hl.1 (Nat.le_of_ble_eq_true rfl) dX0_judgeBlocks_27 (st1 := [.int q11]) rfl (fun H locs hI => ?_)
        refine lv_istore hx hb dX0_judgeBlocks_30 hl (by decide) rfl (fun ls hl => ?_)
        have hl : lv_has ls 6 [(5, .int q11), (0, .ref (ad E 0 0)), (1, .ref (ad E 200 a1)), (2, .int a2), (3, .int a3), (4, .int a4)] := hl
        refine lv_aload_n hx hb dX0_judgeBlocks_32 rfl (lv_at hl 1 rfl) ?_
        refine lv_aload_n hx hb dX0_judgeBlocks_33 rfl (lv_at hl 2 rfl) ?_
        refine lv_iload hx hb dX0_judgeBlocks_34 (lv_at hl 5 rfl) ?_
        refine lv_iload hx hb dX0_judgeBlocks_36 (lv_at hl 0 rfl) ?_
        refine lv_aload_n hx hb dX0_judgeBlocks_38 rfl (lv_at hl 2 rfl) ?_
        refine lv_iload hx hb dX0_judgeBlocks_39 (lv_at hl 0 rfl) ?_
        refine lv_iload_n hx hb dX0_judgeBlocks_41 rfl (lv_at hl 3 rfl) ?_
        obtain ⟨q13, e14, hf⟩ := ob hf
        refine mcV (As := [.int q11, .int a2]) (rest := [.int q11, .int a4, .ref (ad E 200 a1), .ref (ad E 0 0)]) C hI (c_X2_nextSignOf l E h_a1 e14) ml_X0_38 kv_X2_nextSignOf (m_recv C hI h_a1.1 (ce_200 E _ _ _) rfl) rfl rfl ⟨Nat.le_of_ble_eq_true rfl, Nat.le_of_ble_eq_true rfl⟩ ⟨Nat.zero_le _, Nat.zero_le _⟩ rfl rfl hl.1 (Nat.le_of_ble_eq_true rfl) dX0_judgeBlocks_42 (st1 := [.int q13, .int q11, .int a4, .ref (ad E 200 a1), .ref (ad E 0 0)]) rfl (fun H locs hI => ?_)
        refine lv_iload_n hx hb dX0_judgeBlocks_45 rfl (lv_at hl 4 rfl) ?_
        obtain ⟨q15, e16, hf⟩ := ob hf
        refine mcV (As := [.ref (ad E 200 a1), .int a4, .int q11, .int q13, .int a3]) (rest := []) C hI (c_X0_judgeSpan l E h_a0 h_a1 e16) ml_X0_41 kv_X0_judgeSpan (m_recv C hI h_a0.1 (ce_0 E _ _ _) rfl) rfl rfl ⟨Nat.le_of_ble_eq_true rfl, Nat.le_of_ble_eq_true rfl⟩ ⟨Nat.zero_le _, Nat.zero_le _⟩ rfl rfl hl.1 (Nat.le_of_ble_eq_true rfl) dX0_judgeBlocks_46 (st1 := []) rfl (fun H locs hI => ?_)
        refine lv_iinc (v := a4 + (1 : Int32)) hx hb dX0_judgeBlocks_49 hl (k := 5) rfl (ki_1 _) (by decide) rfl (fun ls hl => ?_)
        have hl : lv_has ls 6 [(4, .int (a4 + (1 : Int32))), (5, .int q11), (0, .ref (ad E 0 0)), (1, .ref (ad E 200 a1)), (2, .int a2), (3, .int a3)] := hl
        refine lv_goto (tgt := 3) hx hb dX0_judgeBlocks_52 rfl ?_
        exact ih _ _ _ _ _ h_a0 h_a1 hf hI (lv_sub hl [2, 3, 4, 5, 0] rfl)
def f_X0_judgeBlocks (F : Nat) (μ : Mm) (n1 : Nat) (p2 : Int32) (p3 : Int32) : Option Mm :=
 f_X0_judgeBlocks_b3 F F μ n1 p2 p3 (0 : Int32)
set_option maxHeartbeats 4000000 in
set_option maxRecDepth 100000 in
theorem c_X0_judgeBlocks (l : Launch) (E : En) {F : Nat} {μ : Mm} {n1 : Nat} {p2 : Int32} {p3 : Int32} (h0 : l0 E 0) (h1 : l2 E n1) {z : Mm} (hf : f_X0_judgeBlocks F μ n1 p2 p3 = some z) : Met l yX0_judgeBlocks (wt yX0_judgeBlocks cX0_judgeBlocks 6 (none : Option FieldType)) { frames := 4, cells := 0, slots := 0, locals := 88 } (Pm E [.ref (ad E 0 0), .ref (ad E 200 n1), .int p2, .int p3] μ) (Qm E none z) 0 0 (Ad E) := by
  unfold f_X0_judgeBlocks at hf
  refine met_of (cc := cX0_judgeBlocks) (nL := 6) (ret := (none : Option FieldType)) (by decide) _ (Nat.le_of_ble_eq_true rfl) ?_
  intro p e s m below meth c C hr hlk hI ls hl
  have hx := C.1.1
  have hb := C.1.2.1
  have hl : lv_has ls 6 [(0, .ref (ad E 0 0)), (1, .ref (ad E 200 n1)), (2, .int p2), (3, .int p3)] := hl
  refine lv_iconst (v := (0 : Int32)) hx hb dX0_judgeBlocks_0 kc_0 ?_
  refine lv_istore hx hb dX0_judgeBlocks_1 hl (by decide) rfl (fun ls hl => ?_)
  have hl : lv_has ls 6 [(4, .int (0 : Int32)), (0, .ref (ad E 0 0)), (1, .ref (ad E 200 n1)), (2, .int p2), (3, .int p3)] := hl
  exact cb_X0_judgeBlocks_3 C hr hlk  _ _ _ _ _ _ h0 h1 hf hI (lv_sub hl [1, 2, 3, 4, 0] rfl)

theorem dX0_judgeLocks_0 : decode cX0_judgeLocks 0 = .ok (.iconst 0, 1) := by decide +kernel
theorem dX0_judgeLocks_1 : decode cX0_judgeLocks 1 = .ok (.istore 4, 2) := by decide +kernel
theorem dX0_judgeLocks_3 : decode cX0_judgeLocks 3 = .ok (.iload 4, 2) := by decide +kernel
theorem dX0_judgeLocks_5 : decode cX0_judgeLocks 5 = .ok (.aload_n 1, 1) := by decide +kernel
theorem dX0_judgeLocks_6 : decode cX0_judgeLocks 6 = .ok (.getfield 25, 3) := by decide +kernel
theorem dX0_judgeLocks_9 : decode cX0_judgeLocks 9 = .ok (.if_icmp .ge 41, 3) := by decide +kernel
theorem dX0_judgeLocks_12 : decode cX0_judgeLocks 12 = .ok (.aload_n 1, 1) := by decide +kernel
theorem dX0_judgeLocks_13 : decode cX0_judgeLocks 13 = .ok (.iload 4, 2) := by decide +kernel
theorem dX0_judgeLocks_15 : decode cX0_judgeLocks 15 = .ok (.iconst 4, 1) := by decide +kernel
theorem dX0_judgeLocks_16 : decode cX0_judgeLocks 16 = .ok (.iload_n 2, 1) := by decide +kernel
theorem dX0_judgeLocks_17 : decode cX0_judgeLocks 17 = .ok (.invokevirtual 45, 3) := by decide +kernel
theorem dX0_judgeLocks_20 : decode cX0_judgeLocks 20 = .ok (.ifCond .eq 24, 3) := by decide +kernel
theorem dX0_judgeLocks_23 : decode cX0_judgeLocks 23 = .ok (.aload_n 1, 1) := by decide +kernel
theorem dX0_judgeLocks_24 : decode cX0_judgeLocks 24 = .ok (.iload 4, 2) := by decide +kernel
theorem dX0_judgeLocks_26 : decode cX0_judgeLocks 26 = .ok (.iload_n 2, 1) := by decide +kernel
theorem dX0_judgeLocks_27 : decode cX0_judgeLocks 27 = .ok (.invokevirtual 48, 3) := by decide +kernel
theorem dX0_judgeLocks_30 : decode cX0_judgeLocks 30 = .ok (.istore 5, 2) := by decide +kernel
theorem dX0_judgeLocks_32 : decode cX0_judgeLocks 32 = .ok (.aload_n 0, 1) := by decide +kernel
theorem dX0_judgeLocks_33 : decode cX0_judgeLocks 33 = .ok (.aload_n 1, 1) := by decide +kernel
theorem dX0_judgeLocks_34 : decode cX0_judgeLocks 34 = .ok (.iload 4, 2) := by decide +kernel
theorem dX0_judgeLocks_36 : decode cX0_judgeLocks 36 = .ok (.iload 5, 2) := by decide +kernel
theorem dX0_judgeLocks_38 : decode cX0_judgeLocks 38 = .ok (.iload 5, 2) := by decide +kernel
theorem dX0_judgeLocks_40 : decode cX0_judgeLocks 40 = .ok (.iload_n 3, 1) := by decide +kernel
theorem dX0_judgeLocks_41 : decode cX0_judgeLocks 41 = .ok (.invokevirtual 41, 3) := by decide +kernel
theorem dX0_judgeLocks_44 : decode cX0_judgeLocks 44 = .ok (.iinc 4 1, 3) := by decide +kernel
theorem dX0_judgeLocks_47 : decode cX0_judgeLocks 47 = .ok (.goto (-44), 3) := by decide +kernel
theorem dX0_judgeLocks_50 : decode cX0_judgeLocks 50 = .ok (.return_, 1) := by decide +kernel
def f_X0_judgeLocks_b3 (F : Nat) : Nat → Mm → Nat → Int32 → Int32 → Int32 → Option Mm
 | 0, _, _, _, _, _ => none
 | N + 1, μ, a1, a2, a3, a4 =>
 if (μ.1 200 a1 5) ≤ a4 then
 some μ
 else
 (f_X2_isMarkWith μ a1 a4 (4 : Int32) a2).bind fun q7 =>
 if q7 = 0 then
 f_X0_judgeLocks_b3 F N μ a1 a2 a3 (a4 + (1 : Int32))
 else
 (f_X2_endOfHold F μ a1 a4 a2).bind fun q9 =>
 (f_X0_judgeSpan μ a1 a4 q9 q9 a3).bind fun q11 =>
 f_X0_judgeLocks_b3 F N q11 a1 a2 a3 (a4 + (1 : Int32))
set_option maxHeartbeats 4000000 in
set_option maxRecDepth 100000 in
theorem cb_X0_judgeLocks_3 {l : Launch} {E : En} {p : Program} {e : Env} {s : State} {m : MethodId} {av : Array Value} {below : List Frame} {meth : Method} {c : Code} (C : Cx E p s m av c cX0_judgeLocks 6 yX0_judgeLocks.cls) (hr : meth.sig.returnType = (none : Option FieldType)) (hlk : meth.locks = false) {F : Nat} {z : Mm} : ∀ (N : Nat) (μ : Mm) (a1 : Nat) (a2 : Int32) (a3 : Int32) (a4 : Int32) (h_a0 : l0 E 0) (h_a1 : l2 E a1), f_X0_judgeLocks_b3 F N μ a1 a2 a3 a4 = some z → ∀ {H : Heap} {locs : List Loc} {ls : Array Slot}, Iv E s μ H locs → lv_has ls 6 [(0, .ref (ad E 0 0)), (1, .ref (ad E 200 a1)), (2, .int a2), (3, .int a3), (4, .int a4)] → W p l e { frames := 4, cells := 0, slots := 0, locals := 88 } s m av below meth c H locs 0 0 (MQ below (Qm E none z) av s 0 0 (Ad E)) (F0 m 3 ls []) := by
  have hx := C.1.1
  have hb := C.1.2.1
  intro N
  induction N with
  | zero => intro μ a1 a2 a3 a4 h_a0 h_a1 hf; cases hf
  | succ N ih =>
    intro μ a1 a2 a3 a4 h_a0 h_a1 hf H locs ls hI hl
    rw [f_X0_judgeLocks_b3] at hf
    refine lv_iload hx hb dX0_judgeLocks_3 (lv_at hl 4 rfl) ?_
    refine lv_aload_n hx hb dX0_judgeLocks_5 rfl (lv_at hl 1 rfl) ?_
    refine gf_2_5 C hI h_a1.1 fl_X0_25 dX0_judgeLocks_6 ?_
    refine lv_icmp_ge (tgt := 50) hx hb dX0_judgeLocks_9 rfl (fun hc => ?_) (fun hc => ?_)
    · replace hf := it hf hc
      obtain rfl := Option.some.inj hf
      exact m_vret C hr hlk hI dX0_judgeLocks_50
    · replace hf := ie hf hc
      refine lv_aload_n hx hb dX0_judgeLocks_12 rfl (lv_at hl 1 rfl) ?_
      refine lv_iload hx hb dX0_judgeLocks_13 (lv_at hl 4 rfl) ?_
      refine lv_iconst (v := (4 : Int32)) hx hb dX0_judgeLocks_15 kc_4 ?_
      refine lv_iload_n hx hb dX0_judgeLocks_16 rfl (lv_at hl 2 rfl) ?_
      obtain ⟨q7, e8, hf⟩ := ob hf
      refine mcV (As := [.int a4, .int (4 : Int32), .int a2]) (rest := []) C hI (c_X2_isMarkWith l E h_a1 e8) ml_X0_45 kv_X2_isMarkWith (m_recv C hI h_a1.1 (ce_200 E _ _ _) rfl) rfl rfl ⟨Nat.le_of_ble_eq_true rfl, Nat.le_of_ble_eq_true rfl⟩ ⟨Nat.zero_le _, Nat.zero_le _⟩ rfl rfl hl.1 (Nat.le_of_ble_eq_true rfl) dX0_judgeLocks_17 (st1 := [.int q7]) rfl (fun H locs hI => ?_)
      refine lv_if_eq (tgt := 44) hx hb dX0_judgeLocks_20 rfl (fun hc => ?_) (fun hc => ?_)
      · replace hf := it hf hc
        refine lv_iinc (v := a4 + (1 : Int32)) hx hb dX0_judgeLocks_44 hl (k := 4) rfl (ki_1 _) (by decide) rfl (fun ls hl => ?_)
        have hl : lv_has ls 6 [(4, .int (a4 + (1 : Int32))), (0, .ref (ad E 0 0)), (1, .ref (ad E 200 a1)), (2, .int a2), (3, .int a3)] := hl
        refine lv_goto (tgt := 3) hx hb dX0_judgeLocks_47 rfl ?_
        exact ih _ _ _ _ _ h_a0 h_a1 hf hI (lv_sub hl [1, 2, 3, 4, 0] rfl)
      · replace hf := ie hf hc
        refine lv_aload_n hx hb dX0_judgeLocks_23 rfl (lv_at hl 1 rfl) ?_
        refine lv_iload hx hb dX0_judgeLocks_24 (lv_at hl 4 rfl) ?_
        refine lv_iload_n hx hb dX0_judgeLocks_26 rfl (lv_at hl 2 rfl) ?_
        obtain ⟨q9, e10, hf⟩ := ob hf
        refine mcV (As := [.int a4, .int a2]) (rest := []) C hI (c_X2_endOfHold l E h_a1 e10) ml_X0_48 kv_X2_endOfHold (m_recv C hI h_a1.1 (ce_200 E _ _ _) rfl) rfl rfl ⟨Nat.le_of_ble_eq_true rfl, Nat.le_of_ble_eq_true rfl⟩ ⟨Nat.zero_le _, Nat.zero_le _⟩ rfl rfl hl.1 (Nat.le_of_ble_eq_true rfl) dX0_judgeLocks_27 (st1 := [.int q9]) rfl (fun H locs hI => ?_)
        refine lv_istore hx hb dX0_judgeLocks_30 hl (by decide) rfl (fun ls hl => ?_)
        have hl : lv_has ls 6 [(5, .int q9), (0, .ref (ad E 0 0)), (1, .ref (ad E 200 a1)), (2, .int a2), (3, .int a3), (4, .int a4)] := hl
        refine lv_aload_n hx hb dX0_judgeLocks_32 rfl (lv_at hl 1 rfl) ?_
        refine lv_aload_n hx hb dX0_judgeLocks_33 rfl (lv_at hl 2 rfl) ?_
        refine lv_iload hx hb dX0_judgeLocks_34 (lv_at hl 5 rfl) ?_
        refine lv_iload hx hb dX0_judgeLocks_36 (lv_at hl 0 rfl) ?_
        refine lv_iload hx hb dX0_judgeLocks_38 (lv_at hl 0 rfl) ?_
        refine lv_iload_n hx hb dX0_judgeLocks_40 rfl (lv_at hl 4 rfl) ?_
        obtain ⟨q11, e12, hf⟩ := ob hf
        refine mcV (As := [.ref (ad E 200 a1), .int a4, .int q9, .int q9, .int a3]) (rest := []) C hI (c_X0_judgeSpan l E h_a0 h_a1 e12) ml_X0_41 kv_X0_judgeSpan (m_recv C hI h_a0.1 (ce_0 E _ _ _) rfl) rfl rfl ⟨Nat.le_of_ble_eq_true rfl, Nat.le_of_ble_eq_true rfl⟩ ⟨Nat.zero_le _, Nat.zero_le _⟩ rfl rfl hl.1 (Nat.le_of_ble_eq_true rfl) dX0_judgeLocks_41 (st1 := []) rfl (fun H locs hI => ?_)
        refine lv_iinc (v := a4 + (1 : Int32)) hx hb dX0_judgeLocks_44 hl (k := 5) rfl (ki_1 _) (by decide) rfl (fun ls hl => ?_)
        have hl : lv_has ls 6 [(4, .int (a4 + (1 : Int32))), (5, .int q9), (0, .ref (ad E 0 0)), (1, .ref (ad E 200 a1)), (2, .int a2), (3, .int a3)] := hl
        refine lv_goto (tgt := 3) hx hb dX0_judgeLocks_47 rfl ?_
        exact ih _ _ _ _ _ h_a0 h_a1 hf hI (lv_sub hl [2, 3, 4, 5, 0] rfl)
def f_X0_judgeLocks (F : Nat) (μ : Mm) (n1 : Nat) (p2 : Int32) (p3 : Int32) : Option Mm :=
 f_X0_judgeLocks_b3 F F μ n1 p2 p3 (0 : Int32)
set_option maxHeartbeats 4000000 in
set_option maxRecDepth 100000 in
theorem c_X0_judgeLocks (l : Launch) (E : En) {F : Nat} {μ : Mm} {n1 : Nat} {p2 : Int32} {p3 : Int32} (h0 : l0 E 0) (h1 : l2 E n1) {z : Mm} (hf : f_X0_judgeLocks F μ n1 p2 p3 = some z) : Met l yX0_judgeLocks (wt yX0_judgeLocks cX0_judgeLocks 6 (none : Option FieldType)) { frames := 4, cells := 0, slots := 0, locals := 88 } (Pm E [.ref (ad E 0 0), .ref (ad E 200 n1), .int p2, .int p3] μ) (Qm E none z) 0 0 (Ad E) := by
  unfold f_X0_judgeLocks at hf
  refine met_of (cc := cX0_judgeLocks) (nL := 6) (ret := (none : Option FieldType)) (by decide) _ (Nat.le_of_ble_eq_true rfl) ?_
  intro p e s m below meth c C hr hlk hI ls hl
  have hx := C.1.1
  have hb := C.1.2.1
  have hl : lv_has ls 6 [(0, .ref (ad E 0 0)), (1, .ref (ad E 200 n1)), (2, .int p2), (3, .int p3)] := hl
  refine lv_iconst (v := (0 : Int32)) hx hb dX0_judgeLocks_0 kc_0 ?_
  refine lv_istore hx hb dX0_judgeLocks_1 hl (by decide) rfl (fun ls hl => ?_)
  have hl : lv_has ls 6 [(4, .int (0 : Int32)), (0, .ref (ad E 0 0)), (1, .ref (ad E 200 n1)), (2, .int p2), (3, .int p3)] := hl
  exact cb_X0_judgeLocks_3 C hr hlk  _ _ _ _ _ _ h0 h1 hf hI (lv_sub hl [1, 2, 3, 4, 0] rfl)

theorem dX0_judgeIdle_0 : decode cX0_judgeIdle 0 = .ok (.aload_n 2, 1) := by decide +kernel
theorem dX0_judgeIdle_1 : decode cX0_judgeIdle 1 = .ok (.invokevirtual 69, 3) := by decide +kernel
theorem dX0_judgeIdle_4 : decode cX0_judgeIdle 4 = .ok (.iconst 0, 1) := by decide +kernel
theorem dX0_judgeIdle_5 : decode cX0_judgeIdle 5 = .ok (.istore_n 3, 1) := by decide +kernel
theorem dX0_judgeIdle_6 : decode cX0_judgeIdle 6 = .ok (.iload_n 3, 1) := by decide +kernel
theorem dX0_judgeIdle_7 : decode cX0_judgeIdle 7 = .ok (.iconst 1, 1) := by decide +kernel
theorem dX0_judgeIdle_8 : decode cX0_judgeIdle 8 = .ok (.iadd, 1) := by decide +kernel
theorem dX0_judgeIdle_9 : decode cX0_judgeIdle 9 = .ok (.aload_n 1, 1) := by decide +kernel
theorem dX0_judgeIdle_10 : decode cX0_judgeIdle 10 = .ok (.getfield 25, 3) := by decide +kernel
theorem dX0_judgeIdle_13 : decode cX0_judgeIdle 13 = .ok (.if_icmp .ge 31, 3) := by decide +kernel
theorem dX0_judgeIdle_16 : decode cX0_judgeIdle 16 = .ok (.aload_n 2, 1) := by decide +kernel
theorem dX0_judgeIdle_17 : decode cX0_judgeIdle 17 = .ok (.aload_n 1, 1) := by decide +kernel
theorem dX0_judgeIdle_18 : decode cX0_judgeIdle 18 = .ok (.iload_n 3, 1) := by decide +kernel
theorem dX0_judgeIdle_19 : decode cX0_judgeIdle 19 = .ok (.invokevirtual 74, 3) := by decide +kernel
theorem dX0_judgeIdle_22 : decode cX0_judgeIdle 22 = .ok (.aload_n 2, 1) := by decide +kernel
theorem dX0_judgeIdle_23 : decode cX0_judgeIdle 23 = .ok (.invokevirtual 78, 3) := by decide +kernel
theorem dX0_judgeIdle_26 : decode cX0_judgeIdle 26 = .ok (.ifCond .eq 12, 3) := by decide +kernel
theorem dX0_judgeIdle_29 : decode cX0_judgeIdle 29 = .ok (.aload_n 0, 1) := by decide +kernel
theorem dX0_judgeIdle_30 : decode cX0_judgeIdle 30 = .ok (.aload_n 1, 1) := by decide +kernel
theorem dX0_judgeIdle_31 : decode cX0_judgeIdle 31 = .ok (.iload_n 3, 1) := by decide +kernel
theorem dX0_judgeIdle_32 : decode cX0_judgeIdle 32 = .ok (.invokevirtual 51, 3) := by decide +kernel
theorem dX0_judgeIdle_35 : decode cX0_judgeIdle 35 = .ok (.invokevirtual 58, 3) := by decide +kernel
theorem dX0_judgeIdle_38 : decode cX0_judgeIdle 38 = .ok (.iinc 3 1, 3) := by decide +kernel
theorem dX0_judgeIdle_41 : decode cX0_judgeIdle 41 = .ok (.goto (-35), 3) := by decide +kernel
theorem dX0_judgeIdle_44 : decode cX0_judgeIdle 44 = .ok (.return_, 1) := by decide +kernel
def f_X0_judgeIdle_b6 (F : Nat) : Nat → Mm → Nat → Int32 → Option Mm
 | 0, _, _, _ => none
 | N + 1, μ, a1, a3 =>
 if (μ.1 200 a1 5) ≤ (a3 + (1 : Int32)) then
 some μ
 else
 (f_X8_step μ a1 a3).bind fun q11 =>
 (f_X8_wastes F q11).bind fun q13 =>
 if q13 = 0 then
 f_X0_judgeIdle_b6 F N q11 a1 (a3 + (1 : Int32))
 else
 (f_X2_timeOf q11 a1 a3).bind fun q15 =>
 (f_X0_addSure q11 q15).bind fun q17 =>
 f_X0_judgeIdle_b6 F N q17 a1 (a3 + (1 : Int32))
set_option maxHeartbeats 4000000 in
set_option maxRecDepth 100000 in
theorem cb_X0_judgeIdle_6 {l : Launch} {E : En} {p : Program} {e : Env} {s : State} {m : MethodId} {av : Array Value} {below : List Frame} {meth : Method} {c : Code} (C : Cx E p s m av c cX0_judgeIdle 4 yX0_judgeIdle.cls) (hr : meth.sig.returnType = (none : Option FieldType)) (hlk : meth.locks = false) {F : Nat} {z : Mm} : ∀ (N : Nat) (μ : Mm) (a1 : Nat) (a3 : Int32) (h_a0 : l0 E 0) (h_a1 : l2 E a1) (h_a2 : l8 E 0), f_X0_judgeIdle_b6 F N μ a1 a3 = some z → ∀ {H : Heap} {locs : List Loc} {ls : Array Slot}, Iv E s μ H locs → lv_has ls 4 [(0, .ref (ad E 0 0)), (1, .ref (ad E 200 a1)), (2, .ref (ad E 800 0)), (3, .int a3)] → W p l e { frames := 4, cells := 0, slots := 0, locals := 89 } s m av below meth c H locs 0 0 (MQ below (Qm E none z) av s 0 0 (Ad E)) (F0 m 6 ls []) := by
  have hx := C.1.1
  have hb := C.1.2.1
  intro N
  induction N with
  | zero => intro μ a1 a3 h_a0 h_a1 h_a2 hf; cases hf
  | succ N ih =>
    intro μ a1 a3 h_a0 h_a1 h_a2 hf H locs ls hI hl
    rw [f_X0_judgeIdle_b6] at hf
    refine lv_iload_n hx hb dX0_judgeIdle_6 rfl (lv_at hl 3 rfl) ?_
    refine lv_iconst (v := (1 : Int32)) hx hb dX0_judgeIdle_7 kc_1 ?_
    refine lv_iadd hx hb dX0_judgeIdle_8 ?_
    refine lv_aload_n hx hb dX0_judgeIdle_9 rfl (lv_at hl 1 rfl) ?_
    refine gf_2_5 C hI h_a1.1 fl_X0_25 dX0_judgeIdle_10 ?_
    refine lv_icmp_ge (tgt := 44) hx hb dX0_judgeIdle_13 rfl (fun hc => ?_) (fun hc => ?_)
    · replace hf := it hf hc
      obtain rfl := Option.some.inj hf
      exact m_vret C hr hlk hI dX0_judgeIdle_44
    · replace hf := ie hf hc
      refine lv_aload_n hx hb dX0_judgeIdle_16 rfl (lv_at hl 2 rfl) ?_
      refine lv_aload_n hx hb dX0_judgeIdle_17 rfl (lv_at hl 1 rfl) ?_
      refine lv_iload_n hx hb dX0_judgeIdle_18 rfl (lv_at hl 3 rfl) ?_
      obtain ⟨q11, e12, hf⟩ := ob hf
      refine mcV (As := [.ref (ad E 200 a1), .int a3]) (rest := []) C hI (c_X8_step l E h_a2 h_a1 e12) ml_X0_74 kv_X8_step (m_recv C hI h_a2.1 (ce_800 E _ _ _) rfl) rfl rfl ⟨Nat.le_of_ble_eq_true rfl, Nat.le_of_ble_eq_true rfl⟩ ⟨Nat.zero_le _, Nat.zero_le _⟩ rfl rfl hl.1 (Nat.le_of_ble_eq_true rfl) dX0_judgeIdle_19 (st1 := []) rfl (fun H locs hI => ?_)
      refine lv_aload_n hx hb dX0_judgeIdle_22 rfl (lv_at hl 2 rfl) ?_
      obtain ⟨q13, e14, hf⟩ := ob hf
      refine mcV (As := []) (rest := []) C hI (c_X8_wastes l E h_a2 e14) ml_X0_78 kv_X8_wastes (m_recv C hI h_a2.1 (ce_800 E _ _ _) rfl) rfl rfl ⟨Nat.le_of_ble_eq_true rfl, Nat.le_of_ble_eq_true rfl⟩ ⟨Nat.zero_le _, Nat.zero_le _⟩ rfl rfl hl.1 (Nat.le_of_ble_eq_true rfl) dX0_judgeIdle_23 (st1 := [.int q13]) rfl (fun H locs hI => ?_)
      refine lv_if_eq (tgt := 38) hx hb dX0_judgeIdle_26 rfl (fun hc => ?_) (fun hc => ?_)
      · replace hf := it hf hc
        refine lv_iinc (v := a3 + (1 : Int32)) hx hb dX0_judgeIdle_38 hl (k := 3) rfl (ki_1 _) (by decide) rfl (fun ls hl => ?_)
        have hl : lv_has ls 4 [(3, .int (a3 + (1 : Int32))), (0, .ref (ad E 0 0)), (1, .ref (ad E 200 a1)), (2, .ref (ad E 800 0))] := hl
        refine lv_goto (tgt := 6) hx hb dX0_judgeIdle_41 rfl ?_
        exact ih _ _ _ h_a0 h_a1 h_a2 hf hI (lv_sub hl [1, 2, 3, 0] rfl)
      · replace hf := ie hf hc
        refine lv_aload_n hx hb dX0_judgeIdle_29 rfl (lv_at hl 0 rfl) ?_
        refine lv_aload_n hx hb dX0_judgeIdle_30 rfl (lv_at hl 1 rfl) ?_
        refine lv_iload_n hx hb dX0_judgeIdle_31 rfl (lv_at hl 3 rfl) ?_
        obtain ⟨q15, e16, hf⟩ := ob hf
        refine mcV (As := [.int a3]) (rest := [.ref (ad E 0 0)]) C hI (c_X2_timeOf l E h_a1 e16) ml_X0_51 kv_X2_timeOf (m_recv C hI h_a1.1 (ce_200 E _ _ _) rfl) rfl rfl ⟨Nat.le_of_ble_eq_true rfl, Nat.le_of_ble_eq_true rfl⟩ ⟨Nat.zero_le _, Nat.zero_le _⟩ rfl rfl hl.1 (Nat.le_of_ble_eq_true rfl) dX0_judgeIdle_32 (st1 := [.int q15, .ref (ad E 0 0)]) rfl (fun H locs hI => ?_)
        obtain ⟨q17, e18, hf⟩ := ob hf
        refine mcV (As := [.int q15]) (rest := []) C hI (c_X0_addSure l E h_a0 e18) ml_X0_58 kv_X0_addSure (m_recv C hI h_a0.1 (ce_0 E _ _ _) rfl) rfl rfl ⟨Nat.le_of_ble_eq_true rfl, Nat.le_of_ble_eq_true rfl⟩ ⟨Nat.zero_le _, Nat.zero_le _⟩ rfl rfl hl.1 (Nat.le_of_ble_eq_true rfl) dX0_judgeIdle_35 (st1 := []) rfl (fun H locs hI => ?_)
        refine lv_iinc (v := a3 + (1 : Int32)) hx hb dX0_judgeIdle_38 hl (k := 3) rfl (ki_1 _) (by decide) rfl (fun ls hl => ?_)
        have hl : lv_has ls 4 [(3, .int (a3 + (1 : Int32))), (0, .ref (ad E 0 0)), (1, .ref (ad E 200 a1)), (2, .ref (ad E 800 0))] := hl
        refine lv_goto (tgt := 6) hx hb dX0_judgeIdle_41 rfl ?_
        exact ih _ _ _ h_a0 h_a1 h_a2 hf hI (lv_sub hl [1, 2, 3, 0] rfl)
def f_X0_judgeIdle (F : Nat) (μ : Mm) (n1 : Nat) : Option Mm :=
 (f_X8_start μ).bind fun q19 =>
 f_X0_judgeIdle_b6 F F q19 n1 (0 : Int32)
set_option maxHeartbeats 4000000 in
set_option maxRecDepth 100000 in
theorem c_X0_judgeIdle (l : Launch) (E : En) {F : Nat} {μ : Mm} {n1 : Nat} (h0 : l0 E 0) (h1 : l2 E n1) (h2 : l8 E 0) {z : Mm} (hf : f_X0_judgeIdle F μ n1 = some z) : Met l yX0_judgeIdle (wt yX0_judgeIdle cX0_judgeIdle 4 (none : Option FieldType)) { frames := 4, cells := 0, slots := 0, locals := 89 } (Pm E [.ref (ad E 0 0), .ref (ad E 200 n1), .ref (ad E 800 0)] μ) (Qm E none z) 0 0 (Ad E) := by
  unfold f_X0_judgeIdle at hf
  refine met_of (cc := cX0_judgeIdle) (nL := 4) (ret := (none : Option FieldType)) (by decide) _ (Nat.le_of_ble_eq_true rfl) ?_
  intro p e s m below meth c C hr hlk hI ls hl
  have hx := C.1.1
  have hb := C.1.2.1
  have hl : lv_has ls 4 [(0, .ref (ad E 0 0)), (1, .ref (ad E 200 n1)), (2, .ref (ad E 800 0))] := hl
  refine lv_aload_n hx hb dX0_judgeIdle_0 rfl (lv_at hl 2 rfl) ?_
  obtain ⟨q19, e20, hf⟩ := ob hf
  refine mcV (As := []) (rest := []) C hI (c_X8_start l E h2 e20) ml_X0_69 kv_X8_start (m_recv C hI h2.1 (ce_800 E _ _ _) rfl) rfl rfl ⟨Nat.le_of_ble_eq_true rfl, Nat.le_of_ble_eq_true rfl⟩ ⟨Nat.zero_le _, Nat.zero_le _⟩ rfl rfl hl.1 (Nat.le_of_ble_eq_true rfl) dX0_judgeIdle_1 (st1 := []) rfl (fun H locs hI => ?_)
  refine lv_iconst (v := (0 : Int32)) hx hb dX0_judgeIdle_4 kc_0 ?_
  refine lv_istore_n hx hb dX0_judgeIdle_5 rfl hl (by decide) rfl (fun ls hl => ?_)
  have hl : lv_has ls 4 [(3, .int (0 : Int32)), (0, .ref (ad E 0 0)), (1, .ref (ad E 200 n1)), (2, .ref (ad E 800 0))] := hl
  exact cb_X0_judgeIdle_6 C hr hlk  _ _ _ _ h0 h1 h2 hf hI (lv_sub hl [1, 2, 3, 0] rfl)

theorem dX5_join_0 : decode cX5_join 0 = .ok (.aload_n 0, 1) := by decide +kernel
theorem dX5_join_1 : decode cX5_join 1 = .ok (.getfield 9, 3) := by decide +kernel
theorem dX5_join_4 : decode cX5_join 4 = .ok (.ldc2_w 15, 3) := by decide +kernel
theorem dX5_join_7 : decode cX5_join 7 = .ok (.invokestatic 17, 3) := by decide +kernel
theorem dX5_join_10 : decode cX5_join 10 = .ok (.iconst 0, 1) := by decide +kernel
theorem dX5_join_11 : decode cX5_join 11 = .ok (.istore_n 2, 1) := by decide +kernel
theorem dX5_join_12 : decode cX5_join 12 = .ok (.iload_n 2, 1) := by decide +kernel
theorem dX5_join_13 : decode cX5_join 13 = .ok (.iconst 3, 1) := by decide +kernel
theorem dX5_join_14 : decode cX5_join 14 = .ok (.if_icmp .ge 16, 3) := by decide +kernel
theorem dX5_join_17 : decode cX5_join 17 = .ok (.aload_n 0, 1) := by decide +kernel
theorem dX5_join_18 : decode cX5_join 18 = .ok (.iload_n 2, 1) := by decide +kernel
theorem dX5_join_19 : decode cX5_join 19 = .ok (.iload_n 2, 1) := by decide +kernel
theorem dX5_join_20 : decode cX5_join 20 = .ok (.lconst 0, 1) := by decide +kernel
theorem dX5_join_21 : decode cX5_join 21 = .ok (.invokevirtual 23, 3) := by decide +kernel
theorem dX5_join_24 : decode cX5_join 24 = .ok (.iinc 2 1, 3) := by decide +kernel
theorem dX5_join_27 : decode cX5_join 27 = .ok (.goto (-15), 3) := by decide +kernel
theorem dX5_join_30 : decode cX5_join 30 = .ok (.iconst 0, 1) := by decide +kernel
theorem dX5_join_31 : decode cX5_join 31 = .ok (.istore_n 2, 1) := by decide +kernel
theorem dX5_join_32 : decode cX5_join 32 = .ok (.iload_n 2, 1) := by decide +kernel
theorem dX5_join_33 : decode cX5_join 33 = .ok (.bipush 64, 2) := by decide +kernel
theorem dX5_join_35 : decode cX5_join 35 = .ok (.if_icmp .ge 70, 3) := by decide +kernel
theorem dX5_join_38 : decode cX5_join 38 = .ok (.aload_n 1, 1) := by decide +kernel
theorem dX5_join_39 : decode cX5_join 39 = .ok (.bipush 9, 2) := by decide +kernel
theorem dX5_join_41 : decode cX5_join 41 = .ok (.iload_n 2, 1) := by decide +kernel
theorem dX5_join_42 : decode cX5_join 42 = .ok (.invokevirtual 27, 3) := by decide +kernel
theorem dX5_join_45 : decode cX5_join 45 = .ok (.istore_n 3, 1) := by decide +kernel
theorem dX5_join_46 : decode cX5_join 46 = .ok (.aload_n 1, 1) := by decide +kernel
theorem dX5_join_47 : decode cX5_join 47 = .ok (.bipush 10, 2) := by decide +kernel
theorem dX5_join_49 : decode cX5_join 49 = .ok (.iload_n 2, 1) := by decide +kernel
theorem dX5_join_50 : decode cX5_join 50 = .ok (.invokevirtual 27, 3) := by decide +kernel
theorem dX5_join_53 : decode cX5_join 53 = .ok (.istore 4, 2) := by decide +kernel
theorem dX5_join_55 : decode cX5_join 55 = .ok (.iload_n 3, 1) := by decide +kernel
theorem dX5_join_56 : decode cX5_join 56 = .ok (.iconst (-1), 1) := by decide +kernel
theorem dX5_join_57 : decode cX5_join 57 = .ok (.if_icmp .eq 42, 3) := by decide +kernel
theorem dX5_join_60 : decode cX5_join 60 = .ok (.iload 4, 2) := by decide +kernel
theorem dX5_join_62 : decode cX5_join 62 = .ok (.iconst (-1), 1) := by decide +kernel
theorem dX5_join_63 : decode cX5_join 63 = .ok (.if_icmp .eq 36, 3) := by decide +kernel
theorem dX5_join_66 : decode cX5_join 66 = .ok (.aload_n 1, 1) := by decide +kernel
theorem dX5_join_67 : decode cX5_join 67 = .ok (.iload_n 3, 1) := by decide +kernel
theorem dX5_join_68 : decode cX5_join 68 = .ok (.invokevirtual 33, 3) := by decide +kernel
theorem dX5_join_71 : decode cX5_join 71 = .ok (.i2l, 1) := by decide +kernel
theorem dX5_join_72 : decode cX5_join 72 = .ok (.aload_n 1, 1) := by decide +kernel
theorem dX5_join_73 : decode cX5_join 73 = .ok (.iload 4, 2) := by decide +kernel
theorem dX5_join_75 : decode cX5_join 75 = .ok (.invokevirtual 33, 3) := by decide +kernel
theorem dX5_join_78 : decode cX5_join 78 = .ok (.i2l, 1) := by decide +kernel
theorem dX5_join_79 : decode cX5_join 79 = .ok (.lsub, 1) := by decide +kernel
theorem dX5_join_80 : decode cX5_join 80 = .ok (.lstore 5, 2) := by decide +kernel
theorem dX5_join_82 : decode cX5_join 82 = .ok (.aload_n 0, 1) := by decide +kernel
theorem dX5_join_83 : decode cX5_join 83 = .ok (.aload_n 1, 1) := by decide +kernel
theorem dX5_join_84 : decode cX5_join 84 = .ok (.iload_n 3, 1) := by decide +kernel
theorem dX5_join_85 : decode cX5_join 85 = .ok (.invokevirtual 37, 3) := by decide +kernel
theorem dX5_join_88 : decode cX5_join 88 = .ok (.aload_n 1, 1) := by decide +kernel
theorem dX5_join_89 : decode cX5_join 89 = .ok (.iload 4, 2) := by decide +kernel
theorem dX5_join_91 : decode cX5_join 91 = .ok (.invokevirtual 37, 3) := by decide +kernel
theorem dX5_join_94 : decode cX5_join 94 = .ok (.lload 5, 2) := by decide +kernel
theorem dX5_join_96 : decode cX5_join 96 = .ok (.invokevirtual 23, 3) := by decide +kernel
theorem dX5_join_99 : decode cX5_join 99 = .ok (.iinc 2 1, 3) := by decide +kernel
theorem dX5_join_102 : decode cX5_join 102 = .ok (.goto (-70), 3) := by decide +kernel
theorem dX5_join_105 : decode cX5_join 105 = .ok (.iconst 0, 1) := by decide +kernel
theorem dX5_join_106 : decode cX5_join 106 = .ok (.istore_n 2, 1) := by decide +kernel
theorem dX5_join_107 : decode cX5_join 107 = .ok (.iload_n 2, 1) := by decide +kernel
theorem dX5_join_108 : decode cX5_join 108 = .ok (.iconst 3, 1) := by decide +kernel
theorem dX5_join_109 : decode cX5_join 109 = .ok (.if_icmp .ge 14, 3) := by decide +kernel
theorem dX5_join_112 : decode cX5_join 112 = .ok (.aload_n 0, 1) := by decide +kernel
theorem dX5_join_113 : decode cX5_join 113 = .ok (.iload_n 2, 1) := by decide +kernel
theorem dX5_join_114 : decode cX5_join 114 = .ok (.invokevirtual 40, 3) := by decide +kernel
theorem dX5_join_117 : decode cX5_join 117 = .ok (.iinc 2 1, 3) := by decide +kernel
theorem dX5_join_120 : decode cX5_join 120 = .ok (.goto (-13), 3) := by decide +kernel
theorem dX5_join_123 : decode cX5_join 123 = .ok (.return_, 1) := by decide +kernel
def f_X5_join_b107 (F : Nat) : Nat → Mm → Int32 → Option Mm
 | 0, _, _ => none
 | N + 1, μ, a2 =>
 if (3 : Int32) ≤ a2 then
 some μ
 else
 (f_X5_joinThrough F μ a2).bind fun q21 =>
 f_X5_join_b107 F N q21 (a2 + (1 : Int32))
set_option maxHeartbeats 4000000 in
set_option maxRecDepth 100000 in
theorem cb_X5_join_107 {l : Launch} {E : En} {p : Program} {e : Env} {s : State} {m : MethodId} {av : Array Value} {below : List Frame} {meth : Method} {c : Code} (C : Cx E p s m av c cX5_join 7 yX5_join.cls) (hr : meth.sig.returnType = (none : Option FieldType)) (hlk : meth.locks = false) {F : Nat} {z : Mm} : ∀ (N : Nat) (μ : Mm) (a2 : Int32) (h_a0 : l5 E 0), f_X5_join_b107 F N μ a2 = some z → ∀ {H : Heap} {locs : List Loc} {ls : Array Slot}, Iv E s μ H locs → lv_has ls 7 [(0, .ref (ad E 500 0)), (2, .int a2)] → W p l e { frames := 3, cells := 0, slots := 0, locals := 75 } s m av below meth c H locs 0 0 (MQ below (Qm E none z) av s 0 0 (Ad E)) (F0 m 107 ls []) := by
  have hx := C.1.1
  have hb := C.1.2.1
  intro N
  induction N with
  | zero => intro μ a2 h_a0 hf; cases hf
  | succ N ih =>
    intro μ a2 h_a0 hf H locs ls hI hl
    rw [f_X5_join_b107] at hf
    refine lv_iload_n hx hb dX5_join_107 rfl (lv_at hl 1 rfl) ?_
    refine lv_iconst (v := (3 : Int32)) hx hb dX5_join_108 kc_3 ?_
    refine lv_icmp_ge (tgt := 123) hx hb dX5_join_109 rfl (fun hc => ?_) (fun hc => ?_)
    · replace hf := it hf hc
      obtain rfl := Option.some.inj hf
      exact m_vret C hr hlk hI dX5_join_123
    · replace hf := ie hf hc
      refine lv_aload_n hx hb dX5_join_112 rfl (lv_at hl 0 rfl) ?_
      refine lv_iload_n hx hb dX5_join_113 rfl (lv_at hl 1 rfl) ?_
      obtain ⟨q21, e22, hf⟩ := ob hf
      refine mcV (As := [.int a2]) (rest := []) C hI (c_X5_joinThrough l E h_a0 e22) ml_X5_40 kv_X5_joinThrough (m_recv C hI h_a0.1 (ce_500 E _ _ _) rfl) rfl rfl ⟨Nat.le_of_ble_eq_true rfl, Nat.le_of_ble_eq_true rfl⟩ ⟨Nat.zero_le _, Nat.zero_le _⟩ rfl rfl hl.1 (Nat.le_of_ble_eq_true rfl) dX5_join_114 (st1 := []) rfl (fun H locs hI => ?_)
      refine lv_iinc (v := a2 + (1 : Int32)) hx hb dX5_join_117 hl (k := 1) rfl (ki_1 _) (by decide) rfl (fun ls hl => ?_)
      have hl : lv_has ls 7 [(2, .int (a2 + (1 : Int32))), (0, .ref (ad E 500 0))] := hl
      refine lv_goto (tgt := 107) hx hb dX5_join_120 rfl ?_
      exact ih _ _ h_a0 hf hI (lv_sub hl [1, 0] rfl)
def f_X5_join_b32 (F : Nat) : Nat → Mm → Nat → Int32 → Option Mm
 | 0, _, _, _ => none
 | N + 1, μ, a1, a2 =>
 if (64 : Int32) ≤ a2 then
 f_X5_join_b107 F F μ (0 : Int32)
 else
 (f_X7_letterAt μ a1 (9 : Int32) a2).bind fun q23 =>
 (f_X7_letterAt μ a1 (10 : Int32) a2).bind fun q25 =>
 if q23 = (-1 : Int32) then
 f_X5_join_b32 F N μ a1 (a2 + (1 : Int32))
 else
 if q25 = (-1 : Int32) then
 f_X5_join_b32 F N μ a1 (a2 + (1 : Int32))
 else
 (f_X7_letterTime μ a1 q23).bind fun q27 =>
 (f_X7_letterTime μ a1 q25).bind fun q29 =>
 (f_X7_letterProcessor μ a1 q23).bind fun q31 =>
 (f_X7_letterProcessor μ a1 q25).bind fun q33 =>
 (f_X5_raise μ q31 q33 (q27.toInt64 - q29.toInt64)).bind fun q35 =>
 f_X5_join_b32 F N q35 a1 (a2 + (1 : Int32))
set_option maxHeartbeats 4000000 in
set_option maxRecDepth 100000 in
theorem cb_X5_join_32 {l : Launch} {E : En} {p : Program} {e : Env} {s : State} {m : MethodId} {av : Array Value} {below : List Frame} {meth : Method} {c : Code} (C : Cx E p s m av c cX5_join 7 yX5_join.cls) (hr : meth.sig.returnType = (none : Option FieldType)) (hlk : meth.locks = false) {F : Nat} {z : Mm} : ∀ (N : Nat) (μ : Mm) (a1 : Nat) (a2 : Int32) (h_a0 : l5 E 0) (h_a1 : l7 E a1), f_X5_join_b32 F N μ a1 a2 = some z → ∀ {H : Heap} {locs : List Loc} {ls : Array Slot}, Iv E s μ H locs → lv_has ls 7 [(0, .ref (ad E 500 0)), (1, .ref (ad E 700 a1)), (2, .int a2)] → W p l e { frames := 3, cells := 0, slots := 0, locals := 75 } s m av below meth c H locs 0 0 (MQ below (Qm E none z) av s 0 0 (Ad E)) (F0 m 32 ls []) := by
  have hx := C.1.1
  have hb := C.1.2.1
  intro N
  induction N with
  | zero => intro μ a1 a2 h_a0 h_a1 hf; cases hf
  | succ N ih =>
    intro μ a1 a2 h_a0 h_a1 hf H locs ls hI hl
    rw [f_X5_join_b32] at hf
    refine lv_iload_n hx hb dX5_join_32 rfl (lv_at hl 2 rfl) ?_
    refine lv_bipush (v := (64 : Int32)) hx hb dX5_join_33 kb_64 ?_
    refine lv_icmp_ge (tgt := 105) hx hb dX5_join_35 rfl (fun hc => ?_) (fun hc => ?_)
    · replace hf := it hf hc
      refine lv_iconst (v := (0 : Int32)) hx hb dX5_join_105 kc_0 ?_
      refine lv_istore_n hx hb dX5_join_106 rfl hl (by decide) rfl (fun ls hl => ?_)
      have hl : lv_has ls 7 [(2, .int (0 : Int32)), (0, .ref (ad E 500 0)), (1, .ref (ad E 700 a1))] := hl
      exact cb_X5_join_107 C hr hlk  _ _ _ h_a0 hf hI (lv_sub hl [1, 0] rfl)
    · replace hf := ie hf hc
      refine lv_aload_n hx hb dX5_join_38 rfl (lv_at hl 1 rfl) ?_
      refine lv_bipush (v := (9 : Int32)) hx hb dX5_join_39 kb_9 ?_
      refine lv_iload_n hx hb dX5_join_41 rfl (lv_at hl 2 rfl) ?_
      obtain ⟨q23, e24, hf⟩ := ob hf
      refine mcV (As := [.int (9 : Int32), .int a2]) (rest := []) C hI (c_X7_letterAt l E h_a1 e24) ml_X5_27 kv_X7_letterAt (m_recv C hI h_a1.1 (ce_700 E _ _ _) rfl) rfl rfl ⟨Nat.le_of_ble_eq_true rfl, Nat.le_of_ble_eq_true rfl⟩ ⟨Nat.zero_le _, Nat.zero_le _⟩ rfl rfl hl.1 (Nat.le_of_ble_eq_true rfl) dX5_join_42 (st1 := [.int q23]) rfl (fun H locs hI => ?_)
      refine lv_istore_n hx hb dX5_join_45 rfl hl (by decide) rfl (fun ls hl => ?_)
      have hl : lv_has ls 7 [(3, .int q23), (0, .ref (ad E 500 0)), (1, .ref (ad E 700 a1)), (2, .int a2)] := hl
      refine lv_aload_n hx hb dX5_join_46 rfl (lv_at hl 2 rfl) ?_
      refine lv_bipush (v := (10 : Int32)) hx hb dX5_join_47 kb_10 ?_
      refine lv_iload_n hx hb dX5_join_49 rfl (lv_at hl 3 rfl) ?_
      obtain ⟨q25, e26, hf⟩ := ob hf
      refine mcV (As := [.int (10 : Int32), .int a2]) (rest := []) C hI (c_X7_letterAt l E h_a1 e26) ml_X5_27 kv_X7_letterAt (m_recv C hI h_a1.1 (ce_700 E _ _ _) rfl) rfl rfl ⟨Nat.le_of_ble_eq_true rfl, Nat.le_of_ble_eq_true rfl⟩ ⟨Nat.zero_le _, Nat.zero_le _⟩ rfl rfl hl.1 (Nat.le_of_ble_eq_true rfl) dX5_join_50 (st1 := [.int q25]) rfl (fun H locs hI => ?_)
      refine lv_istore hx hb dX5_join_53 hl (by decide) rfl (fun ls hl => ?_)
      have hl : lv_has ls 7 [(4, .int q25), (3, .int q23), (0, .ref (ad E 500 0)), (1, .ref (ad E 700 a1)), (2, .int a2)] := hl
      refine lv_iload_n hx hb dX5_join_55 rfl (lv_at hl 1 rfl) ?_
      refine lv_iconst (v := (-1 : Int32)) hx hb dX5_join_56 kc_m1 ?_
      refine lv_icmp_eq (tgt := 99) hx hb dX5_join_57 rfl (fun hc => ?_) (fun hc => ?_)
      · replace hf := it hf hc
        refine lv_iinc (v := a2 + (1 : Int32)) hx hb dX5_join_99 hl (k := 4) rfl (ki_1 _) (by decide) rfl (fun ls hl => ?_)
        have hl : lv_has ls 7 [(2, .int (a2 + (1 : Int32))), (4, .int q25), (3, .int q23), (0, .ref (ad E 500 0)), (1, .ref (ad E 700 a1))] := hl
        refine lv_goto (tgt := 32) hx hb dX5_join_102 rfl ?_
        exact ih _ _ _ h_a0 h_a1 hf hI (lv_sub hl [3, 4, 0] rfl)
      · replace hf := ie hf hc
        refine lv_iload hx hb dX5_join_60 (lv_at hl 0 rfl) ?_
        refine lv_iconst (v := (-1 : Int32)) hx hb dX5_join_62 kc_m1 ?_
        refine lv_icmp_eq (tgt := 99) hx hb dX5_join_63 rfl (fun hc => ?_) (fun hc => ?_)
        · replace hf := it hf hc
          refine lv_iinc (v := a2 + (1 : Int32)) hx hb dX5_join_99 hl (k := 4) rfl (ki_1 _) (by decide) rfl (fun ls hl => ?_)
          have hl : lv_has ls 7 [(2, .int (a2 + (1 : Int32))), (4, .int q25), (3, .int q23), (0, .ref (ad E 500 0)), (1, .ref (ad E 700 a1))] := hl
          refine lv_goto (tgt := 32) hx hb dX5_join_102 rfl ?_
          exact ih _ _ _ h_a0 h_a1 hf hI (lv_sub hl [3, 4, 0] rfl)
        · replace hf := ie hf hc
          refine lv_aload_n hx hb dX5_join_66 rfl (lv_at hl 3 rfl) ?_
          refine lv_iload_n hx hb dX5_join_67 rfl (lv_at hl 1 rfl) ?_
          obtain ⟨q27, e28, hf⟩ := ob hf
          refine mcV (As := [.int q23]) (rest := []) C hI (c_X7_letterTime l E h_a1 e28) ml_X5_33 kv_X7_letterTime (m_recv C hI h_a1.1 (ce_700 E _ _ _) rfl) rfl rfl ⟨Nat.le_of_ble_eq_true rfl, Nat.le_of_ble_eq_true rfl⟩ ⟨Nat.zero_le _, Nat.zero_le _⟩ rfl rfl hl.1 (Nat.le_of_ble_eq_true rfl) dX5_join_68 (st1 := [.int q27]) rfl (fun H locs hI => ?_)
          refine lv_i2l (v := q27.toInt64) hx hb dX5_join_71 rfl ?_
          refine lv_aload_n hx hb dX5_join_72 rfl (lv_at hl 3 rfl) ?_
          refine lv_iload hx hb dX5_join_73 (lv_at hl 0 rfl) ?_
          obtain ⟨q29, e30, hf⟩ := ob hf
          refine mcV (As := [.int q25]) (rest := [.long q27.toInt64]) C hI (c_X7_letterTime l E h_a1 e30) ml_X5_33 kv_X7_letterTime (m_recv C hI h_a1.1 (ce_700 E _ _ _) rfl) rfl rfl ⟨Nat.le_of_ble_eq_true rfl, Nat.le_of_ble_eq_true rfl⟩ ⟨Nat.zero_le _, Nat.zero_le _⟩ rfl rfl hl.1 (Nat.le_of_ble_eq_true rfl) dX5_join_75 (st1 := [.int q29, .long q27.toInt64]) rfl (fun H locs hI => ?_)
          refine lv_i2l (v := q29.toInt64) hx hb dX5_join_78 rfl ?_
          refine lv_lsub hx hb dX5_join_79 ?_
          refine lv_lstore hx hb dX5_join_80 hl (by decide) rfl (fun ls hl => ?_)
          have hl : lv_has ls 7 [(5, .long (q27.toInt64 - q29.toInt64)), (4, .int q25), (3, .int q23), (0, .ref (ad E 500 0)), (1, .ref (ad E 700 a1)), (2, .int a2)] := hl
          refine lv_aload_n hx hb dX5_join_82 rfl (lv_at hl 3 rfl) ?_
          refine lv_aload_n hx hb dX5_join_83 rfl (lv_at hl 4 rfl) ?_
          refine lv_iload_n hx hb dX5_join_84 rfl (lv_at hl 2 rfl) ?_
          obtain ⟨q31, e32, hf⟩ := ob hf
          refine mcV (As := [.int q23]) (rest := [.ref (ad E 500 0)]) C hI (c_X7_letterProcessor l E h_a1 e32) ml_X5_37 kv_X7_letterProcessor (m_recv C hI h_a1.1 (ce_700 E _ _ _) rfl) rfl rfl ⟨Nat.le_of_ble_eq_true rfl, Nat.le_of_ble_eq_true rfl⟩ ⟨Nat.zero_le _, Nat.zero_le _⟩ rfl rfl hl.1 (Nat.le_of_ble_eq_true rfl) dX5_join_85 (st1 := [.int q31, .ref (ad E 500 0)]) rfl (fun H locs hI => ?_)
          refine lv_aload_n hx hb dX5_join_88 rfl (lv_at hl 4 rfl) ?_
          refine lv_iload hx hb dX5_join_89 (lv_at hl 1 rfl) ?_
          obtain ⟨q33, e34, hf⟩ := ob hf
          refine mcV (As := [.int q25]) (rest := [.int q31, .ref (ad E 500 0)]) C hI (c_X7_letterProcessor l E h_a1 e34) ml_X5_37 kv_X7_letterProcessor (m_recv C hI h_a1.1 (ce_700 E _ _ _) rfl) rfl rfl ⟨Nat.le_of_ble_eq_true rfl, Nat.le_of_ble_eq_true rfl⟩ ⟨Nat.zero_le _, Nat.zero_le _⟩ rfl rfl hl.1 (Nat.le_of_ble_eq_true rfl) dX5_join_91 (st1 := [.int q33, .int q31, .ref (ad E 500 0)]) rfl (fun H locs hI => ?_)
          refine lv_lload hx hb dX5_join_94 (lv_at hl 0 rfl) ?_
          obtain ⟨q35, e36, hf⟩ := ob hf
          refine mcV (As := [.int q31, .int q33, .long (q27.toInt64 - q29.toInt64)]) (rest := []) C hI (c_X5_raise l E h_a0 e36) ml_X5_23 kv_X5_raise (m_recv C hI h_a0.1 (ce_500 E _ _ _) rfl) rfl rfl ⟨Nat.le_of_ble_eq_true rfl, Nat.le_of_ble_eq_true rfl⟩ ⟨Nat.zero_le _, Nat.zero_le _⟩ rfl rfl hl.1 (Nat.le_of_ble_eq_true rfl) dX5_join_96 (st1 := []) rfl (fun H locs hI => ?_)
          refine lv_iinc (v := a2 + (1 : Int32)) hx hb dX5_join_99 hl (k := 5) rfl (ki_1 _) (by decide) rfl (fun ls hl => ?_)
          have hl : lv_has ls 7 [(2, .int (a2 + (1 : Int32))), (5, .long (q27.toInt64 - q29.toInt64)), (4, .int q25), (3, .int q23), (0, .ref (ad E 500 0)), (1, .ref (ad E 700 a1))] := hl
          refine lv_goto (tgt := 32) hx hb dX5_join_102 rfl ?_
          exact ih _ _ _ h_a0 h_a1 hf hI (lv_sub hl [4, 5, 0] rfl)
def f_X5_join_b12 (F : Nat) : Nat → Mm → Nat → Int32 → Option Mm
 | 0, _, _, _ => none
 | N + 1, μ, a1, a2 =>
 if (3 : Int32) ≤ a2 then
 f_X5_join_b32 F F μ a1 (0 : Int32)
 else
 (f_X5_raise μ a2 a2 (0 : Int64)).bind fun q37 =>
 f_X5_join_b12 F N q37 a1 (a2 + (1 : Int32))
set_option maxHeartbeats 4000000 in
set_option maxRecDepth 100000 in
theorem cb_X5_join_12 {l : Launch} {E : En} {p : Program} {e : Env} {s : State} {m : MethodId} {av : Array Value} {below : List Frame} {meth : Method} {c : Code} (C : Cx E p s m av c cX5_join 7 yX5_join.cls) (hr : meth.sig.returnType = (none : Option FieldType)) (hlk : meth.locks = false) {F : Nat} {z : Mm} : ∀ (N : Nat) (μ : Mm) (a1 : Nat) (a2 : Int32) (h_a0 : l5 E 0) (h_a1 : l7 E a1), f_X5_join_b12 F N μ a1 a2 = some z → ∀ {H : Heap} {locs : List Loc} {ls : Array Slot}, Iv E s μ H locs → lv_has ls 7 [(0, .ref (ad E 500 0)), (1, .ref (ad E 700 a1)), (2, .int a2)] → W p l e { frames := 3, cells := 0, slots := 0, locals := 75 } s m av below meth c H locs 0 0 (MQ below (Qm E none z) av s 0 0 (Ad E)) (F0 m 12 ls []) := by
  have hx := C.1.1
  have hb := C.1.2.1
  intro N
  induction N with
  | zero => intro μ a1 a2 h_a0 h_a1 hf; cases hf
  | succ N ih =>
    intro μ a1 a2 h_a0 h_a1 hf H locs ls hI hl
    rw [f_X5_join_b12] at hf
    refine lv_iload_n hx hb dX5_join_12 rfl (lv_at hl 2 rfl) ?_
    refine lv_iconst (v := (3 : Int32)) hx hb dX5_join_13 kc_3 ?_
    refine lv_icmp_ge (tgt := 30) hx hb dX5_join_14 rfl (fun hc => ?_) (fun hc => ?_)
    · replace hf := it hf hc
      refine lv_iconst (v := (0 : Int32)) hx hb dX5_join_30 kc_0 ?_
      refine lv_istore_n hx hb dX5_join_31 rfl hl (by decide) rfl (fun ls hl => ?_)
      have hl : lv_has ls 7 [(2, .int (0 : Int32)), (0, .ref (ad E 500 0)), (1, .ref (ad E 700 a1))] := hl
      exact cb_X5_join_32 C hr hlk  _ _ _ _ h_a0 h_a1 hf hI (lv_sub hl [1, 2, 0] rfl)
    · replace hf := ie hf hc
      refine lv_aload_n hx hb dX5_join_17 rfl (lv_at hl 0 rfl) ?_
      refine lv_iload_n hx hb dX5_join_18 rfl (lv_at hl 2 rfl) ?_
      refine lv_iload_n hx hb dX5_join_19 rfl (lv_at hl 2 rfl) ?_
      refine lv_lconst (v := (0 : Int64)) hx hb dX5_join_20 kl_0 ?_
      obtain ⟨q37, e38, hf⟩ := ob hf
      refine mcV (As := [.int a2, .int a2, .long (0 : Int64)]) (rest := []) C hI (c_X5_raise l E h_a0 e38) ml_X5_23 kv_X5_raise (m_recv C hI h_a0.1 (ce_500 E _ _ _) rfl) rfl rfl ⟨Nat.le_of_ble_eq_true rfl, Nat.le_of_ble_eq_true rfl⟩ ⟨Nat.zero_le _, Nat.zero_le _⟩ rfl rfl hl.1 (Nat.le_of_ble_eq_true rfl) dX5_join_21 (st1 := []) rfl (fun H locs hI => ?_)
      refine lv_iinc (v := a2 + (1 : Int32)) hx hb dX5_join_24 hl (k := 2) rfl (ki_1 _) (by decide) rfl (fun ls hl => ?_)
      have hl : lv_has ls 7 [(2, .int (a2 + (1 : Int32))), (0, .ref (ad E 500 0)), (1, .ref (ad E 700 a1))] := hl
      refine lv_goto (tgt := 12) hx hb dX5_join_27 rfl ?_
      exact ih _ _ _ h_a0 h_a1 hf hI (lv_sub hl [1, 2, 0] rfl)
def f_X5_join (F : Nat) (μ : Mm) (n1 : Nat) : Option Mm :=
 (f_J7_fill_d0a16 μ 501 0 9 (-1152921504606846976 : Int64)).bind fun q39 =>
 f_X5_join_b12 F F q39 n1 (0 : Int32)
set_option maxHeartbeats 4000000 in
set_option maxRecDepth 100000 in
theorem c_X5_join (l : Launch) (E : En) {F : Nat} {μ : Mm} {n1 : Nat} (h0 : l5 E 0) (h1 : l7 E n1) {z : Mm} (hf : f_X5_join F μ n1 = some z) : Met l yX5_join (wt yX5_join cX5_join 7 (none : Option FieldType)) { frames := 3, cells := 0, slots := 0, locals := 75 } (Pm E [.ref (ad E 500 0), .ref (ad E 700 n1)] μ) (Qm E none z) 0 0 (Ad E) := by
  unfold f_X5_join at hf
  refine met_of (cc := cX5_join) (nL := 7) (ret := (none : Option FieldType)) (by decide) _ (Nat.le_of_ble_eq_true rfl) ?_
  intro p e s m below meth c C hr hlk hI ls hl
  have hx := C.1.1
  have hb := C.1.2.1
  have hl : lv_has ls 7 [(0, .ref (ad E 500 0)), (1, .ref (ad E 700 n1))] := hl
  refine lv_aload_n hx hb dX5_join_0 rfl (lv_at hl 0 rfl) ?_
  refine gf_5_0 C hI h0.1 fl_X5_9 dX5_join_1 ?_
  refine lv_ldc2 (v := (-1152921504606846976 : Int64)) hx hb C.1.2.2.2.1 (m_in C kl_X5_15) dX5_join_4 ?_
  obtain ⟨q39, e40, hf⟩ := ob hf
  refine mcS (As := [.ref (ad E 501 0), .long (-1152921504606846976 : Int64)]) (rest := []) C hI (c_J7_fill_d0a16 l E h0.2 (ce_501 E 0) (Nat.le_of_ble_eq_true rfl) e40) ml_X5_17 ks_J7_fill_d0a16 rfl rfl ⟨Nat.le_of_ble_eq_true rfl, Nat.le_of_ble_eq_true rfl⟩ ⟨Nat.zero_le _, Nat.zero_le _⟩ rfl rfl hl.1 (Nat.le_of_ble_eq_true rfl) dX5_join_7 (st1 := []) rfl (fun H locs hI => ?_)
  refine lv_iconst (v := (0 : Int32)) hx hb dX5_join_10 kc_0 ?_
  refine lv_istore_n hx hb dX5_join_11 rfl hl (by decide) rfl (fun ls hl => ?_)
  have hl : lv_has ls 7 [(2, .int (0 : Int32)), (0, .ref (ad E 500 0)), (1, .ref (ad E 700 n1))] := hl
  exact cb_X5_join_12 C hr hlk  _ _ _ _ h0 h1 hf hI (lv_sub hl [1, 2, 0] rfl)
