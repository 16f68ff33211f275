theorem dX10_countsAs_0 : decode cX10_countsAs 0 = .ok (.iload_n 2, 1) := by decide +kernel
theorem dX10_countsAs_1 : decode cX10_countsAs 1 = .ok (.ifCond .eq 7, 3) := by decide +kernel
theorem dX10_countsAs_4 : decode cX10_countsAs 4 = .ok (.iconst 4, 1) := by decide +kernel
theorem dX10_countsAs_5 : decode cX10_countsAs 5 = .ok (.goto 30, 3) := by decide +kernel
theorem dX10_countsAs_8 : decode cX10_countsAs 8 = .ok (.aload_n 0, 1) := by decide +kernel
theorem dX10_countsAs_9 : decode cX10_countsAs 9 = .ok (.getfield 82, 3) := by decide +kernel
theorem dX10_countsAs_12 : decode cX10_countsAs 12 = .ok (.iload_n 1, 1) := by decide +kernel
theorem dX10_countsAs_13 : decode cX10_countsAs 13 = .ok (.iaload, 1) := by decide +kernel
theorem dX10_countsAs_14 : decode cX10_countsAs 14 = .ok (.iconst 2, 1) := by decide +kernel
theorem dX10_countsAs_15 : decode cX10_countsAs 15 = .ok (.if_icmp .ne 14, 3) := by decide +kernel
theorem dX10_countsAs_18 : decode cX10_countsAs 18 = .ok (.aload_n 0, 1) := by decide +kernel
theorem dX10_countsAs_19 : decode cX10_countsAs 19 = .ok (.getfield 176, 3) := by decide +kernel
theorem dX10_countsAs_22 : decode cX10_countsAs 22 = .ok (.ifCond .eq 7, 3) := by decide +kernel
theorem dX10_countsAs_25 : decode cX10_countsAs 25 = .ok (.iconst 1, 1) := by decide +kernel
theorem dX10_countsAs_26 : decode cX10_countsAs 26 = .ok (.goto 9, 3) := by decide +kernel
theorem dX10_countsAs_29 : decode cX10_countsAs 29 = .ok (.aload_n 0, 1) := by decide +kernel
theorem dX10_countsAs_30 : decode cX10_countsAs 30 = .ok (.getfield 82, 3) := by decide +kernel
theorem dX10_countsAs_33 : decode cX10_countsAs 33 = .ok (.iload_n 1, 1) := by decide +kernel
theorem dX10_countsAs_34 : decode cX10_countsAs 34 = .ok (.iaload, 1) := by decide +kernel
theorem dX10_countsAs_35 : decode cX10_countsAs 35 = .ok (.ireturn, 1) := by decide +kernel
def f_X10_countsAs (μ : Mm) (p1 : Int32) (p2 : Int32) : Option Int32 :=
 if p2 = 0 then
 (ra μ 1028 0 8 p1).bind fun v5 =>
 if v5 = (2 : Int32) then
 if (μ.1 1000 0 32) = 0 then
 (ra μ 1028 0 8 p1).bind fun v9 =>
 some v9
 else
 some (1 : Int32)
 else
 (ra μ 1028 0 8 p1).bind fun v7 =>
 some v7
 else
 some (4 : Int32)
set_option maxHeartbeats 4000000 in
set_option maxRecDepth 100000 in
theorem c_X10_countsAs (l : Launch) (E : En) {μ : Mm} {p1 : Int32} {p2 : Int32} (h0 : l10 E 0) {z : Int32} (hf : f_X10_countsAs μ p1 p2 = some z) : Met l yX10_countsAs (wt yX10_countsAs cX10_countsAs 3 (some .int)) { frames := 0, cells := 0, slots := 0, locals := 0 } (Pm E [.ref (ad E 1000 0), .int p1, .int p2] μ) (Qm E (some (.int z)) μ) 0 0 (Ad E) := by
  unfold f_X10_countsAs at hf
  refine met_of (cc := cX10_countsAs) (nL := 3) (ret := (some .int)) (by decide) _ (Nat.le_of_ble_eq_true rfl) ?_
  intro p e s m below meth c C hr hlk hI ls hl
  have hx := C.1.1
  have hb := C.1.2.1
  have hl : lv_has ls 3 [(0, .ref (ad E 1000 0)), (1, .int p1), (2, .int p2)] := hl
  refine lv_iload_n hx hb dX10_countsAs_0 rfl (lv_at hl 2 rfl) ?_
  refine lv_if_eq (tgt := 8) hx hb dX10_countsAs_1 rfl (fun hc => ?_) (fun hc => ?_)
  · replace hf := it hf hc
    refine lv_aload_n hx hb dX10_countsAs_8 rfl (lv_at hl 0 rfl) ?_
    refine gf_10_27 C hI h0.1 fl_X10_82 dX10_countsAs_9 ?_
    refine lv_iload_n hx hb dX10_countsAs_12 rfl (lv_at hl 1 rfl) ?_
    obtain ⟨v5, e6, hf⟩ := ob hf
    refine m_iald C hI h0.2.2.2.2.2.2.2.2.2.2.2.2.2.2.2.2.2.2.2.2.2.1 (ce_1028 E _ _ _) e6 dX10_countsAs_13 ?_
    refine lv_iconst (v := (2 : Int32)) hx hb dX10_countsAs_14 kc_2 ?_
    refine lv_icmp_ne (tgt := 29) hx hb dX10_countsAs_15 rfl (fun hc => ?_) (fun hc => ?_)
    · replace hf := ie hf hc
      refine lv_aload_n hx hb dX10_countsAs_29 rfl (lv_at hl 0 rfl) ?_
      refine gf_10_27 C hI h0.1 fl_X10_82 dX10_countsAs_30 ?_
      refine lv_iload_n hx hb dX10_countsAs_33 rfl (lv_at hl 1 rfl) ?_
      obtain ⟨v7, e8, hf⟩ := ob hf
      refine m_iald C hI h0.2.2.2.2.2.2.2.2.2.2.2.2.2.2.2.2.2.2.2.2.2.1 (ce_1028 E _ _ _) e8 dX10_countsAs_34 ?_
      obtain rfl := Option.some.inj hf
      exact m_iret C hr hlk hI dX10_countsAs_35
    · replace hf := it hf hc
      refine lv_aload_n hx hb dX10_countsAs_18 rfl (lv_at hl 0 rfl) ?_
      refine gf_10_32 C hI h0.1 fl_X10_176 dX10_countsAs_19 ?_
      refine lv_if_eq (tgt := 29) hx hb dX10_countsAs_22 rfl (fun hc => ?_) (fun hc => ?_)
      · replace hf := it hf hc
        refine lv_aload_n hx hb dX10_countsAs_29 rfl (lv_at hl 0 rfl) ?_
        refine gf_10_27 C hI h0.1 fl_X10_82 dX10_countsAs_30 ?_
        refine lv_iload_n hx hb dX10_countsAs_33 rfl (lv_at hl 1 rfl) ?_
        obtain ⟨v9, e10, hf⟩ := ob hf
        refine m_iald C hI h0.2.2.2.2.2.2.2.2.2.2.2.2.2.2.2.2.2.2.2.2.2.1 (ce_1028 E _ _ _) e10 dX10_countsAs_34 ?_
        obtain rfl := Option.some.inj hf
        exact m_iret C hr hlk hI dX10_countsAs_35
      · replace hf := ie hf hc
        refine lv_iconst (v := (1 : Int32)) hx hb dX10_countsAs_25 kc_1 ?_
        refine lv_goto (tgt := 35) hx hb dX10_countsAs_26 rfl ?_
        obtain rfl := Option.some.inj hf
        exact m_iret C hr hlk hI dX10_countsAs_35
  · replace hf := ie hf hc
    refine lv_iconst (v := (4 : Int32)) hx hb dX10_countsAs_4 kc_4 ?_
    refine lv_goto (tgt := 35) hx hb dX10_countsAs_5 rfl ?_
    obtain rfl := Option.some.inj hf
    exact m_iret C hr hlk hI dX10_countsAs_35

theorem dX10_busyWith_0 : decode cX10_busyWith 0 = .ok (.aload_n 0, 1) := by decide +kernel
theorem dX10_busyWith_1 : decode cX10_busyWith 1 = .ok (.iload_n 1, 1) := by decide +kernel
theorem dX10_busyWith_2 : decode cX10_busyWith 2 = .ok (.invokevirtual 221, 3) := by decide +kernel
theorem dX10_busyWith_5 : decode cX10_busyWith 5 = .ok (.ifCond .eq 7, 3) := by decide +kernel
theorem dX10_busyWith_8 : decode cX10_busyWith 8 = .ok (.iconst 3, 1) := by decide +kernel
theorem dX10_busyWith_9 : decode cX10_busyWith 9 = .ok (.goto 26, 3) := by decide +kernel
theorem dX10_busyWith_12 : decode cX10_busyWith 12 = .ok (.aload_n 0, 1) := by decide +kernel
theorem dX10_busyWith_13 : decode cX10_busyWith 13 = .ok (.getfield 176, 3) := by decide +kernel
theorem dX10_busyWith_16 : decode cX10_busyWith 16 = .ok (.ifCond .eq 7, 3) := by decide +kernel
theorem dX10_busyWith_19 : decode cX10_busyWith 19 = .ok (.iconst 1, 1) := by decide +kernel
theorem dX10_busyWith_20 : decode cX10_busyWith 20 = .ok (.goto 15, 3) := by decide +kernel
theorem dX10_busyWith_23 : decode cX10_busyWith 23 = .ok (.aload_n 0, 1) := by decide +kernel
theorem dX10_busyWith_24 : decode cX10_busyWith 24 = .ok (.getfield 173, 3) := by decide +kernel
theorem dX10_busyWith_27 : decode cX10_busyWith 27 = .ok (.ifCond .lt 7, 3) := by decide +kernel
theorem dX10_busyWith_30 : decode cX10_busyWith 30 = .ok (.iconst 2, 1) := by decide +kernel
theorem dX10_busyWith_31 : decode cX10_busyWith 31 = .ok (.goto 4, 3) := by decide +kernel
theorem dX10_busyWith_34 : decode cX10_busyWith 34 = .ok (.iconst 0, 1) := by decide +kernel
theorem dX10_busyWith_35 : decode cX10_busyWith 35 = .ok (.ireturn, 1) := by decide +kernel
def f_X10_busyWith (μ : Mm) (p1 : Int32) : Option Int32 :=
 (f_X10_isDark μ p1).bind fun q3 =>
 if q3 = 0 then
 if (μ.1 1000 0 32) = 0 then
 if (μ.1 1000 0 31) < 0 then
 some (0 : Int32)
 else
 some (2 : Int32)
 else
 some (1 : Int32)
 else
 some (3 : Int32)
set_option maxHeartbeats 4000000 in
set_option maxRecDepth 100000 in
theorem c_X10_busyWith (l : Launch) (E : En) {μ : Mm} {p1 : Int32} (h0 : l10 E 0) {z : Int32} (hf : f_X10_busyWith μ p1 = some z) : Met l yX10_busyWith (wt yX10_busyWith cX10_busyWith 2 (some .int)) { frames := 2, cells := 0, slots := 0, locals := 42 } (Pm E [.ref (ad E 1000 0), .int p1] μ) (Qm E (some (.int z)) μ) 0 0 (Ad E) := by
  unfold f_X10_busyWith at hf
  refine met_of (cc := cX10_busyWith) (nL := 2) (ret := (some .int)) (by decide) _ (Nat.le_of_ble_eq_true rfl) ?_
  intro p e s m below meth c C hr hlk hI ls hl
  have hx := C.1.1
  have hb := C.1.2.1
  have hl : lv_has ls 2 [(0, .ref (ad E 1000 0)), (1, .int p1)] := hl
  refine lv_aload_n hx hb dX10_busyWith_0 rfl (lv_at hl 0 rfl) ?_
  refine lv_iload_n hx hb dX10_busyWith_1 rfl (lv_at hl 1 rfl) ?_
  obtain ⟨q3, e4, hf⟩ := ob hf
  refine mcV (As := [.int p1]) (rest := []) C hI (c_X10_isDark l E h0 e4) ml_X10_221 kv_X10_isDark (m_recv C hI h0.1 (ce_1000 E _ _ _) rfl) rfl rfl ⟨Nat.le_of_ble_eq_true rfl, Nat.le_of_ble_eq_true rfl⟩ ⟨Nat.zero_le _, Nat.zero_le _⟩ rfl rfl hl.1 (Nat.le_of_ble_eq_true rfl) dX10_busyWith_2 (st1 := [.int q3]) rfl (fun H locs hI => ?_)
  refine lv_if_eq (tgt := 12) hx hb dX10_busyWith_5 rfl (fun hc => ?_) (fun hc => ?_)
  · replace hf := it hf hc
    refine lv_aload_n hx hb dX10_busyWith_12 rfl (lv_at hl 0 rfl) ?_
    refine gf_10_32 C hI h0.1 fl_X10_176 dX10_busyWith_13 ?_
    refine lv_if_eq (tgt := 23) hx hb dX10_busyWith_16 rfl (fun hc => ?_) (fun hc => ?_)
    · replace hf := it hf hc
      refine lv_aload_n hx hb dX10_busyWith_23 rfl (lv_at hl 0 rfl) ?_
      refine gf_10_31 C hI h0.1 fl_X10_173 dX10_busyWith_24 ?_
      refine lv_if_lt (tgt := 34) hx hb dX10_busyWith_27 rfl (fun hc => ?_) (fun hc => ?_)
      · replace hf := it hf hc
        refine lv_iconst (v := (0 : Int32)) hx hb dX10_busyWith_34 kc_0 ?_
        obtain rfl := Option.some.inj hf
        exact m_iret C hr hlk hI dX10_busyWith_35
      · replace hf := ie hf hc
        refine lv_iconst (v := (2 : Int32)) hx hb dX10_busyWith_30 kc_2 ?_
        refine lv_goto (tgt := 35) hx hb dX10_busyWith_31 rfl ?_
        obtain rfl := Option.some.inj hf
        exact m_iret C hr hlk hI dX10_busyWith_35
    · replace hf := ie hf hc
      refine lv_iconst (v := (1 : Int32)) hx hb dX10_busyWith_19 kc_1 ?_
      refine lv_goto (tgt := 35) hx hb dX10_busyWith_20 rfl ?_
      obtain rfl := Option.some.inj hf
      exact m_iret C hr hlk hI dX10_busyWith_35
  · replace hf := ie hf hc
    refine lv_iconst (v := (3 : Int32)) hx hb dX10_busyWith_8 kc_3 ?_
    refine lv_goto (tgt := 35) hx hb dX10_busyWith_9 rfl ?_
    obtain rfl := Option.some.inj hf
    exact m_iret C hr hlk hI dX10_busyWith_35

theorem dX10_waitsBy_0 : decode cX10_waitsBy 0 = .ok (.aload_n 0, 1) := by decide +kernel
theorem dX10_waitsBy_1 : decode cX10_waitsBy 1 = .ok (.getfield 176, 3) := by decide +kernel
theorem dX10_waitsBy_4 : decode cX10_waitsBy 4 = .ok (.ifCond .eq 5, 3) := by decide +kernel
theorem dX10_waitsBy_7 : decode cX10_waitsBy 7 = .ok (.iconst 0, 1) := by decide +kernel
theorem dX10_waitsBy_8 : decode cX10_waitsBy 8 = .ok (.ireturn, 1) := by decide +kernel
theorem dX10_waitsBy_9 : decode cX10_waitsBy 9 = .ok (.aload_n 0, 1) := by decide +kernel
theorem dX10_waitsBy_10 : decode cX10_waitsBy 10 = .ok (.getfield 173, 3) := by decide +kernel
theorem dX10_waitsBy_13 : decode cX10_waitsBy 13 = .ok (.ifCond .ge 7, 3) := by decide +kernel
theorem dX10_waitsBy_16 : decode cX10_waitsBy 16 = .ok (.iconst 4, 1) := by decide +kernel
theorem dX10_waitsBy_17 : decode cX10_waitsBy 17 = .ok (.goto 48, 3) := by decide +kernel
theorem dX10_waitsBy_20 : decode cX10_waitsBy 20 = .ok (.aload_n 0, 1) := by decide +kernel
theorem dX10_waitsBy_21 : decode cX10_waitsBy 21 = .ok (.getfield 23, 3) := by decide +kernel
theorem dX10_waitsBy_24 : decode cX10_waitsBy 24 = .ok (.aload_n 0, 1) := by decide +kernel
theorem dX10_waitsBy_25 : decode cX10_waitsBy 25 = .ok (.getfield 173, 3) := by decide +kernel
theorem dX10_waitsBy_28 : decode cX10_waitsBy 28 = .ok (.iaload, 1) := by decide +kernel
theorem dX10_waitsBy_29 : decode cX10_waitsBy 29 = .ok (.aload_n 0, 1) := by decide +kernel
theorem dX10_waitsBy_30 : decode cX10_waitsBy 30 = .ok (.getfield 23, 3) := by decide +kernel
theorem dX10_waitsBy_33 : decode cX10_waitsBy 33 = .ok (.iload_n 1, 1) := by decide +kernel
theorem dX10_waitsBy_34 : decode cX10_waitsBy 34 = .ok (.iaload, 1) := by decide +kernel
theorem dX10_waitsBy_35 : decode cX10_waitsBy 35 = .ok (.if_icmp .le 7, 3) := by decide +kernel
theorem dX10_waitsBy_38 : decode cX10_waitsBy 38 = .ok (.iconst 1, 1) := by decide +kernel
theorem dX10_waitsBy_39 : decode cX10_waitsBy 39 = .ok (.goto 26, 3) := by decide +kernel
theorem dX10_waitsBy_42 : decode cX10_waitsBy 42 = .ok (.aload_n 0, 1) := by decide +kernel
theorem dX10_waitsBy_43 : decode cX10_waitsBy 43 = .ok (.getfield 23, 3) := by decide +kernel
theorem dX10_waitsBy_46 : decode cX10_waitsBy 46 = .ok (.aload_n 0, 1) := by decide +kernel
theorem dX10_waitsBy_47 : decode cX10_waitsBy 47 = .ok (.getfield 173, 3) := by decide +kernel
theorem dX10_waitsBy_50 : decode cX10_waitsBy 50 = .ok (.iaload, 1) := by decide +kernel
theorem dX10_waitsBy_51 : decode cX10_waitsBy 51 = .ok (.aload_n 0, 1) := by decide +kernel
theorem dX10_waitsBy_52 : decode cX10_waitsBy 52 = .ok (.getfield 23, 3) := by decide +kernel
theorem dX10_waitsBy_55 : decode cX10_waitsBy 55 = .ok (.iload_n 1, 1) := by decide +kernel
theorem dX10_waitsBy_56 : decode cX10_waitsBy 56 = .ok (.iaload, 1) := by decide +kernel
theorem dX10_waitsBy_57 : decode cX10_waitsBy 57 = .ok (.if_icmp .ne 7, 3) := by decide +kernel
theorem dX10_waitsBy_60 : decode cX10_waitsBy 60 = .ok (.iconst 2, 1) := by decide +kernel
theorem dX10_waitsBy_61 : decode cX10_waitsBy 61 = .ok (.goto 4, 3) := by decide +kernel
theorem dX10_waitsBy_64 : decode cX10_waitsBy 64 = .ok (.iconst 3, 1) := by decide +kernel
theorem dX10_waitsBy_65 : decode cX10_waitsBy 65 = .ok (.ireturn, 1) := by decide +kernel
def f_X10_waitsBy (μ : Mm) (p1 : Int32) : Option Int32 :=
 if (μ.1 1000 0 32) = 0 then
 if 0 ≤ (μ.1 1000 0 31) then
 (ra μ 1006 0 8 (μ.1 1000 0 31)).bind fun v9 =>
 (ra μ 1006 0 8 p1).bind fun v11 =>
 if v9 ≤ v11 then
 (ra μ 1006 0 8 (μ.1 1000 0 31)).bind fun v13 =>
 (ra μ 1006 0 8 p1).bind fun v15 =>
 if v13 = v15 then
 some (2 : Int32)
 else
 some (3 : Int32)
 else
 some (1 : Int32)
 else
 some (4 : Int32)
 else
 some (0 : Int32)
set_option maxHeartbeats 4000000 in
set_option maxRecDepth 100000 in
theorem c_X10_waitsBy (l : Launch) (E : En) {μ : Mm} {p1 : Int32} (h0 : l10 E 0) {z : Int32} (hf : f_X10_waitsBy μ p1 = some z) : Met l yX10_waitsBy (wt yX10_waitsBy cX10_waitsBy 2 (some .int)) { frames := 0, cells := 0, slots := 0, locals := 0 } (Pm E [.ref (ad E 1000 0), .int p1] μ) (Qm E (some (.int z)) μ) 0 0 (Ad E) := by
  unfold f_X10_waitsBy at hf
  refine met_of (cc := cX10_waitsBy) (nL := 2) (ret := (some .int)) (by decide) _ (Nat.le_of_ble_eq_true rfl) ?_
  intro p e s m below meth c C hr hlk hI ls hl
  have hx := C.1.1
  have hb := C.1.2.1
  have hl : lv_has ls 2 [(0, .ref (ad E 1000 0)), (1, .int p1)] := hl
  refine lv_aload_n hx hb dX10_waitsBy_0 rfl (lv_at hl 0 rfl) ?_
  refine gf_10_32 C hI h0.1 fl_X10_176 dX10_waitsBy_1 ?_
  refine lv_if_eq (tgt := 9) hx hb dX10_waitsBy_4 rfl (fun hc => ?_) (fun hc => ?_)
  · replace hf := it hf hc
    refine lv_aload_n hx hb dX10_waitsBy_9 rfl (lv_at hl 0 rfl) ?_
    refine gf_10_31 C hI h0.1 fl_X10_173 dX10_waitsBy_10 ?_
    refine lv_if_ge (tgt := 20) hx hb dX10_waitsBy_13 rfl (fun hc => ?_) (fun hc => ?_)
    · replace hf := it hf hc
      refine lv_aload_n hx hb dX10_waitsBy_20 rfl (lv_at hl 0 rfl) ?_
      refine gf_10_5 C hI h0.1 fl_X10_23 dX10_waitsBy_21 ?_
      refine lv_aload_n hx hb dX10_waitsBy_24 rfl (lv_at hl 0 rfl) ?_
      refine gf_10_31 C hI h0.1 fl_X10_173 dX10_waitsBy_25 ?_
      obtain ⟨v9, e10, hf⟩ := ob hf
      refine m_iald C hI h0.2.2.1 (ce_1006 E _ _ _) e10 dX10_waitsBy_28 ?_
      refine lv_aload_n hx hb dX10_waitsBy_29 rfl (lv_at hl 0 rfl) ?_
      refine gf_10_5 C hI h0.1 fl_X10_23 dX10_waitsBy_30 ?_
      refine lv_iload_n hx hb dX10_waitsBy_33 rfl (lv_at hl 1 rfl) ?_
      obtain ⟨v11, e12, hf⟩ := ob hf
      refine m_iald C hI h0.2.2.1 (ce_1006 E _ _ _) e12 dX10_waitsBy_34 ?_
      refine lv_icmp_le (tgt := 42) hx hb dX10_waitsBy_35 rfl (fun hc => ?_) (fun hc => ?_)
      · replace hf := it hf hc
        refine lv_aload_n hx hb dX10_waitsBy_42 rfl (lv_at hl 0 rfl) ?_
        refine gf_10_5 C hI h0.1 fl_X10_23 dX10_waitsBy_43 ?_
        refine lv_aload_n hx hb dX10_waitsBy_46 rfl (lv_at hl 0 rfl) ?_
        refine gf_10_31 C hI h0.1 fl_X10_173 dX10_waitsBy_47 ?_
        obtain ⟨v13, e14, hf⟩ := ob hf
        refine m_iald C hI h0.2.2.1 (ce_1006 E _ _ _) e14 dX10_waitsBy_50 ?_
        refine lv_aload_n hx hb dX10_waitsBy_51 rfl (lv_at hl 0 rfl) ?_
        refine gf_10_5 C hI h0.1 fl_X10_23 dX10_waitsBy_52 ?_
        refine lv_iload_n hx hb dX10_waitsBy_55 rfl (lv_at hl 1 rfl) ?_
        obtain ⟨v15, e16, hf⟩ := ob hf
        refine m_iald C hI h0.2.2.1 (ce_1006 E _ _ _) e16 dX10_waitsBy_56 ?_
        refine lv_icmp_ne (tgt := 64) hx hb dX10_waitsBy_57 rfl (fun hc => ?_) (fun hc => ?_)
        · replace hf := ie hf hc
          refine lv_iconst (v := (3 : Int32)) hx hb dX10_waitsBy_64 kc_3 ?_
          obtain rfl := Option.some.inj hf
          exact m_iret C hr hlk hI dX10_waitsBy_65
        · replace hf := it hf hc
          refine lv_iconst (v := (2 : Int32)) hx hb dX10_waitsBy_60 kc_2 ?_
          refine lv_goto (tgt := 65) hx hb dX10_waitsBy_61 rfl ?_
          obtain rfl := Option.some.inj hf
          exact m_iret C hr hlk hI dX10_waitsBy_65
      · replace hf := ie hf hc
        refine lv_iconst (v := (1 : Int32)) hx hb dX10_waitsBy_38 kc_1 ?_
        refine lv_goto (tgt := 65) hx hb dX10_waitsBy_39 rfl ?_
        obtain rfl := Option.some.inj hf
        exact m_iret C hr hlk hI dX10_waitsBy_65
    · replace hf := ie hf hc
      refine lv_iconst (v := (4 : Int32)) hx hb dX10_waitsBy_16 kc_4 ?_
      refine lv_goto (tgt := 65) hx hb dX10_waitsBy_17 rfl ?_
      obtain rfl := Option.some.inj hf
      exact m_iret C hr hlk hI dX10_waitsBy_65
  · replace hf := ie hf hc
    refine lv_iconst (v := (0 : Int32)) hx hb dX10_waitsBy_7 kc_0 ?_
    obtain rfl := Option.some.inj hf
    exact m_iret C hr hlk hI dX10_waitsBy_8

theorem dX10_heldBy_0 : decode cX10_heldBy 0 = .ok (.aload_n 0, 1) := by decide +kernel
theorem dX10_heldBy_1 : decode cX10_heldBy 1 = .ok (.getfield 88, 3) := by decide +kernel
theorem dX10_heldBy_4 : decode cX10_heldBy 4 = .ok (.aload_n 0, 1) := by decide +kernel
theorem dX10_heldBy_5 : decode cX10_heldBy 5 = .ok (.getfield 85, 3) := by decide +kernel
theorem dX10_heldBy_8 : decode cX10_heldBy 8 = .ok (.iload_n 1, 1) := by decide +kernel
theorem dX10_heldBy_9 : decode cX10_heldBy 9 = .ok (.iaload, 1) := by decide +kernel
theorem dX10_heldBy_10 : decode cX10_heldBy 10 = .ok (.iaload, 1) := by decide +kernel
theorem dX10_heldBy_11 : decode cX10_heldBy 11 = .ok (.istore_n 2, 1) := by decide +kernel
theorem dX10_heldBy_12 : decode cX10_heldBy 12 = .ok (.aload_n 0, 1) := by decide +kernel
theorem dX10_heldBy_13 : decode cX10_heldBy 13 = .ok (.getfield 176, 3) := by decide +kernel
theorem dX10_heldBy_16 : decode cX10_heldBy 16 = .ok (.ifCond .eq 5, 3) := by decide +kernel
theorem dX10_heldBy_19 : decode cX10_heldBy 19 = .ok (.iconst 0, 1) := by decide +kernel
theorem dX10_heldBy_20 : decode cX10_heldBy 20 = .ok (.ireturn, 1) := by decide +kernel
theorem dX10_heldBy_21 : decode cX10_heldBy 21 = .ok (.iload_n 2, 1) := by decide +kernel
theorem dX10_heldBy_22 : decode cX10_heldBy 22 = .ok (.iconst (-1), 1) := by decide +kernel
theorem dX10_heldBy_23 : decode cX10_heldBy 23 = .ok (.if_icmp .ne 6, 3) := by decide +kernel
theorem dX10_heldBy_26 : decode cX10_heldBy 26 = .ok (.bipush 6, 2) := by decide +kernel
theorem dX10_heldBy_28 : decode cX10_heldBy 28 = .ok (.ireturn, 1) := by decide +kernel
theorem dX10_heldBy_29 : decode cX10_heldBy 29 = .ok (.iload_n 2, 1) := by decide +kernel
theorem dX10_heldBy_30 : decode cX10_heldBy 30 = .ok (.aload_n 0, 1) := by decide +kernel
theorem dX10_heldBy_31 : decode cX10_heldBy 31 = .ok (.getfield 173, 3) := by decide +kernel
theorem dX10_heldBy_34 : decode cX10_heldBy 34 = .ok (.if_icmp .ne 5, 3) := by decide +kernel
theorem dX10_heldBy_37 : decode cX10_heldBy 37 = .ok (.iconst 1, 1) := by decide +kernel
theorem dX10_heldBy_38 : decode cX10_heldBy 38 = .ok (.ireturn, 1) := by decide +kernel
theorem dX10_heldBy_39 : decode cX10_heldBy 39 = .ok (.aload_n 0, 1) := by decide +kernel
theorem dX10_heldBy_40 : decode cX10_heldBy 40 = .ok (.getfield 82, 3) := by decide +kernel
theorem dX10_heldBy_43 : decode cX10_heldBy 43 = .ok (.iload_n 2, 1) := by decide +kernel
theorem dX10_heldBy_44 : decode cX10_heldBy 44 = .ok (.iaload, 1) := by decide +kernel
theorem dX10_heldBy_45 : decode cX10_heldBy 45 = .ok (.iconst 3, 1) := by decide +kernel
theorem dX10_heldBy_46 : decode cX10_heldBy 46 = .ok (.if_icmp .ne 5, 3) := by decide +kernel
theorem dX10_heldBy_49 : decode cX10_heldBy 49 = .ok (.iconst 2, 1) := by decide +kernel
theorem dX10_heldBy_50 : decode cX10_heldBy 50 = .ok (.ireturn, 1) := by decide +kernel
theorem dX10_heldBy_51 : decode cX10_heldBy 51 = .ok (.aload_n 0, 1) := by decide +kernel
theorem dX10_heldBy_52 : decode cX10_heldBy 52 = .ok (.getfield 173, 3) := by decide +kernel
theorem dX10_heldBy_55 : decode cX10_heldBy 55 = .ok (.ifCond .ge 7, 3) := by decide +kernel
theorem dX10_heldBy_58 : decode cX10_heldBy 58 = .ok (.iconst 5, 1) := by decide +kernel
theorem dX10_heldBy_59 : decode cX10_heldBy 59 = .ok (.goto 26, 3) := by decide +kernel
theorem dX10_heldBy_62 : decode cX10_heldBy 62 = .ok (.aload_n 0, 1) := by decide +kernel
theorem dX10_heldBy_63 : decode cX10_heldBy 63 = .ok (.getfield 23, 3) := by decide +kernel
theorem dX10_heldBy_66 : decode cX10_heldBy 66 = .ok (.aload_n 0, 1) := by decide +kernel
theorem dX10_heldBy_67 : decode cX10_heldBy 67 = .ok (.getfield 173, 3) := by decide +kernel
theorem dX10_heldBy_70 : decode cX10_heldBy 70 = .ok (.iaload, 1) := by decide +kernel
theorem dX10_heldBy_71 : decode cX10_heldBy 71 = .ok (.aload_n 0, 1) := by decide +kernel
theorem dX10_heldBy_72 : decode cX10_heldBy 72 = .ok (.getfield 23, 3) := by decide +kernel
theorem dX10_heldBy_75 : decode cX10_heldBy 75 = .ok (.iload_n 1, 1) := by decide +kernel
theorem dX10_heldBy_76 : decode cX10_heldBy 76 = .ok (.iaload, 1) := by decide +kernel
theorem dX10_heldBy_77 : decode cX10_heldBy 77 = .ok (.if_icmp .lt 7, 3) := by decide +kernel
theorem dX10_heldBy_80 : decode cX10_heldBy 80 = .ok (.iconst 3, 1) := by decide +kernel
theorem dX10_heldBy_81 : decode cX10_heldBy 81 = .ok (.goto 4, 3) := by decide +kernel
theorem dX10_heldBy_84 : decode cX10_heldBy 84 = .ok (.iconst 4, 1) := by decide +kernel
theorem dX10_heldBy_85 : decode cX10_heldBy 85 = .ok (.ireturn, 1) := by decide +kernel
def f_X10_heldBy (μ : Mm) (p1 : Int32) : Option Int32 :=
 (ra μ 1029 0 8 p1).bind fun v11 =>
 (ra μ 1030 0 4 v11).bind fun v13 =>
 if (μ.1 1000 0 32) = 0 then
 if v13 = (-1 : Int32) then
 some (6 : Int32)
 else
 if v13 = (μ.1 1000 0 31) then
 some (1 : Int32)
 else
 (ra μ 1028 0 8 v13).bind fun v15 =>
 if v15 = (3 : Int32) then
 some (2 : Int32)
 else
 if 0 ≤ (μ.1 1000 0 31) then
 (ra μ 1006 0 8 (μ.1 1000 0 31)).bind fun v17 =>
 (ra μ 1006 0 8 p1).bind fun v19 =>
 if v17 < v19 then
 some (4 : Int32)
 else
 some (3 : Int32)
 else
 some (5 : Int32)
 else
 some (0 : Int32)
set_option maxHeartbeats 4000000 in
set_option maxRecDepth 100000 in
theorem c_X10_heldBy (l : Launch) (E : En) {μ : Mm} {p1 : Int32} (h0 : l10 E 0) {z : Int32} (hf : f_X10_heldBy μ p1 = some z) : Met l yX10_heldBy (wt yX10_heldBy cX10_heldBy 3 (some .int)) { frames := 0, cells := 0, slots := 0, locals := 0 } (Pm E [.ref (ad E 1000 0), .int p1] μ) (Qm E (some (.int z)) μ) 0 0 (Ad E) := by
  unfold f_X10_heldBy at hf
  refine met_of (cc := cX10_heldBy) (nL := 3) (ret := (some .int)) (by decide) _ (Nat.le_of_ble_eq_true rfl) ?_
  intro p e s m below meth c C hr hlk hI ls hl
  have hx := C.1.1
  have hb := C.1.2.1
  have hl : lv_has ls 3 [(0, .ref (ad E 1000 0)), (1, .int p1)] := hl
  refine lv_aload_n hx hb dX10_heldBy_0 rfl (lv_at hl 0 rfl) ?_
  refine gf_10_29 C hI h0.1 fl_X10_88 dX10_heldBy_1 ?_
  refine lv_aload_n hx hb dX10_heldBy_4 rfl (lv_at hl 0 rfl) ?_
  refine gf_10_28 C hI h0.1 fl_X10_85 dX10_heldBy_5 ?_
  refine lv_iload_n hx hb dX10_heldBy_8 rfl (lv_at hl 1 rfl) ?_
  obtain ⟨v11, e12, hf⟩ := ob hf
  refine m_iald C hI h0.2.2.2.2.2.2.2.2.2.2.2.2.2.2.2.2.2.2.2.2.2.2.1 (ce_1029 E _ _ _) e12 dX10_heldBy_9 ?_
  obtain ⟨v13, e14, hf⟩ := ob hf
  refine m_iald C hI h0.2.2.2.2.2.2.2.2.2.2.2.2.2.2.2.2.2.2.2.2.2.2.2.1 (ce_1030 E _ _ _) e14 dX10_heldBy_10 ?_
  refine lv_istore_n hx hb dX10_heldBy_11 rfl hl (by decide) rfl (fun ls hl => ?_)
  have hl : lv_has ls 3 [(2, .int v13), (0, .ref (ad E 1000 0)), (1, .int p1)] := hl
  refine lv_aload_n hx hb dX10_heldBy_12 rfl (lv_at hl 1 rfl) ?_
  refine gf_10_32 C hI h0.1 fl_X10_176 dX10_heldBy_13 ?_
  refine lv_if_eq (tgt := 21) hx hb dX10_heldBy_16 rfl (fun hc => ?_) (fun hc => ?_)
  · replace hf := it hf hc
    refine lv_iload_n hx hb dX10_heldBy_21 rfl (lv_at hl 0 rfl) ?_
    refine lv_iconst (v := (-1 : Int32)) hx hb dX10_heldBy_22 kc_m1 ?_
    refine lv_icmp_ne (tgt := 29) hx hb dX10_heldBy_23 rfl (fun hc => ?_) (fun hc => ?_)
    · replace hf := ie hf hc
      refine lv_iload_n hx hb dX10_heldBy_29 rfl (lv_at hl 0 rfl) ?_
      refine lv_aload_n hx hb dX10_heldBy_30 rfl (lv_at hl 1 rfl) ?_
      refine gf_10_31 C hI h0.1 fl_X10_173 dX10_heldBy_31 ?_
      refine lv_icmp_ne (tgt := 39) hx hb dX10_heldBy_34 rfl (fun hc => ?_) (fun hc => ?_)
      · replace hf := ie hf hc
        refine lv_aload_n hx hb dX10_heldBy_39 rfl (lv_at hl 1 rfl) ?_
        refine gf_10_27 C hI h0.1 fl_X10_82 dX10_heldBy_40 ?_
        refine lv_iload_n hx hb dX10_heldBy_43 rfl (lv_at hl 0 rfl) ?_
        obtain ⟨v15, e16, hf⟩ := ob hf
        refine m_iald C hI h0.2.2.2.2.2.2.2.2.2.2.2.2.2.2.2.2.2.2.2.2.2.1 (ce_1028 E _ _ _) e16 dX10_heldBy_44 ?_
        refine lv_iconst (v := (3 : Int32)) hx hb dX10_heldBy_45 kc_3 ?_
        refine lv_icmp_ne (tgt := 51) hx hb dX10_heldBy_46 rfl (fun hc => ?_) (fun hc => ?_)
        · replace hf := ie hf hc
          refine lv_aload_n hx hb dX10_heldBy_51 rfl (lv_at hl 1 rfl) ?_
          refine gf_10_31 C hI h0.1 fl_X10_173 dX10_heldBy_52 ?_
          refine lv_if_ge (tgt := 62) hx hb dX10_heldBy_55 rfl (fun hc => ?_) (fun hc => ?_)
          · replace hf := it hf hc
            refine lv_aload_n hx hb dX10_heldBy_62 rfl (lv_at hl 1 rfl) ?_
            refine gf_10_5 C hI h0.1 fl_X10_23 dX10_heldBy_63 ?_
            refine lv_aload_n hx hb dX10_heldBy_66 rfl (lv_at hl 1 rfl) ?_
            refine gf_10_31 C hI h0.1 fl_X10_173 dX10_heldBy_67 ?_
            obtain ⟨v17, e18, hf⟩ := ob hf
            refine m_iald C hI h0.2.2.1 (ce_1006 E _ _ _) e18 dX10_heldBy_70 ?_
            refine lv_aload_n hx hb dX10_heldBy_71 rfl (lv_at hl 1 rfl) ?_
            refine gf_10_5 C hI h0.1 fl_X10_23 dX10_heldBy_72 ?_
            refine lv_iload_n hx hb dX10_heldBy_75 rfl (lv_at hl 2 rfl) ?_
            obtain ⟨v19, e20, hf⟩ := ob hf
            refine m_iald C hI h0.2.2.1 (ce_1006 E _ _ _) e20 dX10_heldBy_76 ?_
            refine lv_icmp_lt (tgt := 84) hx hb dX10_heldBy_77 rfl (fun hc => ?_) (fun hc => ?_)
            · replace hf := it hf hc
              refine lv_iconst (v := (4 : Int32)) hx hb dX10_heldBy_84 kc_4 ?_
              obtain rfl := Option.some.inj hf
              exact m_iret C hr hlk hI dX10_heldBy_85
            · replace hf := ie hf hc
              refine lv_iconst (v := (3 : Int32)) hx hb dX10_heldBy_80 kc_3 ?_
              refine lv_goto (tgt := 85) hx hb dX10_heldBy_81 rfl ?_
              obtain rfl := Option.some.inj hf
              exact m_iret C hr hlk hI dX10_heldBy_85
          · replace hf := ie hf hc
            refine lv_iconst (v := (5 : Int32)) hx hb dX10_heldBy_58 kc_5 ?_
            refine lv_goto (tgt := 85) hx hb dX10_heldBy_59 rfl ?_
            obtain rfl := Option.some.inj hf
            exact m_iret C hr hlk hI dX10_heldBy_85
        · replace hf := it hf hc
          refine lv_iconst (v := (2 : Int32)) hx hb dX10_heldBy_49 kc_2 ?_
          obtain rfl := Option.some.inj hf
          exact m_iret C hr hlk hI dX10_heldBy_50
      · replace hf := it hf hc
        refine lv_iconst (v := (1 : Int32)) hx hb dX10_heldBy_37 kc_1 ?_
        obtain rfl := Option.some.inj hf
        exact m_iret C hr hlk hI dX10_heldBy_38
    · replace hf := it hf hc
      refine lv_bipush (v := (6 : Int32)) hx hb dX10_heldBy_26 kb_6 ?_
      obtain rfl := Option.some.inj hf
      exact m_iret C hr hlk hI dX10_heldBy_28
  · replace hf := ie hf hc
    refine lv_iconst (v := (0 : Int32)) hx hb dX10_heldBy_19 kc_0 ?_
    obtain rfl := Option.some.inj hf
    exact m_iret C hr hlk hI dX10_heldBy_20

theorem dX10_chainOf_0 : decode cX10_chainOf 0 = .ok (.iconst 1, 1) := by decide +kernel
theorem dX10_chainOf_1 : decode cX10_chainOf 1 = .ok (.istore_n 2, 1) := by decide +kernel
theorem dX10_chainOf_2 : decode cX10_chainOf 2 = .ok (.aload_n 0, 1) := by decide +kernel
theorem dX10_chainOf_3 : decode cX10_chainOf 3 = .ok (.getfield 88, 3) := by decide +kernel
theorem dX10_chainOf_6 : decode cX10_chainOf 6 = .ok (.aload_n 0, 1) := by decide +kernel
theorem dX10_chainOf_7 : decode cX10_chainOf 7 = .ok (.getfield 85, 3) := by decide +kernel
theorem dX10_chainOf_10 : decode cX10_chainOf 10 = .ok (.iload_n 1, 1) := by decide +kernel
theorem dX10_chainOf_11 : decode cX10_chainOf 11 = .ok (.iaload, 1) := by decide +kernel
theorem dX10_chainOf_12 : decode cX10_chainOf 12 = .ok (.iaload, 1) := by decide +kernel
theorem dX10_chainOf_13 : decode cX10_chainOf 13 = .ok (.istore_n 3, 1) := by decide +kernel
theorem dX10_chainOf_14 : decode cX10_chainOf 14 = .ok (.iload_n 2, 1) := by decide +kernel
theorem dX10_chainOf_15 : decode cX10_chainOf 15 = .ok (.bipush 9, 2) := by decide +kernel
theorem dX10_chainOf_17 : decode cX10_chainOf 17 = .ok (.if_icmp .ge 36, 3) := by decide +kernel
theorem dX10_chainOf_20 : decode cX10_chainOf 20 = .ok (.iload_n 3, 1) := by decide +kernel
theorem dX10_chainOf_21 : decode cX10_chainOf 21 = .ok (.iconst (-1), 1) := by decide +kernel
theorem dX10_chainOf_22 : decode cX10_chainOf 22 = .ok (.if_icmp .eq 31, 3) := by decide +kernel
theorem dX10_chainOf_25 : decode cX10_chainOf 25 = .ok (.aload_n 0, 1) := by decide +kernel
theorem dX10_chainOf_26 : decode cX10_chainOf 26 = .ok (.getfield 82, 3) := by decide +kernel
theorem dX10_chainOf_29 : decode cX10_chainOf 29 = .ok (.iload_n 3, 1) := by decide +kernel
theorem dX10_chainOf_30 : decode cX10_chainOf 30 = .ok (.iaload, 1) := by decide +kernel
theorem dX10_chainOf_31 : decode cX10_chainOf 31 = .ok (.iconst 3, 1) := by decide +kernel
theorem dX10_chainOf_32 : decode cX10_chainOf 32 = .ok (.if_icmp .ne 21, 3) := by decide +kernel
theorem dX10_chainOf_35 : decode cX10_chainOf 35 = .ok (.iinc 2 1, 3) := by decide +kernel
theorem dX10_chainOf_38 : decode cX10_chainOf 38 = .ok (.aload_n 0, 1) := by decide +kernel
theorem dX10_chainOf_39 : decode cX10_chainOf 39 = .ok (.getfield 88, 3) := by decide +kernel
theorem dX10_chainOf_42 : decode cX10_chainOf 42 = .ok (.aload_n 0, 1) := by decide +kernel
theorem dX10_chainOf_43 : decode cX10_chainOf 43 = .ok (.getfield 85, 3) := by decide +kernel
theorem dX10_chainOf_46 : decode cX10_chainOf 46 = .ok (.iload_n 3, 1) := by decide +kernel
theorem dX10_chainOf_47 : decode cX10_chainOf 47 = .ok (.iaload, 1) := by decide +kernel
theorem dX10_chainOf_48 : decode cX10_chainOf 48 = .ok (.iaload, 1) := by decide +kernel
theorem dX10_chainOf_49 : decode cX10_chainOf 49 = .ok (.istore_n 3, 1) := by decide +kernel
theorem dX10_chainOf_50 : decode cX10_chainOf 50 = .ok (.goto (-36), 3) := by decide +kernel
theorem dX10_chainOf_53 : decode cX10_chainOf 53 = .ok (.iload_n 2, 1) := by decide +kernel
theorem dX10_chainOf_54 : decode cX10_chainOf 54 = .ok (.ireturn, 1) := by decide +kernel
def f_X10_chainOf_b14 (F : Nat) (μ : Mm) : Nat → Int32 → Int32 → Option Int32
 | 0, _, _ => none
 | N + 1, a2, a3 =>
 if (9 : Int32) ≤ a2 then
 some a2
 else
 if a3 = (-1 : Int32) then
 some a2
 else
 (ra μ 1028 0 8 a3).bind fun v11 =>
 if v11 = (3 : Int32) then
 (ra μ 1029 0 8 a3).bind fun v13 =>
 (ra μ 1030 0 4 v13).bind fun v15 =>
 f_X10_chainOf_b14 F μ N (a2 + (1 : Int32)) v15
 else
 some a2
set_option maxHeartbeats 4000000 in
set_option maxRecDepth 100000 in
theorem cb_X10_chainOf_14 {l : Launch} {E : En} {p : Program} {e : Env} {s : State} {m : MethodId} {av : Array Value} {below : List Frame} {meth : Method} {c : Code} (C : Cx E p s m av c cX10_chainOf 4 yX10_chainOf.cls) (hr : meth.sig.returnType = (some .int)) (hlk : meth.locks = false) {F : Nat} {μ : Mm} {z : Int32} : ∀ (N : Nat) (a2 : Int32) (a3 : Int32) (h_a0 : l10 E 0), f_X10_chainOf_b14 F μ N a2 a3 = some z → ∀ {H : Heap} {locs : List Loc} {ls : Array Slot}, Iv E s μ H locs → lv_has ls 4 [(0, .ref (ad E 1000 0)), (2, .int a2), (3, .int a3)] → W p l e { frames := 0, cells := 0, slots := 0, locals := 0 } s m av below meth c H locs 0 0 (MQ below (Qm E (some (.int z)) μ) av s 0 0 (Ad E)) (F0 m 14 ls []) := by
  have hx := C.1.1
  have hb := C.1.2.1
  intro N
  induction N with
  | zero => intro a2 a3 h_a0 hf; cases hf
  | succ N ih =>
    intro a2 a3 h_a0 hf H locs ls hI hl
    rw [f_X10_chainOf_b14] at hf
    refine lv_iload_n hx hb dX10_chainOf_14 rfl (lv_at hl 1 rfl) ?_
    refine lv_bipush (v := (9 : Int32)) hx hb dX10_chainOf_15 kb_9 ?_
    refine lv_icmp_ge (tgt := 53) hx hb dX10_chainOf_17 rfl (fun hc => ?_) (fun hc => ?_)
    · replace hf := it hf hc
      refine lv_iload_n hx hb dX10_chainOf_53 rfl (lv_at hl 1 rfl) ?_
      obtain rfl := Option.some.inj hf
      exact m_iret C hr hlk hI dX10_chainOf_54
    · replace hf := ie hf hc
      refine lv_iload_n hx hb dX10_chainOf_20 rfl (lv_at hl 2 rfl) ?_
      refine lv_iconst (v := (-1 : Int32)) hx hb dX10_chainOf_21 kc_m1 ?_
      refine lv_icmp_eq (tgt := 53) hx hb dX10_chainOf_22 rfl (fun hc => ?_) (fun hc => ?_)
      · replace hf := it hf hc
        refine lv_iload_n hx hb dX10_chainOf_53 rfl (lv_at hl 1 rfl) ?_
        obtain rfl := Option.some.inj hf
        exact m_iret C hr hlk hI dX10_chainOf_54
      · replace hf := ie hf hc
        refine lv_aload_n hx hb dX10_chainOf_25 rfl (lv_at hl 0 rfl) ?_
        refine gf_10_27 C hI h_a0.1 fl_X10_82 dX10_chainOf_26 ?_
        refine lv_iload_n hx hb dX10_chainOf_29 rfl (lv_at hl 2 rfl) ?_
        obtain ⟨v11, e12, hf⟩ := ob hf
        refine m_iald C hI h_a0.2.2.2.2.2.2.2.2.2.2.2.2.2.2.2.2.2.2.2.2.2.1 (ce_1028 E _ _ _) e12 dX10_chainOf_30 ?_
        refine lv_iconst (v := (3 : Int32)) hx hb dX10_chainOf_31 kc_3 ?_
        refine lv_icmp_ne (tgt := 53) hx hb dX10_chainOf_32 rfl (fun hc => ?_) (fun hc => ?_)
        · replace hf := ie hf hc
          refine lv_iload_n hx hb dX10_chainOf_53 rfl (lv_at hl 1 rfl) ?_
          obtain rfl := Option.some.inj hf
          exact m_iret C hr hlk hI dX10_chainOf_54
        · replace hf := it hf hc
          refine lv_iinc (v := a2 + (1 : Int32)) hx hb dX10_chainOf_35 hl (k := 1) rfl (ki_1 _) (by decide) rfl (fun ls hl => ?_)
          have hl : lv_has ls 4 [(2, .int (a2 + (1 : Int32))), (0, .ref (ad E 1000 0)), (3, .int a3)] := hl
          refine lv_aload_n hx hb dX10_chainOf_38 rfl (lv_at hl 1 rfl) ?_
          refine gf_10_29 C hI h_a0.1 fl_X10_88 dX10_chainOf_39 ?_
          refine lv_aload_n hx hb dX10_chainOf_42 rfl (lv_at hl 1 rfl) ?_
          refine gf_10_28 C hI h_a0.1 fl_X10_85 dX10_chainOf_43 ?_
          refine lv_iload_n hx hb dX10_chainOf_46 rfl (lv_at hl 2 rfl) ?_
          obtain ⟨v13, e14, hf⟩ := ob hf
          refine m_iald C hI h_a0.2.2.2.2.2.2.2.2.2.2.2.2.2.2.2.2.2.2.2.2.2.2.1 (ce_1029 E _ _ _) e14 dX10_chainOf_47 ?_
          obtain ⟨v15, e16, hf⟩ := ob hf
          refine m_iald C hI h_a0.2.2.2.2.2.2.2.2.2.2.2.2.2.2.2.2.2.2.2.2.2.2.2.1 (ce_1030 E _ _ _) e16 dX10_chainOf_48 ?_
          refine lv_istore_n hx hb dX10_chainOf_49 rfl hl (by decide) rfl (fun ls hl => ?_)
          have hl : lv_has ls 4 [(3, .int v15), (2, .int (a2 + (1 : Int32))), (0, .ref (ad E 1000 0))] := hl
          refine lv_goto (tgt := 14) hx hb dX10_chainOf_50 rfl ?_
          exact ih _ _ h_a0 hf hI (lv_sub hl [2, 1, 0] rfl)
def f_X10_chainOf (F : Nat) (μ : Mm) (p1 : Int32) : Option Int32 :=
 (ra μ 1029 0 8 p1).bind fun v17 =>
 (ra μ 1030 0 4 v17).bind fun v19 =>
 f_X10_chainOf_b14 F μ F (1 : Int32) v19
set_option maxHeartbeats 4000000 in
set_option maxRecDepth 100000 in
theorem c_X10_chainOf (l : Launch) (E : En) {F : Nat} {μ : Mm} {p1 : Int32} (h0 : l10 E 0) {z : Int32} (hf : f_X10_chainOf F μ p1 = some z) : Met l yX10_chainOf (wt yX10_chainOf cX10_chainOf 4 (some .int)) { frames := 0, cells := 0, slots := 0, locals := 0 } (Pm E [.ref (ad E 1000 0), .int p1] μ) (Qm E (some (.int z)) μ) 0 0 (Ad E) := by
  unfold f_X10_chainOf at hf
  refine met_of (cc := cX10_chainOf) (nL := 4) (ret := (some .int)) (by decide) _ (Nat.le_of_ble_eq_true rfl) ?_
  intro p e s m below meth c C hr hlk hI ls hl
  have hx := C.1.1
  have hb := C.1.2.1
  have hl : lv_has ls 4 [(0, .ref (ad E 1000 0)), (1, .int p1)] := hl
  refine lv_iconst (v := (1 : Int32)) hx hb dX10_chainOf_0 kc_1 ?_
  refine lv_istore_n hx hb dX10_chainOf_1 rfl hl (by decide) rfl (fun ls hl => ?_)
  have hl : lv_has ls 4 [(2, .int (1 : Int32)), (0, .ref (ad E 1000 0)), (1, .int p1)] := hl
  refine lv_aload_n hx hb dX10_chainOf_2 rfl (lv_at hl 1 rfl) ?_
  refine gf_10_29 C hI h0.1 fl_X10_88 dX10_chainOf_3 ?_
  refine lv_aload_n hx hb dX10_chainOf_6 rfl (lv_at hl 1 rfl) ?_
  refine gf_10_28 C hI h0.1 fl_X10_85 dX10_chainOf_7 ?_
  refine lv_iload_n hx hb dX10_chainOf_10 rfl (lv_at hl 2 rfl) ?_
  obtain ⟨v17, e18, hf⟩ := ob hf
  refine m_iald C hI h0.2.2.2.2.2.2.2.2.2.2.2.2.2.2.2.2.2.2.2.2.2.2.1 (ce_1029 E _ _ _) e18 dX10_chainOf_11 ?_
  obtain ⟨v19, e20, hf⟩ := ob hf
  refine m_iald C hI h0.2.2.2.2.2.2.2.2.2.2.2.2.2.2.2.2.2.2.2.2.2.2.2.1 (ce_1030 E _ _ _) e20 dX10_chainOf_12 ?_
  refine lv_istore_n hx hb dX10_chainOf_13 rfl hl (by decide) rfl (fun ls hl => ?_)
  have hl : lv_has ls 4 [(3, .int v19), (2, .int (1 : Int32)), (0, .ref (ad E 1000 0)), (1, .int p1)] := hl
  exact cb_X10_chainOf_14 C hr hlk  _ _ _ h0 hf hI (lv_sub hl [2, 1, 0] rfl)

theorem dX10_response_0 : decode cX10_response 0 = .ok (.aload_n 0, 1) := by decide +kernel
theorem dX10_response_1 : decode cX10_response 1 = .ok (.getfield 42, 3) := by decide +kernel
theorem dX10_response_4 : decode cX10_response 4 = .ok (.aload_n 0, 1) := by decide +kernel
theorem dX10_response_5 : decode cX10_response 5 = .ok (.aload_n 0, 1) := by decide +kernel
theorem dX10_response_6 : decode cX10_response 6 = .ok (.getfield 97, 3) := by decide +kernel
theorem dX10_response_9 : decode cX10_response 9 = .ok (.iload_n 1, 1) := by decide +kernel
theorem dX10_response_10 : decode cX10_response 10 = .ok (.iaload, 1) := by decide +kernel
theorem dX10_response_11 : decode cX10_response 11 = .ok (.invokevirtual 190, 3) := by decide +kernel
theorem dX10_response_14 : decode cX10_response 14 = .ok (.iaload, 1) := by decide +kernel
theorem dX10_response_15 : decode cX10_response 15 = .ok (.aload_n 0, 1) := by decide +kernel
theorem dX10_response_16 : decode cX10_response 16 = .ok (.getfield 42, 3) := by decide +kernel
theorem dX10_response_19 : decode cX10_response 19 = .ok (.aload_n 0, 1) := by decide +kernel
theorem dX10_response_20 : decode cX10_response 20 = .ok (.aload_n 0, 1) := by decide +kernel
theorem dX10_response_21 : decode cX10_response 21 = .ok (.getfield 94, 3) := by decide +kernel
theorem dX10_response_24 : decode cX10_response 24 = .ok (.iload_n 1, 1) := by decide +kernel
theorem dX10_response_25 : decode cX10_response 25 = .ok (.iaload, 1) := by decide +kernel
theorem dX10_response_26 : decode cX10_response 26 = .ok (.invokevirtual 190, 3) := by decide +kernel
theorem dX10_response_29 : decode cX10_response 29 = .ok (.iaload, 1) := by decide +kernel
theorem dX10_response_30 : decode cX10_response 30 = .ok (.isub, 1) := by decide +kernel
theorem dX10_response_31 : decode cX10_response 31 = .ok (.ireturn, 1) := by decide +kernel
def f_X10_response (μ : Mm) (p1 : Int32) : Option Int32 :=
 (ra μ 1039 0 100 p1).bind fun v13 =>
 (f_X10_spot μ v13).bind fun q15 =>
 (ra μ 1012 0 4200 q15).bind fun v17 =>
 (ra μ 1038 0 100 p1).bind fun v19 =>
 (f_X10_spot μ v19).bind fun q21 =>
 (ra μ 1012 0 4200 q21).bind fun v23 =>
 some (v17 - v23)
set_option maxHeartbeats 4000000 in
set_option maxRecDepth 100000 in
theorem c_X10_response (l : Launch) (E : En) {μ : Mm} {p1 : Int32} (h0 : l10 E 0) {z : Int32} (hf : f_X10_response μ p1 = some z) : Met l yX10_response (wt yX10_response cX10_response 2 (some .int)) { frames := 1, cells := 0, slots := 0, locals := 21 } (Pm E [.ref (ad E 1000 0), .int p1] μ) (Qm E (some (.int z)) μ) 0 0 (Ad E) := by
  unfold f_X10_response at hf
  refine met_of (cc := cX10_response) (nL := 2) (ret := (some .int)) (by decide) _ (Nat.le_of_ble_eq_true rfl) ?_
  intro p e s m below meth c C hr hlk hI ls hl
  have hx := C.1.1
  have hb := C.1.2.1
  have hl : lv_has ls 2 [(0, .ref (ad E 1000 0)), (1, .int p1)] := hl
  refine lv_aload_n hx hb dX10_response_0 rfl (lv_at hl 0 rfl) ?_
  refine gf_10_11 C hI h0.1 fl_X10_42 dX10_response_1 ?_
  refine lv_aload_n hx hb dX10_response_4 rfl (lv_at hl 0 rfl) ?_
  refine lv_aload_n hx hb dX10_response_5 rfl (lv_at hl 0 rfl) ?_
  refine gf_10_38 C hI h0.1 fl_X10_97 dX10_response_6 ?_
  refine lv_iload_n hx hb dX10_response_9 rfl (lv_at hl 1 rfl) ?_
  obtain ⟨v13, e14, hf⟩ := ob hf
  refine m_iald C hI h0.2.2.2.2.2.2.2.2.2.2.2.2.2.2.2.2.2.2.2.2.2.2.2.2.2.2.1 (ce_1039 E _ _ _) e14 dX10_response_10 ?_
  obtain ⟨q15, e16, hf⟩ := ob hf
  refine mcV (As := [.int v13]) (rest := [.ref (ad E 1012 0)]) C hI (c_X10_spot l E h0 e16) ml_X10_190 kv_X10_spot (m_recv C hI h0.1 (ce_1000 E _ _ _) rfl) rfl rfl ⟨Nat.le_of_ble_eq_true rfl, Nat.le_of_ble_eq_true rfl⟩ ⟨Nat.zero_le _, Nat.zero_le _⟩ rfl rfl hl.1 (Nat.le_of_ble_eq_true rfl) dX10_response_11 (st1 := [.int q15, .ref (ad E 1012 0)]) rfl (fun H locs hI => ?_)
  obtain ⟨v17, e18, hf⟩ := ob hf
  refine m_iald C hI h0.2.2.2.2.2.2.2.2.1 (ce_1012 E _ _ _) e18 dX10_response_14 ?_
  refine lv_aload_n hx hb dX10_response_15 rfl (lv_at hl 0 rfl) ?_
  refine gf_10_11 C hI h0.1 fl_X10_42 dX10_response_16 ?_
  refine lv_aload_n hx hb dX10_response_19 rfl (lv_at hl 0 rfl) ?_
  refine lv_aload_n hx hb dX10_response_20 rfl (lv_at hl 0 rfl) ?_
  refine gf_10_37 C hI h0.1 fl_X10_94 dX10_response_21 ?_
  refine lv_iload_n hx hb dX10_response_24 rfl (lv_at hl 1 rfl) ?_
  obtain ⟨v19, e20, hf⟩ := ob hf
  refine m_iald C hI h0.2.2.2.2.2.2.2.2.2.2.2.2.2.2.2.2.2.2.2.2.2.2.2.2.2.1 (ce_1038 E _ _ _) e20 dX10_response_25 ?_
  obtain ⟨q21, e22, hf⟩ := ob hf
  refine mcV (As := [.int v19]) (rest := [.ref (ad E 1012 0), .int v17]) C hI (c_X10_spot l E h0 e22) ml_X10_190 kv_X10_spot (m_recv C hI h0.1 (ce_1000 E _ _ _) rfl) rfl rfl ⟨Nat.le_of_ble_eq_true rfl, Nat.le_of_ble_eq_true rfl⟩ ⟨Nat.zero_le _, Nat.zero_le _⟩ rfl rfl hl.1 (Nat.le_of_ble_eq_true rfl) dX10_response_26 (st1 := [.int q21, .ref (ad E 1012 0), .int v17]) rfl (fun H locs hI => ?_)
  obtain ⟨v23, e24, hf⟩ := ob hf
  refine m_iald C hI h0.2.2.2.2.2.2.2.2.1 (ce_1012 E _ _ _) e24 dX10_response_29 ?_
  refine lv_isub hx hb dX10_response_30 ?_
  obtain rfl := Option.some.inj hf
  exact m_iret C hr hlk hI dX10_response_31

theorem dX10_law_0 : decode cX10_law 0 = .ok (.iload_n 1, 1) := by decide +kernel
theorem dX10_law_1 : decode cX10_law 1 = .ok (.iconst 0, 1) := by decide +kernel
theorem dX10_law_2 : decode cX10_law 2 = .ok (.iconst 3, 1) := by decide +kernel
theorem dX10_law_3 : decode cX10_law 3 = .ok (.invokestatic 136, 3) := by decide +kernel
theorem dX10_law_6 : decode cX10_law 6 = .ok (.ifCond .eq 53, 3) := by decide +kernel
theorem dX10_law_9 : decode cX10_law 9 = .ok (.iload_n 1, 1) := by decide +kernel
theorem dX10_law_10 : decode cX10_law 10 = .ok (.iconst 2, 1) := by decide +kernel
theorem dX10_law_11 : decode cX10_law 11 = .ok (.irem, 1) := by decide +kernel
theorem dX10_law_12 : decode cX10_law 12 = .ok (.ifCond .ne 14, 3) := by decide +kernel
theorem dX10_law_15 : decode cX10_law 15 = .ok (.aload_n 0, 1) := by decide +kernel
theorem dX10_law_16 : decode cX10_law 16 = .ok (.iload_n 2, 1) := by decide +kernel
theorem dX10_law_17 : decode cX10_law 17 = .ok (.invokevirtual 149, 3) := by decide +kernel
theorem dX10_law_20 : decode cX10_law 20 = .ok (.ifCond .eq 39, 3) := by decide +kernel
theorem dX10_law_23 : decode cX10_law 23 = .ok (.goto 11, 3) := by decide +kernel
theorem dX10_law_26 : decode cX10_law 26 = .ok (.aload_n 0, 1) := by decide +kernel
theorem dX10_law_27 : decode cX10_law 27 = .ok (.iload_n 2, 1) := by decide +kernel
theorem dX10_law_28 : decode cX10_law 28 = .ok (.invokevirtual 153, 3) := by decide +kernel
theorem dX10_law_31 : decode cX10_law 31 = .ok (.ifCond .eq 28, 3) := by decide +kernel
theorem dX10_law_34 : decode cX10_law 34 = .ok (.iload_n 1, 1) := by decide +kernel
theorem dX10_law_35 : decode cX10_law 35 = .ok (.iconst 1, 1) := by decide +kernel
theorem dX10_law_36 : decode cX10_law 36 = .ok (.if_icmp .ne 15, 3) := by decide +kernel
theorem dX10_law_39 : decode cX10_law 39 = .ok (.iload_n 3, 1) := by decide +kernel
theorem dX10_law_40 : decode cX10_law 40 = .ok (.iconst 0, 1) := by decide +kernel
theorem dX10_law_41 : decode cX10_law 41 = .ok (.iconst 3, 1) := by decide +kernel
theorem dX10_law_42 : decode cX10_law 42 = .ok (.invokestatic 136, 3) := by decide +kernel
theorem dX10_law_45 : decode cX10_law 45 = .ok (.ifCond .eq 14, 3) := by decide +kernel
theorem dX10_law_48 : decode cX10_law 48 = .ok (.goto 7, 3) := by decide +kernel
theorem dX10_law_51 : decode cX10_law 51 = .ok (.iload_n 3, 1) := by decide +kernel
theorem dX10_law_52 : decode cX10_law 52 = .ok (.ifCond .ne 7, 3) := by decide +kernel
theorem dX10_law_55 : decode cX10_law 55 = .ok (.iconst 1, 1) := by decide +kernel
theorem dX10_law_56 : decode cX10_law 56 = .ok (.goto 4, 3) := by decide +kernel
theorem dX10_law_59 : decode cX10_law 59 = .ok (.iconst 0, 1) := by decide +kernel
theorem dX10_law_60 : decode cX10_law 60 = .ok (.istore 5, 2) := by decide +kernel
theorem dX10_law_62 : decode cX10_law 62 = .ok (.iload 5, 2) := by decide +kernel
theorem dX10_law_64 : decode cX10_law 64 = .ok (.ifCond .eq 18, 3) := by decide +kernel
theorem dX10_law_67 : decode cX10_law 67 = .ok (.iload 4, 2) := by decide +kernel
theorem dX10_law_69 : decode cX10_law 69 = .ok (.ifCond .lt 13, 3) := by decide +kernel
theorem dX10_law_72 : decode cX10_law 72 = .ok (.iload_n 1, 1) := by decide +kernel
theorem dX10_law_73 : decode cX10_law 73 = .ok (.iconst 3, 1) := by decide +kernel
theorem dX10_law_74 : decode cX10_law 74 = .ok (.if_icmp .ne 10, 3) := by decide +kernel
theorem dX10_law_77 : decode cX10_law 77 = .ok (.iload 4, 2) := by decide +kernel
theorem dX10_law_79 : decode cX10_law 79 = .ok (.ifCond .eq 5, 3) := by decide +kernel
theorem dX10_law_82 : decode cX10_law 82 = .ok (.iconst (-1), 1) := by decide +kernel
theorem dX10_law_83 : decode cX10_law 83 = .ok (.ireturn, 1) := by decide +kernel
theorem dX10_law_84 : decode cX10_law 84 = .ok (.aload_n 0, 1) := by decide +kernel
theorem dX10_law_85 : decode cX10_law 85 = .ok (.getfield 143, 3) := by decide +kernel
theorem dX10_law_88 : decode cX10_law 88 = .ok (.bipush 8, 2) := by decide +kernel
theorem dX10_law_90 : decode cX10_law 90 = .ok (.if_icmp .ne 6, 3) := by decide +kernel
theorem dX10_law_93 : decode cX10_law 93 = .ok (.bipush (-4), 2) := by decide +kernel
theorem dX10_law_95 : decode cX10_law 95 = .ok (.ireturn, 1) := by decide +kernel
theorem dX10_law_96 : decode cX10_law 96 = .ok (.aload_n 0, 1) := by decide +kernel
theorem dX10_law_97 : decode cX10_law 97 = .ok (.getfield 45, 3) := by decide +kernel
theorem dX10_law_100 : decode cX10_law 100 = .ok (.aload_n 0, 1) := by decide +kernel
theorem dX10_law_101 : decode cX10_law 101 = .ok (.getfield 143, 3) := by decide +kernel
theorem dX10_law_104 : decode cX10_law 104 = .ok (.iload_n 1, 1) := by decide +kernel
theorem dX10_law_105 : decode cX10_law 105 = .ok (.iastore, 1) := by decide +kernel
theorem dX10_law_106 : decode cX10_law 106 = .ok (.aload_n 0, 1) := by decide +kernel
theorem dX10_law_107 : decode cX10_law 107 = .ok (.getfield 48, 3) := by decide +kernel
theorem dX10_law_110 : decode cX10_law 110 = .ok (.aload_n 0, 1) := by decide +kernel
theorem dX10_law_111 : decode cX10_law 111 = .ok (.getfield 143, 3) := by decide +kernel
theorem dX10_law_114 : decode cX10_law 114 = .ok (.iload_n 2, 1) := by decide +kernel
theorem dX10_law_115 : decode cX10_law 115 = .ok (.iastore, 1) := by decide +kernel
theorem dX10_law_116 : decode cX10_law 116 = .ok (.aload_n 0, 1) := by decide +kernel
theorem dX10_law_117 : decode cX10_law 117 = .ok (.getfield 51, 3) := by decide +kernel
theorem dX10_law_120 : decode cX10_law 120 = .ok (.aload_n 0, 1) := by decide +kernel
theorem dX10_law_121 : decode cX10_law 121 = .ok (.getfield 143, 3) := by decide +kernel
theorem dX10_law_124 : decode cX10_law 124 = .ok (.iload_n 3, 1) := by decide +kernel
theorem dX10_law_125 : decode cX10_law 125 = .ok (.iastore, 1) := by decide +kernel
theorem dX10_law_126 : decode cX10_law 126 = .ok (.aload_n 0, 1) := by decide +kernel
theorem dX10_law_127 : decode cX10_law 127 = .ok (.getfield 54, 3) := by decide +kernel
theorem dX10_law_130 : decode cX10_law 130 = .ok (.aload_n 0, 1) := by decide +kernel
theorem dX10_law_131 : decode cX10_law 131 = .ok (.getfield 143, 3) := by decide +kernel
theorem dX10_law_134 : decode cX10_law 134 = .ok (.iload 4, 2) := by decide +kernel
theorem dX10_law_136 : decode cX10_law 136 = .ok (.iastore, 1) := by decide +kernel
theorem dX10_law_137 : decode cX10_law 137 = .ok (.aload_n 0, 1) := by decide +kernel
theorem dX10_law_138 : decode cX10_law 138 = .ok (.dup, 1) := by decide +kernel
theorem dX10_law_139 : decode cX10_law 139 = .ok (.getfield 143, 3) := by decide +kernel
theorem dX10_law_142 : decode cX10_law 142 = .ok (.iconst 1, 1) := by decide +kernel
theorem dX10_law_143 : decode cX10_law 143 = .ok (.iadd, 1) := by decide +kernel
theorem dX10_law_144 : decode cX10_law 144 = .ok (.putfield 143, 3) := by decide +kernel
theorem dX10_law_147 : decode cX10_law 147 = .ok (.aload_n 0, 1) := by decide +kernel
theorem dX10_law_148 : decode cX10_law 148 = .ok (.getfield 143, 3) := by decide +kernel
theorem dX10_law_151 : decode cX10_law 151 = .ok (.iconst 1, 1) := by decide +kernel
theorem dX10_law_152 : decode cX10_law 152 = .ok (.isub, 1) := by decide +kernel
theorem dX10_law_153 : decode cX10_law 153 = .ok (.ireturn, 1) := by decide +kernel
def f_X10_law_b84 (μ : Mm) (a1 : Int32) (a2 : Int32) (a3 : Int32) (a4 : Int32) : Option (Int32 × Mm) :=
 if (μ.1 1000 0 12) = (8 : Int32) then
 some ((-4 : Int32), μ)
 else
 (wa μ 1014 0 8 (μ.1 1000 0 12) a1).bind fun m19 =>
 (wa m19 1015 0 8 (m19.1 1000 0 12) a2).bind fun m21 =>
 (wa m21 1016 0 8 (m21.1 1000 0 12) a3).bind fun m23 =>
 (wa m23 1017 0 8 (m23.1 1000 0 12) a4).bind fun m25 =>
 (wf m25 1000 0 12 ((m25.1 1000 0 12) + (1 : Int32))).bind fun m27 =>
 some ((m27.1 1000 0 12) - (1 : Int32), m27)
set_option maxHeartbeats 4000000 in
set_option maxRecDepth 100000 in
theorem cb_X10_law_84 {l : Launch} {E : En} {p : Program} {e : Env} {s : State} {m : MethodId} {av : Array Value} {below : List Frame} {meth : Method} {c : Code} (C : Cx E p s m av c cX10_law 6 yX10_law.cls) (hr : meth.sig.returnType = (some .int)) (hlk : meth.locks = false) {z : Int32 × Mm} : ∀ (μ : Mm) (a1 : Int32) (a2 : Int32) (a3 : Int32) (a4 : Int32) (h_a0 : l10 E 0), f_X10_law_b84 μ a1 a2 a3 a4 = some z → ∀ {H : Heap} {locs : List Loc} {ls : Array Slot}, Iv E s μ H locs → lv_has ls 6 [(0, .ref (ad E 1000 0)), (1, .int a1), (2, .int a2), (3, .int a3), (4, .int a4)] → W p l e { frames := 2, cells := 0, slots := 0, locals := 43 } s m av below meth c H locs 0 0 (MQ below (Qm E (some (.int z.1)) z.2) av s 0 0 (Ad E)) (F0 m 84 ls []) := by
  have hx := C.1.1
  have hb := C.1.2.1
  intro μ a1 a2 a3 a4 h_a0 hf H locs ls hI hl
  unfold f_X10_law_b84 at hf
  refine lv_aload_n hx hb dX10_law_84 rfl (lv_at hl 0 rfl) ?_
  refine gf_10_12 C hI h_a0.1 fl_X10_143 dX10_law_85 ?_
  refine lv_bipush (v := (8 : Int32)) hx hb dX10_law_88 kb_8 ?_
  refine lv_icmp_ne (tgt := 96) hx hb dX10_law_90 rfl (fun hc => ?_) (fun hc => ?_)
  · replace hf := ie hf hc
    refine lv_aload_n hx hb dX10_law_96 rfl (lv_at hl 0 rfl) ?_
    refine gf_10_13 C hI h_a0.1 fl_X10_45 dX10_law_97 ?_
    refine lv_aload_n hx hb dX10_law_100 rfl (lv_at hl 0 rfl) ?_
    refine gf_10_12 C hI h_a0.1 fl_X10_143 dX10_law_101 ?_
    refine lv_iload_n hx hb dX10_law_104 rfl (lv_at hl 1 rfl) ?_
    obtain ⟨m19, e20, hf⟩ := ob hf
    refine m_iast C hI h_a0.2.2.2.2.2.2.2.2.2.1 (ce_1014 E _) e20 dX10_law_105 (fun H locs hI => ?_)
    refine lv_aload_n hx hb dX10_law_106 rfl (lv_at hl 0 rfl) ?_
    refine gf_10_14 C hI h_a0.1 fl_X10_48 dX10_law_107 ?_
    refine lv_aload_n hx hb dX10_law_110 rfl (lv_at hl 0 rfl) ?_
    refine gf_10_12 C hI h_a0.1 fl_X10_143 dX10_law_111 ?_
    refine lv_iload_n hx hb dX10_law_114 rfl (lv_at hl 2 rfl) ?_
    obtain ⟨m21, e22, hf⟩ := ob hf
    refine m_iast C hI h_a0.2.2.2.2.2.2.2.2.2.2.1 (ce_1015 E _) e22 dX10_law_115 (fun H locs hI => ?_)
    refine lv_aload_n hx hb dX10_law_116 rfl (lv_at hl 0 rfl) ?_
    refine gf_10_15 C hI h_a0.1 fl_X10_51 dX10_law_117 ?_
    refine lv_aload_n hx hb dX10_law_120 rfl (lv_at hl 0 rfl) ?_
    refine gf_10_12 C hI h_a0.1 fl_X10_143 dX10_law_121 ?_
    refine lv_iload_n hx hb dX10_law_124 rfl (lv_at hl 3 rfl) ?_
    obtain ⟨m23, e24, hf⟩ := ob hf
    refine m_iast C hI h_a0.2.2.2.2.2.2.2.2.2.2.2.1 (ce_1016 E _) e24 dX10_law_125 (fun H locs hI => ?_)
    refine lv_aload_n hx hb dX10_law_126 rfl (lv_at hl 0 rfl) ?_
    refine gf_10_16 C hI h_a0.1 fl_X10_54 dX10_law_127 ?_
    refine lv_aload_n hx hb dX10_law_130 rfl (lv_at hl 0 rfl) ?_
    refine gf_10_12 C hI h_a0.1 fl_X10_143 dX10_law_131 ?_
    refine lv_iload hx hb dX10_law_134 (lv_at hl 4 rfl) ?_
    obtain ⟨m25, e26, hf⟩ := ob hf
    refine m_iast C hI h_a0.2.2.2.2.2.2.2.2.2.2.2.2.1 (ce_1017 E _) e26 dX10_law_136 (fun H locs hI => ?_)
    refine lv_aload_n hx hb dX10_law_137 rfl (lv_at hl 0 rfl) ?_
    refine lv_dup hx hb dX10_law_138 rfl ?_
    refine gf_10_12 C hI h_a0.1 fl_X10_143 dX10_law_139 ?_
    refine lv_iconst (v := (1 : Int32)) hx hb dX10_law_142 kc_1 ?_
    refine lv_iadd hx hb dX10_law_143 ?_
    obtain ⟨m27, e28, hf⟩ := ob hf
    refine pf_10_12 C hI h_a0.1 fl_X10_143 e28 dX10_law_144 (fun H locs hI => ?_)
    refine lv_aload_n hx hb dX10_law_147 rfl (lv_at hl 0 rfl) ?_
    refine gf_10_12 C hI h_a0.1 fl_X10_143 dX10_law_148 ?_
    refine lv_iconst (v := (1 : Int32)) hx hb dX10_law_151 kc_1 ?_
    refine lv_isub hx hb dX10_law_152 ?_
    obtain rfl := Option.some.inj hf
    exact m_iret C hr hlk hI dX10_law_153
  · replace hf := it hf hc
    refine lv_bipush (v := (-4 : Int32)) hx hb dX10_law_93 kb_m4 ?_
    obtain rfl := Option.some.inj hf
    exact m_iret C hr hlk hI dX10_law_95
def f_X10_law_b60 (μ : Mm) (a1 : Int32) (a2 : Int32) (a3 : Int32) (a4 : Int32) (s0 : Int32) : Option (Int32 × Mm) :=
 if s0 = 0 then
 some ((-1 : Int32), μ)
 else
 if a4 < 0 then
 some ((-1 : Int32), μ)
 else
 if a1 = (3 : Int32) then
 if a4 = 0 then
 f_X10_law_b84 μ a1 a2 a3 a4
 else
 some ((-1 : Int32), μ)
 else
 f_X10_law_b84 μ a1 a2 a3 a4
set_option maxHeartbeats 4000000 in
set_option maxRecDepth 100000 in
theorem cb_X10_law_60 {l : Launch} {E : En} {p : Program} {e : Env} {s : State} {m : MethodId} {av : Array Value} {below : List Frame} {meth : Method} {c : Code} (C : Cx E p s m av c cX10_law 6 yX10_law.cls) (hr : meth.sig.returnType = (some .int)) (hlk : meth.locks = false) {z : Int32 × Mm} : ∀ (μ : Mm) (a1 : Int32) (a2 : Int32) (a3 : Int32) (a4 : Int32) (s0 : Int32) (h_a0 : l10 E 0), f_X10_law_b60 μ a1 a2 a3 a4 s0 = some z → ∀ {H : Heap} {locs : List Loc} {ls : Array Slot}, Iv E s μ H locs → lv_has ls 6 [(0, .ref (ad E 1000 0)), (1, .int a1), (2, .int a2), (3, .int a3), (4, .int a4)] → W p l e { frames := 2, cells := 0, slots := 0, locals := 43 } s m av below meth c H locs 0 0 (MQ below (Qm E (some (.int z.1)) z.2) av s 0 0 (Ad E)) (F0 m 60 ls [.int s0]) := by
  have hx := C.1.1
  have hb := C.1.2.1
  intro μ a1 a2 a3 a4 s0 h_a0 hf H locs ls hI hl
  unfold f_X10_law_b60 at hf
  refine lv_istore hx hb dX10_law_60 hl (by decide) rfl (fun ls hl => ?_)
  have hl : lv_has ls 6 [(5, .int s0), (0, .ref (ad E 1000 0)), (1, .int a1), (2, .int a2), (3, .int a3), (4, .int a4)] := hl
  refine lv_iload hx hb dX10_law_62 (lv_at hl 0 rfl) ?_
  refine lv_if_eq (tgt := 82) hx hb dX10_law_64 rfl (fun hc => ?_) (fun hc => ?_)
  · replace hf := it hf hc
    refine lv_iconst (v := (-1 : Int32)) hx hb dX10_law_82 kc_m1 ?_
    obtain rfl := Option.some.inj hf
    exact m_iret C hr hlk hI dX10_law_83
  · replace hf := ie hf hc
    refine lv_iload hx hb dX10_law_67 (lv_at hl 5 rfl) ?_
    refine lv_if_lt (tgt := 82) hx hb dX10_law_69 rfl (fun hc => ?_) (fun hc => ?_)
    · replace hf := it hf hc
      refine lv_iconst (v := (-1 : Int32)) hx hb dX10_law_82 kc_m1 ?_
      obtain rfl := Option.some.inj hf
      exact m_iret C hr hlk hI dX10_law_83
    · replace hf := ie hf hc
      refine lv_iload_n hx hb dX10_law_72 rfl (lv_at hl 2 rfl) ?_
      refine lv_iconst (v := (3 : Int32)) hx hb dX10_law_73 kc_3 ?_
      refine lv_icmp_ne (tgt := 84) hx hb dX10_law_74 rfl (fun hc => ?_) (fun hc => ?_)
      · replace hf := ie hf hc
        exact cb_X10_law_84 C hr hlk  _ _ _ _ _ h_a0 hf hI (lv_sub hl [1, 2, 3, 4, 5] rfl)
      · replace hf := it hf hc
        refine lv_iload hx hb dX10_law_77 (lv_at hl 5 rfl) ?_
        refine lv_if_eq (tgt := 84) hx hb dX10_law_79 rfl (fun hc => ?_) (fun hc => ?_)
        · replace hf := it hf hc
          exact cb_X10_law_84 C hr hlk  _ _ _ _ _ h_a0 hf hI (lv_sub hl [1, 2, 3, 4, 5] rfl)
        · replace hf := ie hf hc
          refine lv_iconst (v := (-1 : Int32)) hx hb dX10_law_82 kc_m1 ?_
          obtain rfl := Option.some.inj hf
          exact m_iret C hr hlk hI dX10_law_83
def f_X10_law_b34 (μ : Mm) (a1 : Int32) (a2 : Int32) (a3 : Int32) (a4 : Int32) : Option (Int32 × Mm) :=
 if a1 = (1 : Int32) then
 (f_X10_in μ a3 (0 : Int32) (3 : Int32)).bind fun q29 =>
 if q29 = 0 then
 f_X10_law_b60 μ a1 a2 a3 a4 (0 : Int32)
 else
 f_X10_law_b60 μ a1 a2 a3 a4 (1 : Int32)
 else
 if a3 = 0 then
 f_X10_law_b60 μ a1 a2 a3 a4 (1 : Int32)
 else
 f_X10_law_b60 μ a1 a2 a3 a4 (0 : Int32)
set_option maxHeartbeats 4000000 in
set_option maxRecDepth 100000 in
theorem cb_X10_law_34 {l : Launch} {E : En} {p : Program} {e : Env} {s : State} {m : MethodId} {av : Array Value} {below : List Frame} {meth : Method} {c : Code} (C : Cx E p s m av c cX10_law 6 yX10_law.cls) (hr : meth.sig.returnType = (some .int)) (hlk : meth.locks = false) {z : Int32 × Mm} : ∀ (μ : Mm) (a1 : Int32) (a2 : Int32) (a3 : Int32) (a4 : Int32) (h_a0 : l10 E 0), f_X10_law_b34 μ a1 a2 a3 a4 = some z → ∀ {H : Heap} {locs : List Loc} {ls : Array Slot}, Iv E s μ H locs → lv_has ls 6 [(0, .ref (ad E 1000 0)), (1, .int a1), (2, .int a2), (3, .int a3), (4, .int a4)] → W p l e { frames := 2, cells := 0, slots := 0, locals := 43 } s m av below meth c H locs 0 0 (MQ below (Qm E (some (.int z.1)) z.2) av s 0 0 (Ad E)) (F0 m 34 ls []) := by
  have hx := C.1.1
  have hb := C.1.2.1
  intro μ a1 a2 a3 a4 h_a0 hf H locs ls hI hl
  unfold f_X10_law_b34 at hf
  refine lv_iload_n hx hb dX10_law_34 rfl (lv_at hl 1 rfl) ?_
  refine lv_iconst (v := (1 : Int32)) hx hb dX10_law_35 kc_1 ?_
  refine lv_icmp_ne (tgt := 51) hx hb dX10_law_36 rfl (fun hc => ?_) (fun hc => ?_)
  · replace hf := ie hf hc
    refine lv_iload_n hx hb dX10_law_51 rfl (lv_at hl 3 rfl) ?_
    refine lv_if_ne (tgt := 59) hx hb dX10_law_52 rfl (fun hc => ?_) (fun hc => ?_)
    · replace hf := ie hf hc
      refine lv_iconst (v := (0 : Int32)) hx hb dX10_law_59 kc_0 ?_
      exact cb_X10_law_60 C hr hlk  _ _ _ _ _ _ h_a0 hf hI (lv_sub hl [0, 1, 2, 3, 4] rfl)
    · replace hf := it hf hc
      refine lv_iconst (v := (1 : Int32)) hx hb dX10_law_55 kc_1 ?_
      refine lv_goto (tgt := 60) hx hb dX10_law_56 rfl ?_
      exact cb_X10_law_60 C hr hlk  _ _ _ _ _ _ h_a0 hf hI (lv_sub hl [0, 1, 2, 3, 4] rfl)
  · replace hf := it hf hc
    refine lv_iload_n hx hb dX10_law_39 rfl (lv_at hl 3 rfl) ?_
    refine lv_iconst (v := (0 : Int32)) hx hb dX10_law_40 kc_0 ?_
    refine lv_iconst (v := (3 : Int32)) hx hb dX10_law_41 kc_3 ?_
    obtain ⟨q29, e30, hf⟩ := ob hf
    refine mcS (As := [.int a3, .int (0 : Int32), .int (3 : Int32)]) (rest := []) C hI (c_X10_in l E  e30) ml_X10_136 ks_X10_in rfl rfl ⟨Nat.le_of_ble_eq_true rfl, Nat.le_of_ble_eq_true rfl⟩ ⟨Nat.zero_le _, Nat.zero_le _⟩ rfl rfl hl.1 (Nat.le_of_ble_eq_true rfl) dX10_law_42 (st1 := [.int q29]) rfl (fun H locs hI => ?_)
    refine lv_if_eq (tgt := 59) hx hb dX10_law_45 rfl (fun hc => ?_) (fun hc => ?_)
    · replace hf := it hf hc
      refine lv_iconst (v := (0 : Int32)) hx hb dX10_law_59 kc_0 ?_
      exact cb_X10_law_60 C hr hlk  _ _ _ _ _ _ h_a0 hf hI (lv_sub hl [0, 1, 2, 3, 4] rfl)
    · replace hf := ie hf hc
      refine lv_goto (tgt := 55) hx hb dX10_law_48 rfl ?_
      refine lv_iconst (v := (1 : Int32)) hx hb dX10_law_55 kc_1 ?_
      refine lv_goto (tgt := 60) hx hb dX10_law_56 rfl ?_
      exact cb_X10_law_60 C hr hlk  _ _ _ _ _ _ h_a0 hf hI (lv_sub hl [0, 1, 2, 3, 4] rfl)
def f_X10_law (μ : Mm) (p1 : Int32) (p2 : Int32) (p3 : Int32) (p4 : Int32) : Option (Int32 × Mm) :=
 (f_X10_in μ p1 (0 : Int32) (3 : Int32)).bind fun q31 =>
 if q31 = 0 then
 f_X10_law_b60 μ p1 p2 p3 p4 (0 : Int32)
 else
 if (p1 - p1 / (2 : Int32) * (2 : Int32)) = 0 then
 (f_X10_isTask μ p2).bind fun q35 =>
 if q35 = 0 then
 f_X10_law_b60 μ p1 p2 p3 p4 (0 : Int32)
 else
 f_X10_law_b34 μ p1 p2 p3 p4
 else
 (f_X10_isProcessor μ p2).bind fun q33 =>
 if q33 = 0 then
 f_X10_law_b60 μ p1 p2 p3 p4 (0 : Int32)
 else
 f_X10_law_b34 μ p1 p2 p3 p4
set_option maxHeartbeats 4000000 in
set_option maxRecDepth 100000 in
theorem c_X10_law (l : Launch) (E : En) {μ : Mm} {p1 : Int32} {p2 : Int32} {p3 : Int32} {p4 : Int32} (h0 : l10 E 0) {z : Int32 × Mm} (hf : f_X10_law μ p1 p2 p3 p4 = some z) : Met l yX10_law (wt yX10_law cX10_law 6 (some .int)) { frames := 2, cells := 0, slots := 0, locals := 43 } (Pm E [.ref (ad E 1000 0), .int p1, .int p2, .int p3, .int p4] μ) (Qm E (some (.int z.1)) z.2) 0 0 (Ad E) := by
  unfold f_X10_law at hf
  refine met_of (cc := cX10_law) (nL := 6) (ret := (some .int)) (by decide) _ (Nat.le_of_ble_eq_true rfl) ?_
  intro p e s m below meth c C hr hlk hI ls hl
  have hx := C.1.1
  have hb := C.1.2.1
  have hl : lv_has ls 6 [(0, .ref (ad E 1000 0)), (1, .int p1), (2, .int p2), (3, .int p3), (4, .int p4)] := hl
  refine lv_iload_n hx hb dX10_law_0 rfl (lv_at hl 1 rfl) ?_
  refine lv_iconst (v := (0 : Int32)) hx hb dX10_law_1 kc_0 ?_
  refine lv_iconst (v := (3 : Int32)) hx hb dX10_law_2 kc_3 ?_
  obtain ⟨q31, e32, hf⟩ := ob hf
  refine mcS (As := [.int p1, .int (0 : Int32), .int (3 : Int32)]) (rest := []) C hI (c_X10_in l E  e32) ml_X10_136 ks_X10_in rfl rfl ⟨Nat.le_of_ble_eq_true rfl, Nat.le_of_ble_eq_true rfl⟩ ⟨Nat.zero_le _, Nat.zero_le _⟩ rfl rfl hl.1 (Nat.le_of_ble_eq_true rfl) dX10_law_3 (st1 := [.int q31]) rfl (fun H locs hI => ?_)
  refine lv_if_eq (tgt := 59) hx hb dX10_law_6 rfl (fun hc => ?_) (fun hc => ?_)
  · replace hf := it hf hc
    refine lv_iconst (v := (0 : Int32)) hx hb dX10_law_59 kc_0 ?_
    exact cb_X10_law_60 C hr hlk  _ _ _ _ _ _ h0 hf hI (lv_sub hl [0, 1, 2, 3, 4] rfl)
  · replace hf := ie hf hc
    refine lv_iload_n hx hb dX10_law_9 rfl (lv_at hl 1 rfl) ?_
    refine lv_iconst (v := (2 : Int32)) hx hb dX10_law_10 kc_2 ?_
    refine lv_irem hx hb dX10_law_11 (by decide) ?_
    refine lv_if_ne (tgt := 26) hx hb dX10_law_12 rfl (fun hc => ?_) (fun hc => ?_)
    · replace hf := ie hf hc
      refine lv_aload_n hx hb dX10_law_26 rfl (lv_at hl 0 rfl) ?_
      refine lv_iload_n hx hb dX10_law_27 rfl (lv_at hl 2 rfl) ?_
      obtain ⟨q33, e34, hf⟩ := ob hf
      refine mcV (As := [.int p2]) (rest := []) C hI (c_X10_isProcessor l E h0 e34) ml_X10_153 kv_X10_isProcessor (m_recv C hI h0.1 (ce_1000 E _ _ _) rfl) rfl rfl ⟨Nat.le_of_ble_eq_true rfl, Nat.le_of_ble_eq_true rfl⟩ ⟨Nat.zero_le _, Nat.zero_le _⟩ rfl rfl hl.1 (Nat.le_of_ble_eq_true rfl) dX10_law_28 (st1 := [.int q33]) rfl (fun H locs hI => ?_)
      refine lv_if_eq (tgt := 59) hx hb dX10_law_31 rfl (fun hc => ?_) (fun hc => ?_)
      · replace hf := it hf hc
        refine lv_iconst (v := (0 : Int32)) hx hb dX10_law_59 kc_0 ?_
        exact cb_X10_law_60 C hr hlk  _ _ _ _ _ _ h0 hf hI (lv_sub hl [0, 1, 2, 3, 4] rfl)
      · replace hf := ie hf hc
        exact cb_X10_law_34 C hr hlk  _ _ _ _ _ h0 hf hI (lv_sub hl [0, 1, 2, 3, 4] rfl)
    · replace hf := it hf hc
      refine lv_aload_n hx hb dX10_law_15 rfl (lv_at hl 0 rfl) ?_
      refine lv_iload_n hx hb dX10_law_16 rfl (lv_at hl 2 rfl) ?_
      obtain ⟨q35, e36, hf⟩ := ob hf
      refine mcV (As := [.int p2]) (rest := []) C hI (c_X10_isTask l E h0 e36) ml_X10_149 kv_X10_isTask (m_recv C hI h0.1 (ce_1000 E _ _ _) rfl) rfl rfl ⟨Nat.le_of_ble_eq_true rfl, Nat.le_of_ble_eq_true rfl⟩ ⟨Nat.zero_le _, Nat.zero_le _⟩ rfl rfl hl.1 (Nat.le_of_ble_eq_true rfl) dX10_law_17 (st1 := [.int q35]) rfl (fun H locs hI => ?_)
      refine lv_if_eq (tgt := 59) hx hb dX10_law_20 rfl (fun hc => ?_) (fun hc => ?_)
      · replace hf := it hf hc
        refine lv_iconst (v := (0 : Int32)) hx hb dX10_law_59 kc_0 ?_
        exact cb_X10_law_60 C hr hlk  _ _ _ _ _ _ h0 hf hI (lv_sub hl [0, 1, 2, 3, 4] rfl)
      · replace hf := ie hf hc
        refine lv_goto (tgt := 34) hx hb dX10_law_23 rfl ?_
        exact cb_X10_law_34 C hr hlk  _ _ _ _ _ h0 hf hI (lv_sub hl [0, 1, 2, 3, 4] rfl)

theorem dX10_breaksAt_0 : decode cX10_breaksAt 0 = .ok (.iload_n 1, 1) := by decide +kernel
theorem dX10_breaksAt_1 : decode cX10_breaksAt 1 = .ok (.ifCond .eq 26, 3) := by decide +kernel
theorem dX10_breaksAt_4 : decode cX10_breaksAt 4 = .ok (.aload_n 0, 1) := by decide +kernel
theorem dX10_breaksAt_5 : decode cX10_breaksAt 5 = .ok (.getfield 106, 3) := by decide +kernel
theorem dX10_breaksAt_8 : decode cX10_breaksAt 8 = .ok (.aload_n 0, 1) := by decide +kernel
theorem dX10_breaksAt_9 : decode cX10_breaksAt 9 = .ok (.getfield 260, 3) := by decide +kernel
theorem dX10_breaksAt_12 : decode cX10_breaksAt 12 = .ok (.iload_n 2, 1) := by decide +kernel
theorem dX10_breaksAt_13 : decode cX10_breaksAt 13 = .ok (.iastore, 1) := by decide +kernel
theorem dX10_breaksAt_14 : decode cX10_breaksAt 14 = .ok (.aload_n 0, 1) := by decide +kernel
theorem dX10_breaksAt_15 : decode cX10_breaksAt 15 = .ok (.dup, 1) := by decide +kernel
theorem dX10_breaksAt_16 : decode cX10_breaksAt 16 = .ok (.getfield 260, 3) := by decide +kernel
theorem dX10_breaksAt_19 : decode cX10_breaksAt 19 = .ok (.iconst 1, 1) := by decide +kernel
theorem dX10_breaksAt_20 : decode cX10_breaksAt 20 = .ok (.iadd, 1) := by decide +kernel
theorem dX10_breaksAt_21 : decode cX10_breaksAt 21 = .ok (.putfield 260, 3) := by decide +kernel
theorem dX10_breaksAt_24 : decode cX10_breaksAt 24 = .ok (.goto 23, 3) := by decide +kernel
theorem dX10_breaksAt_27 : decode cX10_breaksAt 27 = .ok (.aload_n 0, 1) := by decide +kernel
theorem dX10_breaksAt_28 : decode cX10_breaksAt 28 = .ok (.getfield 109, 3) := by decide +kernel
theorem dX10_breaksAt_31 : decode cX10_breaksAt 31 = .ok (.aload_n 0, 1) := by decide +kernel
theorem dX10_breaksAt_32 : decode cX10_breaksAt 32 = .ok (.getfield 263, 3) := by decide +kernel
theorem dX10_breaksAt_35 : decode cX10_breaksAt 35 = .ok (.iload_n 2, 1) := by decide +kernel
theorem dX10_breaksAt_36 : decode cX10_breaksAt 36 = .ok (.iastore, 1) := by decide +kernel
theorem dX10_breaksAt_37 : decode cX10_breaksAt 37 = .ok (.aload_n 0, 1) := by decide +kernel
theorem dX10_breaksAt_38 : decode cX10_breaksAt 38 = .ok (.dup, 1) := by decide +kernel
theorem dX10_breaksAt_39 : decode cX10_breaksAt 39 = .ok (.getfield 263, 3) := by decide +kernel
theorem dX10_breaksAt_42 : decode cX10_breaksAt 42 = .ok (.iconst 1, 1) := by decide +kernel
theorem dX10_breaksAt_43 : decode cX10_breaksAt 43 = .ok (.iadd, 1) := by decide +kernel
theorem dX10_breaksAt_44 : decode cX10_breaksAt 44 = .ok (.putfield 263, 3) := by decide +kernel
theorem dX10_breaksAt_47 : decode cX10_breaksAt 47 = .ok (.return_, 1) := by decide +kernel
def f_X10_breaksAt (μ : Mm) (p1 : Int32) (p2 : Int32) : Option Mm :=
 if p1 = 0 then
 (wa μ 1045 0 200 (μ.1 1000 0 42) p2).bind fun m9 =>
 (wf m9 1000 0 42 ((m9.1 1000 0 42) + (1 : Int32))).bind fun m11 =>
 some m11
 else
 (wa μ 1044 0 200 (μ.1 1000 0 41) p2).bind fun m13 =>
 (wf m13 1000 0 41 ((m13.1 1000 0 41) + (1 : Int32))).bind fun m15 =>
 some m15
set_option maxHeartbeats 4000000 in
set_option maxRecDepth 100000 in
theorem c_X10_breaksAt (l : Launch) (E : En) {μ : Mm} {p1 : Int32} {p2 : Int32} (h0 : l10 E 0) {z : Mm} (hf : f_X10_breaksAt μ p1 p2 = some z) : Met l yX10_breaksAt (wt yX10_breaksAt cX10_breaksAt 3 (none : Option FieldType)) { frames := 0, cells := 0, slots := 0, locals := 0 } (Pm E [.ref (ad E 1000 0), .int p1, .int p2] μ) (Qm E none z) 0 0 (Ad E) := by
  unfold f_X10_breaksAt at hf
  refine met_of (cc := cX10_breaksAt) (nL := 3) (ret := (none : Option FieldType)) (by decide) _ (Nat.le_of_ble_eq_true rfl) ?_
  intro p e s m below meth c C hr hlk hI ls hl
  have hx := C.1.1
  have hb := C.1.2.1
  have hl : lv_has ls 3 [(0, .ref (ad E 1000 0)), (1, .int p1), (2, .int p2)] := hl
  refine lv_iload_n hx hb dX10_breaksAt_0 rfl (lv_at hl 1 rfl) ?_
  refine lv_if_eq (tgt := 27) hx hb dX10_breaksAt_1 rfl (fun hc => ?_) (fun hc => ?_)
  · replace hf := it hf hc
    refine lv_aload_n hx hb dX10_breaksAt_27 rfl (lv_at hl 0 rfl) ?_
    refine gf_10_44 C hI h0.1 fl_X10_109 dX10_breaksAt_28 ?_
    refine lv_aload_n hx hb dX10_breaksAt_31 rfl (lv_at hl 0 rfl) ?_
    refine gf_10_42 C hI h0.1 fl_X10_263 dX10_breaksAt_32 ?_
    refine lv_iload_n hx hb dX10_breaksAt_35 rfl (lv_at hl 2 rfl) ?_
    obtain ⟨m9, e10, hf⟩ := ob hf
    refine m_iast C hI h0.2.2.2.2.2.2.2.2.2.2.2.2.2.2.2.2.2.2.2.2.2.2.2.2.2.2.2.2.2.2.1 (ce_1045 E _) e10 dX10_breaksAt_36 (fun H locs hI => ?_)
    refine lv_aload_n hx hb dX10_breaksAt_37 rfl (lv_at hl 0 rfl) ?_
    refine lv_dup hx hb dX10_breaksAt_38 rfl ?_
    refine gf_10_42 C hI h0.1 fl_X10_263 dX10_breaksAt_39 ?_
    refine lv_iconst (v := (1 : Int32)) hx hb dX10_breaksAt_42 kc_1 ?_
    refine lv_iadd hx hb dX10_breaksAt_43 ?_
    obtain ⟨m11, e12, hf⟩ := ob hf
    refine pf_10_42 C hI h0.1 fl_X10_263 e12 dX10_breaksAt_44 (fun H locs hI => ?_)
    obtain rfl := Option.some.inj hf
    exact m_vret C hr hlk hI dX10_breaksAt_47
  · replace hf := ie hf hc
    refine lv_aload_n hx hb dX10_breaksAt_4 rfl (lv_at hl 0 rfl) ?_
    refine gf_10_43 C hI h0.1 fl_X10_106 dX10_breaksAt_5 ?_
    refine lv_aload_n hx hb dX10_breaksAt_8 rfl (lv_at hl 0 rfl) ?_
    refine gf_10_41 C hI h0.1 fl_X10_260 dX10_breaksAt_9 ?_
    refine lv_iload_n hx hb dX10_breaksAt_12 rfl (lv_at hl 2 rfl) ?_
    obtain ⟨m13, e14, hf⟩ := ob hf
    refine m_iast C hI h0.2.2.2.2.2.2.2.2.2.2.2.2.2.2.2.2.2.2.2.2.2.2.2.2.2.2.2.2.2.1 (ce_1044 E _) e14 dX10_breaksAt_13 (fun H locs hI => ?_)
    refine lv_aload_n hx hb dX10_breaksAt_14 rfl (lv_at hl 0 rfl) ?_
    refine lv_dup hx hb dX10_breaksAt_15 rfl ?_
    refine gf_10_41 C hI h0.1 fl_X10_260 dX10_breaksAt_16 ?_
    refine lv_iconst (v := (1 : Int32)) hx hb dX10_breaksAt_19 kc_1 ?_
    refine lv_iadd hx hb dX10_breaksAt_20 ?_
    obtain ⟨m15, e16, hf⟩ := ob hf
    refine pf_10_41 C hI h0.1 fl_X10_260 e16 dX10_breaksAt_21 (fun H locs hI => ?_)
    refine lv_goto (tgt := 47) hx hb dX10_breaksAt_24 rfl ?_
    obtain rfl := Option.some.inj hf
    exact m_vret C hr hlk hI dX10_breaksAt_47

theorem dX10_is_0 : decode cX10_is 0 = .ok (.aload_n 0, 1) := by decide +kernel
theorem dX10_is_1 : decode cX10_is 1 = .ok (.getfield 32, 3) := by decide +kernel
theorem dX10_is_4 : decode cX10_is 4 = .ok (.aload_n 0, 1) := by decide +kernel
theorem dX10_is_5 : decode cX10_is 5 = .ok (.iload_n 1, 1) := by decide +kernel
theorem dX10_is_6 : decode cX10_is 6 = .ok (.invokevirtual 190, 3) := by decide +kernel
theorem dX10_is_9 : decode cX10_is 9 = .ok (.baload, 1) := by decide +kernel
theorem dX10_is_10 : decode cX10_is 10 = .ok (.iload_n 2, 1) := by decide +kernel
theorem dX10_is_11 : decode cX10_is 11 = .ok (.if_icmp .ne 47, 3) := by decide +kernel
theorem dX10_is_14 : decode cX10_is 14 = .ok (.iload_n 3, 1) := by decide +kernel
theorem dX10_is_15 : decode cX10_is 15 = .ok (.iconst (-1), 1) := by decide +kernel
theorem dX10_is_16 : decode cX10_is 16 = .ok (.if_icmp .eq 17, 3) := by decide +kernel
theorem dX10_is_19 : decode cX10_is 19 = .ok (.aload_n 0, 1) := by decide +kernel
theorem dX10_is_20 : decode cX10_is 20 = .ok (.getfield 36, 3) := by decide +kernel
theorem dX10_is_23 : decode cX10_is 23 = .ok (.aload_n 0, 1) := by decide +kernel
theorem dX10_is_24 : decode cX10_is 24 = .ok (.iload_n 1, 1) := by decide +kernel
theorem dX10_is_25 : decode cX10_is 25 = .ok (.invokevirtual 190, 3) := by decide +kernel
theorem dX10_is_28 : decode cX10_is 28 = .ok (.baload, 1) := by decide +kernel
theorem dX10_is_29 : decode cX10_is 29 = .ok (.iload_n 3, 1) := by decide +kernel
theorem dX10_is_30 : decode cX10_is 30 = .ok (.if_icmp .ne 28, 3) := by decide +kernel
theorem dX10_is_33 : decode cX10_is 33 = .ok (.iload 4, 2) := by decide +kernel
theorem dX10_is_35 : decode cX10_is 35 = .ok (.iconst (-1), 1) := by decide +kernel
theorem dX10_is_36 : decode cX10_is 36 = .ok (.if_icmp .eq 18, 3) := by decide +kernel
theorem dX10_is_39 : decode cX10_is 39 = .ok (.aload_n 0, 1) := by decide +kernel
theorem dX10_is_40 : decode cX10_is 40 = .ok (.getfield 39, 3) := by decide +kernel
theorem dX10_is_43 : decode cX10_is 43 = .ok (.aload_n 0, 1) := by decide +kernel
theorem dX10_is_44 : decode cX10_is 44 = .ok (.iload_n 1, 1) := by decide +kernel
theorem dX10_is_45 : decode cX10_is 45 = .ok (.invokevirtual 190, 3) := by decide +kernel
theorem dX10_is_48 : decode cX10_is 48 = .ok (.baload, 1) := by decide +kernel
theorem dX10_is_49 : decode cX10_is 49 = .ok (.iload 4, 2) := by decide +kernel
theorem dX10_is_51 : decode cX10_is 51 = .ok (.if_icmp .ne 7, 3) := by decide +kernel
theorem dX10_is_54 : decode cX10_is 54 = .ok (.iconst 1, 1) := by decide +kernel
theorem dX10_is_55 : decode cX10_is 55 = .ok (.goto 4, 3) := by decide +kernel
theorem dX10_is_58 : decode cX10_is 58 = .ok (.iconst 0, 1) := by decide +kernel
theorem dX10_is_59 : decode cX10_is 59 = .ok (.ireturn, 1) := by decide +kernel
def f_X10_is_b33 (μ : Mm) (a1 : Int32) (a4 : Int32) : Option Int32 :=
 if a4 = (-1 : Int32) then
 some (1 : Int32)
 else
 (f_X10_spot μ a1).bind fun q13 =>
 (ra μ 1011 0 4200 q13).bind fun v15 =>
 if v15 = a4 then
 some (1 : Int32)
 else
 some (0 : Int32)
set_option maxHeartbeats 4000000 in
set_option maxRecDepth 100000 in
theorem cb_X10_is_33 {l : Launch} {E : En} {p : Program} {e : Env} {s : State} {m : MethodId} {av : Array Value} {below : List Frame} {meth : Method} {c : Code} (C : Cx E p s m av c cX10_is 5 yX10_is.cls) (hr : meth.sig.returnType = (some .boolean)) (hlk : meth.locks = false) {μ : Mm} {z : Int32} : ∀ (a1 : Int32) (a4 : Int32) (h_a0 : l10 E 0), f_X10_is_b33 μ a1 a4 = some z → ∀ {H : Heap} {locs : List Loc} {ls : Array Slot}, Iv E s μ H locs → lv_has ls 5 [(0, .ref (ad E 1000 0)), (1, .int a1), (4, .int a4)] → W p l e { frames := 1, cells := 0, slots := 0, locals := 21 } s m av below meth c H locs 0 0 (MQ below (Qm E (some (.int z)) μ) av s 0 0 (Ad E)) (F0 m 33 ls []) := by
  have hx := C.1.1
  have hb := C.1.2.1
  intro a1 a4 h_a0 hf H locs ls hI hl
  unfold f_X10_is_b33 at hf
  refine lv_iload hx hb dX10_is_33 (lv_at hl 2 rfl) ?_
  refine lv_iconst (v := (-1 : Int32)) hx hb dX10_is_35 kc_m1 ?_
  refine lv_icmp_eq (tgt := 54) hx hb dX10_is_36 rfl (fun hc => ?_) (fun hc => ?_)
  · replace hf := it hf hc
    refine lv_iconst (v := (1 : Int32)) hx hb dX10_is_54 kc_1 ?_
    refine lv_goto (tgt := 59) hx hb dX10_is_55 rfl ?_
    obtain rfl := Option.some.inj hf
    exact m_zret C hr hlk hI (by decide) dX10_is_59
  · replace hf := ie hf hc
    refine lv_aload_n hx hb dX10_is_39 rfl (lv_at hl 0 rfl) ?_
    refine gf_10_10 C hI h_a0.1 fl_X10_39 dX10_is_40 ?_
    refine lv_aload_n hx hb dX10_is_43 rfl (lv_at hl 0 rfl) ?_
    refine lv_iload_n hx hb dX10_is_44 rfl (lv_at hl 1 rfl) ?_
    obtain ⟨q13, e14, hf⟩ := ob hf
    refine mcV (As := [.int a1]) (rest := [.ref (ad E 1011 0)]) C hI (c_X10_spot l E h_a0 e14) ml_X10_190 kv_X10_spot (m_recv C hI h_a0.1 (ce_1000 E _ _ _) rfl) rfl rfl ⟨Nat.le_of_ble_eq_true rfl, Nat.le_of_ble_eq_true rfl⟩ ⟨Nat.zero_le _, Nat.zero_le _⟩ rfl rfl hl.1 (Nat.le_of_ble_eq_true rfl) dX10_is_45 (st1 := [.int q13, .ref (ad E 1011 0)]) rfl (fun H locs hI => ?_)
    obtain ⟨v15, e16, hf⟩ := ob hf
    refine m_bald C hI h_a0.2.2.2.2.2.2.2.1 (ce_1011 E _ _ _) e16 dX10_is_48 ?_
    refine lv_iload hx hb dX10_is_49 (lv_at hl 2 rfl) ?_
    refine lv_icmp_ne (tgt := 58) hx hb dX10_is_51 rfl (fun hc => ?_) (fun hc => ?_)
    · replace hf := ie hf hc
      refine lv_iconst (v := (0 : Int32)) hx hb dX10_is_58 kc_0 ?_
      obtain rfl := Option.some.inj hf
      exact m_zret C hr hlk hI (by decide) dX10_is_59
    · replace hf := it hf hc
      refine lv_iconst (v := (1 : Int32)) hx hb dX10_is_54 kc_1 ?_
      refine lv_goto (tgt := 59) hx hb dX10_is_55 rfl ?_
      obtain rfl := Option.some.inj hf
      exact m_zret C hr hlk hI (by decide) dX10_is_59
def f_X10_is (μ : Mm) (p1 : Int32) (p2 : Int32) (p3 : Int32) (p4 : Int32) : Option Int32 :=
 (f_X10_spot μ p1).bind fun q17 =>
 (ra μ 1009 0 4200 q17).bind fun v19 =>
 if v19 = p2 then
 if p3 = (-1 : Int32) then
 f_X10_is_b33 μ p1 p4
 else
 (f_X10_spot μ p1).bind fun q21 =>
 (ra μ 1010 0 4200 q21).bind fun v23 =>
 if v23 = p3 then
 f_X10_is_b33 μ p1 p4
 else
 some (0 : Int32)
 else
 some (0 : Int32)
set_option maxHeartbeats 4000000 in
set_option maxRecDepth 100000 in
theorem c_X10_is (l : Launch) (E : En) {μ : Mm} {p1 : Int32} {p2 : Int32} {p3 : Int32} {p4 : Int32} (h0 : l10 E 0) {z : Int32} (hf : f_X10_is μ p1 p2 p3 p4 = some z) : Met l yX10_is (wt yX10_is cX10_is 5 (some .boolean)) { frames := 1, cells := 0, slots := 0, locals := 21 } (Pm E [.ref (ad E 1000 0), .int p1, .int p2, .int p3, .int p4] μ) (Qm E (some (.int z)) μ) 0 0 (Ad E) := by
  unfold f_X10_is at hf
  refine met_of (cc := cX10_is) (nL := 5) (ret := (some .boolean)) (by decide) _ (Nat.le_of_ble_eq_true rfl) ?_
  intro p e s m below meth c C hr hlk hI ls hl
  have hx := C.1.1
  have hb := C.1.2.1
  have hl : lv_has ls 5 [(0, .ref (ad E 1000 0)), (1, .int p1), (2, .int p2), (3, .int p3), (4, .int p4)] := hl
  refine lv_aload_n hx hb dX10_is_0 rfl (lv_at hl 0 rfl) ?_
  refine gf_10_8 C hI h0.1 fl_X10_32 dX10_is_1 ?_
  refine lv_aload_n hx hb dX10_is_4 rfl (lv_at hl 0 rfl) ?_
  refine lv_iload_n hx hb dX10_is_5 rfl (lv_at hl 1 rfl) ?_
  obtain ⟨q17, e18, hf⟩ := ob hf
  refine mcV (As := [.int p1]) (rest := [.ref (ad E 1009 0)]) C hI (c_X10_spot l E h0 e18) ml_X10_190 kv_X10_spot (m_recv C hI h0.1 (ce_1000 E _ _ _) rfl) rfl rfl ⟨Nat.le_of_ble_eq_true rfl, Nat.le_of_ble_eq_true rfl⟩ ⟨Nat.zero_le _, Nat.zero_le _⟩ rfl rfl hl.1 (Nat.le_of_ble_eq_true rfl) dX10_is_6 (st1 := [.int q17, .ref (ad E 1009 0)]) rfl (fun H locs hI => ?_)
  obtain ⟨v19, e20, hf⟩ := ob hf
  refine m_bald C hI h0.2.2.2.2.2.1 (ce_1009 E _ _ _) e20 dX10_is_9 ?_
  refine lv_iload_n hx hb dX10_is_10 rfl (lv_at hl 2 rfl) ?_
  refine lv_icmp_ne (tgt := 58) hx hb dX10_is_11 rfl (fun hc => ?_) (fun hc => ?_)
  · replace hf := ie hf hc
    refine lv_iconst (v := (0 : Int32)) hx hb dX10_is_58 kc_0 ?_
    obtain rfl := Option.some.inj hf
    exact m_zret C hr hlk hI (by decide) dX10_is_59
  · replace hf := it hf hc
    refine lv_iload_n hx hb dX10_is_14 rfl (lv_at hl 3 rfl) ?_
    refine lv_iconst (v := (-1 : Int32)) hx hb dX10_is_15 kc_m1 ?_
    refine lv_icmp_eq (tgt := 33) hx hb dX10_is_16 rfl (fun hc => ?_) (fun hc => ?_)
    · replace hf := it hf hc
      exact cb_X10_is_33 C hr hlk  _ _ h0 hf hI (lv_sub hl [0, 1, 4] rfl)
    · replace hf := ie hf hc
      refine lv_aload_n hx hb dX10_is_19 rfl (lv_at hl 0 rfl) ?_
      refine gf_10_9 C hI h0.1 fl_X10_36 dX10_is_20 ?_
      refine lv_aload_n hx hb dX10_is_23 rfl (lv_at hl 0 rfl) ?_
      refine lv_iload_n hx hb dX10_is_24 rfl (lv_at hl 1 rfl) ?_
      obtain ⟨q21, e22, hf⟩ := ob hf
      refine mcV (As := [.int p1]) (rest := [.ref (ad E 1010 0)]) C hI (c_X10_spot l E h0 e22) ml_X10_190 kv_X10_spot (m_recv C hI h0.1 (ce_1000 E _ _ _) rfl) rfl rfl ⟨Nat.le_of_ble_eq_true rfl, Nat.le_of_ble_eq_true rfl⟩ ⟨Nat.zero_le _, Nat.zero_le _⟩ rfl rfl hl.1 (Nat.le_of_ble_eq_true rfl) dX10_is_25 (st1 := [.int q21, .ref (ad E 1010 0)]) rfl (fun H locs hI => ?_)
      obtain ⟨v23, e24, hf⟩ := ob hf
      refine m_bald C hI h0.2.2.2.2.2.2.1 (ce_1010 E _ _ _) e24 dX10_is_28 ?_
      refine lv_iload_n hx hb dX10_is_29 rfl (lv_at hl 3 rfl) ?_
      refine lv_icmp_ne (tgt := 58) hx hb dX10_is_30 rfl (fun hc => ?_) (fun hc => ?_)
      · replace hf := ie hf hc
        refine lv_iconst (v := (0 : Int32)) hx hb dX10_is_58 kc_0 ?_
        obtain rfl := Option.some.inj hf
        exact m_zret C hr hlk hI (by decide) dX10_is_59
      · replace hf := it hf hc
        exact cb_X10_is_33 C hr hlk  _ _ h0 hf hI (lv_sub hl [0, 1, 4] rfl)

theorem dX10_spans_0 : decode cX10_spans 0 = .ok (.aload_n 0, 1) := by decide +kernel
theorem dX10_spans_1 : decode cX10_spans 1 = .ok (.getfield 42, 3) := by decide +kernel
theorem dX10_spans_4 : decode cX10_spans 4 = .ok (.aload_n 0, 1) := by decide +kernel
theorem dX10_spans_5 : decode cX10_spans 5 = .ok (.iload_n 1, 1) := by decide +kernel
theorem dX10_spans_6 : decode cX10_spans 6 = .ok (.invokevirtual 190, 3) := by decide +kernel
theorem dX10_spans_9 : decode cX10_spans 9 = .ok (.iaload, 1) := by decide +kernel
theorem dX10_spans_10 : decode cX10_spans 10 = .ok (.istore 6, 2) := by decide +kernel
theorem dX10_spans_12 : decode cX10_spans 12 = .ok (.iload_n 1, 1) := by decide +kernel
theorem dX10_spans_13 : decode cX10_spans 13 = .ok (.iconst 1, 1) := by decide +kernel
theorem dX10_spans_14 : decode cX10_spans 14 = .ok (.iadd, 1) := by decide +kernel
theorem dX10_spans_15 : decode cX10_spans 15 = .ok (.istore 7, 2) := by decide +kernel
theorem dX10_spans_17 : decode cX10_spans 17 = .ok (.iload 7, 2) := by decide +kernel
theorem dX10_spans_19 : decode cX10_spans 19 = .ok (.aload_n 0, 1) := by decide +kernel
theorem dX10_spans_20 : decode cX10_spans 20 = .ok (.getfield 29, 3) := by decide +kernel
theorem dX10_spans_23 : decode cX10_spans 23 = .ok (.aload_n 0, 1) := by decide +kernel
theorem dX10_spans_24 : decode cX10_spans 24 = .ok (.getfield 164, 3) := by decide +kernel
theorem dX10_spans_27 : decode cX10_spans 27 = .ok (.iaload, 1) := by decide +kernel
theorem dX10_spans_28 : decode cX10_spans 28 = .ok (.if_icmp .ge 38, 3) := by decide +kernel
theorem dX10_spans_31 : decode cX10_spans 31 = .ok (.aload_n 0, 1) := by decide +kernel
theorem dX10_spans_32 : decode cX10_spans 32 = .ok (.iload 7, 2) := by decide +kernel
theorem dX10_spans_34 : decode cX10_spans 34 = .ok (.iload_n 2, 1) := by decide +kernel
theorem dX10_spans_35 : decode cX10_spans 35 = .ok (.iload_n 3, 1) := by decide +kernel
theorem dX10_spans_36 : decode cX10_spans 36 = .ok (.iload 4, 2) := by decide +kernel
theorem dX10_spans_38 : decode cX10_spans 38 = .ok (.invokevirtual 266, 3) := by decide +kernel
theorem dX10_spans_41 : decode cX10_spans 41 = .ok (.ifCond .ne 25, 3) := by decide +kernel
theorem dX10_spans_44 : decode cX10_spans 44 = .ok (.aload_n 0, 1) := by decide +kernel
theorem dX10_spans_45 : decode cX10_spans 45 = .ok (.getfield 32, 3) := by decide +kernel
theorem dX10_spans_48 : decode cX10_spans 48 = .ok (.aload_n 0, 1) := by decide +kernel
theorem dX10_spans_49 : decode cX10_spans 49 = .ok (.iload 7, 2) := by decide +kernel
theorem dX10_spans_51 : decode cX10_spans 51 = .ok (.invokevirtual 190, 3) := by decide +kernel
theorem dX10_spans_54 : decode cX10_spans 54 = .ok (.baload, 1) := by decide +kernel
theorem dX10_spans_55 : decode cX10_spans 55 = .ok (.bipush 8, 2) := by decide +kernel
theorem dX10_spans_57 : decode cX10_spans 57 = .ok (.if_icmp .eq 9, 3) := by decide +kernel
theorem dX10_spans_60 : decode cX10_spans 60 = .ok (.iinc 7 1, 3) := by decide +kernel
theorem dX10_spans_63 : decode cX10_spans 63 = .ok (.goto (-46), 3) := by decide +kernel
theorem dX10_spans_66 : decode cX10_spans 66 = .ok (.iload 7, 2) := by decide +kernel
theorem dX10_spans_68 : decode cX10_spans 68 = .ok (.aload_n 0, 1) := by decide +kernel
theorem dX10_spans_69 : decode cX10_spans 69 = .ok (.getfield 29, 3) := by decide +kernel
theorem dX10_spans_72 : decode cX10_spans 72 = .ok (.aload_n 0, 1) := by decide +kernel
theorem dX10_spans_73 : decode cX10_spans 73 = .ok (.getfield 164, 3) := by decide +kernel
theorem dX10_spans_76 : decode cX10_spans 76 = .ok (.iaload, 1) := by decide +kernel
theorem dX10_spans_77 : decode cX10_spans 77 = .ok (.if_icmp .eq 19, 3) := by decide +kernel
theorem dX10_spans_80 : decode cX10_spans 80 = .ok (.aload_n 0, 1) := by decide +kernel
theorem dX10_spans_81 : decode cX10_spans 81 = .ok (.getfield 32, 3) := by decide +kernel
theorem dX10_spans_84 : decode cX10_spans 84 = .ok (.aload_n 0, 1) := by decide +kernel
theorem dX10_spans_85 : decode cX10_spans 85 = .ok (.iload 7, 2) := by decide +kernel
theorem dX10_spans_87 : decode cX10_spans 87 = .ok (.invokevirtual 190, 3) := by decide +kernel
theorem dX10_spans_90 : decode cX10_spans 90 = .ok (.baload, 1) := by decide +kernel
theorem dX10_spans_91 : decode cX10_spans 91 = .ok (.bipush 8, 2) := by decide +kernel
theorem dX10_spans_93 : decode cX10_spans 93 = .ok (.if_icmp .eq 55, 3) := by decide +kernel
theorem dX10_spans_96 : decode cX10_spans 96 = .ok (.iload 7, 2) := by decide +kernel
theorem dX10_spans_98 : decode cX10_spans 98 = .ok (.aload_n 0, 1) := by decide +kernel
theorem dX10_spans_99 : decode cX10_spans 99 = .ok (.getfield 29, 3) := by decide +kernel
theorem dX10_spans_102 : decode cX10_spans 102 = .ok (.aload_n 0, 1) := by decide +kernel
theorem dX10_spans_103 : decode cX10_spans 103 = .ok (.getfield 164, 3) := by decide +kernel
theorem dX10_spans_106 : decode cX10_spans 106 = .ok (.iaload, 1) := by decide +kernel
theorem dX10_spans_107 : decode cX10_spans 107 = .ok (.if_icmp .ne 10, 3) := by decide +kernel
theorem dX10_spans_110 : decode cX10_spans 110 = .ok (.iload 7, 2) := by decide +kernel
theorem dX10_spans_112 : decode cX10_spans 112 = .ok (.iconst 1, 1) := by decide +kernel
theorem dX10_spans_113 : decode cX10_spans 113 = .ok (.isub, 1) := by decide +kernel
theorem dX10_spans_114 : decode cX10_spans 114 = .ok (.goto 5, 3) := by decide +kernel
theorem dX10_spans_117 : decode cX10_spans 117 = .ok (.iload 7, 2) := by decide +kernel
theorem dX10_spans_119 : decode cX10_spans 119 = .ok (.istore 8, 2) := by decide +kernel
theorem dX10_spans_121 : decode cX10_spans 121 = .ok (.aload_n 0, 1) := by decide +kernel
theorem dX10_spans_122 : decode cX10_spans 122 = .ok (.getfield 42, 3) := by decide +kernel
theorem dX10_spans_125 : decode cX10_spans 125 = .ok (.aload_n 0, 1) := by decide +kernel
theorem dX10_spans_126 : decode cX10_spans 126 = .ok (.iload 8, 2) := by decide +kernel
theorem dX10_spans_128 : decode cX10_spans 128 = .ok (.invokevirtual 190, 3) := by decide +kernel
theorem dX10_spans_131 : decode cX10_spans 131 = .ok (.iaload, 1) := by decide +kernel
theorem dX10_spans_132 : decode cX10_spans 132 = .ok (.iload 6, 2) := by decide +kernel
theorem dX10_spans_134 : decode cX10_spans 134 = .ok (.isub, 1) := by decide +kernel
theorem dX10_spans_135 : decode cX10_spans 135 = .ok (.iload 5, 2) := by decide +kernel
theorem dX10_spans_137 : decode cX10_spans 137 = .ok (.if_icmp .le 10, 3) := by decide +kernel
theorem dX10_spans_140 : decode cX10_spans 140 = .ok (.aload_n 0, 1) := by decide +kernel
theorem dX10_spans_141 : decode cX10_spans 141 = .ok (.iconst 1, 1) := by decide +kernel
theorem dX10_spans_142 : decode cX10_spans 142 = .ok (.iload 6, 2) := by decide +kernel
theorem dX10_spans_144 : decode cX10_spans 144 = .ok (.invokevirtual 270, 3) := by decide +kernel
theorem dX10_spans_147 : decode cX10_spans 147 = .ok (.return_, 1) := by decide +kernel
theorem dX10_spans_148 : decode cX10_spans 148 = .ok (.aload_n 0, 1) := by decide +kernel
theorem dX10_spans_149 : decode cX10_spans 149 = .ok (.getfield 42, 3) := by decide +kernel
theorem dX10_spans_152 : decode cX10_spans 152 = .ok (.aload_n 0, 1) := by decide +kernel
theorem dX10_spans_153 : decode cX10_spans 153 = .ok (.iload 7, 2) := by decide +kernel
theorem dX10_spans_155 : decode cX10_spans 155 = .ok (.iconst 1, 1) := by decide +kernel
theorem dX10_spans_156 : decode cX10_spans 156 = .ok (.isub, 1) := by decide +kernel
theorem dX10_spans_157 : decode cX10_spans 157 = .ok (.invokevirtual 190, 3) := by decide +kernel
theorem dX10_spans_160 : decode cX10_spans 160 = .ok (.iaload, 1) := by decide +kernel
theorem dX10_spans_161 : decode cX10_spans 161 = .ok (.iload 6, 2) := by decide +kernel
theorem dX10_spans_163 : decode cX10_spans 163 = .ok (.isub, 1) := by decide +kernel
theorem dX10_spans_164 : decode cX10_spans 164 = .ok (.iload 5, 2) := by decide +kernel
theorem dX10_spans_166 : decode cX10_spans 166 = .ok (.if_icmp .le 11, 3) := by decide +kernel
theorem dX10_spans_169 : decode cX10_spans 169 = .ok (.aload_n 0, 1) := by decide +kernel
theorem dX10_spans_170 : decode cX10_spans 170 = .ok (.iconst 1, 1) := by decide +kernel
theorem dX10_spans_171 : decode cX10_spans 171 = .ok (.iload 6, 2) := by decide +kernel
theorem dX10_spans_173 : decode cX10_spans 173 = .ok (.invokevirtual 270, 3) := by decide +kernel
theorem dX10_spans_176 : decode cX10_spans 176 = .ok (.return_, 1) := by decide +kernel
theorem dX10_spans_177 : decode cX10_spans 177 = .ok (.iload 7, 2) := by decide +kernel
theorem dX10_spans_179 : decode cX10_spans 179 = .ok (.istore 8, 2) := by decide +kernel
theorem dX10_spans_181 : decode cX10_spans 181 = .ok (.iload_n 2, 1) := by decide +kernel
theorem dX10_spans_182 : decode cX10_spans 182 = .ok (.iconst 2, 1) := by decide +kernel
theorem dX10_spans_183 : decode cX10_spans 183 = .ok (.if_icmp .ne 78, 3) := by decide +kernel
theorem dX10_spans_186 : decode cX10_spans 186 = .ok (.iload 7, 2) := by decide +kernel
theorem dX10_spans_188 : decode cX10_spans 188 = .ok (.iconst 1, 1) := by decide +kernel
theorem dX10_spans_189 : decode cX10_spans 189 = .ok (.iadd, 1) := by decide +kernel
theorem dX10_spans_190 : decode cX10_spans 190 = .ok (.istore 8, 2) := by decide +kernel
theorem dX10_spans_192 : decode cX10_spans 192 = .ok (.iload 8, 2) := by decide +kernel
theorem dX10_spans_194 : decode cX10_spans 194 = .ok (.aload_n 0, 1) := by decide +kernel
theorem dX10_spans_195 : decode cX10_spans 195 = .ok (.getfield 29, 3) := by decide +kernel
theorem dX10_spans_198 : decode cX10_spans 198 = .ok (.aload_n 0, 1) := by decide +kernel
theorem dX10_spans_199 : decode cX10_spans 199 = .ok (.getfield 164, 3) := by decide +kernel
theorem dX10_spans_202 : decode cX10_spans 202 = .ok (.iaload, 1) := by decide +kernel
theorem dX10_spans_203 : decode cX10_spans 203 = .ok (.if_icmp .ge 33, 3) := by decide +kernel
theorem dX10_spans_206 : decode cX10_spans 206 = .ok (.aload_n 0, 1) := by decide +kernel
theorem dX10_spans_207 : decode cX10_spans 207 = .ok (.iload 8, 2) := by decide +kernel
theorem dX10_spans_209 : decode cX10_spans 209 = .ok (.iconst 0, 1) := by decide +kernel
theorem dX10_spans_210 : decode cX10_spans 210 = .ok (.iload_n 3, 1) := by decide +kernel
theorem dX10_spans_211 : decode cX10_spans 211 = .ok (.iconst (-1), 1) := by decide +kernel
theorem dX10_spans_212 : decode cX10_spans 212 = .ok (.invokevirtual 266, 3) := by decide +kernel
theorem dX10_spans_215 : decode cX10_spans 215 = .ok (.ifCond .ne 21, 3) := by decide +kernel
theorem dX10_spans_218 : decode cX10_spans 218 = .ok (.aload_n 0, 1) := by decide +kernel
theorem dX10_spans_219 : decode cX10_spans 219 = .ok (.iload 8, 2) := by decide +kernel
theorem dX10_spans_221 : decode cX10_spans 221 = .ok (.iconst 1, 1) := by decide +kernel
theorem dX10_spans_222 : decode cX10_spans 222 = .ok (.iload_n 3, 1) := by decide +kernel
theorem dX10_spans_223 : decode cX10_spans 223 = .ok (.iconst (-1), 1) := by decide +kernel
theorem dX10_spans_224 : decode cX10_spans 224 = .ok (.invokevirtual 266, 3) := by decide +kernel
theorem dX10_spans_227 : decode cX10_spans 227 = .ok (.ifCond .ne 9, 3) := by decide +kernel
theorem dX10_spans_230 : decode cX10_spans 230 = .ok (.iinc 8 1, 3) := by decide +kernel
theorem dX10_spans_233 : decode cX10_spans 233 = .ok (.goto (-41), 3) := by decide +kernel
theorem dX10_spans_236 : decode cX10_spans 236 = .ok (.iload 8, 2) := by decide +kernel
theorem dX10_spans_238 : decode cX10_spans 238 = .ok (.aload_n 0, 1) := by decide +kernel
theorem dX10_spans_239 : decode cX10_spans 239 = .ok (.getfield 29, 3) := by decide +kernel
theorem dX10_spans_242 : decode cX10_spans 242 = .ok (.aload_n 0, 1) := by decide +kernel
theorem dX10_spans_243 : decode cX10_spans 243 = .ok (.getfield 164, 3) := by decide +kernel
theorem dX10_spans_246 : decode cX10_spans 246 = .ok (.iaload, 1) := by decide +kernel
theorem dX10_spans_247 : decode cX10_spans 247 = .ok (.if_icmp .ne 10, 3) := by decide +kernel
theorem dX10_spans_250 : decode cX10_spans 250 = .ok (.iload 8, 2) := by decide +kernel
theorem dX10_spans_252 : decode cX10_spans 252 = .ok (.iconst 1, 1) := by decide +kernel
theorem dX10_spans_253 : decode cX10_spans 253 = .ok (.isub, 1) := by decide +kernel
theorem dX10_spans_254 : decode cX10_spans 254 = .ok (.goto 5, 3) := by decide +kernel
theorem dX10_spans_257 : decode cX10_spans 257 = .ok (.iload 8, 2) := by decide +kernel
theorem dX10_spans_259 : decode cX10_spans 259 = .ok (.istore 8, 2) := by decide +kernel
theorem dX10_spans_261 : decode cX10_spans 261 = .ok (.aload_n 0, 1) := by decide +kernel
theorem dX10_spans_262 : decode cX10_spans 262 = .ok (.getfield 42, 3) := by decide +kernel
theorem dX10_spans_265 : decode cX10_spans 265 = .ok (.aload_n 0, 1) := by decide +kernel
theorem dX10_spans_266 : decode cX10_spans 266 = .ok (.iload 8, 2) := by decide +kernel
theorem dX10_spans_268 : decode cX10_spans 268 = .ok (.invokevirtual 190, 3) := by decide +kernel
theorem dX10_spans_271 : decode cX10_spans 271 = .ok (.iaload, 1) := by decide +kernel
theorem dX10_spans_272 : decode cX10_spans 272 = .ok (.iload 6, 2) := by decide +kernel
theorem dX10_spans_274 : decode cX10_spans 274 = .ok (.isub, 1) := by decide +kernel
theorem dX10_spans_275 : decode cX10_spans 275 = .ok (.iload 5, 2) := by decide +kernel
theorem dX10_spans_277 : decode cX10_spans 277 = .ok (.if_icmp .le 10, 3) := by decide +kernel
theorem dX10_spans_280 : decode cX10_spans 280 = .ok (.aload_n 0, 1) := by decide +kernel
theorem dX10_spans_281 : decode cX10_spans 281 = .ok (.iconst 0, 1) := by decide +kernel
theorem dX10_spans_282 : decode cX10_spans 282 = .ok (.iload 6, 2) := by decide +kernel
theorem dX10_spans_284 : decode cX10_spans 284 = .ok (.invokevirtual 270, 3) := by decide +kernel
theorem dX10_spans_287 : decode cX10_spans 287 = .ok (.return_, 1) := by decide +kernel
def f_X10_spans_b119 (F : Nat) (μ : Mm) (a5 : Int32) (a6 : Int32) (s0 : Int32) : Option Mm :=
 (f_X10_spot μ s0).bind fun q47 =>
 (ra μ 1012 0 4200 q47).bind fun v49 =>
 if (v49 - a6) ≤ a5 then
 some μ
 else
 (f_X10_breaksAt μ (1 : Int32) a6).bind fun q51 =>
 some q51
set_option maxHeartbeats 4000000 in
set_option maxRecDepth 100000 in
theorem cb_X10_spans_119 {l : Launch} {E : En} {p : Program} {e : Env} {s : State} {m : MethodId} {av : Array Value} {below : List Frame} {meth : Method} {c : Code} (C : Cx E p s m av c cX10_spans 9 yX10_spans.cls) (hr : meth.sig.returnType = (none : Option FieldType)) (hlk : meth.locks = false) {F : Nat} {z : Mm} : ∀ (μ : Mm) (a5 : Int32) (a6 : Int32) (s0 : Int32) (h_a0 : l10 E 0), f_X10_spans_b119 F μ a5 a6 s0 = some z → ∀ {H : Heap} {locs : List Loc} {ls : Array Slot}, Iv E s μ H locs → lv_has ls 9 [(0, .ref (ad E 1000 0)), (5, .int a5), (6, .int a6)] → W p l e { frames := 2, cells := 0, slots := 0, locals := 45 } s m av below meth c H locs 0 0 (MQ below (Qm E none z) av s 0 0 (Ad E)) (F0 m 119 ls [.int s0]) := by
  have hx := C.1.1
  have hb := C.1.2.1
  intro μ a5 a6 s0 h_a0 hf H locs ls hI hl
  unfold f_X10_spans_b119 at hf
  refine lv_istore hx hb dX10_spans_119 hl (by decide) rfl (fun ls hl => ?_)
  have hl : lv_has ls 9 [(8, .int s0), (0, .ref (ad E 1000 0)), (5, .int a5), (6, .int a6)] := hl
  refine lv_aload_n hx hb dX10_spans_121 rfl (lv_at hl 1 rfl) ?_
  refine gf_10_11 C hI h_a0.1 fl_X10_42 dX10_spans_122 ?_
  refine lv_aload_n hx hb dX10_spans_125 rfl (lv_at hl 1 rfl) ?_
  refine lv_iload hx hb dX10_spans_126 (lv_at hl 0 rfl) ?_
  obtain ⟨q47, e48, hf⟩ := ob hf
  refine mcV (As := [.int s0]) (rest := [.ref (ad E 1012 0)]) C hI (c_X10_spot l E h_a0 e48) ml_X10_190 kv_X10_spot (m_recv C hI h_a0.1 (ce_1000 E _ _ _) rfl) rfl rfl ⟨Nat.le_of_ble_eq_true rfl, Nat.le_of_ble_eq_true rfl⟩ ⟨Nat.zero_le _, Nat.zero_le _⟩ rfl rfl hl.1 (Nat.le_of_ble_eq_true rfl) dX10_spans_128 (st1 := [.int q47, .ref (ad E 1012 0)]) rfl (fun H locs hI => ?_)
  obtain ⟨v49, e50, hf⟩ := ob hf
  refine m_iald C hI h_a0.2.2.2.2.2.2.2.2.1 (ce_1012 E _ _ _) e50 dX10_spans_131 ?_
  refine lv_iload hx hb dX10_spans_132 (lv_at hl 3 rfl) ?_
  refine lv_isub hx hb dX10_spans_134 ?_
  refine lv_iload hx hb dX10_spans_135 (lv_at hl 2 rfl) ?_
  refine lv_icmp_le (tgt := 147) hx hb dX10_spans_137 rfl (fun hc => ?_) (fun hc => ?_)
  · replace hf := it hf hc
    obtain rfl := Option.some.inj hf
    exact m_vret C hr hlk hI dX10_spans_147
  · replace hf := ie hf hc
    refine lv_aload_n hx hb dX10_spans_140 rfl (lv_at hl 1 rfl) ?_
    refine lv_iconst (v := (1 : Int32)) hx hb dX10_spans_141 kc_1 ?_
    refine lv_iload hx hb dX10_spans_142 (lv_at hl 3 rfl) ?_
    obtain ⟨q51, e52, hf⟩ := ob hf
    refine mcV (As := [.int (1 : Int32), .int a6]) (rest := []) C hI (c_X10_breaksAt l E h_a0 e52) ml_X10_270 kv_X10_breaksAt (m_recv C hI h_a0.1 (ce_1000 E _ _ _) rfl) rfl rfl ⟨Nat.le_of_ble_eq_true rfl, Nat.le_of_ble_eq_true rfl⟩ ⟨Nat.zero_le _, Nat.zero_le _⟩ rfl rfl hl.1 (Nat.le_of_ble_eq_true rfl) dX10_spans_144 (st1 := []) rfl (fun H locs hI => ?_)
    obtain rfl := Option.some.inj hf
    exact m_vret C hr hlk hI dX10_spans_147
def f_X10_spans_b96 (F : Nat) (μ : Mm) (a5 : Int32) (a6 : Int32) (a7 : Int32) : Option Mm :=
 (ra μ 1008 0 21 (μ.1 1000 0 33)).bind fun v53 =>
 if a7 = v53 then
 f_X10_spans_b119 F μ a5 a6 (a7 - (1 : Int32))
 else
 f_X10_spans_b119 F μ a5 a6 a7
set_option maxHeartbeats 4000000 in
set_option maxRecDepth 100000 in
theorem cb_X10_spans_96 {l : Launch} {E : En} {p : Program} {e : Env} {s : State} {m : MethodId} {av : Array Value} {below : List Frame} {meth : Method} {c : Code} (C : Cx E p s m av c cX10_spans 9 yX10_spans.cls) (hr : meth.sig.returnType = (none : Option FieldType)) (hlk : meth.locks = false) {F : Nat} {z : Mm} : ∀ (μ : Mm) (a5 : Int32) (a6 : Int32) (a7 : Int32) (h_a0 : l10 E 0), f_X10_spans_b96 F μ a5 a6 a7 = some z → ∀ {H : Heap} {locs : List Loc} {ls : Array Slot}, Iv E s μ H locs → lv_has ls 9 [(0, .ref (ad E 1000 0)), (5, .int a5), (6, .int a6), (7, .int a7)] → W p l e { frames := 2, cells := 0, slots := 0, locals := 45 } s m av below meth c H locs 0 0 (MQ below (Qm E none z) av s 0 0 (Ad E)) (F0 m 96 ls []) := by
  have hx := C.1.1
  have hb := C.1.2.1
  intro μ a5 a6 a7 h_a0 hf H locs ls hI hl
  unfold f_X10_spans_b96 at hf
  refine lv_iload hx hb dX10_spans_96 (lv_at hl 3 rfl) ?_
  refine lv_aload_n hx hb dX10_spans_98 rfl (lv_at hl 0 rfl) ?_
  refine gf_10_7 C hI h_a0.1 fl_X10_29 dX10_spans_99 ?_
  refine lv_aload_n hx hb dX10_spans_102 rfl (lv_at hl 0 rfl) ?_
  refine gf_10_33 C hI h_a0.1 fl_X10_164 dX10_spans_103 ?_
  obtain ⟨v53, e54, hf⟩ := ob hf
  refine m_iald C hI h_a0.2.2.2.2.1 (ce_1008 E _ _ _) e54 dX10_spans_106 ?_
  refine lv_icmp_ne (tgt := 117) hx hb dX10_spans_107 rfl (fun hc => ?_) (fun hc => ?_)
  · replace hf := ie hf hc
    refine lv_iload hx hb dX10_spans_117 (lv_at hl 3 rfl) ?_
    exact cb_X10_spans_119 C hr hlk  _ _ _ _ h_a0 hf hI (lv_sub hl [0, 1, 2] rfl)
  · replace hf := it hf hc
    refine lv_iload hx hb dX10_spans_110 (lv_at hl 3 rfl) ?_
    refine lv_iconst (v := (1 : Int32)) hx hb dX10_spans_112 kc_1 ?_
    refine lv_isub hx hb dX10_spans_113 ?_
    refine lv_goto (tgt := 119) hx hb dX10_spans_114 rfl ?_
    exact cb_X10_spans_119 C hr hlk  _ _ _ _ h_a0 hf hI (lv_sub hl [0, 1, 2] rfl)
def f_X10_spans_b261 (F : Nat) (μ : Mm) (a5 : Int32) (a6 : Int32) (a8 : Int32) : Option Mm :=
 (f_X10_spot μ a8).bind fun q55 =>
 (ra μ 1012 0 4200 q55).bind fun v57 =>
 if (v57 - a6) ≤ a5 then
 some μ
 else
 (f_X10_breaksAt μ (0 : Int32) a6).bind fun q59 =>
 some q59
set_option maxHeartbeats 4000000 in
set_option maxRecDepth 100000 in
theorem cb_X10_spans_261 {l : Launch} {E : En} {p : Program} {e : Env} {s : State} {m : MethodId} {av : Array Value} {below : List Frame} {meth : Method} {c : Code} (C : Cx E p s m av c cX10_spans 9 yX10_spans.cls) (hr : meth.sig.returnType = (none : Option FieldType)) (hlk : meth.locks = false) {F : Nat} {z : Mm} : ∀ (μ : Mm) (a5 : Int32) (a6 : Int32) (a8 : Int32) (h_a0 : l10 E 0), f_X10_spans_b261 F μ a5 a6 a8 = some z → ∀ {H : Heap} {locs : List Loc} {ls : Array Slot}, Iv E s μ H locs → lv_has ls 9 [(0, .ref (ad E 1000 0)), (5, .int a5), (6, .int a6), (8, .int a8)] → W p l e { frames := 2, cells := 0, slots := 0, locals := 45 } s m av below meth c H locs 0 0 (MQ below (Qm E none z) av s 0 0 (Ad E)) (F0 m 261 ls []) := by
  have hx := C.1.1
  have hb := C.1.2.1
  intro μ a5 a6 a8 h_a0 hf H locs ls hI hl
  unfold f_X10_spans_b261 at hf
  refine lv_aload_n hx hb dX10_spans_261 rfl (lv_at hl 0 rfl) ?_
  refine gf_10_11 C hI h_a0.1 fl_X10_42 dX10_spans_262 ?_
  refine lv_aload_n hx hb dX10_spans_265 rfl (lv_at hl 0 rfl) ?_
  refine lv_iload hx hb dX10_spans_266 (lv_at hl 3 rfl) ?_
  obtain ⟨q55, e56, hf⟩ := ob hf
  refine mcV (As := [.int a8]) (rest := [.ref (ad E 1012 0)]) C hI (c_X10_spot l E h_a0 e56) ml_X10_190 kv_X10_spot (m_recv C hI h_a0.1 (ce_1000 E _ _ _) rfl) rfl rfl ⟨Nat.le_of_ble_eq_true rfl, Nat.le_of_ble_eq_true rfl⟩ ⟨Nat.zero_le _, Nat.zero_le _⟩ rfl rfl hl.1 (Nat.le_of_ble_eq_true rfl) dX10_spans_268 (st1 := [.int q55, .ref (ad E 1012 0)]) rfl (fun H locs hI => ?_)
  obtain ⟨v57, e58, hf⟩ := ob hf
  refine m_iald C hI h_a0.2.2.2.2.2.2.2.2.1 (ce_1012 E _ _ _) e58 dX10_spans_271 ?_
  refine lv_iload hx hb dX10_spans_272 (lv_at hl 2 rfl) ?_
  refine lv_isub hx hb dX10_spans_274 ?_
  refine lv_iload hx hb dX10_spans_275 (lv_at hl 1 rfl) ?_
  refine lv_icmp_le (tgt := 287) hx hb dX10_spans_277 rfl (fun hc => ?_) (fun hc => ?_)
  · replace hf := it hf hc
    obtain rfl := Option.some.inj hf
    exact m_vret C hr hlk hI dX10_spans_287
  · replace hf := ie hf hc
    refine lv_aload_n hx hb dX10_spans_280 rfl (lv_at hl 0 rfl) ?_
    refine lv_iconst (v := (0 : Int32)) hx hb dX10_spans_281 kc_0 ?_
    refine lv_iload hx hb dX10_spans_282 (lv_at hl 2 rfl) ?_
    obtain ⟨q59, e60, hf⟩ := ob hf
    refine mcV (As := [.int (0 : Int32), .int a6]) (rest := []) C hI (c_X10_breaksAt l E h_a0 e60) ml_X10_270 kv_X10_breaksAt (m_recv C hI h_a0.1 (ce_1000 E _ _ _) rfl) rfl rfl ⟨Nat.le_of_ble_eq_true rfl, Nat.le_of_ble_eq_true rfl⟩ ⟨Nat.zero_le _, Nat.zero_le _⟩ rfl rfl hl.1 (Nat.le_of_ble_eq_true rfl) dX10_spans_284 (st1 := []) rfl (fun H locs hI => ?_)
    obtain rfl := Option.some.inj hf
    exact m_vret C hr hlk hI dX10_spans_287
def f_X10_spans_b236 (F : Nat) (μ : Mm) (a5 : Int32) (a6 : Int32) (a8 : Int32) : Option Mm :=
 (ra μ 1008 0 21 (μ.1 1000 0 33)).bind fun v61 =>
 if a8 = v61 then
 f_X10_spans_b261 F μ a5 a6 (a8 - (1 : Int32))
 else
 f_X10_spans_b261 F μ a5 a6 a8
set_option maxHeartbeats 4000000 in
set_option maxRecDepth 100000 in
theorem cb_X10_spans_236 {l : Launch} {E : En} {p : Program} {e : Env} {s : State} {m : MethodId} {av : Array Value} {below : List Frame} {meth : Method} {c : Code} (C : Cx E p s m av c cX10_spans 9 yX10_spans.cls) (hr : meth.sig.returnType = (none : Option FieldType)) (hlk : meth.locks = false) {F : Nat} {z : Mm} : ∀ (μ : Mm) (a5 : Int32) (a6 : Int32) (a8 : Int32) (h_a0 : l10 E 0), f_X10_spans_b236 F μ a5 a6 a8 = some z → ∀ {H : Heap} {locs : List Loc} {ls : Array Slot}, Iv E s μ H locs → lv_has ls 9 [(0, .ref (ad E 1000 0)), (5, .int a5), (6, .int a6), (8, .int a8)] → W p l e { frames := 2, cells := 0, slots := 0, locals := 45 } s m av below meth c H locs 0 0 (MQ below (Qm E none z) av s 0 0 (Ad E)) (F0 m 236 ls []) := by
  have hx := C.1.1
  have hb := C.1.2.1
  intro μ a5 a6 a8 h_a0 hf H locs ls hI hl
  unfold f_X10_spans_b236 at hf
  refine lv_iload hx hb dX10_spans_236 (lv_at hl 3 rfl) ?_
  refine lv_aload_n hx hb dX10_spans_238 rfl (lv_at hl 0 rfl) ?_
  refine gf_10_7 C hI h_a0.1 fl_X10_29 dX10_spans_239 ?_
  refine lv_aload_n hx hb dX10_spans_242 rfl (lv_at hl 0 rfl) ?_
  refine gf_10_33 C hI h_a0.1 fl_X10_164 dX10_spans_243 ?_
  obtain ⟨v61, e62, hf⟩ := ob hf
  refine m_iald C hI h_a0.2.2.2.2.1 (ce_1008 E _ _ _) e62 dX10_spans_246 ?_
  refine lv_icmp_ne (tgt := 257) hx hb dX10_spans_247 rfl (fun hc => ?_) (fun hc => ?_)
  · replace hf := ie hf hc
    refine lv_iload hx hb dX10_spans_257 (lv_at hl 3 rfl) ?_
    refine lv_istore hx hb dX10_spans_259 hl (by decide) rfl (fun ls hl => ?_)
    have hl : lv_has ls 9 [(8, .int a8), (0, .ref (ad E 1000 0)), (5, .int a5), (6, .int a6)] := hl
    exact cb_X10_spans_261 C hr hlk  _ _ _ _ h_a0 hf hI (lv_sub hl [1, 2, 3, 0] rfl)
  · replace hf := it hf hc
    refine lv_iload hx hb dX10_spans_250 (lv_at hl 3 rfl) ?_
    refine lv_iconst (v := (1 : Int32)) hx hb dX10_spans_252 kc_1 ?_
    refine lv_isub hx hb dX10_spans_253 ?_
    refine lv_goto (tgt := 259) hx hb dX10_spans_254 rfl ?_
    refine lv_istore hx hb dX10_spans_259 hl (by decide) rfl (fun ls hl => ?_)
    have hl : lv_has ls 9 [(8, .int (a8 - (1 : Int32))), (0, .ref (ad E 1000 0)), (5, .int a5), (6, .int a6)] := hl
    exact cb_X10_spans_261 C hr hlk  _ _ _ _ h_a0 hf hI (lv_sub hl [1, 2, 3, 0] rfl)
def f_X10_spans_b192 (F : Nat) : Nat → Mm → Int32 → Int32 → Int32 → Int32 → Option Mm
 | 0, _, _, _, _, _ => none
 | N + 1, μ, a3, a5, a6, a8 =>
 (ra μ 1008 0 21 (μ.1 1000 0 33)).bind fun v63 =>
 if v63 ≤ a8 then
 f_X10_spans_b236 F μ a5 a6 a8
 else
 (f_X10_is μ a8 (0 : Int32) a3 (-1 : Int32)).bind fun q65 =>
 if q65 = 0 then
 (f_X10_is μ a8 (1 : Int32) a3 (-1 : Int32)).bind fun q67 =>
 if q67 = 0 then
 f_X10_spans_b192 F N μ a3 a5 a6 (a8 + (1 : Int32))
 else
 f_X10_spans_b236 F μ a5 a6 a8
 else
 f_X10_spans_b236 F μ a5 a6 a8
set_option maxHeartbeats 4000000 in
set_option maxRecDepth 100000 in
theorem cb_X10_spans_192 {l : Launch} {E : En} {p : Program} {e : Env} {s : State} {m : MethodId} {av : Array Value} {below : List Frame} {meth : Method} {c : Code} (C : Cx E p s m av c cX10_spans 9 yX10_spans.cls) (hr : meth.sig.returnType = (none : Option FieldType)) (hlk : meth.locks = false) {F : Nat} {z : Mm} : ∀ (N : Nat) (μ : Mm) (a3 : Int32) (a5 : Int32) (a6 : Int32) (a8 : Int32) (h_a0 : l10 E 0), f_X10_spans_b192 F N μ a3 a5 a6 a8 = some z → ∀ {H : Heap} {locs : List Loc} {ls : Array Slot}, Iv E s μ H locs → lv_has ls 9 [(0, .ref (ad E 1000 0)), (3, .int a3), (5, .int a5), (6, .int a6), (8, .int a8)] → W p l e { frames := 2, cells := 0, slots := 0, locals := 45 } s m av below meth c H locs 0 0 (MQ below (Qm E none z) av s 0 0 (Ad E)) (F0 m 192 ls []) := by
  have hx := C.1.1
  have hb := C.1.2.1
  intro N
  induction N with
  | zero => intro μ a3 a5 a6 a8 h_a0 hf; cases hf
  | succ N ih =>
    intro μ a3 a5 a6 a8 h_a0 hf H locs ls hI hl
    rw [f_X10_spans_b192] at hf
    refine lv_iload hx hb dX10_spans_192 (lv_at hl 4 rfl) ?_
    refine lv_aload_n hx hb dX10_spans_194 rfl (lv_at hl 0 rfl) ?_
    refine gf_10_7 C hI h_a0.1 fl_X10_29 dX10_spans_195 ?_
    refine lv_aload_n hx hb dX10_spans_198 rfl (lv_at hl 0 rfl) ?_
    refine gf_10_33 C hI h_a0.1 fl_X10_164 dX10_spans_199 ?_
    obtain ⟨v63, e64, hf⟩ := ob hf
    refine m_iald C hI h_a0.2.2.2.2.1 (ce_1008 E _ _ _) e64 dX10_spans_202 ?_
    refine lv_icmp_ge (tgt := 236) hx hb dX10_spans_203 rfl (fun hc => ?_) (fun hc => ?_)
    · replace hf := it hf hc
      exact cb_X10_spans_236 C hr hlk  _ _ _ _ h_a0 hf hI (lv_sub hl [0, 2, 3, 4] rfl)
    · replace hf := ie hf hc
      refine lv_aload_n hx hb dX10_spans_206 rfl (lv_at hl 0 rfl) ?_
      refine lv_iload hx hb dX10_spans_207 (lv_at hl 4 rfl) ?_
      refine lv_iconst (v := (0 : Int32)) hx hb dX10_spans_209 kc_0 ?_
      refine lv_iload_n hx hb dX10_spans_210 rfl (lv_at hl 1 rfl) ?_
      refine lv_iconst (v := (-1 : Int32)) hx hb dX10_spans_211 kc_m1 ?_
      obtain ⟨q65, e66, hf⟩ := ob hf
      refine mcV (As := [.int a8, .int (0 : Int32), .int a3, .int (-1 : Int32)]) (rest := []) C hI (c_X10_is l E h_a0 e66) ml_X10_266 kv_X10_is (m_recv C hI h_a0.1 (ce_1000 E _ _ _) rfl) rfl rfl ⟨Nat.le_of_ble_eq_true rfl, Nat.le_of_ble_eq_true rfl⟩ ⟨Nat.zero_le _, Nat.zero_le _⟩ rfl rfl hl.1 (Nat.le_of_ble_eq_true rfl) dX10_spans_212 (st1 := [.int q65]) rfl (fun H locs hI => ?_)
      refine lv_if_ne (tgt := 236) hx hb dX10_spans_215 rfl (fun hc => ?_) (fun hc => ?_)
      · replace hf := ie hf hc
        exact cb_X10_spans_236 C hr hlk  _ _ _ _ h_a0 hf hI (lv_sub hl [0, 2, 3, 4] rfl)
      · replace hf := it hf hc
        refine lv_aload_n hx hb dX10_spans_218 rfl (lv_at hl 0 rfl) ?_
        refine lv_iload hx hb dX10_spans_219 (lv_at hl 4 rfl) ?_
        refine lv_iconst (v := (1 : Int32)) hx hb dX10_spans_221 kc_1 ?_
        refine lv_iload_n hx hb dX10_spans_222 rfl (lv_at hl 1 rfl) ?_
        refine lv_iconst (v := (-1 : Int32)) hx hb dX10_spans_223 kc_m1 ?_
        obtain ⟨q67, e68, hf⟩ := ob hf
        refine mcV (As := [.int a8, .int (1 : Int32), .int a3, .int (-1 : Int32)]) (rest := []) C hI (c_X10_is l E h_a0 e68) ml_X10_266 kv_X10_is (m_recv C hI h_a0.1 (ce_1000 E _ _ _) rfl) rfl rfl ⟨Nat.le_of_ble_eq_true rfl, Nat.le_of_ble_eq_true rfl⟩ ⟨Nat.zero_le _, Nat.zero_le _⟩ rfl rfl hl.1 (Nat.le_of_ble_eq_true rfl) dX10_spans_224 (st1 := [.int q67]) rfl (fun H locs hI => ?_)
        refine lv_if_ne (tgt := 236) hx hb dX10_spans_227 rfl (fun hc => ?_) (fun hc => ?_)
        · replace hf := ie hf hc
          exact cb_X10_spans_236 C hr hlk  _ _ _ _ h_a0 hf hI (lv_sub hl [0, 2, 3, 4] rfl)
        · replace hf := it hf hc
          refine lv_iinc (v := a8 + (1 : Int32)) hx hb dX10_spans_230 hl (k := 4) rfl (ki_1 _) (by decide) rfl (fun ls hl => ?_)
          have hl : lv_has ls 9 [(8, .int (a8 + (1 : Int32))), (0, .ref (ad E 1000 0)), (3, .int a3), (5, .int a5), (6, .int a6)] := hl
          refine lv_goto (tgt := 192) hx hb dX10_spans_233 rfl ?_
          exact ih _ _ _ _ _ h_a0 hf hI (lv_sub hl [1, 2, 3, 4, 0] rfl)
def f_X10_spans_b66 (F : Nat) (μ : Mm) (a2 : Int32) (a3 : Int32) (a5 : Int32) (a6 : Int32) (a7 : Int32) : Option Mm :=
 (ra μ 1008 0 21 (μ.1 1000 0 33)).bind fun v69 =>
 if a7 = v69 then
 f_X10_spans_b96 F μ a5 a6 a7
 else
 (f_X10_spot μ a7).bind fun q71 =>
 (ra μ 1009 0 4200 q71).bind fun v73 =>
 if v73 = (8 : Int32) then
 (f_X10_spot μ (a7 - (1 : Int32))).bind fun q75 =>
 (ra μ 1012 0 4200 q75).bind fun v77 =>
 if (v77 - a6) ≤ a5 then
 if a2 = (2 : Int32) then
 f_X10_spans_b192 F F μ a3 a5 a6 (a7 + (1 : Int32))
 else
 f_X10_spans_b261 F μ a5 a6 a7
 else
 (f_X10_breaksAt μ (1 : Int32) a6).bind fun q79 =>
 some q79
 else
 f_X10_spans_b96 F μ a5 a6 a7
set_option maxHeartbeats 4000000 in
set_option maxRecDepth 100000 in
theorem cb_X10_spans_66 {l : Launch} {E : En} {p : Program} {e : Env} {s : State} {m : MethodId} {av : Array Value} {below : List Frame} {meth : Method} {c : Code} (C : Cx E p s m av c cX10_spans 9 yX10_spans.cls) (hr : meth.sig.returnType = (none : Option FieldType)) (hlk : meth.locks = false) {F : Nat} {z : Mm} : ∀ (μ : Mm) (a2 : Int32) (a3 : Int32) (a5 : Int32) (a6 : Int32) (a7 : Int32) (h_a0 : l10 E 0), f_X10_spans_b66 F μ a2 a3 a5 a6 a7 = some z → ∀ {H : Heap} {locs : List Loc} {ls : Array Slot}, Iv E s μ H locs → lv_has ls 9 [(0, .ref (ad E 1000 0)), (2, .int a2), (3, .int a3), (5, .int a5), (6, .int a6), (7, .int a7)] → W p l e { frames := 2, cells := 0, slots := 0, locals := 45 } s m av below meth c H locs 0 0 (MQ below (Qm E none z) av s 0 0 (Ad E)) (F0 m 66 ls []) := by
  have hx := C.1.1
  have hb := C.1.2.1
  intro μ a2 a3 a5 a6 a7 h_a0 hf H locs ls hI hl
  unfold f_X10_spans_b66 at hf
  refine lv_iload hx hb dX10_spans_66 (lv_at hl 5 rfl) ?_
  refine lv_aload_n hx hb dX10_spans_68 rfl (lv_at hl 0 rfl) ?_
  refine gf_10_7 C hI h_a0.1 fl_X10_29 dX10_spans_69 ?_
  refine lv_aload_n hx hb dX10_spans_72 rfl (lv_at hl 0 rfl) ?_
  refine gf_10_33 C hI h_a0.1 fl_X10_164 dX10_spans_73 ?_
  obtain ⟨v69, e70, hf⟩ := ob hf
  refine m_iald C hI h_a0.2.2.2.2.1 (ce_1008 E _ _ _) e70 dX10_spans_76 ?_
  refine lv_icmp_eq (tgt := 96) hx hb dX10_spans_77 rfl (fun hc => ?_) (fun hc => ?_)
  · replace hf := it hf hc
    exact cb_X10_spans_96 C hr hlk  _ _ _ _ h_a0 hf hI (lv_sub hl [0, 3, 4, 5] rfl)
  · replace hf := ie hf hc
    refine lv_aload_n hx hb dX10_spans_80 rfl (lv_at hl 0 rfl) ?_
    refine gf_10_8 C hI h_a0.1 fl_X10_32 dX10_spans_81 ?_
    refine lv_aload_n hx hb dX10_spans_84 rfl (lv_at hl 0 rfl) ?_
    refine lv_iload hx hb dX10_spans_85 (lv_at hl 5 rfl) ?_
    obtain ⟨q71, e72, hf⟩ := ob hf
    refine mcV (As := [.int a7]) (rest := [.ref (ad E 1009 0)]) C hI (c_X10_spot l E h_a0 e72) ml_X10_190 kv_X10_spot (m_recv C hI h_a0.1 (ce_1000 E _ _ _) rfl) rfl rfl ⟨Nat.le_of_ble_eq_true rfl, Nat.le_of_ble_eq_true rfl⟩ ⟨Nat.zero_le _, Nat.zero_le _⟩ rfl rfl hl.1 (Nat.le_of_ble_eq_true rfl) dX10_spans_87 (st1 := [.int q71, .ref (ad E 1009 0)]) rfl (fun H locs hI => ?_)
    obtain ⟨v73, e74, hf⟩ := ob hf
    refine m_bald C hI h_a0.2.2.2.2.2.1 (ce_1009 E _ _ _) e74 dX10_spans_90 ?_
    refine lv_bipush (v := (8 : Int32)) hx hb dX10_spans_91 kb_8 ?_
    refine lv_icmp_eq (tgt := 148) hx hb dX10_spans_93 rfl (fun hc => ?_) (fun hc => ?_)
    · replace hf := it hf hc
      refine lv_aload_n hx hb dX10_spans_148 rfl (lv_at hl 0 rfl) ?_
      refine gf_10_11 C hI h_a0.1 fl_X10_42 dX10_spans_149 ?_
      refine lv_aload_n hx hb dX10_spans_152 rfl (lv_at hl 0 rfl) ?_
      refine lv_iload hx hb dX10_spans_153 (lv_at hl 5 rfl) ?_
      refine lv_iconst (v := (1 : Int32)) hx hb dX10_spans_155 kc_1 ?_
      refine lv_isub hx hb dX10_spans_156 ?_
      obtain ⟨q75, e76, hf⟩ := ob hf
      refine mcV (As := [.int (a7 - (1 : Int32))]) (rest := [.ref (ad E 1012 0)]) C hI (c_X10_spot l E h_a0 e76) ml_X10_190 kv_X10_spot (m_recv C hI h_a0.1 (ce_1000 E _ _ _) rfl) rfl rfl ⟨Nat.le_of_ble_eq_true rfl, Nat.le_of_ble_eq_true rfl⟩ ⟨Nat.zero_le _, Nat.zero_le _⟩ rfl rfl hl.1 (Nat.le_of_ble_eq_true rfl) dX10_spans_157 (st1 := [.int q75, .ref (ad E 1012 0)]) rfl (fun H locs hI => ?_)
      obtain ⟨v77, e78, hf⟩ := ob hf
      refine m_iald C hI h_a0.2.2.2.2.2.2.2.2.1 (ce_1012 E _ _ _) e78 dX10_spans_160 ?_
      refine lv_iload hx hb dX10_spans_161 (lv_at hl 4 rfl) ?_
      refine lv_isub hx hb dX10_spans_163 ?_
      refine lv_iload hx hb dX10_spans_164 (lv_at hl 3 rfl) ?_
      refine lv_icmp_le (tgt := 177) hx hb dX10_spans_166 rfl (fun hc => ?_) (fun hc => ?_)
      · replace hf := it hf hc
        refine lv_iload hx hb dX10_spans_177 (lv_at hl 5 rfl) ?_
        refine lv_istore hx hb dX10_spans_179 hl (by decide) rfl (fun ls hl => ?_)
        have hl : lv_has ls 9 [(8, .int a7), (0, .ref (ad E 1000 0)), (2, .int a2), (3, .int a3), (5, .int a5), (6, .int a6), (7, .int a7)] := hl
        refine lv_iload_n hx hb dX10_spans_181 rfl (lv_at hl 2 rfl) ?_
        refine lv_iconst (v := (2 : Int32)) hx hb dX10_spans_182 kc_2 ?_
        refine lv_icmp_ne (tgt := 261) hx hb dX10_spans_183 rfl (fun hc => ?_) (fun hc => ?_)
        · replace hf := ie hf hc
          exact cb_X10_spans_261 C hr hlk  _ _ _ _ h_a0 hf hI (lv_sub hl [1, 4, 5, 0] rfl)
        · replace hf := it hf hc
          refine lv_iload hx hb dX10_spans_186 (lv_at hl 6 rfl) ?_
          refine lv_iconst (v := (1 : Int32)) hx hb dX10_spans_188 kc_1 ?_
          refine lv_iadd hx hb dX10_spans_189 ?_
          refine lv_istore hx hb dX10_spans_190 hl (by decide) rfl (fun ls hl => ?_)
          have hl : lv_has ls 9 [(8, .int (a7 + (1 : Int32))), (0, .ref (ad E 1000 0)), (2, .int a2), (3, .int a3), (5, .int a5), (6, .int a6), (7, .int a7)] := hl
          exact cb_X10_spans_192 C hr hlk  _ _ _ _ _ _ h_a0 hf hI (lv_sub hl [1, 3, 4, 5, 0] rfl)
      · replace hf := ie hf hc
        refine lv_aload_n hx hb dX10_spans_169 rfl (lv_at hl 0 rfl) ?_
        refine lv_iconst (v := (1 : Int32)) hx hb dX10_spans_170 kc_1 ?_
        refine lv_iload hx hb dX10_spans_171 (lv_at hl 4 rfl) ?_
        obtain ⟨q79, e80, hf⟩ := ob hf
        refine mcV (As := [.int (1 : Int32), .int a6]) (rest := []) C hI (c_X10_breaksAt l E h_a0 e80) ml_X10_270 kv_X10_breaksAt (m_recv C hI h_a0.1 (ce_1000 E _ _ _) rfl) rfl rfl ⟨Nat.le_of_ble_eq_true rfl, Nat.le_of_ble_eq_true rfl⟩ ⟨Nat.zero_le _, Nat.zero_le _⟩ rfl rfl hl.1 (Nat.le_of_ble_eq_true rfl) dX10_spans_173 (st1 := []) rfl (fun H locs hI => ?_)
        obtain rfl := Option.some.inj hf
        exact m_vret C hr hlk hI dX10_spans_176
    · replace hf := ie hf hc
      exact cb_X10_spans_96 C hr hlk  _ _ _ _ h_a0 hf hI (lv_sub hl [0, 3, 4, 5] rfl)
def f_X10_spans_b17 (F : Nat) : Nat → Mm → Int32 → Int32 → Int32 → Int32 → Int32 → Int32 → Option Mm
 | 0, _, _, _, _, _, _, _ => none
 | N + 1, μ, a2, a3, a4, a5, a6, a7 =>
 (ra μ 1008 0 21 (μ.1 1000 0 33)).bind fun v81 =>
 if v81 ≤ a7 then
 f_X10_spans_b66 F μ a2 a3 a5 a6 a7
 else
 (f_X10_is μ a7 a2 a3 a4).bind fun q83 =>
 if q83 = 0 then
 (f_X10_spot μ a7).bind fun q85 =>
 (ra μ 1009 0 4200 q85).bind fun v87 =>
 if v87 = (8 : Int32) then
 f_X10_spans_b66 F μ a2 a3 a5 a6 a7
 else
 f_X10_spans_b17 F N μ a2 a3 a4 a5 a6 (a7 + (1 : Int32))
 else
 f_X10_spans_b66 F μ a2 a3 a5 a6 a7
set_option maxHeartbeats 4000000 in
set_option maxRecDepth 100000 in
theorem cb_X10_spans_17 {l : Launch} {E : En} {p : Program} {e : Env} {s : State} {m : MethodId} {av : Array Value} {below : List Frame} {meth : Method} {c : Code} (C : Cx E p s m av c cX10_spans 9 yX10_spans.cls) (hr : meth.sig.returnType = (none : Option FieldType)) (hlk : meth.locks = false) {F : Nat} {z : Mm} : ∀ (N : Nat) (μ : Mm) (a2 : Int32) (a3 : Int32) (a4 : Int32) (a5 : Int32) (a6 : Int32) (a7 : Int32) (h_a0 : l10 E 0), f_X10_spans_b17 F N μ a2 a3 a4 a5 a6 a7 = some z → ∀ {H : Heap} {locs : List Loc} {ls : Array Slot}, Iv E s μ H locs → lv_has ls 9 [(0, .ref (ad E 1000 0)), (2, .int a2), (3, .int a3), (4, .int a4), (5, .int a5), (6, .int a6), (7, .int a7)] → W p l e { frames := 2, cells := 0, slots := 0, locals := 45 } s m av below meth c H locs 0 0 (MQ below (Qm E none z) av s 0 0 (Ad E)) (F0 m 17 ls []) := by
  have hx := C.1.1
  have hb := C.1.2.1
  intro N
  induction N with
  | zero => intro μ a2 a3 a4 a5 a6 a7 h_a0 hf; cases hf
  | succ N ih =>
    intro μ a2 a3 a4 a5 a6 a7 h_a0 hf H locs ls hI hl
    rw [f_X10_spans_b17] at hf
    refine lv_iload hx hb dX10_spans_17 (lv_at hl 6 rfl) ?_
    refine lv_aload_n hx hb dX10_spans_19 rfl (lv_at hl 0 rfl) ?_
    refine gf_10_7 C hI h_a0.1 fl_X10_29 dX10_spans_20 ?_
    refine lv_aload_n hx hb dX10_spans_23 rfl (lv_at hl 0 rfl) ?_
    refine gf_10_33 C hI h_a0.1 fl_X10_164 dX10_spans_24 ?_
    obtain ⟨v81, e82, hf⟩ := ob hf
    refine m_iald C hI h_a0.2.2.2.2.1 (ce_1008 E _ _ _) e82 dX10_spans_27 ?_
    refine lv_icmp_ge (tgt := 66) hx hb dX10_spans_28 rfl (fun hc => ?_) (fun hc => ?_)
    · replace hf := it hf hc
      exact cb_X10_spans_66 C hr hlk  _ _ _ _ _ _ h_a0 hf hI (lv_sub hl [0, 1, 2, 4, 5, 6] rfl)
    · replace hf := ie hf hc
      refine lv_aload_n hx hb dX10_spans_31 rfl (lv_at hl 0 rfl) ?_
      refine lv_iload hx hb dX10_spans_32 (lv_at hl 6 rfl) ?_
      refine lv_iload_n hx hb dX10_spans_34 rfl (lv_at hl 1 rfl) ?_
      refine lv_iload_n hx hb dX10_spans_35 rfl (lv_at hl 2 rfl) ?_
      refine lv_iload hx hb dX10_spans_36 (lv_at hl 3 rfl) ?_
      obtain ⟨q83, e84, hf⟩ := ob hf
      refine mcV (As := [.int a7, .int a2, .int a3, .int a4]) (rest := []) C hI (c_X10_is l E h_a0 e84) ml_X10_266 kv_X10_is (m_recv C hI h_a0.1 (ce_1000 E _ _ _) rfl) rfl rfl ⟨Nat.le_of_ble_eq_true rfl, Nat.le_of_ble_eq_true rfl⟩ ⟨Nat.zero_le _, Nat.zero_le _⟩ rfl rfl hl.1 (Nat.le_of_ble_eq_true rfl) dX10_spans_38 (st1 := [.int q83]) rfl (fun H locs hI => ?_)
      refine lv_if_ne (tgt := 66) hx hb dX10_spans_41 rfl (fun hc => ?_) (fun hc => ?_)
      · replace hf := ie hf hc
        exact cb_X10_spans_66 C hr hlk  _ _ _ _ _ _ h_a0 hf hI (lv_sub hl [0, 1, 2, 4, 5, 6] rfl)
      · replace hf := it hf hc
        refine lv_aload_n hx hb dX10_spans_44 rfl (lv_at hl 0 rfl) ?_
        refine gf_10_8 C hI h_a0.1 fl_X10_32 dX10_spans_45 ?_
        refine lv_aload_n hx hb dX10_spans_48 rfl (lv_at hl 0 rfl) ?_
        refine lv_iload hx hb dX10_spans_49 (lv_at hl 6 rfl) ?_
        obtain ⟨q85, e86, hf⟩ := ob hf
        refine mcV (As := [.int a7]) (rest := [.ref (ad E 1009 0)]) C hI (c_X10_spot l E h_a0 e86) ml_X10_190 kv_X10_spot (m_recv C hI h_a0.1 (ce_1000 E _ _ _) rfl) rfl rfl ⟨Nat.le_of_ble_eq_true rfl, Nat.le_of_ble_eq_true rfl⟩ ⟨Nat.zero_le _, Nat.zero_le _⟩ rfl rfl hl.1 (Nat.le_of_ble_eq_true rfl) dX10_spans_51 (st1 := [.int q85, .ref (ad E 1009 0)]) rfl (fun H locs hI => ?_)
        obtain ⟨v87, e88, hf⟩ := ob hf
        refine m_bald C hI h_a0.2.2.2.2.2.1 (ce_1009 E _ _ _) e88 dX10_spans_54 ?_
        refine lv_bipush (v := (8 : Int32)) hx hb dX10_spans_55 kb_8 ?_
        refine lv_icmp_eq (tgt := 66) hx hb dX10_spans_57 rfl (fun hc => ?_) (fun hc => ?_)
        · replace hf := it hf hc
          exact cb_X10_spans_66 C hr hlk  _ _ _ _ _ _ h_a0 hf hI (lv_sub hl [0, 1, 2, 4, 5, 6] rfl)
        · replace hf := ie hf hc
          refine lv_iinc (v := a7 + (1 : Int32)) hx hb dX10_spans_60 hl (k := 6) rfl (ki_1 _) (by decide) rfl (fun ls hl => ?_)
          have hl : lv_has ls 9 [(7, .int (a7 + (1 : Int32))), (0, .ref (ad E 1000 0)), (2, .int a2), (3, .int a3), (4, .int a4), (5, .int a5), (6, .int a6)] := hl
          refine lv_goto (tgt := 17) hx hb dX10_spans_63 rfl ?_
          exact ih _ _ _ _ _ _ _ h_a0 hf hI (lv_sub hl [1, 2, 3, 4, 5, 6, 0] rfl)
def f_X10_spans (F : Nat) (μ : Mm) (p1 : Int32) (p2 : Int32) (p3 : Int32) (p4 : Int32) (p5 : Int32) : Option Mm :=
 (f_X10_spot μ p1).bind fun q89 =>
 (ra μ 1012 0 4200 q89).bind fun v91 =>
 f_X10_spans_b17 F F μ p2 p3 p4 p5 v91 (p1 + (1 : Int32))
set_option maxHeartbeats 4000000 in
set_option maxRecDepth 100000 in
theorem c_X10_spans (l : Launch) (E : En) {F : Nat} {μ : Mm} {p1 : Int32} {p2 : Int32} {p3 : Int32} {p4 : Int32} {p5 : Int32} (h0 : l10 E 0) {z : Mm} (hf : f_X10_spans F μ p1 p2 p3 p4 p5 = some z) : Met l yX10_spans (wt yX10_spans cX10_spans 9 (none : Option FieldType)) { frames := 2, cells := 0, slots := 0, locals := 45 } (Pm E [.ref (ad E 1000 0), .int p1, .int p2, .int p3, .int p4, .int p5] μ) (Qm E none z) 0 0 (Ad E) := by
  unfold f_X10_spans at hf
  refine met_of (cc := cX10_spans) (nL := 9) (ret := (none : Option FieldType)) (by decide) _ (Nat.le_of_ble_eq_true rfl) ?_
  intro p e s m below meth c C hr hlk hI ls hl
  have hx := C.1.1
  have hb := C.1.2.1
  have hl : lv_has ls 9 [(0, .ref (ad E 1000 0)), (1, .int p1), (2, .int p2), (3, .int p3), (4, .int p4), (5, .int p5)] := hl
  refine lv_aload_n hx hb dX10_spans_0 rfl (lv_at hl 0 rfl) ?_
  refine gf_10_11 C hI h0.1 fl_X10_42 dX10_spans_1 ?_
  refine lv_aload_n hx hb dX10_spans_4 rfl (lv_at hl 0 rfl) ?_
  refine lv_iload_n hx hb dX10_spans_5 rfl (lv_at hl 1 rfl) ?_
  obtain ⟨q89, e90, hf⟩ := ob hf
  refine mcV (As := [.int p1]) (rest := [.ref (ad E 1012 0)]) C hI (c_X10_spot l E h0 e90) ml_X10_190 kv_X10_spot (m_recv C hI h0.1 (ce_1000 E _ _ _) rfl) rfl rfl ⟨Nat.le_of_ble_eq_true rfl, Nat.le_of_ble_eq_true rfl⟩ ⟨Nat.zero_le _, Nat.zero_le _⟩ rfl rfl hl.1 (Nat.le_of_ble_eq_true rfl) dX10_spans_6 (st1 := [.int q89, .ref (ad E 1012 0)]) rfl (fun H locs hI => ?_)
  obtain ⟨v91, e92, hf⟩ := ob hf
  refine m_iald C hI h0.2.2.2.2.2.2.2.2.1 (ce_1012 E _ _ _) e92 dX10_spans_9 ?_
  refine lv_istore hx hb dX10_spans_10 hl (by decide) rfl (fun ls hl => ?_)
  have hl : lv_has ls 9 [(6, .int v91), (0, .ref (ad E 1000 0)), (1, .int p1), (2, .int p2), (3, .int p3), (4, .int p4), (5, .int p5)] := hl
  refine lv_iload_n hx hb dX10_spans_12 rfl (lv_at hl 2 rfl) ?_
  refine lv_iconst (v := (1 : Int32)) hx hb dX10_spans_13 kc_1 ?_
  refine lv_iadd hx hb dX10_spans_14 ?_
  refine lv_istore hx hb dX10_spans_15 hl (by decide) rfl (fun ls hl => ?_)
  have hl : lv_has ls 9 [(7, .int (p1 + (1 : Int32))), (6, .int v91), (0, .ref (ad E 1000 0)), (1, .int p1), (2, .int p2), (3, .int p3), (4, .int p4), (5, .int p5)] := hl
  exact cb_X10_spans_17 C hr hlk  _ _ _ _ _ _ _ _ h0 hf hI (lv_sub hl [2, 4, 5, 6, 7, 1, 0] rfl)

theorem dX10_follows_0 : decode cX10_follows 0 = .ok (.iconst (-1), 1) := by decide +kernel
theorem dX10_follows_1 : decode cX10_follows 1 = .ok (.istore_n 3, 1) := by decide +kernel
theorem dX10_follows_2 : decode cX10_follows 2 = .ok (.iconst 0, 1) := by decide +kernel
theorem dX10_follows_3 : decode cX10_follows 3 = .ok (.istore 4, 2) := by decide +kernel
theorem dX10_follows_5 : decode cX10_follows 5 = .ok (.iconst 0, 1) := by decide +kernel
theorem dX10_follows_6 : decode cX10_follows 6 = .ok (.istore 5, 2) := by decide +kernel
theorem dX10_follows_8 : decode cX10_follows 8 = .ok (.iload 5, 2) := by decide +kernel
theorem dX10_follows_10 : decode cX10_follows 10 = .ok (.aload_n 0, 1) := by decide +kernel
theorem dX10_follows_11 : decode cX10_follows 11 = .ok (.getfield 29, 3) := by decide +kernel
theorem dX10_follows_14 : decode cX10_follows 14 = .ok (.aload_n 0, 1) := by decide +kernel
theorem dX10_follows_15 : decode cX10_follows 15 = .ok (.getfield 164, 3) := by decide +kernel
theorem dX10_follows_18 : decode cX10_follows 18 = .ok (.iaload, 1) := by decide +kernel
theorem dX10_follows_19 : decode cX10_follows 19 = .ok (.if_icmp .ge 129, 3) := by decide +kernel
theorem dX10_follows_22 : decode cX10_follows 22 = .ok (.iload 4, 2) := by decide +kernel
theorem dX10_follows_24 : decode cX10_follows 24 = .ok (.ifCond .ne 19, 3) := by decide +kernel
theorem dX10_follows_27 : decode cX10_follows 27 = .ok (.aload_n 0, 1) := by decide +kernel
theorem dX10_follows_28 : decode cX10_follows 28 = .ok (.getfield 32, 3) := by decide +kernel
theorem dX10_follows_31 : decode cX10_follows 31 = .ok (.aload_n 0, 1) := by decide +kernel
theorem dX10_follows_32 : decode cX10_follows 32 = .ok (.iload 5, 2) := by decide +kernel
theorem dX10_follows_34 : decode cX10_follows 34 = .ok (.invokevirtual 190, 3) := by decide +kernel
theorem dX10_follows_37 : decode cX10_follows 37 = .ok (.baload, 1) := by decide +kernel
theorem dX10_follows_38 : decode cX10_follows 38 = .ok (.bipush 8, 2) := by decide +kernel
theorem dX10_follows_40 : decode cX10_follows 40 = .ok (.if_icmp .ne 7, 3) := by decide +kernel
theorem dX10_follows_43 : decode cX10_follows 43 = .ok (.iconst 1, 1) := by decide +kernel
theorem dX10_follows_44 : decode cX10_follows 44 = .ok (.goto 4, 3) := by decide +kernel
theorem dX10_follows_47 : decode cX10_follows 47 = .ok (.iconst 0, 1) := by decide +kernel
theorem dX10_follows_48 : decode cX10_follows 48 = .ok (.istore 4, 2) := by decide +kernel
theorem dX10_follows_50 : decode cX10_follows 50 = .ok (.aload_n 0, 1) := by decide +kernel
theorem dX10_follows_51 : decode cX10_follows 51 = .ok (.iload 5, 2) := by decide +kernel
theorem dX10_follows_53 : decode cX10_follows 53 = .ok (.iconst 0, 1) := by decide +kernel
theorem dX10_follows_54 : decode cX10_follows 54 = .ok (.iload_n 1, 1) := by decide +kernel
theorem dX10_follows_55 : decode cX10_follows 55 = .ok (.iconst (-1), 1) := by decide +kernel
theorem dX10_follows_56 : decode cX10_follows 56 = .ok (.invokevirtual 266, 3) := by decide +kernel
theorem dX10_follows_59 : decode cX10_follows 59 = .ok (.ifCond .eq 83, 3) := by decide +kernel
theorem dX10_follows_62 : decode cX10_follows 62 = .ok (.iload_n 3, 1) := by decide +kernel
theorem dX10_follows_63 : decode cX10_follows 63 = .ok (.iconst (-1), 1) := by decide +kernel
theorem dX10_follows_64 : decode cX10_follows 64 = .ok (.if_icmp .eq 47, 3) := by decide +kernel
theorem dX10_follows_67 : decode cX10_follows 67 = .ok (.aload_n 0, 1) := by decide +kernel
theorem dX10_follows_68 : decode cX10_follows 68 = .ok (.getfield 42, 3) := by decide +kernel
theorem dX10_follows_71 : decode cX10_follows 71 = .ok (.aload_n 0, 1) := by decide +kernel
theorem dX10_follows_72 : decode cX10_follows 72 = .ok (.iload 5, 2) := by decide +kernel
theorem dX10_follows_74 : decode cX10_follows 74 = .ok (.invokevirtual 190, 3) := by decide +kernel
theorem dX10_follows_77 : decode cX10_follows 77 = .ok (.iaload, 1) := by decide +kernel
theorem dX10_follows_78 : decode cX10_follows 78 = .ok (.aload_n 0, 1) := by decide +kernel
theorem dX10_follows_79 : decode cX10_follows 79 = .ok (.getfield 42, 3) := by decide +kernel
theorem dX10_follows_82 : decode cX10_follows 82 = .ok (.aload_n 0, 1) := by decide +kernel
theorem dX10_follows_83 : decode cX10_follows 83 = .ok (.iload_n 3, 1) := by decide +kernel
theorem dX10_follows_84 : decode cX10_follows 84 = .ok (.invokevirtual 190, 3) := by decide +kernel
theorem dX10_follows_87 : decode cX10_follows 87 = .ok (.iaload, 1) := by decide +kernel
theorem dX10_follows_88 : decode cX10_follows 88 = .ok (.isub, 1) := by decide +kernel
theorem dX10_follows_89 : decode cX10_follows 89 = .ok (.iload_n 2, 1) := by decide +kernel
theorem dX10_follows_90 : decode cX10_follows 90 = .ok (.if_icmp .ge 21, 3) := by decide +kernel
theorem dX10_follows_93 : decode cX10_follows 93 = .ok (.aload_n 0, 1) := by decide +kernel
theorem dX10_follows_94 : decode cX10_follows 94 = .ok (.iconst 1, 1) := by decide +kernel
theorem dX10_follows_95 : decode cX10_follows 95 = .ok (.aload_n 0, 1) := by decide +kernel
theorem dX10_follows_96 : decode cX10_follows 96 = .ok (.getfield 42, 3) := by decide +kernel
theorem dX10_follows_99 : decode cX10_follows 99 = .ok (.aload_n 0, 1) := by decide +kernel
theorem dX10_follows_100 : decode cX10_follows 100 = .ok (.iload_n 3, 1) := by decide +kernel
theorem dX10_follows_101 : decode cX10_follows 101 = .ok (.invokevirtual 190, 3) := by decide +kernel
theorem dX10_follows_104 : decode cX10_follows 104 = .ok (.iaload, 1) := by decide +kernel
theorem dX10_follows_105 : decode cX10_follows 105 = .ok (.invokevirtual 270, 3) := by decide +kernel
theorem dX10_follows_108 : decode cX10_follows 108 = .ok (.goto 28, 3) := by decide +kernel
theorem dX10_follows_111 : decode cX10_follows 111 = .ok (.iload_n 3, 1) := by decide +kernel
theorem dX10_follows_112 : decode cX10_follows 112 = .ok (.iconst (-1), 1) := by decide +kernel
theorem dX10_follows_113 : decode cX10_follows 113 = .ok (.if_icmp .eq 23, 3) := by decide +kernel
theorem dX10_follows_116 : decode cX10_follows 116 = .ok (.iload 4, 2) := by decide +kernel
theorem dX10_follows_118 : decode cX10_follows 118 = .ok (.ifCond .eq 18, 3) := by decide +kernel
theorem dX10_follows_121 : decode cX10_follows 121 = .ok (.aload_n 0, 1) := by decide +kernel
theorem dX10_follows_122 : decode cX10_follows 122 = .ok (.iconst 0, 1) := by decide +kernel
theorem dX10_follows_123 : decode cX10_follows 123 = .ok (.aload_n 0, 1) := by decide +kernel
theorem dX10_follows_124 : decode cX10_follows 124 = .ok (.getfield 42, 3) := by decide +kernel
theorem dX10_follows_127 : decode cX10_follows 127 = .ok (.aload_n 0, 1) := by decide +kernel
theorem dX10_follows_128 : decode cX10_follows 128 = .ok (.iload_n 3, 1) := by decide +kernel
theorem dX10_follows_129 : decode cX10_follows 129 = .ok (.invokevirtual 190, 3) := by decide +kernel
theorem dX10_follows_132 : decode cX10_follows 132 = .ok (.iaload, 1) := by decide +kernel
theorem dX10_follows_133 : decode cX10_follows 133 = .ok (.invokevirtual 270, 3) := by decide +kernel
theorem dX10_follows_136 : decode cX10_follows 136 = .ok (.iload 5, 2) := by decide +kernel
theorem dX10_follows_138 : decode cX10_follows 138 = .ok (.istore_n 3, 1) := by decide +kernel
theorem dX10_follows_139 : decode cX10_follows 139 = .ok (.iconst 0, 1) := by decide +kernel
theorem dX10_follows_140 : decode cX10_follows 140 = .ok (.istore 4, 2) := by decide +kernel
theorem dX10_follows_142 : decode cX10_follows 142 = .ok (.iinc 5 1, 3) := by decide +kernel
theorem dX10_follows_145 : decode cX10_follows 145 = .ok (.goto (-137), 3) := by decide +kernel
theorem dX10_follows_148 : decode cX10_follows 148 = .ok (.return_, 1) := by decide +kernel
def f_X10_follows_b136 (F : Nat) (K8 : Mm → Int32 → Int32 → Int32 → Int32 → Int32 → Option Mm) (μ : Mm) (a1 : Int32) (a2 : Int32) (a5 : Int32) : Option Mm :=
 K8 μ a1 a2 a5 (0 : Int32) (a5 + (1 : Int32))
set_option maxHeartbeats 4000000 in
set_option maxRecDepth 100000 in
theorem cb_X10_follows_136 {l : Launch} {E : En} {p : Program} {e : Env} {s : State} {m : MethodId} {av : Array Value} {below : List Frame} {meth : Method} {c : Code} (C : Cx E p s m av c cX10_follows 6 yX10_follows.cls) (hr : meth.sig.returnType = (none : Option FieldType)) (hlk : meth.locks = false) {F : Nat} {K8 : Mm → Int32 → Int32 → Int32 → Int32 → Int32 → Option Mm} {z : Mm} (hK8 : ∀ (μ : Mm) (a1 : Int32) (a2 : Int32) (a3 : Int32) (a4 : Int32) (a5 : Int32) (h_a0 : l10 E 0), K8 μ a1 a2 a3 a4 a5 = some z → ∀ {H : Heap} {locs : List Loc} {ls : Array Slot}, Iv E s μ H locs → lv_has ls 6 [(0, .ref (ad E 1000 0)), (1, .int a1), (2, .int a2), (3, .int a3), (4, .int a4), (5, .int a5)] → W p l e { frames := 2, cells := 0, slots := 0, locals := 45 } s m av below meth c H locs 0 0 (MQ below (Qm E none z) av s 0 0 (Ad E)) (F0 m 8 ls [])) : ∀ (μ : Mm) (a1 : Int32) (a2 : Int32) (a5 : Int32) (h_a0 : l10 E 0), f_X10_follows_b136 F K8 μ a1 a2 a5 = some z → ∀ {H : Heap} {locs : List Loc} {ls : Array Slot}, Iv E s μ H locs → lv_has ls 6 [(0, .ref (ad E 1000 0)), (1, .int a1), (2, .int a2), (5, .int a5)] → W p l e { frames := 2, cells := 0, slots := 0, locals := 45 } s m av below meth c H locs 0 0 (MQ below (Qm E none z) av s 0 0 (Ad E)) (F0 m 136 ls []) := by
  have hx := C.1.1
  have hb := C.1.2.1
  intro μ a1 a2 a5 h_a0 hf H locs ls hI hl
  unfold f_X10_follows_b136 at hf
  refine lv_iload hx hb dX10_follows_136 (lv_at hl 3 rfl) ?_
  refine lv_istore_n hx hb dX10_follows_138 rfl hl (by decide) rfl (fun ls hl => ?_)
  have hl : lv_has ls 6 [(3, .int a5), (0, .ref (ad E 1000 0)), (1, .int a1), (2, .int a2), (5, .int a5)] := hl
  refine lv_iconst (v := (0 : Int32)) hx hb dX10_follows_139 kc_0 ?_
  refine lv_istore hx hb dX10_follows_140 hl (by decide) rfl (fun ls hl => ?_)
  have hl : lv_has ls 6 [(4, .int (0 : Int32)), (3, .int a5), (0, .ref (ad E 1000 0)), (1, .int a1), (2, .int a2), (5, .int a5)] := hl
  refine lv_iinc (v := a5 + (1 : Int32)) hx hb dX10_follows_142 hl (k := 5) rfl (ki_1 _) (by decide) rfl (fun ls hl => ?_)
  have hl : lv_has ls 6 [(5, .int (a5 + (1 : Int32))), (4, .int (0 : Int32)), (3, .int a5), (0, .ref (ad E 1000 0)), (1, .int a1), (2, .int a2)] := hl
  refine lv_goto (tgt := 8) hx hb dX10_follows_145 rfl ?_
  exact hK8 _ _ _ _ _ _ h_a0 hf hI (lv_sub hl [3, 4, 5, 2, 1, 0] rfl)
def f_X10_follows_b111 (F : Nat) (K8 : Mm → Int32 → Int32 → Int32 → Int32 → Int32 → Option Mm) (μ : Mm) (a1 : Int32) (a2 : Int32) (a3 : Int32) (a4 : Int32) (a5 : Int32) : Option Mm :=
 if a3 = (-1 : Int32) then
 f_X10_follows_b136 F K8 μ a1 a2 a5
 else
 if a4 = 0 then
 f_X10_follows_b136 F K8 μ a1 a2 a5
 else
 (f_X10_spot μ a3).bind fun q29 =>
 (ra μ 1012 0 4200 q29).bind fun v31 =>
 (f_X10_breaksAt μ (0 : Int32) v31).bind fun q33 =>
 f_X10_follows_b136 F K8 q33 a1 a2 a5
set_option maxHeartbeats 4000000 in
set_option maxRecDepth 100000 in
theorem cb_X10_follows_111 {l : Launch} {E : En} {p : Program} {e : Env} {s : State} {m : MethodId} {av : Array Value} {below : List Frame} {meth : Method} {c : Code} (C : Cx E p s m av c cX10_follows 6 yX10_follows.cls) (hr : meth.sig.returnType = (none : Option FieldType)) (hlk : meth.locks = false) {F : Nat} {K8 : Mm → Int32 → Int32 → Int32 → Int32 → Int32 → Option Mm} {z : Mm} (hK8 : ∀ (μ : Mm) (a1 : Int32) (a2 : Int32) (a3 : Int32) (a4 : Int32) (a5 : Int32) (h_a0 : l10 E 0), K8 μ a1 a2 a3 a4 a5 = some z → ∀ {H : Heap} {locs : List Loc} {ls : Array Slot}, Iv E s μ H locs → lv_has ls 6 [(0, .ref (ad E 1000 0)), (1, .int a1), (2, .int a2), (3, .int a3), (4, .int a4), (5, .int a5)] → W p l e { frames := 2, cells := 0, slots := 0, locals := 45 } s m av below meth c H locs 0 0 (MQ below (Qm E none z) av s 0 0 (Ad E)) (F0 m 8 ls [])) : ∀ (μ : Mm) (a1 : Int32) (a2 : Int32) (a3 : Int32) (a4 : Int32) (a5 : Int32) (h_a0 : l10 E 0), f_X10_follows_b111 F K8 μ a1 a2 a3 a4 a5 = some z → ∀ {H : Heap} {locs : List Loc} {ls : Array Slot}, Iv E s μ H locs → lv_has ls 6 [(0, .ref (ad E 1000 0)), (1, .int a1), (2, .int a2), (3, .int a3), (4, .int a4), (5, .int a5)] → W p l e { frames := 2, cells := 0, slots := 0, locals := 45 } s m av below meth c H locs 0 0 (MQ below (Qm E none z) av s 0 0 (Ad E)) (F0 m 111 ls []) := by
  have hx := C.1.1
  have hb := C.1.2.1
  intro μ a1 a2 a3 a4 a5 h_a0 hf H locs ls hI hl
  unfold f_X10_follows_b111 at hf
  refine lv_iload_n hx hb dX10_follows_111 rfl (lv_at hl 3 rfl) ?_
  refine lv_iconst (v := (-1 : Int32)) hx hb dX10_follows_112 kc_m1 ?_
  refine lv_icmp_eq (tgt := 136) hx hb dX10_follows_113 rfl (fun hc => ?_) (fun hc => ?_)
  · replace hf := it hf hc
    exact cb_X10_follows_136 C hr hlk hK8 _ _ _ _ h_a0 hf hI (lv_sub hl [0, 1, 2, 5] rfl)
  · replace hf := ie hf hc
    refine lv_iload hx hb dX10_follows_116 (lv_at hl 4 rfl) ?_
    refine lv_if_eq (tgt := 136) hx hb dX10_follows_118 rfl (fun hc => ?_) (fun hc => ?_)
    · replace hf := it hf hc
      exact cb_X10_follows_136 C hr hlk hK8 _ _ _ _ h_a0 hf hI (lv_sub hl [0, 1, 2, 5] rfl)
    · replace hf := ie hf hc
      refine lv_aload_n hx hb dX10_follows_121 rfl (lv_at hl 0 rfl) ?_
      refine lv_iconst (v := (0 : Int32)) hx hb dX10_follows_122 kc_0 ?_
      refine lv_aload_n hx hb dX10_follows_123 rfl (lv_at hl 0 rfl) ?_
      refine gf_10_11 C hI h_a0.1 fl_X10_42 dX10_follows_124 ?_
      refine lv_aload_n hx hb dX10_follows_127 rfl (lv_at hl 0 rfl) ?_
      refine lv_iload_n hx hb dX10_follows_128 rfl (lv_at hl 3 rfl) ?_
      obtain ⟨q29, e30, hf⟩ := ob hf
      refine mcV (As := [.int a3]) (rest := [.ref (ad E 1012 0), .int (0 : Int32), .ref (ad E 1000 0)]) C hI (c_X10_spot l E h_a0 e30) ml_X10_190 kv_X10_spot (m_recv C hI h_a0.1 (ce_1000 E _ _ _) rfl) rfl rfl ⟨Nat.le_of_ble_eq_true rfl, Nat.le_of_ble_eq_true rfl⟩ ⟨Nat.zero_le _, Nat.zero_le _⟩ rfl rfl hl.1 (Nat.le_of_ble_eq_true rfl) dX10_follows_129 (st1 := [.int q29, .ref (ad E 1012 0), .int (0 : Int32), .ref (ad E 1000 0)]) rfl (fun H locs hI => ?_)
      obtain ⟨v31, e32, hf⟩ := ob hf
      refine m_iald C hI h_a0.2.2.2.2.2.2.2.2.1 (ce_1012 E _ _ _) e32 dX10_follows_132 ?_
      obtain ⟨q33, e34, hf⟩ := ob hf
      refine mcV (As := [.int (0 : Int32), .int v31]) (rest := []) C hI (c_X10_breaksAt l E h_a0 e34) ml_X10_270 kv_X10_breaksAt (m_recv C hI h_a0.1 (ce_1000 E _ _ _) rfl) rfl rfl ⟨Nat.le_of_ble_eq_true rfl, Nat.le_of_ble_eq_true rfl⟩ ⟨Nat.zero_le _, Nat.zero_le _⟩ rfl rfl hl.1 (Nat.le_of_ble_eq_true rfl) dX10_follows_133 (st1 := []) rfl (fun H locs hI => ?_)
      exact cb_X10_follows_136 C hr hlk hK8 _ _ _ _ h_a0 hf hI (lv_sub hl [0, 1, 2, 5] rfl)
def f_X10_follows_b48 (F : Nat) (K8 : Mm → Int32 → Int32 → Int32 → Int32 → Int32 → Option Mm) (μ : Mm) (a1 : Int32) (a2 : Int32) (a3 : Int32) (a5 : Int32) (s0 : Int32) : Option Mm :=
 (f_X10_is μ a5 (0 : Int32) a1 (-1 : Int32)).bind fun q35 =>
 if q35 = 0 then
 K8 μ a1 a2 a3 s0 (a5 + (1 : Int32))
 else
 if a3 = (-1 : Int32) then
 f_X10_follows_b111 F K8 μ a1 a2 a3 s0 a5
 else
 (f_X10_spot μ a5).bind fun q37 =>
 (ra μ 1012 0 4200 q37).bind fun v39 =>
 (f_X10_spot μ a3).bind fun q41 =>
 (ra μ 1012 0 4200 q41).bind fun v43 =>
 if a2 ≤ (v39 - v43) then
 f_X10_follows_b111 F K8 μ a1 a2 a3 s0 a5
 else
 (f_X10_spot μ a3).bind fun q45 =>
 (ra μ 1012 0 4200 q45).bind fun v47 =>
 (f_X10_breaksAt μ (1 : Int32) v47).bind fun q49 =>
 f_X10_follows_b136 F K8 q49 a1 a2 a5
set_option maxHeartbeats 4000000 in
set_option maxRecDepth 100000 in
theorem cb_X10_follows_48 {l : Launch} {E : En} {p : Program} {e : Env} {s : State} {m : MethodId} {av : Array Value} {below : List Frame} {meth : Method} {c : Code} (C : Cx E p s m av c cX10_follows 6 yX10_follows.cls) (hr : meth.sig.returnType = (none : Option FieldType)) (hlk : meth.locks = false) {F : Nat} {K8 : Mm → Int32 → Int32 → Int32 → Int32 → Int32 → Option Mm} {z : Mm} (hK8 : ∀ (μ : Mm) (a1 : Int32) (a2 : Int32) (a3 : Int32) (a4 : Int32) (a5 : Int32) (h_a0 : l10 E 0), K8 μ a1 a2 a3 a4 a5 = some z → ∀ {H : Heap} {locs : List Loc} {ls : Array Slot}, Iv E s μ H locs → lv_has ls 6 [(0, .ref (ad E 1000 0)), (1, .int a1), (2, .int a2), (3, .int a3), (4, .int a4), (5, .int a5)] → W p l e { frames := 2, cells := 0, slots := 0, locals := 45 } s m av below meth c H locs 0 0 (MQ below (Qm E none z) av s 0 0 (Ad E)) (F0 m 8 ls [])) : ∀ (μ : Mm) (a1 : Int32) (a2 : Int32) (a3 : Int32) (a5 : Int32) (s0 : Int32) (h_a0 : l10 E 0), f_X10_follows_b48 F K8 μ a1 a2 a3 a5 s0 = some z → ∀ {H : Heap} {locs : List Loc} {ls : Array Slot}, Iv E s μ H locs → lv_has ls 6 [(0, .ref (ad E 1000 0)), (1, .int a1), (2, .int a2), (3, .int a3), (5, .int a5)] → W p l e { frames := 2, cells := 0, slots := 0, locals := 45 } s m av below meth c H locs 0 0 (MQ below (Qm E none z) av s 0 0 (Ad E)) (F0 m 48 ls [.int s0]) := by
  have hx := C.1.1
  have hb := C.1.2.1
  intro μ a1 a2 a3 a5 s0 h_a0 hf H locs ls hI hl
  unfold f_X10_follows_b48 at hf
  refine lv_istore hx hb dX10_follows_48 hl (by decide) rfl (fun ls hl => ?_)
  have hl : lv_has ls 6 [(4, .int s0), (0, .ref (ad E 1000 0)), (1, .int a1), (2, .int a2), (3, .int a3), (5, .int a5)] := hl
  refine lv_aload_n hx hb dX10_follows_50 rfl (lv_at hl 1 rfl) ?_
  refine lv_iload hx hb dX10_follows_51 (lv_at hl 5 rfl) ?_
  refine lv_iconst (v := (0 : Int32)) hx hb dX10_follows_53 kc_0 ?_
  refine lv_iload_n hx hb dX10_follows_54 rfl (lv_at hl 2 rfl) ?_
  refine lv_iconst (v := (-1 : Int32)) hx hb dX10_follows_55 kc_m1 ?_
  obtain ⟨q35, e36, hf⟩ := ob hf
  refine mcV (As := [.int a5, .int (0 : Int32), .int a1, .int (-1 : Int32)]) (rest := []) C hI (c_X10_is l E h_a0 e36) ml_X10_266 kv_X10_is (m_recv C hI h_a0.1 (ce_1000 E _ _ _) rfl) rfl rfl ⟨Nat.le_of_ble_eq_true rfl, Nat.le_of_ble_eq_true rfl⟩ ⟨Nat.zero_le _, Nat.zero_le _⟩ rfl rfl hl.1 (Nat.le_of_ble_eq_true rfl) dX10_follows_56 (st1 := [.int q35]) rfl (fun H locs hI => ?_)
  refine lv_if_eq (tgt := 142) hx hb dX10_follows_59 rfl (fun hc => ?_) (fun hc => ?_)
  · replace hf := it hf hc
    refine lv_iinc (v := a5 + (1 : Int32)) hx hb dX10_follows_142 hl (k := 5) rfl (ki_1 _) (by decide) rfl (fun ls hl => ?_)
    have hl : lv_has ls 6 [(5, .int (a5 + (1 : Int32))), (4, .int s0), (0, .ref (ad E 1000 0)), (1, .int a1), (2, .int a2), (3, .int a3)] := hl
    refine lv_goto (tgt := 8) hx hb dX10_follows_145 rfl ?_
    exact hK8 _ _ _ _ _ _ h_a0 hf hI (lv_sub hl [2, 3, 4, 5, 1, 0] rfl)
  · replace hf := ie hf hc
    refine lv_iload_n hx hb dX10_follows_62 rfl (lv_at hl 4 rfl) ?_
    refine lv_iconst (v := (-1 : Int32)) hx hb dX10_follows_63 kc_m1 ?_
    refine lv_icmp_eq (tgt := 111) hx hb dX10_follows_64 rfl (fun hc => ?_) (fun hc => ?_)
    · replace hf := it hf hc
      exact cb_X10_follows_111 C hr hlk hK8 _ _ _ _ _ _ h_a0 hf hI (lv_sub hl [1, 2, 3, 4, 0, 5] rfl)
    · replace hf := ie hf hc
      refine lv_aload_n hx hb dX10_follows_67 rfl (lv_at hl 1 rfl) ?_
      refine gf_10_11 C hI h_a0.1 fl_X10_42 dX10_follows_68 ?_
      refine lv_aload_n hx hb dX10_follows_71 rfl (lv_at hl 1 rfl) ?_
      refine lv_iload hx hb dX10_follows_72 (lv_at hl 5 rfl) ?_
      obtain ⟨q37, e38, hf⟩ := ob hf
      refine mcV (As := [.int a5]) (rest := [.ref (ad E 1012 0)]) C hI (c_X10_spot l E h_a0 e38) ml_X10_190 kv_X10_spot (m_recv C hI h_a0.1 (ce_1000 E _ _ _) rfl) rfl rfl ⟨Nat.le_of_ble_eq_true rfl, Nat.le_of_ble_eq_true rfl⟩ ⟨Nat.zero_le _, Nat.zero_le _⟩ rfl rfl hl.1 (Nat.le_of_ble_eq_true rfl) dX10_follows_74 (st1 := [.int q37, .ref (ad E 1012 0)]) rfl (fun H locs hI => ?_)
      obtain ⟨v39, e40, hf⟩ := ob hf
      refine m_iald C hI h_a0.2.2.2.2.2.2.2.2.1 (ce_1012 E _ _ _) e40 dX10_follows_77 ?_
      refine lv_aload_n hx hb dX10_follows_78 rfl (lv_at hl 1 rfl) ?_
      refine gf_10_11 C hI h_a0.1 fl_X10_42 dX10_follows_79 ?_
      refine lv_aload_n hx hb dX10_follows_82 rfl (lv_at hl 1 rfl) ?_
      refine lv_iload_n hx hb dX10_follows_83 rfl (lv_at hl 4 rfl) ?_
      obtain ⟨q41, e42, hf⟩ := ob hf
      refine mcV (As := [.int a3]) (rest := [.ref (ad E 1012 0), .int v39]) C hI (c_X10_spot l E h_a0 e42) ml_X10_190 kv_X10_spot (m_recv C hI h_a0.1 (ce_1000 E _ _ _) rfl) rfl rfl ⟨Nat.le_of_ble_eq_true rfl, Nat.le_of_ble_eq_true rfl⟩ ⟨Nat.zero_le _, Nat.zero_le _⟩ rfl rfl hl.1 (Nat.le_of_ble_eq_true rfl) dX10_follows_84 (st1 := [.int q41, .ref (ad E 1012 0), .int v39]) rfl (fun H locs hI => ?_)
      obtain ⟨v43, e44, hf⟩ := ob hf
      refine m_iald C hI h_a0.2.2.2.2.2.2.2.2.1 (ce_1012 E _ _ _) e44 dX10_follows_87 ?_
      refine lv_isub hx hb dX10_follows_88 ?_
      refine lv_iload_n hx hb dX10_follows_89 rfl (lv_at hl 3 rfl) ?_
      refine lv_icmp_ge (tgt := 111) hx hb dX10_follows_90 rfl (fun hc => ?_) (fun hc => ?_)
      · replace hf := it hf hc
        exact cb_X10_follows_111 C hr hlk hK8 _ _ _ _ _ _ h_a0 hf hI (lv_sub hl [1, 2, 3, 4, 0, 5] rfl)
      · replace hf := ie hf hc
        refine lv_aload_n hx hb dX10_follows_93 rfl (lv_at hl 1 rfl) ?_
        refine lv_iconst (v := (1 : Int32)) hx hb dX10_follows_94 kc_1 ?_
        refine lv_aload_n hx hb dX10_follows_95 rfl (lv_at hl 1 rfl) ?_
        refine gf_10_11 C hI h_a0.1 fl_X10_42 dX10_follows_96 ?_
        refine lv_aload_n hx hb dX10_follows_99 rfl (lv_at hl 1 rfl) ?_
        refine lv_iload_n hx hb dX10_follows_100 rfl (lv_at hl 4 rfl) ?_
        obtain ⟨q45, e46, hf⟩ := ob hf
        refine mcV (As := [.int a3]) (rest := [.ref (ad E 1012 0), .int (1 : Int32), .ref (ad E 1000 0)]) C hI (c_X10_spot l E h_a0 e46) ml_X10_190 kv_X10_spot (m_recv C hI h_a0.1 (ce_1000 E _ _ _) rfl) rfl rfl ⟨Nat.le_of_ble_eq_true rfl, Nat.le_of_ble_eq_true rfl⟩ ⟨Nat.zero_le _, Nat.zero_le _⟩ rfl rfl hl.1 (Nat.le_of_ble_eq_true rfl) dX10_follows_101 (st1 := [.int q45, .ref (ad E 1012 0), .int (1 : Int32), .ref (ad E 1000 0)]) rfl (fun H locs hI => ?_)
        obtain ⟨v47, e48, hf⟩ := ob hf
        refine m_iald C hI h_a0.2.2.2.2.2.2.2.2.1 (ce_1012 E _ _ _) e48 dX10_follows_104 ?_
        obtain ⟨q49, e50, hf⟩ := ob hf
        refine mcV (As := [.int (1 : Int32), .int v47]) (rest := []) C hI (c_X10_breaksAt l E h_a0 e50) ml_X10_270 kv_X10_breaksAt (m_recv C hI h_a0.1 (ce_1000 E _ _ _) rfl) rfl rfl ⟨Nat.le_of_ble_eq_true rfl, Nat.le_of_ble_eq_true rfl⟩ ⟨Nat.zero_le _, Nat.zero_le _⟩ rfl rfl hl.1 (Nat.le_of_ble_eq_true rfl) dX10_follows_105 (st1 := []) rfl (fun H locs hI => ?_)
        refine lv_goto (tgt := 136) hx hb dX10_follows_108 rfl ?_
        exact cb_X10_follows_136 C hr hlk hK8 _ _ _ _ h_a0 hf hI (lv_sub hl [1, 2, 3, 5] rfl)
def f_X10_follows_b8 (F : Nat) : Nat → Mm → Int32 → Int32 → Int32 → Int32 → Int32 → Option Mm
 | 0, _, _, _, _, _, _ => none
 | N + 1, μ, a1, a2, a3, a4, a5 =>
 (ra μ 1008 0 21 (μ.1 1000 0 33)).bind fun v51 =>
 if v51 ≤ a5 then
 some μ
 else
 if a4 = 0 then
 (f_X10_spot μ a5).bind fun q53 =>
 (ra μ 1009 0 4200 q53).bind fun v55 =>
 if v55 = (8 : Int32) then
 f_X10_follows_b48 F (fun μ a1 a2 a3 a4 a5 => f_X10_follows_b8 F N μ a1 a2 a3 a4 a5) μ a1 a2 a3 a5 (1 : Int32)
 else
 f_X10_follows_b48 F (fun μ a1 a2 a3 a4 a5 => f_X10_follows_b8 F N μ a1 a2 a3 a4 a5) μ a1 a2 a3 a5 (0 : Int32)
 else
 f_X10_follows_b48 F (fun μ a1 a2 a3 a4 a5 => f_X10_follows_b8 F N μ a1 a2 a3 a4 a5) μ a1 a2 a3 a5 (1 : Int32)
set_option maxHeartbeats 4000000 in
set_option maxRecDepth 100000 in
theorem cb_X10_follows_8 {l : Launch} {E : En} {p : Program} {e : Env} {s : State} {m : MethodId} {av : Array Value} {below : List Frame} {meth : Method} {c : Code} (C : Cx E p s m av c cX10_follows 6 yX10_follows.cls) (hr : meth.sig.returnType = (none : Option FieldType)) (hlk : meth.locks = false) {F : Nat} {z : Mm} : ∀ (N : Nat) (μ : Mm) (a1 : Int32) (a2 : Int32) (a3 : Int32) (a4 : Int32) (a5 : Int32) (h_a0 : l10 E 0), f_X10_follows_b8 F N μ a1 a2 a3 a4 a5 = some z → ∀ {H : Heap} {locs : List Loc} {ls : Array Slot}, Iv E s μ H locs → lv_has ls 6 [(0, .ref (ad E 1000 0)), (1, .int a1), (2, .int a2), (3, .int a3), (4, .int a4), (5, .int a5)] → W p l e { frames := 2, cells := 0, slots := 0, locals := 45 } s m av below meth c H locs 0 0 (MQ below (Qm E none z) av s 0 0 (Ad E)) (F0 m 8 ls []) := by
  have hx := C.1.1
  have hb := C.1.2.1
  intro N
  induction N with
  | zero => intro μ a1 a2 a3 a4 a5 h_a0 hf; cases hf
  | succ N ih =>
    intro μ a1 a2 a3 a4 a5 h_a0 hf H locs ls hI hl
    rw [f_X10_follows_b8] at hf
    refine lv_iload hx hb dX10_follows_8 (lv_at hl 5 rfl) ?_
    refine lv_aload_n hx hb dX10_follows_10 rfl (lv_at hl 0 rfl) ?_
    refine gf_10_7 C hI h_a0.1 fl_X10_29 dX10_follows_11 ?_
    refine lv_aload_n hx hb dX10_follows_14 rfl (lv_at hl 0 rfl) ?_
    refine gf_10_33 C hI h_a0.1 fl_X10_164 dX10_follows_15 ?_
    obtain ⟨v51, e52, hf⟩ := ob hf
    refine m_iald C hI h_a0.2.2.2.2.1 (ce_1008 E _ _ _) e52 dX10_follows_18 ?_
    refine lv_icmp_ge (tgt := 148) hx hb dX10_follows_19 rfl (fun hc => ?_) (fun hc => ?_)
    · replace hf := it hf hc
      obtain rfl := Option.some.inj hf
      exact m_vret C hr hlk hI dX10_follows_148
    · replace hf := ie hf hc
      refine lv_iload hx hb dX10_follows_22 (lv_at hl 4 rfl) ?_
      refine lv_if_ne (tgt := 43) hx hb dX10_follows_24 rfl (fun hc => ?_) (fun hc => ?_)
      · replace hf := ie hf hc
        refine lv_iconst (v := (1 : Int32)) hx hb dX10_follows_43 kc_1 ?_
        refine lv_goto (tgt := 48) hx hb dX10_follows_44 rfl ?_
        exact cb_X10_follows_48 C hr hlk ih _ _ _ _ _ _ h_a0 hf hI (lv_sub hl [0, 1, 2, 3, 5] rfl)
      · replace hf := it hf hc
        refine lv_aload_n hx hb dX10_follows_27 rfl (lv_at hl 0 rfl) ?_
        refine gf_10_8 C hI h_a0.1 fl_X10_32 dX10_follows_28 ?_
        refine lv_aload_n hx hb dX10_follows_31 rfl (lv_at hl 0 rfl) ?_
        refine lv_iload hx hb dX10_follows_32 (lv_at hl 5 rfl) ?_
        obtain ⟨q53, e54, hf⟩ := ob hf
        refine mcV (As := [.int a5]) (rest := [.ref (ad E 1009 0)]) C hI (c_X10_spot l E h_a0 e54) ml_X10_190 kv_X10_spot (m_recv C hI h_a0.1 (ce_1000 E _ _ _) rfl) rfl rfl ⟨Nat.le_of_ble_eq_true rfl, Nat.le_of_ble_eq_true rfl⟩ ⟨Nat.zero_le _, Nat.zero_le _⟩ rfl rfl hl.1 (Nat.le_of_ble_eq_true rfl) dX10_follows_34 (st1 := [.int q53, .ref (ad E 1009 0)]) rfl (fun H locs hI => ?_)
        obtain ⟨v55, e56, hf⟩ := ob hf
        refine m_bald C hI h_a0.2.2.2.2.2.1 (ce_1009 E _ _ _) e56 dX10_follows_37 ?_
        refine lv_bipush (v := (8 : Int32)) hx hb dX10_follows_38 kb_8 ?_
        refine lv_icmp_ne (tgt := 47) hx hb dX10_follows_40 rfl (fun hc => ?_) (fun hc => ?_)
        · replace hf := ie hf hc
          refine lv_iconst (v := (0 : Int32)) hx hb dX10_follows_47 kc_0 ?_
          exact cb_X10_follows_48 C hr hlk ih _ _ _ _ _ _ h_a0 hf hI (lv_sub hl [0, 1, 2, 3, 5] rfl)
        · replace hf := it hf hc
          refine lv_iconst (v := (1 : Int32)) hx hb dX10_follows_43 kc_1 ?_
          refine lv_goto (tgt := 48) hx hb dX10_follows_44 rfl ?_
          exact cb_X10_follows_48 C hr hlk ih _ _ _ _ _ _ h_a0 hf hI (lv_sub hl [0, 1, 2, 3, 5] rfl)
def f_X10_follows (F : Nat) (μ : Mm) (p1 : Int32) (p2 : Int32) : Option Mm :=
 f_X10_follows_b8 F F μ p1 p2 (-1 : Int32) (0 : Int32) (0 : Int32)
set_option maxHeartbeats 4000000 in
set_option maxRecDepth 100000 in
theorem c_X10_follows (l : Launch) (E : En) {F : Nat} {μ : Mm} {p1 : Int32} {p2 : Int32} (h0 : l10 E 0) {z : Mm} (hf : f_X10_follows F μ p1 p2 = some z) : Met l yX10_follows (wt yX10_follows cX10_follows 6 (none : Option FieldType)) { frames := 2, cells := 0, slots := 0, locals := 45 } (Pm E [.ref (ad E 1000 0), .int p1, .int p2] μ) (Qm E none z) 0 0 (Ad E) := by
  unfold f_X10_follows at hf
  refine met_of (cc := cX10_follows) (nL := 6) (ret := (none : Option FieldType)) (by decide) _ (Nat.le_of_ble_eq_true rfl) ?_
  intro p e s m below meth c C hr hlk hI ls hl
  have hx := C.1.1
  have hb := C.1.2.1
  have hl : lv_has ls 6 [(0, .ref (ad E 1000 0)), (1, .int p1), (2, .int p2)] := hl
  refine lv_iconst (v := (-1 : Int32)) hx hb dX10_follows_0 kc_m1 ?_
  refine lv_istore_n hx hb dX10_follows_1 rfl hl (by decide) rfl (fun ls hl => ?_)
  have hl : lv_has ls 6 [(3, .int (-1 : Int32)), (0, .ref (ad E 1000 0)), (1, .int p1), (2, .int p2)] := hl
  refine lv_iconst (v := (0 : Int32)) hx hb dX10_follows_2 kc_0 ?_
  refine lv_istore hx hb dX10_follows_3 hl (by decide) rfl (fun ls hl => ?_)
  have hl : lv_has ls 6 [(4, .int (0 : Int32)), (3, .int (-1 : Int32)), (0, .ref (ad E 1000 0)), (1, .int p1), (2, .int p2)] := hl
  refine lv_iconst (v := (0 : Int32)) hx hb dX10_follows_5 kc_0 ?_
  refine lv_istore hx hb dX10_follows_6 hl (by decide) rfl (fun ls hl => ?_)
  have hl : lv_has ls 6 [(5, .int (0 : Int32)), (4, .int (0 : Int32)), (3, .int (-1 : Int32)), (0, .ref (ad E 1000 0)), (1, .int p1), (2, .int p2)] := hl
  exact cb_X10_follows_8 C hr hlk  _ _ _ _ _ _ _ h0 hf hI (lv_sub hl [3, 4, 5, 2, 1, 0] rfl)

theorem dX10_seeksMark_0 : decode cX10_seeksMark 0 = .ok (.iconst 0, 1) := by decide +kernel
theorem dX10_seeksMark_1 : decode cX10_seeksMark 1 = .ok (.istore_n 3, 1) := by decide +kernel
theorem dX10_seeksMark_2 : decode cX10_seeksMark 2 = .ok (.iload_n 3, 1) := by decide +kernel
theorem dX10_seeksMark_3 : decode cX10_seeksMark 3 = .ok (.aload_n 0, 1) := by decide +kernel
theorem dX10_seeksMark_4 : decode cX10_seeksMark 4 = .ok (.getfield 7, 3) := by decide +kernel
theorem dX10_seeksMark_7 : decode cX10_seeksMark 7 = .ok (.if_icmp .ge 87, 3) := by decide +kernel
theorem dX10_seeksMark_10 : decode cX10_seeksMark 10 = .ok (.iconst 0, 1) := by decide +kernel
theorem dX10_seeksMark_11 : decode cX10_seeksMark 11 = .ok (.istore 4, 2) := by decide +kernel
theorem dX10_seeksMark_13 : decode cX10_seeksMark 13 = .ok (.iload 4, 2) := by decide +kernel
theorem dX10_seeksMark_15 : decode cX10_seeksMark 15 = .ok (.aload_n 0, 1) := by decide +kernel
theorem dX10_seeksMark_16 : decode cX10_seeksMark 16 = .ok (.getfield 29, 3) := by decide +kernel
theorem dX10_seeksMark_19 : decode cX10_seeksMark 19 = .ok (.iload_n 3, 1) := by decide +kernel
theorem dX10_seeksMark_20 : decode cX10_seeksMark 20 = .ok (.iaload, 1) := by decide +kernel
theorem dX10_seeksMark_21 : decode cX10_seeksMark 21 = .ok (.if_icmp .ge 67, 3) := by decide +kernel
theorem dX10_seeksMark_24 : decode cX10_seeksMark 24 = .ok (.aload_n 0, 1) := by decide +kernel
theorem dX10_seeksMark_25 : decode cX10_seeksMark 25 = .ok (.getfield 32, 3) := by decide +kernel
theorem dX10_seeksMark_28 : decode cX10_seeksMark 28 = .ok (.sipush 200, 3) := by decide +kernel
theorem dX10_seeksMark_31 : decode cX10_seeksMark 31 = .ok (.iload_n 3, 1) := by decide +kernel
theorem dX10_seeksMark_32 : decode cX10_seeksMark 32 = .ok (.imul, 1) := by decide +kernel
theorem dX10_seeksMark_33 : decode cX10_seeksMark 33 = .ok (.iload 4, 2) := by decide +kernel
theorem dX10_seeksMark_35 : decode cX10_seeksMark 35 = .ok (.iadd, 1) := by decide +kernel
theorem dX10_seeksMark_36 : decode cX10_seeksMark 36 = .ok (.baload, 1) := by decide +kernel
theorem dX10_seeksMark_37 : decode cX10_seeksMark 37 = .ok (.iload_n 1, 1) := by decide +kernel
theorem dX10_seeksMark_38 : decode cX10_seeksMark 38 = .ok (.if_icmp .ne 44, 3) := by decide +kernel
theorem dX10_seeksMark_41 : decode cX10_seeksMark 41 = .ok (.aload_n 0, 1) := by decide +kernel
theorem dX10_seeksMark_42 : decode cX10_seeksMark 42 = .ok (.getfield 39, 3) := by decide +kernel
theorem dX10_seeksMark_45 : decode cX10_seeksMark 45 = .ok (.sipush 200, 3) := by decide +kernel
theorem dX10_seeksMark_48 : decode cX10_seeksMark 48 = .ok (.iload_n 3, 1) := by decide +kernel
theorem dX10_seeksMark_49 : decode cX10_seeksMark 49 = .ok (.imul, 1) := by decide +kernel
theorem dX10_seeksMark_50 : decode cX10_seeksMark 50 = .ok (.iload 4, 2) := by decide +kernel
theorem dX10_seeksMark_52 : decode cX10_seeksMark 52 = .ok (.iadd, 1) := by decide +kernel
theorem dX10_seeksMark_53 : decode cX10_seeksMark 53 = .ok (.baload, 1) := by decide +kernel
theorem dX10_seeksMark_54 : decode cX10_seeksMark 54 = .ok (.iload_n 2, 1) := by decide +kernel
theorem dX10_seeksMark_55 : decode cX10_seeksMark 55 = .ok (.if_icmp .ne 27, 3) := by decide +kernel
theorem dX10_seeksMark_58 : decode cX10_seeksMark 58 = .ok (.aload_n 0, 1) := by decide +kernel
theorem dX10_seeksMark_59 : decode cX10_seeksMark 59 = .ok (.iload_n 3, 1) := by decide +kernel
theorem dX10_seeksMark_60 : decode cX10_seeksMark 60 = .ok (.putfield 288, 3) := by decide +kernel
theorem dX10_seeksMark_63 : decode cX10_seeksMark 63 = .ok (.aload_n 0, 1) := by decide +kernel
theorem dX10_seeksMark_64 : decode cX10_seeksMark 64 = .ok (.aload_n 0, 1) := by decide +kernel
theorem dX10_seeksMark_65 : decode cX10_seeksMark 65 = .ok (.getfield 42, 3) := by decide +kernel
theorem dX10_seeksMark_68 : decode cX10_seeksMark 68 = .ok (.sipush 200, 3) := by decide +kernel
theorem dX10_seeksMark_71 : decode cX10_seeksMark 71 = .ok (.iload_n 3, 1) := by decide +kernel
theorem dX10_seeksMark_72 : decode cX10_seeksMark 72 = .ok (.imul, 1) := by decide +kernel
theorem dX10_seeksMark_73 : decode cX10_seeksMark 73 = .ok (.iload 4, 2) := by decide +kernel
theorem dX10_seeksMark_75 : decode cX10_seeksMark 75 = .ok (.iadd, 1) := by decide +kernel
theorem dX10_seeksMark_76 : decode cX10_seeksMark 76 = .ok (.iaload, 1) := by decide +kernel
theorem dX10_seeksMark_77 : decode cX10_seeksMark 77 = .ok (.putfield 291, 3) := by decide +kernel
theorem dX10_seeksMark_80 : decode cX10_seeksMark 80 = .ok (.iconst 1, 1) := by decide +kernel
theorem dX10_seeksMark_81 : decode cX10_seeksMark 81 = .ok (.ireturn, 1) := by decide +kernel
theorem dX10_seeksMark_82 : decode cX10_seeksMark 82 = .ok (.iinc 4 1, 3) := by decide +kernel
theorem dX10_seeksMark_85 : decode cX10_seeksMark 85 = .ok (.goto (-72), 3) := by decide +kernel
theorem dX10_seeksMark_88 : decode cX10_seeksMark 88 = .ok (.iinc 3 1, 3) := by decide +kernel
theorem dX10_seeksMark_91 : decode cX10_seeksMark 91 = .ok (.goto (-89), 3) := by decide +kernel
theorem dX10_seeksMark_94 : decode cX10_seeksMark 94 = .ok (.iconst 0, 1) := by decide +kernel
theorem dX10_seeksMark_95 : decode cX10_seeksMark 95 = .ok (.ireturn, 1) := by decide +kernel
def f_X10_seeksMark_b13 (F : Nat) (K2 : Mm → Int32 → Int32 → Int32 → Option (Int32 × Mm)) : Nat → Mm → Int32 → Int32 → Int32 → Int32 → Option (Int32 × Mm)
 | 0, _, _, _, _, _ => none
 | N + 1, μ, a1, a2, a3, a4 =>
 (ra μ 1008 0 21 a3).bind fun v13 =>
 if v13 ≤ a4 then
 K2 μ a1 a2 (a3 + (1 : Int32))
 else
 (ra μ 1009 0 4200 (((200 : Int32) * a3) + a4)).bind fun v15 =>
 if v15 = a1 then
 (ra μ 1011 0 4200 (((200 : Int32) * a3) + a4)).bind fun v17 =>
 if v17 = a2 then
 (wf μ 1000 0 46 a3).bind fun m19 =>
 (ra m19 1012 0 4200 (((200 : Int32) * a3) + a4)).bind fun v21 =>
 (wf m19 1000 0 47 v21).bind fun m23 =>
 some ((1 : Int32), m23)
 else
 f_X10_seeksMark_b13 F K2 N μ a1 a2 a3 (a4 + (1 : Int32))
 else
 f_X10_seeksMark_b13 F K2 N μ a1 a2 a3 (a4 + (1 : Int32))
set_option maxHeartbeats 4000000 in
set_option maxRecDepth 100000 in
theorem cb_X10_seeksMark_13 {l : Launch} {E : En} {p : Program} {e : Env} {s : State} {m : MethodId} {av : Array Value} {below : List Frame} {meth : Method} {c : Code} (C : Cx E p s m av c cX10_seeksMark 5 yX10_seeksMark.cls) (hr : meth.sig.returnType = (some .boolean)) (hlk : meth.locks = false) {F : Nat} {K2 : Mm → Int32 → Int32 → Int32 → Option (Int32 × Mm)} {z : Int32 × Mm} (hK2 : ∀ (μ : Mm) (a1 : Int32) (a2 : Int32) (a3 : Int32) (h_a0 : l10 E 0), K2 μ a1 a2 a3 = some z → ∀ {H : Heap} {locs : List Loc} {ls : Array Slot}, Iv E s μ H locs → lv_has ls 5 [(0, .ref (ad E 1000 0)), (1, .int a1), (2, .int a2), (3, .int a3)] → W p l e { frames := 0, cells := 0, slots := 0, locals := 0 } s m av below meth c H locs 0 0 (MQ below (Qm E (some (.int z.1)) z.2) av s 0 0 (Ad E)) (F0 m 2 ls [])) : ∀ (N : Nat) (μ : Mm) (a1 : Int32) (a2 : Int32) (a3 : Int32) (a4 : Int32) (h_a0 : l10 E 0), f_X10_seeksMark_b13 F K2 N μ a1 a2 a3 a4 = some z → ∀ {H : Heap} {locs : List Loc} {ls : Array Slot}, Iv E s μ H locs → lv_has ls 5 [(0, .ref (ad E 1000 0)), (1, .int a1), (2, .int a2), (3, .int a3), (4, .int a4)] → W p l e { frames := 0, cells := 0, slots := 0, locals := 0 } s m av below meth c H locs 0 0 (MQ below (Qm E (some (.int z.1)) z.2) av s 0 0 (Ad E)) (F0 m 13 ls []) := by
  have hx := C.1.1
  have hb := C.1.2.1
  intro N
  induction N with
  | zero => intro μ a1 a2 a3 a4 h_a0 hf; cases hf
  | succ N ih =>
    intro μ a1 a2 a3 a4 h_a0 hf H locs ls hI hl
    rw [f_X10_seeksMark_b13] at hf
    refine lv_iload hx hb dX10_seeksMark_13 (lv_at hl 4 rfl) ?_
    refine lv_aload_n hx hb dX10_seeksMark_15 rfl (lv_at hl 0 rfl) ?_
    refine gf_10_7 C hI h_a0.1 fl_X10_29 dX10_seeksMark_16 ?_
    refine lv_iload_n hx hb dX10_seeksMark_19 rfl (lv_at hl 3 rfl) ?_
    obtain ⟨v13, e14, hf⟩ := ob hf
    refine m_iald C hI h_a0.2.2.2.2.1 (ce_1008 E _ _ _) e14 dX10_seeksMark_20 ?_
    refine lv_icmp_ge (tgt := 88) hx hb dX10_seeksMark_21 rfl (fun hc => ?_) (fun hc => ?_)
    · replace hf := it hf hc
      refine lv_iinc (v := a3 + (1 : Int32)) hx hb dX10_seeksMark_88 hl (k := 3) rfl (ki_1 _) (by decide) rfl (fun ls hl => ?_)
      have hl : lv_has ls 5 [(3, .int (a3 + (1 : Int32))), (0, .ref (ad E 1000 0)), (1, .int a1), (2, .int a2), (4, .int a4)] := hl
      refine lv_goto (tgt := 2) hx hb dX10_seeksMark_91 rfl ?_
      exact hK2 _ _ _ _ h_a0 hf hI (lv_sub hl [1, 2, 3, 0] rfl)
    · replace hf := ie hf hc
      refine lv_aload_n hx hb dX10_seeksMark_24 rfl (lv_at hl 0 rfl) ?_
      refine gf_10_8 C hI h_a0.1 fl_X10_32 dX10_seeksMark_25 ?_
      refine lv_sipush (v := (200 : Int32)) hx hb dX10_seeksMark_28 ks_200 ?_
      refine lv_iload_n hx hb dX10_seeksMark_31 rfl (lv_at hl 3 rfl) ?_
      refine lv_imul hx hb dX10_seeksMark_32 ?_
      refine lv_iload hx hb dX10_seeksMark_33 (lv_at hl 4 rfl) ?_
      refine lv_iadd hx hb dX10_seeksMark_35 ?_
      obtain ⟨v15, e16, hf⟩ := ob hf
      refine m_bald C hI h_a0.2.2.2.2.2.1 (ce_1009 E _ _ _) e16 dX10_seeksMark_36 ?_
      refine lv_iload_n hx hb dX10_seeksMark_37 rfl (lv_at hl 1 rfl) ?_
      refine lv_icmp_ne (tgt := 82) hx hb dX10_seeksMark_38 rfl (fun hc => ?_) (fun hc => ?_)
      · replace hf := ie hf hc
        refine lv_iinc (v := a4 + (1 : Int32)) hx hb dX10_seeksMark_82 hl (k := 4) rfl (ki_1 _) (by decide) rfl (fun ls hl => ?_)
        have hl : lv_has ls 5 [(4, .int (a4 + (1 : Int32))), (0, .ref (ad E 1000 0)), (1, .int a1), (2, .int a2), (3, .int a3)] := hl
        refine lv_goto (tgt := 13) hx hb dX10_seeksMark_85 rfl ?_
        exact ih _ _ _ _ _ h_a0 hf hI (lv_sub hl [1, 2, 3, 4, 0] rfl)
      · replace hf := it hf hc
        refine lv_aload_n hx hb dX10_seeksMark_41 rfl (lv_at hl 0 rfl) ?_
        refine gf_10_10 C hI h_a0.1 fl_X10_39 dX10_seeksMark_42 ?_
        refine lv_sipush (v := (200 : Int32)) hx hb dX10_seeksMark_45 ks_200 ?_
        refine lv_iload_n hx hb dX10_seeksMark_48 rfl (lv_at hl 3 rfl) ?_
        refine lv_imul hx hb dX10_seeksMark_49 ?_
        refine lv_iload hx hb dX10_seeksMark_50 (lv_at hl 4 rfl) ?_
        refine lv_iadd hx hb dX10_seeksMark_52 ?_
        obtain ⟨v17, e18, hf⟩ := ob hf
        refine m_bald C hI h_a0.2.2.2.2.2.2.2.1 (ce_1011 E _ _ _) e18 dX10_seeksMark_53 ?_
        refine lv_iload_n hx hb dX10_seeksMark_54 rfl (lv_at hl 2 rfl) ?_
        refine lv_icmp_ne (tgt := 82) hx hb dX10_seeksMark_55 rfl (fun hc => ?_) (fun hc => ?_)
        · replace hf := ie hf hc
          refine lv_iinc (v := a4 + (1 : Int32)) hx hb dX10_seeksMark_82 hl (k := 4) rfl (ki_1 _) (by decide) rfl (fun ls hl => ?_)
          have hl : lv_has ls 5 [(4, .int (a4 + (1 : Int32))), (0, .ref (ad E 1000 0)), (1, .int a1), (2, .int a2), (3, .int a3)] := hl
          refine lv_goto (tgt := 13) hx hb dX10_seeksMark_85 rfl ?_
          exact ih _ _ _ _ _ h_a0 hf hI (lv_sub hl [1, 2, 3, 4, 0] rfl)
        · replace hf := it hf hc
          refine lv_aload_n hx hb dX10_seeksMark_58 rfl (lv_at hl 0 rfl) ?_
          refine lv_iload_n hx hb dX10_seeksMark_59 rfl (lv_at hl 3 rfl) ?_
          obtain ⟨m19, e20, hf⟩ := ob hf
          refine pf_10_46 C hI h_a0.1 fl_X10_288 e20 dX10_seeksMark_60 (fun H locs hI => ?_)
          refine lv_aload_n hx hb dX10_seeksMark_63 rfl (lv_at hl 0 rfl) ?_
          refine lv_aload_n hx hb dX10_seeksMark_64 rfl (lv_at hl 0 rfl) ?_
          refine gf_10_11 C hI h_a0.1 fl_X10_42 dX10_seeksMark_65 ?_
          refine lv_sipush (v := (200 : Int32)) hx hb dX10_seeksMark_68 ks_200 ?_
          refine lv_iload_n hx hb dX10_seeksMark_71 rfl (lv_at hl 3 rfl) ?_
          refine lv_imul hx hb dX10_seeksMark_72 ?_
          refine lv_iload hx hb dX10_seeksMark_73 (lv_at hl 4 rfl) ?_
          refine lv_iadd hx hb dX10_seeksMark_75 ?_
          obtain ⟨v21, e22, hf⟩ := ob hf
          refine m_iald C hI h_a0.2.2.2.2.2.2.2.2.1 (ce_1012 E _ _ _) e22 dX10_seeksMark_76 ?_
          obtain ⟨m23, e24, hf⟩ := ob hf
          refine pf_10_47 C hI h_a0.1 fl_X10_291 e24 dX10_seeksMark_77 (fun H locs hI => ?_)
          refine lv_iconst (v := (1 : Int32)) hx hb dX10_seeksMark_80 kc_1 ?_
          obtain rfl := Option.some.inj hf
          exact m_zret C hr hlk hI (show narrow .boolean (.int (1 : Int32)) = .int (1 : Int32) from by decide) dX10_seeksMark_81
def f_X10_seeksMark_b2 (F : Nat) : Nat → Mm → Int32 → Int32 → Int32 → Option (Int32 × Mm)
 | 0, _, _, _, _ => none
 | N + 1, μ, a1, a2, a3 =>
 if (μ.1 1000 0 1) ≤ a3 then
 some ((0 : Int32), μ)
 else
 f_X10_seeksMark_b13 F (fun μ a1 a2 a3 => f_X10_seeksMark_b2 F N μ a1 a2 a3) F μ a1 a2 a3 (0 : Int32)
set_option maxHeartbeats 4000000 in
set_option maxRecDepth 100000 in
theorem cb_X10_seeksMark_2 {l : Launch} {E : En} {p : Program} {e : Env} {s : State} {m : MethodId} {av : Array Value} {below : List Frame} {meth : Method} {c : Code} (C : Cx E p s m av c cX10_seeksMark 5 yX10_seeksMark.cls) (hr : meth.sig.returnType = (some .boolean)) (hlk : meth.locks = false) {F : Nat} {z : Int32 × Mm} : ∀ (N : Nat) (μ : Mm) (a1 : Int32) (a2 : Int32) (a3 : Int32) (h_a0 : l10 E 0), f_X10_seeksMark_b2 F N μ a1 a2 a3 = some z → ∀ {H : Heap} {locs : List Loc} {ls : Array Slot}, Iv E s μ H locs → lv_has ls 5 [(0, .ref (ad E 1000 0)), (1, .int a1), (2, .int a2), (3, .int a3)] → W p l e { frames := 0, cells := 0, slots := 0, locals := 0 } s m av below meth c H locs 0 0 (MQ below (Qm E (some (.int z.1)) z.2) av s 0 0 (Ad E)) (F0 m 2 ls []) := by
  have hx := C.1.1
  have hb := C.1.2.1
  intro N
  induction N with
  | zero => intro μ a1 a2 a3 h_a0 hf; cases hf
  | succ N ih =>
    intro μ a1 a2 a3 h_a0 hf H locs ls hI hl
    rw [f_X10_seeksMark_b2] at hf
    refine lv_iload_n hx hb dX10_seeksMark_2 rfl (lv_at hl 3 rfl) ?_
    refine lv_aload_n hx hb dX10_seeksMark_3 rfl (lv_at hl 0 rfl) ?_
    refine gf_10_1 C hI h_a0.1 fl_X10_7 dX10_seeksMark_4 ?_
    refine lv_icmp_ge (tgt := 94) hx hb dX10_seeksMark_7 rfl (fun hc => ?_) (fun hc => ?_)
    · replace hf := it hf hc
      refine lv_iconst (v := (0 : Int32)) hx hb dX10_seeksMark_94 kc_0 ?_
      obtain rfl := Option.some.inj hf
      exact m_zret C hr hlk hI (show narrow .boolean (.int (0 : Int32)) = .int (0 : Int32) from by decide) dX10_seeksMark_95
    · replace hf := ie hf hc
      refine lv_iconst (v := (0 : Int32)) hx hb dX10_seeksMark_10 kc_0 ?_
      refine lv_istore hx hb dX10_seeksMark_11 hl (by decide) rfl (fun ls hl => ?_)
      have hl : lv_has ls 5 [(4, .int (0 : Int32)), (0, .ref (ad E 1000 0)), (1, .int a1), (2, .int a2), (3, .int a3)] := hl
      exact cb_X10_seeksMark_13 C hr hlk ih _ _ _ _ _ _ h_a0 hf hI (lv_sub hl [1, 2, 3, 4, 0] rfl)
def f_X10_seeksMark (F : Nat) (μ : Mm) (p1 : Int32) (p2 : Int32) : Option (Int32 × Mm) :=
 f_X10_seeksMark_b2 F F μ p1 p2 (0 : Int32)
set_option maxHeartbeats 4000000 in
set_option maxRecDepth 100000 in
theorem c_X10_seeksMark (l : Launch) (E : En) {F : Nat} {μ : Mm} {p1 : Int32} {p2 : Int32} (h0 : l10 E 0) {z : Int32 × Mm} (hf : f_X10_seeksMark F μ p1 p2 = some z) : Met l yX10_seeksMark (wt yX10_seeksMark cX10_seeksMark 5 (some .boolean)) { frames := 0, cells := 0, slots := 0, locals := 0 } (Pm E [.ref (ad E 1000 0), .int p1, .int p2] μ) (Qm E (some (.int z.1)) z.2) 0 0 (Ad E) := by
  unfold f_X10_seeksMark at hf
  refine met_of (cc := cX10_seeksMark) (nL := 5) (ret := (some .boolean)) (by decide) _ (Nat.le_of_ble_eq_true rfl) ?_
  intro p e s m below meth c C hr hlk hI ls hl
  have hx := C.1.1
  have hb := C.1.2.1
  have hl : lv_has ls 5 [(0, .ref (ad E 1000 0)), (1, .int p1), (2, .int p2)] := hl
  refine lv_iconst (v := (0 : Int32)) hx hb dX10_seeksMark_0 kc_0 ?_
  refine lv_istore_n hx hb dX10_seeksMark_1 rfl hl (by decide) rfl (fun ls hl => ?_)
  have hl : lv_has ls 5 [(3, .int (0 : Int32)), (0, .ref (ad E 1000 0)), (1, .int p1), (2, .int p2)] := hl
  exact cb_X10_seeksMark_2 C hr hlk  _ _ _ _ _ h0 hf hI (lv_sub hl [1, 2, 3, 0] rfl)

theorem dX10_joins_0 : decode cX10_joins 0 = .ok (.iconst 0, 1) := by decide +kernel
theorem dX10_joins_1 : decode cX10_joins 1 = .ok (.istore_n 1, 1) := by decide +kernel
theorem dX10_joins_2 : decode cX10_joins 2 = .ok (.iload_n 1, 1) := by decide +kernel
theorem dX10_joins_3 : decode cX10_joins 3 = .ok (.bipush 9, 2) := by decide +kernel
theorem dX10_joins_5 : decode cX10_joins 5 = .ok (.if_icmp .ge 28, 3) := by decide +kernel
theorem dX10_joins_8 : decode cX10_joins 8 = .ok (.aload_n 0, 1) := by decide +kernel
theorem dX10_joins_9 : decode cX10_joins 9 = .ok (.getfield 112, 3) := by decide +kernel
theorem dX10_joins_12 : decode cX10_joins 12 = .ok (.iload_n 1, 1) := by decide +kernel
theorem dX10_joins_13 : decode cX10_joins 13 = .ok (.iload_n 1, 1) := by decide +kernel
theorem dX10_joins_14 : decode cX10_joins 14 = .ok (.iconst 4, 1) := by decide +kernel
theorem dX10_joins_15 : decode cX10_joins 15 = .ok (.irem, 1) := by decide +kernel
theorem dX10_joins_16 : decode cX10_joins 16 = .ok (.ifCond .ne 7, 3) := by decide +kernel
theorem dX10_joins_19 : decode cX10_joins 19 = .ok (.lconst 0, 1) := by decide +kernel
theorem dX10_joins_20 : decode cX10_joins 20 = .ok (.goto 6, 3) := by decide +kernel
theorem dX10_joins_23 : decode cX10_joins 23 = .ok (.ldc2_w 294, 3) := by decide +kernel
theorem dX10_joins_26 : decode cX10_joins 26 = .ok (.lastore, 1) := by decide +kernel
theorem dX10_joins_27 : decode cX10_joins 27 = .ok (.iinc 1 1, 3) := by decide +kernel
theorem dX10_joins_30 : decode cX10_joins 30 = .ok (.goto (-28), 3) := by decide +kernel
theorem dX10_joins_33 : decode cX10_joins 33 = .ok (.iconst 0, 1) := by decide +kernel
theorem dX10_joins_34 : decode cX10_joins 34 = .ok (.istore_n 1, 1) := by decide +kernel
theorem dX10_joins_35 : decode cX10_joins 35 = .ok (.iload_n 1, 1) := by decide +kernel
theorem dX10_joins_36 : decode cX10_joins 36 = .ok (.bipush 64, 2) := by decide +kernel
theorem dX10_joins_38 : decode cX10_joins 38 = .ok (.if_icmp .ge 98, 3) := by decide +kernel
theorem dX10_joins_41 : decode cX10_joins 41 = .ok (.aload_n 0, 1) := by decide +kernel
theorem dX10_joins_42 : decode cX10_joins 42 = .ok (.bipush 9, 2) := by decide +kernel
theorem dX10_joins_44 : decode cX10_joins 44 = .ok (.iload_n 1, 1) := by decide +kernel
theorem dX10_joins_45 : decode cX10_joins 45 = .ok (.invokevirtual 296, 3) := by decide +kernel
theorem dX10_joins_48 : decode cX10_joins 48 = .ok (.ifCond .eq 82, 3) := by decide +kernel
theorem dX10_joins_51 : decode cX10_joins 51 = .ok (.aload_n 0, 1) := by decide +kernel
theorem dX10_joins_52 : decode cX10_joins 52 = .ok (.getfield 288, 3) := by decide +kernel
theorem dX10_joins_55 : decode cX10_joins 55 = .ok (.istore_n 2, 1) := by decide +kernel
theorem dX10_joins_56 : decode cX10_joins 56 = .ok (.aload_n 0, 1) := by decide +kernel
theorem dX10_joins_57 : decode cX10_joins 57 = .ok (.getfield 291, 3) := by decide +kernel
theorem dX10_joins_60 : decode cX10_joins 60 = .ok (.istore_n 3, 1) := by decide +kernel
theorem dX10_joins_61 : decode cX10_joins 61 = .ok (.aload_n 0, 1) := by decide +kernel
theorem dX10_joins_62 : decode cX10_joins 62 = .ok (.bipush 10, 2) := by decide +kernel
theorem dX10_joins_64 : decode cX10_joins 64 = .ok (.iload_n 1, 1) := by decide +kernel
theorem dX10_joins_65 : decode cX10_joins 65 = .ok (.invokevirtual 296, 3) := by decide +kernel
theorem dX10_joins_68 : decode cX10_joins 68 = .ok (.ifCond .eq 62, 3) := by decide +kernel
theorem dX10_joins_71 : decode cX10_joins 71 = .ok (.aload_n 0, 1) := by decide +kernel
theorem dX10_joins_72 : decode cX10_joins 72 = .ok (.getfield 288, 3) := by decide +kernel
theorem dX10_joins_75 : decode cX10_joins 75 = .ok (.istore 4, 2) := by decide +kernel
theorem dX10_joins_77 : decode cX10_joins 77 = .ok (.aload_n 0, 1) := by decide +kernel
theorem dX10_joins_78 : decode cX10_joins 78 = .ok (.getfield 291, 3) := by decide +kernel
theorem dX10_joins_81 : decode cX10_joins 81 = .ok (.iload_n 3, 1) := by decide +kernel
theorem dX10_joins_82 : decode cX10_joins 82 = .ok (.isub, 1) := by decide +kernel
theorem dX10_joins_83 : decode cX10_joins 83 = .ok (.i2l, 1) := by decide +kernel
theorem dX10_joins_84 : decode cX10_joins 84 = .ok (.lstore 5, 2) := by decide +kernel
theorem dX10_joins_86 : decode cX10_joins 86 = .ok (.aload_n 0, 1) := by decide +kernel
theorem dX10_joins_87 : decode cX10_joins 87 = .ok (.getfield 112, 3) := by decide +kernel
theorem dX10_joins_90 : decode cX10_joins 90 = .ok (.iconst 3, 1) := by decide +kernel
theorem dX10_joins_91 : decode cX10_joins 91 = .ok (.iload 4, 2) := by decide +kernel
theorem dX10_joins_93 : decode cX10_joins 93 = .ok (.imul, 1) := by decide +kernel
theorem dX10_joins_94 : decode cX10_joins 94 = .ok (.iload_n 2, 1) := by decide +kernel
theorem dX10_joins_95 : decode cX10_joins 95 = .ok (.iadd, 1) := by decide +kernel
theorem dX10_joins_96 : decode cX10_joins 96 = .ok (.lload 5, 2) := by decide +kernel
theorem dX10_joins_98 : decode cX10_joins 98 = .ok (.aload_n 0, 1) := by decide +kernel
theorem dX10_joins_99 : decode cX10_joins 99 = .ok (.getfield 112, 3) := by decide +kernel
theorem dX10_joins_102 : decode cX10_joins 102 = .ok (.iconst 3, 1) := by decide +kernel
theorem dX10_joins_103 : decode cX10_joins 103 = .ok (.iload 4, 2) := by decide +kernel
theorem dX10_joins_105 : decode cX10_joins 105 = .ok (.imul, 1) := by decide +kernel
theorem dX10_joins_106 : decode cX10_joins 106 = .ok (.iload_n 2, 1) := by decide +kernel
theorem dX10_joins_107 : decode cX10_joins 107 = .ok (.iadd, 1) := by decide +kernel
theorem dX10_joins_108 : decode cX10_joins 108 = .ok (.laload, 1) := by decide +kernel
theorem dX10_joins_109 : decode cX10_joins 109 = .ok (.lcmp, 1) := by decide +kernel
theorem dX10_joins_110 : decode cX10_joins 110 = .ok (.ifCond .ge 8, 3) := by decide +kernel
theorem dX10_joins_113 : decode cX10_joins 113 = .ok (.lload 5, 2) := by decide +kernel
theorem dX10_joins_115 : decode cX10_joins 115 = .ok (.goto 14, 3) := by decide +kernel
theorem dX10_joins_118 : decode cX10_joins 118 = .ok (.aload_n 0, 1) := by decide +kernel
theorem dX10_joins_119 : decode cX10_joins 119 = .ok (.getfield 112, 3) := by decide +kernel
theorem dX10_joins_122 : decode cX10_joins 122 = .ok (.iconst 3, 1) := by decide +kernel
theorem dX10_joins_123 : decode cX10_joins 123 = .ok (.iload 4, 2) := by decide +kernel
theorem dX10_joins_125 : decode cX10_joins 125 = .ok (.imul, 1) := by decide +kernel
theorem dX10_joins_126 : decode cX10_joins 126 = .ok (.iload_n 2, 1) := by decide +kernel
theorem dX10_joins_127 : decode cX10_joins 127 = .ok (.iadd, 1) := by decide +kernel
theorem dX10_joins_128 : decode cX10_joins 128 = .ok (.laload, 1) := by decide +kernel
theorem dX10_joins_129 : decode cX10_joins 129 = .ok (.lastore, 1) := by decide +kernel
theorem dX10_joins_130 : decode cX10_joins 130 = .ok (.iinc 1 1, 3) := by decide +kernel
theorem dX10_joins_133 : decode cX10_joins 133 = .ok (.goto (-98), 3) := by decide +kernel
theorem dX10_joins_136 : decode cX10_joins 136 = .ok (.iconst 0, 1) := by decide +kernel
theorem dX10_joins_137 : decode cX10_joins 137 = .ok (.istore_n 1, 1) := by decide +kernel
theorem dX10_joins_138 : decode cX10_joins 138 = .ok (.iload_n 1, 1) := by decide +kernel
theorem dX10_joins_139 : decode cX10_joins 139 = .ok (.iconst 3, 1) := by decide +kernel
theorem dX10_joins_140 : decode cX10_joins 140 = .ok (.if_icmp .ge 139, 3) := by decide +kernel
theorem dX10_joins_143 : decode cX10_joins 143 = .ok (.iconst 0, 1) := by decide +kernel
theorem dX10_joins_144 : decode cX10_joins 144 = .ok (.istore_n 2, 1) := by decide +kernel
theorem dX10_joins_145 : decode cX10_joins 145 = .ok (.iload_n 2, 1) := by decide +kernel
theorem dX10_joins_146 : decode cX10_joins 146 = .ok (.iconst 3, 1) := by decide +kernel
theorem dX10_joins_147 : decode cX10_joins 147 = .ok (.if_icmp .ge 126, 3) := by decide +kernel
theorem dX10_joins_150 : decode cX10_joins 150 = .ok (.iconst 0, 1) := by decide +kernel
theorem dX10_joins_151 : decode cX10_joins 151 = .ok (.istore_n 3, 1) := by decide +kernel
theorem dX10_joins_152 : decode cX10_joins 152 = .ok (.iload_n 3, 1) := by decide +kernel
theorem dX10_joins_153 : decode cX10_joins 153 = .ok (.iconst 3, 1) := by decide +kernel
theorem dX10_joins_154 : decode cX10_joins 154 = .ok (.if_icmp .ge 113, 3) := by decide +kernel
theorem dX10_joins_157 : decode cX10_joins 157 = .ok (.aload_n 0, 1) := by decide +kernel
theorem dX10_joins_158 : decode cX10_joins 158 = .ok (.getfield 112, 3) := by decide +kernel
theorem dX10_joins_161 : decode cX10_joins 161 = .ok (.iconst 3, 1) := by decide +kernel
theorem dX10_joins_162 : decode cX10_joins 162 = .ok (.iload_n 2, 1) := by decide +kernel
theorem dX10_joins_163 : decode cX10_joins 163 = .ok (.imul, 1) := by decide +kernel
theorem dX10_joins_164 : decode cX10_joins 164 = .ok (.iload_n 1, 1) := by decide +kernel
theorem dX10_joins_165 : decode cX10_joins 165 = .ok (.iadd, 1) := by decide +kernel
theorem dX10_joins_166 : decode cX10_joins 166 = .ok (.laload, 1) := by decide +kernel
theorem dX10_joins_167 : decode cX10_joins 167 = .ok (.ldc2_w 294, 3) := by decide +kernel
theorem dX10_joins_170 : decode cX10_joins 170 = .ok (.lcmp, 1) := by decide +kernel
theorem dX10_joins_171 : decode cX10_joins 171 = .ok (.ifCond .ge 44, 3) := by decide +kernel
theorem dX10_joins_174 : decode cX10_joins 174 = .ok (.aload_n 0, 1) := by decide +kernel
theorem dX10_joins_175 : decode cX10_joins 175 = .ok (.getfield 112, 3) := by decide +kernel
theorem dX10_joins_178 : decode cX10_joins 178 = .ok (.iconst 3, 1) := by decide +kernel
theorem dX10_joins_179 : decode cX10_joins 179 = .ok (.iload_n 1, 1) := by decide +kernel
theorem dX10_joins_180 : decode cX10_joins 180 = .ok (.imul, 1) := by decide +kernel
theorem dX10_joins_181 : decode cX10_joins 181 = .ok (.iload_n 3, 1) := by decide +kernel
theorem dX10_joins_182 : decode cX10_joins 182 = .ok (.iadd, 1) := by decide +kernel
theorem dX10_joins_183 : decode cX10_joins 183 = .ok (.laload, 1) := by decide +kernel
theorem dX10_joins_184 : decode cX10_joins 184 = .ok (.ldc2_w 294, 3) := by decide +kernel
theorem dX10_joins_187 : decode cX10_joins 187 = .ok (.lcmp, 1) := by decide +kernel
theorem dX10_joins_188 : decode cX10_joins 188 = .ok (.ifCond .ge 27, 3) := by decide +kernel
theorem dX10_joins_191 : decode cX10_joins 191 = .ok (.aload_n 0, 1) := by decide +kernel
theorem dX10_joins_192 : decode cX10_joins 192 = .ok (.getfield 112, 3) := by decide +kernel
theorem dX10_joins_195 : decode cX10_joins 195 = .ok (.iconst 3, 1) := by decide +kernel
theorem dX10_joins_196 : decode cX10_joins 196 = .ok (.iload_n 2, 1) := by decide +kernel
theorem dX10_joins_197 : decode cX10_joins 197 = .ok (.imul, 1) := by decide +kernel
theorem dX10_joins_198 : decode cX10_joins 198 = .ok (.iload_n 1, 1) := by decide +kernel
theorem dX10_joins_199 : decode cX10_joins 199 = .ok (.iadd, 1) := by decide +kernel
theorem dX10_joins_200 : decode cX10_joins 200 = .ok (.laload, 1) := by decide +kernel
theorem dX10_joins_201 : decode cX10_joins 201 = .ok (.aload_n 0, 1) := by decide +kernel
theorem dX10_joins_202 : decode cX10_joins 202 = .ok (.getfield 112, 3) := by decide +kernel
theorem dX10_joins_205 : decode cX10_joins 205 = .ok (.iconst 3, 1) := by decide +kernel
theorem dX10_joins_206 : decode cX10_joins 206 = .ok (.iload_n 1, 1) := by decide +kernel
theorem dX10_joins_207 : decode cX10_joins 207 = .ok (.imul, 1) := by decide +kernel
theorem dX10_joins_208 : decode cX10_joins 208 = .ok (.iload_n 3, 1) := by decide +kernel
theorem dX10_joins_209 : decode cX10_joins 209 = .ok (.iadd, 1) := by decide +kernel
theorem dX10_joins_210 : decode cX10_joins 210 = .ok (.laload, 1) := by decide +kernel
theorem dX10_joins_211 : decode cX10_joins 211 = .ok (.ladd, 1) := by decide +kernel
theorem dX10_joins_212 : decode cX10_joins 212 = .ok (.goto 6, 3) := by decide +kernel
theorem dX10_joins_215 : decode cX10_joins 215 = .ok (.ldc2_w 294, 3) := by decide +kernel
theorem dX10_joins_218 : decode cX10_joins 218 = .ok (.lstore 4, 2) := by decide +kernel
theorem dX10_joins_220 : decode cX10_joins 220 = .ok (.aload_n 0, 1) := by decide +kernel
theorem dX10_joins_221 : decode cX10_joins 221 = .ok (.getfield 112, 3) := by decide +kernel
theorem dX10_joins_224 : decode cX10_joins 224 = .ok (.iconst 3, 1) := by decide +kernel
theorem dX10_joins_225 : decode cX10_joins 225 = .ok (.iload_n 2, 1) := by decide +kernel
theorem dX10_joins_226 : decode cX10_joins 226 = .ok (.imul, 1) := by decide +kernel
theorem dX10_joins_227 : decode cX10_joins 227 = .ok (.iload_n 3, 1) := by decide +kernel
theorem dX10_joins_228 : decode cX10_joins 228 = .ok (.iadd, 1) := by decide +kernel
theorem dX10_joins_229 : decode cX10_joins 229 = .ok (.lload 4, 2) := by decide +kernel
theorem dX10_joins_231 : decode cX10_joins 231 = .ok (.aload_n 0, 1) := by decide +kernel
theorem dX10_joins_232 : decode cX10_joins 232 = .ok (.getfield 112, 3) := by decide +kernel
theorem dX10_joins_235 : decode cX10_joins 235 = .ok (.iconst 3, 1) := by decide +kernel
theorem dX10_joins_236 : decode cX10_joins 236 = .ok (.iload_n 2, 1) := by decide +kernel
theorem dX10_joins_237 : decode cX10_joins 237 = .ok (.imul, 1) := by decide +kernel
theorem dX10_joins_238 : decode cX10_joins 238 = .ok (.iload_n 3, 1) := by decide +kernel
theorem dX10_joins_239 : decode cX10_joins 239 = .ok (.iadd, 1) := by decide +kernel
theorem dX10_joins_240 : decode cX10_joins 240 = .ok (.laload, 1) := by decide +kernel
theorem dX10_joins_241 : decode cX10_joins 241 = .ok (.lcmp, 1) := by decide +kernel
theorem dX10_joins_242 : decode cX10_joins 242 = .ok (.ifCond .ge 8, 3) := by decide +kernel
theorem dX10_joins_245 : decode cX10_joins 245 = .ok (.lload 4, 2) := by decide +kernel
theorem dX10_joins_247 : decode cX10_joins 247 = .ok (.goto 13, 3) := by decide +kernel
theorem dX10_joins_250 : decode cX10_joins 250 = .ok (.aload_n 0, 1) := by decide +kernel
theorem dX10_joins_251 : decode cX10_joins 251 = .ok (.getfield 112, 3) := by decide +kernel
theorem dX10_joins_254 : decode cX10_joins 254 = .ok (.iconst 3, 1) := by decide +kernel
theorem dX10_joins_255 : decode cX10_joins 255 = .ok (.iload_n 2, 1) := by decide +kernel
theorem dX10_joins_256 : decode cX10_joins 256 = .ok (.imul, 1) := by decide +kernel
theorem dX10_joins_257 : decode cX10_joins 257 = .ok (.iload_n 3, 1) := by decide +kernel
theorem dX10_joins_258 : decode cX10_joins 258 = .ok (.iadd, 1) := by decide +kernel
theorem dX10_joins_259 : decode cX10_joins 259 = .ok (.laload, 1) := by decide +kernel
theorem dX10_joins_260 : decode cX10_joins 260 = .ok (.lastore, 1) := by decide +kernel
theorem dX10_joins_261 : decode cX10_joins 261 = .ok (.iinc 3 1, 3) := by decide +kernel
theorem dX10_joins_264 : decode cX10_joins 264 = .ok (.goto (-112), 3) := by decide +kernel
theorem dX10_joins_267 : decode cX10_joins 267 = .ok (.iinc 2 1, 3) := by decide +kernel
theorem dX10_joins_270 : decode cX10_joins 270 = .ok (.goto (-125), 3) := by decide +kernel
theorem dX10_joins_273 : decode cX10_joins 273 = .ok (.iinc 1 1, 3) := by decide +kernel
theorem dX10_joins_276 : decode cX10_joins 276 = .ok (.goto (-138), 3) := by decide +kernel
theorem dX10_joins_279 : decode cX10_joins 279 = .ok (.aload_n 0, 1) := by decide +kernel
theorem dX10_joins_280 : decode cX10_joins 280 = .ok (.getfield 112, 3) := by decide +kernel
theorem dX10_joins_283 : decode cX10_joins 283 = .ok (.iconst 0, 1) := by decide +kernel
theorem dX10_joins_284 : decode cX10_joins 284 = .ok (.laload, 1) := by decide +kernel
theorem dX10_joins_285 : decode cX10_joins 285 = .ok (.lconst 0, 1) := by decide +kernel
theorem dX10_joins_286 : decode cX10_joins 286 = .ok (.lcmp, 1) := by decide +kernel
theorem dX10_joins_287 : decode cX10_joins 287 = .ok (.ifCond .lt 30, 3) := by decide +kernel
theorem dX10_joins_290 : decode cX10_joins 290 = .ok (.aload_n 0, 1) := by decide +kernel
theorem dX10_joins_291 : decode cX10_joins 291 = .ok (.getfield 112, 3) := by decide +kernel
theorem dX10_joins_294 : decode cX10_joins 294 = .ok (.iconst 4, 1) := by decide +kernel
theorem dX10_joins_295 : decode cX10_joins 295 = .ok (.laload, 1) := by decide +kernel
theorem dX10_joins_296 : decode cX10_joins 296 = .ok (.lconst 0, 1) := by decide +kernel
theorem dX10_joins_297 : decode cX10_joins 297 = .ok (.lcmp, 1) := by decide +kernel
theorem dX10_joins_298 : decode cX10_joins 298 = .ok (.ifCond .lt 19, 3) := by decide +kernel
theorem dX10_joins_301 : decode cX10_joins 301 = .ok (.aload_n 0, 1) := by decide +kernel
theorem dX10_joins_302 : decode cX10_joins 302 = .ok (.getfield 112, 3) := by decide +kernel
theorem dX10_joins_305 : decode cX10_joins 305 = .ok (.bipush 8, 2) := by decide +kernel
theorem dX10_joins_307 : decode cX10_joins 307 = .ok (.laload, 1) := by decide +kernel
theorem dX10_joins_308 : decode cX10_joins 308 = .ok (.lconst 0, 1) := by decide +kernel
theorem dX10_joins_309 : decode cX10_joins 309 = .ok (.lcmp, 1) := by decide +kernel
theorem dX10_joins_310 : decode cX10_joins 310 = .ok (.ifCond .lt 7, 3) := by decide +kernel
theorem dX10_joins_313 : decode cX10_joins 313 = .ok (.iconst 1, 1) := by decide +kernel
theorem dX10_joins_314 : decode cX10_joins 314 = .ok (.goto 4, 3) := by decide +kernel
theorem dX10_joins_317 : decode cX10_joins 317 = .ok (.iconst 0, 1) := by decide +kernel
theorem dX10_joins_318 : decode cX10_joins 318 = .ok (.ireturn, 1) := by decide +kernel
def f_X10_joins_b218 (F : Nat) (K138 : Mm → Int32 → Option (Int32 × Mm)) (K145 : Mm → Int32 → Int32 → Option (Int32 × Mm)) (K152 : Mm → Int32 → Int32 → Int32 → Option (Int32 × Mm)) (μ : Mm) (a1 : Int32) (a2 : Int32) (a3 : Int32) (s0 : Int64) : Option (Int32 × Mm) :=
 (rl μ 1046 0 9 (((3 : Int32) * a2) + a3)).bind fun v33 =>
 if 0 ≤ (lg_cmp s0 v33) then
 (rl μ 1046 0 9 (((3 : Int32) * a2) + a3)).bind fun v35 =>
 (wg μ 1046 0 9 (((3 : Int32) * a2) + a3) v35).bind fun m37 =>
 K152 m37 a1 a2 (a3 + (1 : Int32))
 else
 (wg μ 1046 0 9 (((3 : Int32) * a2) + a3) s0).bind fun m39 =>
 K152 m39 a1 a2 (a3 + (1 : Int32))
set_option maxHeartbeats 4000000 in
set_option maxRecDepth 100000 in
theorem cb_X10_joins_218 {l : Launch} {E : En} {p : Program} {e : Env} {s : State} {m : MethodId} {av : Array Value} {below : List Frame} {meth : Method} {c : Code} (C : Cx E p s m av c cX10_joins 7 yX10_joins.cls) (hr : meth.sig.returnType = (some .boolean)) (hlk : meth.locks = false) {F : Nat} {K138 : Mm → Int32 → Option (Int32 × Mm)} {K145 : Mm → Int32 → Int32 → Option (Int32 × Mm)} {K152 : Mm → Int32 → Int32 → Int32 → Option (Int32 × Mm)} {z : Int32 × Mm} (hK138 : ∀ (μ : Mm) (a1 : Int32) (h_a0 : l10 E 0), K138 μ a1 = some z → ∀ {H : Heap} {locs : List Loc} {ls : Array Slot}, Iv E s μ H locs → lv_has ls 7 [(0, .ref (ad E 1000 0)), (1, .int a1)] → W p l e { frames := 1, cells := 0, slots := 0, locals := 24 } s m av below meth c H locs 0 0 (MQ below (Qm E (some (.int z.1)) z.2) av s 0 0 (Ad E)) (F0 m 138 ls [])) (hK145 : ∀ (μ : Mm) (a1 : Int32) (a2 : Int32) (h_a0 : l10 E 0), K145 μ a1 a2 = some z → ∀ {H : Heap} {locs : List Loc} {ls : Array Slot}, Iv E s μ H locs → lv_has ls 7 [(0, .ref (ad E 1000 0)), (1, .int a1), (2, .int a2)] → W p l e { frames := 1, cells := 0, slots := 0, locals := 24 } s m av below meth c H locs 0 0 (MQ below (Qm E (some (.int z.1)) z.2) av s 0 0 (Ad E)) (F0 m 145 ls [])) (hK152 : ∀ (μ : Mm) (a1 : Int32) (a2 : Int32) (a3 : Int32) (h_a0 : l10 E 0), K152 μ a1 a2 a3 = some z → ∀ {H : Heap} {locs : List Loc} {ls : Array Slot}, Iv E s μ H locs → lv_has ls 7 [(0, .ref (ad E 1000 0)), (1, .int a1), (2, .int a2), (3, .int a3)] → W p l e { frames := 1, cells := 0, slots := 0, locals := 24 } s m av below meth c H locs 0 0 (MQ below (Qm E (some (.int z.1)) z.2) av s 0 0 (Ad E)) (F0 m 152 ls [])) : ∀ (μ : Mm) (a1 : Int32) (a2 : Int32) (a3 : Int32) (s0 : Int64) (h_a0 : l10 E 0), f_X10_joins_b218 F K138 K145 K152 μ a1 a2 a3 s0 = some z → ∀ {H : Heap} {locs : List Loc} {ls : Array Slot}, Iv E s μ H locs → lv_has ls 7 [(0, .ref (ad E 1000 0)), (1, .int a1), (2, .int a2), (3, .int a3)] → W p l e { frames := 1, cells := 0, slots := 0, locals := 24 } s m av below meth c H locs 0 0 (MQ below (Qm E (some (.int z.1)) z.2) av s 0 0 (Ad E)) (F0 m 218 ls [.long s0]) := by
  have hx := C.1.1
  have hb := C.1.2.1
  intro μ a1 a2 a3 s0 h_a0 hf H locs ls hI hl
  unfold f_X10_joins_b218 at hf
  refine lv_lstore hx hb dX10_joins_218 hl (by decide) rfl (fun ls hl => ?_)
  have hl : lv_has ls 7 [(4, .long s0), (0, .ref (ad E 1000 0)), (1, .int a1), (2, .int a2), (3, .int a3)] := hl
  refine lv_aload_n hx hb dX10_joins_220 rfl (lv_at hl 1 rfl) ?_
  refine gf_10_45 C hI h_a0.1 fl_X10_112 dX10_joins_221 ?_
  refine lv_iconst (v := (3 : Int32)) hx hb dX10_joins_224 kc_3 ?_
  refine lv_iload_n hx hb dX10_joins_225 rfl (lv_at hl 3 rfl) ?_
  refine lv_imul hx hb dX10_joins_226 ?_
  refine lv_iload_n hx hb dX10_joins_227 rfl (lv_at hl 4 rfl) ?_
  refine lv_iadd hx hb dX10_joins_228 ?_
  refine lv_lload hx hb dX10_joins_229 (lv_at hl 0 rfl) ?_
  refine lv_aload_n hx hb dX10_joins_231 rfl (lv_at hl 1 rfl) ?_
  refine gf_10_45 C hI h_a0.1 fl_X10_112 dX10_joins_232 ?_
  refine lv_iconst (v := (3 : Int32)) hx hb dX10_joins_235 kc_3 ?_
  refine lv_iload_n hx hb dX10_joins_236 rfl (lv_at hl 3 rfl) ?_
  refine lv_imul hx hb dX10_joins_237 ?_
  refine lv_iload_n hx hb dX10_joins_238 rfl (lv_at hl 4 rfl) ?_
  refine lv_iadd hx hb dX10_joins_239 ?_
  obtain ⟨v33, e34, hf⟩ := ob hf
  refine m_lald C hI h_a0.2.2.2.2.2.2.2.2.2.2.2.2.2.2.2.2.2.2.2.2.2.2.2.2.2.2.2.2.2.2.2.1 (ce_1046 E _ _ _) e34 dX10_joins_240 ?_
  refine W.lcmp hx hb dX10_joins_241 ?_
  refine lv_if_ge (tgt := 250) hx hb dX10_joins_242 rfl (fun hc => ?_) (fun hc => ?_)
  · replace hf := it hf hc
    refine lv_aload_n hx hb dX10_joins_250 rfl (lv_at hl 1 rfl) ?_
    refine gf_10_45 C hI h_a0.1 fl_X10_112 dX10_joins_251 ?_
    refine lv_iconst (v := (3 : Int32)) hx hb dX10_joins_254 kc_3 ?_
    refine lv_iload_n hx hb dX10_joins_255 rfl (lv_at hl 3 rfl) ?_
    refine lv_imul hx hb dX10_joins_256 ?_
    refine lv_iload_n hx hb dX10_joins_257 rfl (lv_at hl 4 rfl) ?_
    refine lv_iadd hx hb dX10_joins_258 ?_
    obtain ⟨v35, e36, hf⟩ := ob hf
    refine m_lald C hI h_a0.2.2.2.2.2.2.2.2.2.2.2.2.2.2.2.2.2.2.2.2.2.2.2.2.2.2.2.2.2.2.2.1 (ce_1046 E _ _ _) e36 dX10_joins_259 ?_
    obtain ⟨m37, e38, hf⟩ := ob hf
    refine m_last C hI h_a0.2.2.2.2.2.2.2.2.2.2.2.2.2.2.2.2.2.2.2.2.2.2.2.2.2.2.2.2.2.2.2.1 (ce_1046 E _) e38 dX10_joins_260 (fun H locs hI => ?_)
    refine lv_iinc (v := a3 + (1 : Int32)) hx hb dX10_joins_261 hl (k := 4) rfl (ki_1 _) (by decide) rfl (fun ls hl => ?_)
    have hl : lv_has ls 7 [(3, .int (a3 + (1 : Int32))), (4, .long s0), (0, .ref (ad E 1000 0)), (1, .int a1), (2, .int a2)] := hl
    refine lv_goto (tgt := 152) hx hb dX10_joins_264 rfl ?_
    exact hK152 _ _ _ _ h_a0 hf hI (lv_sub hl [2, 3, 4, 0] rfl)
  · replace hf := ie hf hc
    refine lv_lload hx hb dX10_joins_245 (lv_at hl 0 rfl) ?_
    refine lv_goto (tgt := 260) hx hb dX10_joins_247 rfl ?_
    obtain ⟨m39, e40, hf⟩ := ob hf
    refine m_last C hI h_a0.2.2.2.2.2.2.2.2.2.2.2.2.2.2.2.2.2.2.2.2.2.2.2.2.2.2.2.2.2.2.2.1 (ce_1046 E _) e40 dX10_joins_260 (fun H locs hI => ?_)
    refine lv_iinc (v := a3 + (1 : Int32)) hx hb dX10_joins_261 hl (k := 4) rfl (ki_1 _) (by decide) rfl (fun ls hl => ?_)
    have hl : lv_has ls 7 [(3, .int (a3 + (1 : Int32))), (4, .long s0), (0, .ref (ad E 1000 0)), (1, .int a1), (2, .int a2)] := hl
    refine lv_goto (tgt := 152) hx hb dX10_joins_264 rfl ?_
    exact hK152 _ _ _ _ h_a0 hf hI (lv_sub hl [2, 3, 4, 0] rfl)
def f_X10_joins_b152 (F : Nat) (K138 : Mm → Int32 → Option (Int32 × Mm)) (K145 : Mm → Int32 → Int32 → Option (Int32 × Mm)) : Nat → Mm → Int32 → Int32 → Int32 → Option (Int32 × Mm)
 | 0, _, _, _, _ => none
 | N + 1, μ, a1, a2, a3 =>
 if (3 : Int32) ≤ a3 then
 K145 μ a1 (a2 + (1 : Int32))
 else
 (rl μ 1046 0 9 (((3 : Int32) * a2) + a1)).bind fun v41 =>
 if 0 ≤ (lg_cmp v41 (1125899906842624 : Int64)) then
 f_X10_joins_b218 F K138 K145 (fun μ a1 a2 a3 => f_X10_joins_b152 F K138 K145 N μ a1 a2 a3) μ a1 a2 a3 (1125899906842624 : Int64)
 else
 (rl μ 1046 0 9 (((3 : Int32) * a1) + a3)).bind fun v43 =>
 if 0 ≤ (lg_cmp v43 (1125899906842624 : Int64)) then
 f_X10_joins_b218 F K138 K145 (fun μ a1 a2 a3 => f_X10_joins_b152 F K138 K145 N μ a1 a2 a3) μ a1 a2 a3 (1125899906842624 : Int64)
 else
 (rl μ 1046 0 9 (((3 : Int32) * a2) + a1)).bind fun v45 =>
 (rl μ 1046 0 9 (((3 : Int32) * a1) + a3)).bind fun v47 =>
 f_X10_joins_b218 F K138 K145 (fun μ a1 a2 a3 => f_X10_joins_b152 F K138 K145 N μ a1 a2 a3) μ a1 a2 a3 (v45 + v47)
set_option maxHeartbeats 4000000 in
set_option maxRecDepth 100000 in
theorem cb_X10_joins_152 {l : Launch} {E : En} {p : Program} {e : Env} {s : State} {m : MethodId} {av : Array Value} {below : List Frame} {meth : Method} {c : Code} (C : Cx E p s m av c cX10_joins 7 yX10_joins.cls) (hr : meth.sig.returnType = (some .boolean)) (hlk : meth.locks = false) {F : Nat} {K138 : Mm → Int32 → Option (Int32 × Mm)} {K145 : Mm → Int32 → Int32 → Option (Int32 × Mm)} {z : Int32 × Mm} (hK138 : ∀ (μ : Mm) (a1 : Int32) (h_a0 : l10 E 0), K138 μ a1 = some z → ∀ {H : Heap} {locs : List Loc} {ls : Array Slot}, Iv E s μ H locs → lv_has ls 7 [(0, .ref (ad E 1000 0)), (1, .int a1)] → W p l e { frames := 1, cells := 0, slots := 0, locals := 24 } s m av below meth c H locs 0 0 (MQ below (Qm E (some (.int z.1)) z.2) av s 0 0 (Ad E)) (F0 m 138 ls [])) (hK145 : ∀ (μ : Mm) (a1 : Int32) (a2 : Int32) (h_a0 : l10 E 0), K145 μ a1 a2 = some z → ∀ {H : Heap} {locs : List Loc} {ls : Array Slot}, Iv E s μ H locs → lv_has ls 7 [(0, .ref (ad E 1000 0)), (1, .int a1), (2, .int a2)] → W p l e { frames := 1, cells := 0, slots := 0, locals := 24 } s m av below meth c H locs 0 0 (MQ below (Qm E (some (.int z.1)) z.2) av s 0 0 (Ad E)) (F0 m 145 ls [])) : ∀ (N : Nat) (μ : Mm) (a1 : Int32) (a2 : Int32) (a3 : Int32) (h_a0 : l10 E 0), f_X10_joins_b152 F K138 K145 N μ a1 a2 a3 = some z → ∀ {H : Heap} {locs : List Loc} {ls : Array Slot}, Iv E s μ H locs → lv_has ls 7 [(0, .ref (ad E 1000 0)), (1, .int a1), (2, .int a2), (3, .int a3)] → W p l e { frames := 1, cells := 0, slots := 0, locals := 24 } s m av below meth c H locs 0 0 (MQ below (Qm E (some (.int z.1)) z.2) av s 0 0 (Ad E)) (F0 m 152 ls []) := by
  have hx := C.1.1
  have hb := C.1.2.1
  intro N
  induction N with
  | zero => intro μ a1 a2 a3 h_a0 hf; cases hf
  | succ N ih =>
    intro μ a1 a2 a3 h_a0 hf H locs ls hI hl
    rw [f_X10_joins_b152] at hf
    refine lv_iload_n hx hb dX10_joins_152 rfl (lv_at hl 3 rfl) ?_
    refine lv_iconst (v := (3 : Int32)) hx hb dX10_joins_153 kc_3 ?_
    refine lv_icmp_ge (tgt := 267) hx hb dX10_joins_154 rfl (fun hc => ?_) (fun hc => ?_)
    · replace hf := it hf hc
      refine lv_iinc (v := a2 + (1 : Int32)) hx hb dX10_joins_267 hl (k := 2) rfl (ki_1 _) (by decide) rfl (fun ls hl => ?_)
      have hl : lv_has ls 7 [(2, .int (a2 + (1 : Int32))), (0, .ref (ad E 1000 0)), (1, .int a1), (3, .int a3)] := hl
      refine lv_goto (tgt := 145) hx hb dX10_joins_270 rfl ?_
      exact hK145 _ _ _ h_a0 hf hI (lv_sub hl [1, 2, 0] rfl)
    · replace hf := ie hf hc
      refine lv_aload_n hx hb dX10_joins_157 rfl (lv_at hl 0 rfl) ?_
      refine gf_10_45 C hI h_a0.1 fl_X10_112 dX10_joins_158 ?_
      refine lv_iconst (v := (3 : Int32)) hx hb dX10_joins_161 kc_3 ?_
      refine lv_iload_n hx hb dX10_joins_162 rfl (lv_at hl 2 rfl) ?_
      refine lv_imul hx hb dX10_joins_163 ?_
      refine lv_iload_n hx hb dX10_joins_164 rfl (lv_at hl 1 rfl) ?_
      refine lv_iadd hx hb dX10_joins_165 ?_
      obtain ⟨v41, e42, hf⟩ := ob hf
      refine m_lald C hI h_a0.2.2.2.2.2.2.2.2.2.2.2.2.2.2.2.2.2.2.2.2.2.2.2.2.2.2.2.2.2.2.2.1 (ce_1046 E _ _ _) e42 dX10_joins_166 ?_
      refine lv_ldc2 (v := (1125899906842624 : Int64)) hx hb C.1.2.2.2.1 (m_in C kl_X10_294) dX10_joins_167 ?_
      refine W.lcmp hx hb dX10_joins_170 ?_
      refine lv_if_ge (tgt := 215) hx hb dX10_joins_171 rfl (fun hc => ?_) (fun hc => ?_)
      · replace hf := it hf hc
        refine lv_ldc2 (v := (1125899906842624 : Int64)) hx hb C.1.2.2.2.1 (m_in C kl_X10_294) dX10_joins_215 ?_
        exact cb_X10_joins_218 C hr hlk hK138 hK145 ih _ _ _ _ _ h_a0 hf hI (lv_sub hl [0, 1, 2, 3] rfl)
      · replace hf := ie hf hc
        refine lv_aload_n hx hb dX10_joins_174 rfl (lv_at hl 0 rfl) ?_
        refine gf_10_45 C hI h_a0.1 fl_X10_112 dX10_joins_175 ?_
        refine lv_iconst (v := (3 : Int32)) hx hb dX10_joins_178 kc_3 ?_
        refine lv_iload_n hx hb dX10_joins_179 rfl (lv_at hl 1 rfl) ?_
        refine lv_imul hx hb dX10_joins_180 ?_
        refine lv_iload_n hx hb dX10_joins_181 rfl (lv_at hl 3 rfl) ?_
        refine lv_iadd hx hb dX10_joins_182 ?_
        obtain ⟨v43, e44, hf⟩ := ob hf
        refine m_lald C hI h_a0.2.2.2.2.2.2.2.2.2.2.2.2.2.2.2.2.2.2.2.2.2.2.2.2.2.2.2.2.2.2.2.1 (ce_1046 E _ _ _) e44 dX10_joins_183 ?_
        refine lv_ldc2 (v := (1125899906842624 : Int64)) hx hb C.1.2.2.2.1 (m_in C kl_X10_294) dX10_joins_184 ?_
        refine W.lcmp hx hb dX10_joins_187 ?_
        refine lv_if_ge (tgt := 215) hx hb dX10_joins_188 rfl (fun hc => ?_) (fun hc => ?_)
        · replace hf := it hf hc
          refine lv_ldc2 (v := (1125899906842624 : Int64)) hx hb C.1.2.2.2.1 (m_in C kl_X10_294) dX10_joins_215 ?_
          exact cb_X10_joins_218 C hr hlk hK138 hK145 ih _ _ _ _ _ h_a0 hf hI (lv_sub hl [0, 1, 2, 3] rfl)
        · replace hf := ie hf hc
          refine lv_aload_n hx hb dX10_joins_191 rfl (lv_at hl 0 rfl) ?_
          refine gf_10_45 C hI h_a0.1 fl_X10_112 dX10_joins_192 ?_
          refine lv_iconst (v := (3 : Int32)) hx hb dX10_joins_195 kc_3 ?_
          refine lv_iload_n hx hb dX10_joins_196 rfl (lv_at hl 2 rfl) ?_
          refine lv_imul hx hb dX10_joins_197 ?_
          refine lv_iload_n hx hb dX10_joins_198 rfl (lv_at hl 1 rfl) ?_
          refine lv_iadd hx hb dX10_joins_199 ?_
          obtain ⟨v45, e46, hf⟩ := ob hf
          refine m_lald C hI h_a0.2.2.2.2.2.2.2.2.2.2.2.2.2.2.2.2.2.2.2.2.2.2.2.2.2.2.2.2.2.2.2.1 (ce_1046 E _ _ _) e46 dX10_joins_200 ?_
          refine lv_aload_n hx hb dX10_joins_201 rfl (lv_at hl 0 rfl) ?_
          refine gf_10_45 C hI h_a0.1 fl_X10_112 dX10_joins_202 ?_
          refine lv_iconst (v := (3 : Int32)) hx hb dX10_joins_205 kc_3 ?_
          refine lv_iload_n hx hb dX10_joins_206 rfl (lv_at hl 1 rfl) ?_
          refine lv_imul hx hb dX10_joins_207 ?_
          refine lv_iload_n hx hb dX10_joins_208 rfl (lv_at hl 3 rfl) ?_
          refine lv_iadd hx hb dX10_joins_209 ?_
          obtain ⟨v47, e48, hf⟩ := ob hf
          refine m_lald C hI h_a0.2.2.2.2.2.2.2.2.2.2.2.2.2.2.2.2.2.2.2.2.2.2.2.2.2.2.2.2.2.2.2.1 (ce_1046 E _ _ _) e48 dX10_joins_210 ?_
          refine lv_ladd hx hb dX10_joins_211 ?_
          refine lv_goto (tgt := 218) hx hb dX10_joins_212 rfl ?_
          exact cb_X10_joins_218 C hr hlk hK138 hK145 ih _ _ _ _ _ h_a0 hf hI (lv_sub hl [0, 1, 2, 3] rfl)
def f_X10_joins_b145 (F : Nat) (K138 : Mm → Int32 → Option (Int32 × Mm)) : Nat → Mm → Int32 → Int32 → Option (Int32 × Mm)
 | 0, _, _, _ => none
 | N + 1, μ, a1, a2 =>
 if (3 : Int32) ≤ a2 then
 K138 μ (a1 + (1 : Int32))
 else
 f_X10_joins_b152 F K138 (fun μ a1 a2 => f_X10_joins_b145 F K138 N μ a1 a2) F μ a1 a2 (0 : Int32)
set_option maxHeartbeats 4000000 in
set_option maxRecDepth 100000 in
theorem cb_X10_joins_145 {l : Launch} {E : En} {p : Program} {e : Env} {s : State} {m : MethodId} {av : Array Value} {below : List Frame} {meth : Method} {c : Code} (C : Cx E p s m av c cX10_joins 7 yX10_joins.cls) (hr : meth.sig.returnType = (some .boolean)) (hlk : meth.locks = false) {F : Nat} {K138 : Mm → Int32 → Option (Int32 × Mm)} {z : Int32 × Mm} (hK138 : ∀ (μ : Mm) (a1 : Int32) (h_a0 : l10 E 0), K138 μ a1 = some z → ∀ {H : Heap} {locs : List Loc} {ls : Array Slot}, Iv E s μ H locs → lv_has ls 7 [(0, .ref (ad E 1000 0)), (1, .int a1)] → W p l e { frames := 1, cells := 0, slots := 0, locals := 24 } s m av below meth c H locs 0 0 (MQ below (Qm E (some (.int z.1)) z.2) av s 0 0 (Ad E)) (F0 m 138 ls [])) : ∀ (N : Nat) (μ : Mm) (a1 : Int32) (a2 : Int32) (h_a0 : l10 E 0), f_X10_joins_b145 F K138 N μ a1 a2 = some z → ∀ {H : Heap} {locs : List Loc} {ls : Array Slot}, Iv E s μ H locs → lv_has ls 7 [(0, .ref (ad E 1000 0)), (1, .int a1), (2, .int a2)] → W p l e { frames := 1, cells := 0, slots := 0, locals := 24 } s m av below meth c H locs 0 0 (MQ below (Qm E (some (.int z.1)) z.2) av s 0 0 (Ad E)) (F0 m 145 ls []) := by
  have hx := C.1.1
  have hb := C.1.2.1
  intro N
  induction N with
  | zero => intro μ a1 a2 h_a0 hf; cases hf
  | succ N ih =>
    intro μ a1 a2 h_a0 hf H locs ls hI hl
    rw [f_X10_joins_b145] at hf
    refine lv_iload_n hx hb dX10_joins_145 rfl (lv_at hl 2 rfl) ?_
    refine lv_iconst (v := (3 : Int32)) hx hb dX10_joins_146 kc_3 ?_
    refine lv_icmp_ge (tgt := 273) hx hb dX10_joins_147 rfl (fun hc => ?_) (fun hc => ?_)
    · replace hf := it hf hc
      refine lv_iinc (v := a1 + (1 : Int32)) hx hb dX10_joins_273 hl (k := 1) rfl (ki_1 _) (by decide) rfl (fun ls hl => ?_)
      have hl : lv_has ls 7 [(1, .int (a1 + (1 : Int32))), (0, .ref (ad E 1000 0)), (2, .int a2)] := hl
      refine lv_goto (tgt := 138) hx hb dX10_joins_276 rfl ?_
      exact hK138 _ _ h_a0 hf hI (lv_sub hl [1, 0] rfl)
    · replace hf := ie hf hc
      refine lv_iconst (v := (0 : Int32)) hx hb dX10_joins_150 kc_0 ?_
      refine lv_istore_n hx hb dX10_joins_151 rfl hl (by decide) rfl (fun ls hl => ?_)
      have hl : lv_has ls 7 [(3, .int (0 : Int32)), (0, .ref (ad E 1000 0)), (1, .int a1), (2, .int a2)] := hl
      exact cb_X10_joins_152 C hr hlk hK138 ih _ _ _ _ _ h_a0 hf hI (lv_sub hl [1, 2, 3, 0] rfl)
def f_X10_joins_b138 (F : Nat) : Nat → Mm → Int32 → Option (Int32 × Mm)
 | 0, _, _ => none
 | N + 1, μ, a1 =>
 if (3 : Int32) ≤ a1 then
 (rl μ 1046 0 9 (0 : Int32)).bind fun v49 =>
 if (lg_cmp v49 (0 : Int64)) < 0 then
 some ((0 : Int32), μ)
 else
 (rl μ 1046 0 9 (4 : Int32)).bind fun v51 =>
 if (lg_cmp v51 (0 : Int64)) < 0 then
 some ((0 : Int32), μ)
 else
 (rl μ 1046 0 9 (8 : Int32)).bind fun v53 =>
 if (lg_cmp v53 (0 : Int64)) < 0 then
 some ((0 : Int32), μ)
 else
 some ((1 : Int32), μ)
 else
 f_X10_joins_b145 F (fun μ a1 => f_X10_joins_b138 F N μ a1) F μ a1 (0 : Int32)
set_option maxHeartbeats 4000000 in
set_option maxRecDepth 100000 in
theorem cb_X10_joins_138 {l : Launch} {E : En} {p : Program} {e : Env} {s : State} {m : MethodId} {av : Array Value} {below : List Frame} {meth : Method} {c : Code} (C : Cx E p s m av c cX10_joins 7 yX10_joins.cls) (hr : meth.sig.returnType = (some .boolean)) (hlk : meth.locks = false) {F : Nat} {z : Int32 × Mm} : ∀ (N : Nat) (μ : Mm) (a1 : Int32) (h_a0 : l10 E 0), f_X10_joins_b138 F N μ a1 = some z → ∀ {H : Heap} {locs : List Loc} {ls : Array Slot}, Iv E s μ H locs → lv_has ls 7 [(0, .ref (ad E 1000 0)), (1, .int a1)] → W p l e { frames := 1, cells := 0, slots := 0, locals := 24 } s m av below meth c H locs 0 0 (MQ below (Qm E (some (.int z.1)) z.2) av s 0 0 (Ad E)) (F0 m 138 ls []) := by
  have hx := C.1.1
  have hb := C.1.2.1
  intro N
  induction N with
  | zero => intro μ a1 h_a0 hf; cases hf
  | succ N ih =>
    intro μ a1 h_a0 hf H locs ls hI hl
    rw [f_X10_joins_b138] at hf
    refine lv_iload_n hx hb dX10_joins_138 rfl (lv_at hl 1 rfl) ?_
    refine lv_iconst (v := (3 : Int32)) hx hb dX10_joins_139 kc_3 ?_
    refine lv_icmp_ge (tgt := 279) hx hb dX10_joins_140 rfl (fun hc => ?_) (fun hc => ?_)
    · replace hf := it hf hc
      refine lv_aload_n hx hb dX10_joins_279 rfl (lv_at hl 0 rfl) ?_
      refine gf_10_45 C hI h_a0.1 fl_X10_112 dX10_joins_280 ?_
      refine lv_iconst (v := (0 : Int32)) hx hb dX10_joins_283 kc_0 ?_
      obtain ⟨v49, e50, hf⟩ := ob hf
      refine m_lald C hI h_a0.2.2.2.2.2.2.2.2.2.2.2.2.2.2.2.2.2.2.2.2.2.2.2.2.2.2.2.2.2.2.2.1 (ce_1046 E _ _ _) e50 dX10_joins_284 ?_
      refine lv_lconst (v := (0 : Int64)) hx hb dX10_joins_285 kl_0 ?_
      refine W.lcmp hx hb dX10_joins_286 ?_
      refine lv_if_lt (tgt := 317) hx hb dX10_joins_287 rfl (fun hc => ?_) (fun hc => ?_)
      · replace hf := it hf hc
        refine lv_iconst (v := (0 : Int32)) hx hb dX10_joins_317 kc_0 ?_
        obtain rfl := Option.some.inj hf
        exact m_zret C hr hlk hI (show narrow .boolean (.int (0 : Int32)) = .int (0 : Int32) from by decide) dX10_joins_318
      · replace hf := ie hf hc
        refine lv_aload_n hx hb dX10_joins_290 rfl (lv_at hl 0 rfl) ?_
        refine gf_10_45 C hI h_a0.1 fl_X10_112 dX10_joins_291 ?_
        refine lv_iconst (v := (4 : Int32)) hx hb dX10_joins_294 kc_4 ?_
        obtain ⟨v51, e52, hf⟩ := ob hf
        refine m_lald C hI h_a0.2.2.2.2.2.2.2.2.2.2.2.2.2.2.2.2.2.2.2.2.2.2.2.2.2.2.2.2.2.2.2.1 (ce_1046 E _ _ _) e52 dX10_joins_295 ?_
        refine lv_lconst (v := (0 : Int64)) hx hb dX10_joins_296 kl_0 ?_
        refine W.lcmp hx hb dX10_joins_297 ?_
        refine lv_if_lt (tgt := 317) hx hb dX10_joins_298 rfl (fun hc => ?_) (fun hc => ?_)
        · replace hf := it hf hc
          refine lv_iconst (v := (0 : Int32)) hx hb dX10_joins_317 kc_0 ?_
          obtain rfl := Option.some.inj hf
          exact m_zret C hr hlk hI (show narrow .boolean (.int (0 : Int32)) = .int (0 : Int32) from by decide) dX10_joins_318
        · replace hf := ie hf hc
          refine lv_aload_n hx hb dX10_joins_301 rfl (lv_at hl 0 rfl) ?_
          refine gf_10_45 C hI h_a0.1 fl_X10_112 dX10_joins_302 ?_
          refine lv_bipush (v := (8 : Int32)) hx hb dX10_joins_305 kb_8 ?_
          obtain ⟨v53, e54, hf⟩ := ob hf
          refine m_lald C hI h_a0.2.2.2.2.2.2.2.2.2.2.2.2.2.2.2.2.2.2.2.2.2.2.2.2.2.2.2.2.2.2.2.1 (ce_1046 E _ _ _) e54 dX10_joins_307 ?_
          refine lv_lconst (v := (0 : Int64)) hx hb dX10_joins_308 kl_0 ?_
          refine W.lcmp hx hb dX10_joins_309 ?_
          refine lv_if_lt (tgt := 317) hx hb dX10_joins_310 rfl (fun hc => ?_) (fun hc => ?_)
          · replace hf := it hf hc
            refine lv_iconst (v := (0 : Int32)) hx hb dX10_joins_317 kc_0 ?_
            obtain rfl := Option.some.inj hf
            exact m_zret C hr hlk hI (show narrow .boolean (.int (0 : Int32)) = .int (0 : Int32) from by decide) dX10_joins_318
          · replace hf := ie hf hc
            refine lv_iconst (v := (1 : Int32)) hx hb dX10_joins_313 kc_1 ?_
            refine lv_goto (tgt := 318) hx hb dX10_joins_314 rfl ?_
            obtain rfl := Option.some.inj hf
            exact m_zret C hr hlk hI (show narrow .boolean (.int (1 : Int32)) = .int (1 : Int32) from by decide) dX10_joins_318
    · replace hf := ie hf hc
      refine lv_iconst (v := (0 : Int32)) hx hb dX10_joins_143 kc_0 ?_
      refine lv_istore_n hx hb dX10_joins_144 rfl hl (by decide) rfl (fun ls hl => ?_)
      have hl : lv_has ls 7 [(2, .int (0 : Int32)), (0, .ref (ad E 1000 0)), (1, .int a1)] := hl
      exact cb_X10_joins_145 C hr hlk ih _ _ _ _ h_a0 hf hI (lv_sub hl [1, 2, 0] rfl)
def f_X10_joins_b35 (F : Nat) : Nat → Mm → Int32 → Option (Int32 × Mm)
 | 0, _, _ => none
 | N + 1, μ, a1 =>
 if (64 : Int32) ≤ a1 then
 f_X10_joins_b138 F F μ (0 : Int32)
 else
 (f_X10_seeksMark F μ (9 : Int32) a1).bind fun q55 =>
 if q55.1 = 0 then
 f_X10_joins_b35 F N q55.2 (a1 + (1 : Int32))
 else
 (f_X10_seeksMark F q55.2 (10 : Int32) a1).bind fun q57 =>
 if q57.1 = 0 then
 f_X10_joins_b35 F N q57.2 (a1 + (1 : Int32))
 else
 (rl q57.2 1046 0 9 (((3 : Int32) * (q57.2.1 1000 0 46)) + (q55.2.1 1000 0 46))).bind fun v59 =>
 if 0 ≤ (lg_cmp (((q57.2.1 1000 0 47) - (q55.2.1 1000 0 47)).toInt64) v59) then
 (rl q57.2 1046 0 9 (((3 : Int32) * (q57.2.1 1000 0 46)) + (q55.2.1 1000 0 46))).bind fun v61 =>
 (wg q57.2 1046 0 9 (((3 : Int32) * (q57.2.1 1000 0 46)) + (q55.2.1 1000 0 46)) v61).bind fun m63 =>
 f_X10_joins_b35 F N m63 (a1 + (1 : Int32))
 else
 (wg q57.2 1046 0 9 (((3 : Int32) * (q57.2.1 1000 0 46)) + (q55.2.1 1000 0 46)) (((q57.2.1 1000 0 47) - (q55.2.1 1000 0 47)).toInt64)).bind fun m65 =>
 f_X10_joins_b35 F N m65 (a1 + (1 : Int32))
set_option maxHeartbeats 4000000 in
set_option maxRecDepth 100000 in
theorem cb_X10_joins_35 {l : Launch} {E : En} {p : Program} {e : Env} {s : State} {m : MethodId} {av : Array Value} {below : List Frame} {meth : Method} {c : Code} (C : Cx E p s m av c cX10_joins 7 yX10_joins.cls) (hr : meth.sig.returnType = (some .boolean)) (hlk : meth.locks = false) {F : Nat} {z : Int32 × Mm} : ∀ (N : Nat) (μ : Mm) (a1 : Int32) (h_a0 : l10 E 0), f_X10_joins_b35 F N μ a1 = some z → ∀ {H : Heap} {locs : List Loc} {ls : Array Slot}, Iv E s μ H locs → lv_has ls 7 [(0, .ref (ad E 1000 0)), (1, .int a1)] → W p l e { frames := 1, cells := 0, slots := 0, locals := 24 } s m av below meth c H locs 0 0 (MQ below (Qm E (some (.int z.1)) z.2) av s 0 0 (Ad E)) (F0 m 35 ls []) := by
  have hx := C.1.1
  have hb := C.1.2.1
  intro N
  induction N with
  | zero => intro μ a1 h_a0 hf; cases hf
  | succ N ih =>
    intro μ a1 h_a0 hf H locs ls hI hl
    rw [f_X10_joins_b35] at hf
    refine lv_iload_n hx hb dX10_joins_35 rfl (lv_at hl 1 rfl) ?_
    refine lv_bipush (v := (64 : Int32)) hx hb dX10_joins_36 kb_64 ?_
    refine lv_icmp_ge (tgt := 136) hx hb dX10_joins_38 rfl (fun hc => ?_) (fun hc => ?_)
    · replace hf := it hf hc
      refine lv_iconst (v := (0 : Int32)) hx hb dX10_joins_136 kc_0 ?_
      refine lv_istore_n hx hb dX10_joins_137 rfl hl (by decide) rfl (fun ls hl => ?_)
      have hl : lv_has ls 7 [(1, .int (0 : Int32)), (0, .ref (ad E 1000 0))] := hl
      exact cb_X10_joins_138 C hr hlk  _ _ _ h_a0 hf hI (lv_sub hl [1, 0] rfl)
    · replace hf := ie hf hc
      refine lv_aload_n hx hb dX10_joins_41 rfl (lv_at hl 0 rfl) ?_
      refine lv_bipush (v := (9 : Int32)) hx hb dX10_joins_42 kb_9 ?_
      refine lv_iload_n hx hb dX10_joins_44 rfl (lv_at hl 1 rfl) ?_
      obtain ⟨q55, e56, hf⟩ := ob hf
      refine mcV (As := [.int (9 : Int32), .int a1]) (rest := []) C hI (c_X10_seeksMark l E h_a0 e56) ml_X10_296 kv_X10_seeksMark (m_recv C hI h_a0.1 (ce_1000 E _ _ _) rfl) rfl rfl ⟨Nat.le_of_ble_eq_true rfl, Nat.le_of_ble_eq_true rfl⟩ ⟨Nat.zero_le _, Nat.zero_le _⟩ rfl rfl hl.1 (Nat.le_of_ble_eq_true rfl) dX10_joins_45 (st1 := [.int q55.1]) rfl (fun H locs hI => ?_)
      refine lv_if_eq (tgt := 130) hx hb dX10_joins_48 rfl (fun hc => ?_) (fun hc => ?_)
      · replace hf := it hf hc
        refine lv_iinc (v := a1 + (1 : Int32)) hx hb dX10_joins_130 hl (k := 1) rfl (ki_1 _) (by decide) rfl (fun ls hl => ?_)
        have hl : lv_has ls 7 [(1, .int (a1 + (1 : Int32))), (0, .ref (ad E 1000 0))] := hl
        refine lv_goto (tgt := 35) hx hb dX10_joins_133 rfl ?_
        exact ih _ _ h_a0 hf hI (lv_sub hl [1, 0] rfl)
      · replace hf := ie hf hc
        refine lv_aload_n hx hb dX10_joins_51 rfl (lv_at hl 0 rfl) ?_
        refine gf_10_46 C hI h_a0.1 fl_X10_288 dX10_joins_52 ?_
        refine lv_istore_n hx hb dX10_joins_55 rfl hl (by decide) rfl (fun ls hl => ?_)
        have hl : lv_has ls 7 [(2, .int (q55.2.1 1000 0 46)), (0, .ref (ad E 1000 0)), (1, .int a1)] := hl
        refine lv_aload_n hx hb dX10_joins_56 rfl (lv_at hl 1 rfl) ?_
        refine gf_10_47 C hI h_a0.1 fl_X10_291 dX10_joins_57 ?_
        refine lv_istore_n hx hb dX10_joins_60 rfl hl (by decide) rfl (fun ls hl => ?_)
        have hl : lv_has ls 7 [(3, .int (q55.2.1 1000 0 47)), (2, .int (q55.2.1 1000 0 46)), (0, .ref (ad E 1000 0)), (1, .int a1)] := hl
        refine lv_aload_n hx hb dX10_joins_61 rfl (lv_at hl 2 rfl) ?_
        refine lv_bipush (v := (10 : Int32)) hx hb dX10_joins_62 kb_10 ?_
        refine lv_iload_n hx hb dX10_joins_64 rfl (lv_at hl 3 rfl) ?_
        obtain ⟨q57, e58, hf⟩ := ob hf
        refine mcV (As := [.int (10 : Int32), .int a1]) (rest := []) C hI (c_X10_seeksMark l E h_a0 e58) ml_X10_296 kv_X10_seeksMark (m_recv C hI h_a0.1 (ce_1000 E _ _ _) rfl) rfl rfl ⟨Nat.le_of_ble_eq_true rfl, Nat.le_of_ble_eq_true rfl⟩ ⟨Nat.zero_le _, Nat.zero_le _⟩ rfl rfl hl.1 (Nat.le_of_ble_eq_true rfl) dX10_joins_65 (st1 := [.int q57.1]) rfl (fun H locs hI => ?_)
        refine lv_if_eq (tgt := 130) hx hb dX10_joins_68 rfl (fun hc => ?_) (fun hc => ?_)
        · replace hf := it hf hc
          refine lv_iinc (v := a1 + (1 : Int32)) hx hb dX10_joins_130 hl (k := 3) rfl (ki_1 _) (by decide) rfl (fun ls hl => ?_)
          have hl : lv_has ls 7 [(1, .int (a1 + (1 : Int32))), (3, .int (q55.2.1 1000 0 47)), (2, .int (q55.2.1 1000 0 46)), (0, .ref (ad E 1000 0))] := hl
          refine lv_goto (tgt := 35) hx hb dX10_joins_133 rfl ?_
          exact ih _ _ h_a0 hf hI (lv_sub hl [3, 0] rfl)
        · replace hf := ie hf hc
          refine lv_aload_n hx hb dX10_joins_71 rfl (lv_at hl 2 rfl) ?_
          refine gf_10_46 C hI h_a0.1 fl_X10_288 dX10_joins_72 ?_
          refine lv_istore hx hb dX10_joins_75 hl (by decide) rfl (fun ls hl => ?_)
          have hl : lv_has ls 7 [(4, .int (q57.2.1 1000 0 46)), (3, .int (q55.2.1 1000 0 47)), (2, .int (q55.2.1 1000 0 46)), (0, .ref (ad E 1000 0)), (1, .int a1)] := hl
          refine lv_aload_n hx hb dX10_joins_77 rfl (lv_at hl 3 rfl) ?_
          refine gf_10_47 C hI h_a0.1 fl_X10_291 dX10_joins_78 ?_
          refine lv_iload_n hx hb dX10_joins_81 rfl (lv_at hl 1 rfl) ?_
          refine lv_isub hx hb dX10_joins_82 ?_
          refine lv_i2l (v := ((q57.2.1 1000 0 47) - (q55.2.1 1000 0 47)).toInt64) hx hb dX10_joins_83 rfl ?_
          refine lv_lstore hx hb dX10_joins_84 hl (by decide) rfl (fun ls hl => ?_)
          have hl : lv_has ls 7 [(5, .long (((q57.2.1 1000 0 47) - (q55.2.1 1000 0 47)).toInt64)), (4, .int (q57.2.1 1000 0 46)), (3, .int (q55.2.1 1000 0 47)), (2, .int (q55.2.1 1000 0 46)), (0, .ref (ad E 1000 0)), (1, .int a1)] := hl
          refine lv_aload_n hx hb dX10_joins_86 rfl (lv_at hl 4 rfl) ?_
          refine gf_10_45 C hI h_a0.1 fl_X10_112 dX10_joins_87 ?_
          refine lv_iconst (v := (3 : Int32)) hx hb dX10_joins_90 kc_3 ?_
          refine lv_iload hx hb dX10_joins_91 (lv_at hl 1 rfl) ?_
          refine lv_imul hx hb dX10_joins_93 ?_
          refine lv_iload_n hx hb dX10_joins_94 rfl (lv_at hl 3 rfl) ?_
          refine lv_iadd hx hb dX10_joins_95 ?_
          refine lv_lload hx hb dX10_joins_96 (lv_at hl 0 rfl) ?_
          refine lv_aload_n hx hb dX10_joins_98 rfl (lv_at hl 4 rfl) ?_
          refine gf_10_45 C hI h_a0.1 fl_X10_112 dX10_joins_99 ?_
          refine lv_iconst (v := (3 : Int32)) hx hb dX10_joins_102 kc_3 ?_
          refine lv_iload hx hb dX10_joins_103 (lv_at hl 1 rfl) ?_
          refine lv_imul hx hb dX10_joins_105 ?_
          refine lv_iload_n hx hb dX10_joins_106 rfl (lv_at hl 3 rfl) ?_
          refine lv_iadd hx hb dX10_joins_107 ?_
          obtain ⟨v59, e60, hf⟩ := ob hf
          refine m_lald C hI h_a0.2.2.2.2.2.2.2.2.2.2.2.2.2.2.2.2.2.2.2.2.2.2.2.2.2.2.2.2.2.2.2.1 (ce_1046 E _ _ _) e60 dX10_joins_108 ?_
          refine W.lcmp hx hb dX10_joins_109 ?_
          refine lv_if_ge (tgt := 118) hx hb dX10_joins_110 rfl (fun hc => ?_) (fun hc => ?_)
          · replace hf := it hf hc
            refine lv_aload_n hx hb dX10_joins_118 rfl (lv_at hl 4 rfl) ?_
            refine gf_10_45 C hI h_a0.1 fl_X10_112 dX10_joins_119 ?_
            refine lv_iconst (v := (3 : Int32)) hx hb dX10_joins_122 kc_3 ?_
            refine lv_iload hx hb dX10_joins_123 (lv_at hl 1 rfl) ?_
            refine lv_imul hx hb dX10_joins_125 ?_
            refine lv_iload_n hx hb dX10_joins_126 rfl (lv_at hl 3 rfl) ?_
            refine lv_iadd hx hb dX10_joins_127 ?_
            obtain ⟨v61, e62, hf⟩ := ob hf
            refine m_lald C hI h_a0.2.2.2.2.2.2.2.2.2.2.2.2.2.2.2.2.2.2.2.2.2.2.2.2.2.2.2.2.2.2.2.1 (ce_1046 E _ _ _) e62 dX10_joins_128 ?_
            obtain ⟨m63, e64, hf⟩ := ob hf
            refine m_last C hI h_a0.2.2.2.2.2.2.2.2.2.2.2.2.2.2.2.2.2.2.2.2.2.2.2.2.2.2.2.2.2.2.2.1 (ce_1046 E _) e64 dX10_joins_129 (fun H locs hI => ?_)
            refine lv_iinc (v := a1 + (1 : Int32)) hx hb dX10_joins_130 hl (k := 5) rfl (ki_1 _) (by decide) rfl (fun ls hl => ?_)
            have hl : lv_has ls 7 [(1, .int (a1 + (1 : Int32))), (5, .long (((q57.2.1 1000 0 47) - (q55.2.1 1000 0 47)).toInt64)), (4, .int (q57.2.1 1000 0 46)), (3, .int (q55.2.1 1000 0 47)), (2, .int (q55.2.1 1000 0 46)), (0, .ref (ad E 1000 0))] := hl
            refine lv_goto (tgt := 35) hx hb dX10_joins_133 rfl ?_
            exact ih _ _ h_a0 hf hI (lv_sub hl [5, 0] rfl)
          · replace hf := ie hf hc
            refine lv_lload hx hb dX10_joins_113 (lv_at hl 0 rfl) ?_
            refine lv_goto (tgt := 129) hx hb dX10_joins_115 rfl ?_
            obtain ⟨m65, e66, hf⟩ := ob hf
            refine m_last C hI h_a0.2.2.2.2.2.2.2.2.2.2.2.2.2.2.2.2.2.2.2.2.2.2.2.2.2.2.2.2.2.2.2.1 (ce_1046 E _) e66 dX10_joins_129 (fun H locs hI => ?_)
            refine lv_iinc (v := a1 + (1 : Int32)) hx hb dX10_joins_130 hl (k := 5) rfl (ki_1 _) (by decide) rfl (fun ls hl => ?_)
            have hl : lv_has ls 7 [(1, .int (a1 + (1 : Int32))), (5, .long (((q57.2.1 1000 0 47) - (q55.2.1 1000 0 47)).toInt64)), (4, .int (q57.2.1 1000 0 46)), (3, .int (q55.2.1 1000 0 47)), (2, .int (q55.2.1 1000 0 46)), (0, .ref (ad E 1000 0))] := hl
            refine lv_goto (tgt := 35) hx hb dX10_joins_133 rfl ?_
            exact ih _ _ h_a0 hf hI (lv_sub hl [5, 0] rfl)
def f_X10_joins_b2 (F : Nat) : Nat → Mm → Int32 → Option (Int32 × Mm)
 | 0, _, _ => none
 | N + 1, μ, a1 =>
 if (9 : Int32) ≤ a1 then
 f_X10_joins_b35 F F μ (0 : Int32)
 else
 if (a1 - a1 / (4 : Int32) * (4 : Int32)) = 0 then
 (wg μ 1046 0 9 a1 (0 : Int64)).bind fun m69 =>
 f_X10_joins_b2 F N m69 (a1 + (1 : Int32))
 else
 (wg μ 1046 0 9 a1 (1125899906842624 : Int64)).bind fun m67 =>
 f_X10_joins_b2 F N m67 (a1 + (1 : Int32))
set_option maxHeartbeats 4000000 in
set_option maxRecDepth 100000 in
theorem cb_X10_joins_2 {l : Launch} {E : En} {p : Program} {e : Env} {s : State} {m : MethodId} {av : Array Value} {below : List Frame} {meth : Method} {c : Code} (C : Cx E p s m av c cX10_joins 7 yX10_joins.cls) (hr : meth.sig.returnType = (some .boolean)) (hlk : meth.locks = false) {F : Nat} {z : Int32 × Mm} : ∀ (N : Nat) (μ : Mm) (a1 : Int32) (h_a0 : l10 E 0), f_X10_joins_b2 F N μ a1 = some z → ∀ {H : Heap} {locs : List Loc} {ls : Array Slot}, Iv E s μ H locs → lv_has ls 7 [(0, .ref (ad E 1000 0)), (1, .int a1)] → W p l e { frames := 1, cells := 0, slots := 0, locals := 24 } s m av below meth c H locs 0 0 (MQ below (Qm E (some (.int z.1)) z.2) av s 0 0 (Ad E)) (F0 m 2 ls []) := by
  have hx := C.1.1
  have hb := C.1.2.1
  intro N
  induction N with
  | zero => intro μ a1 h_a0 hf; cases hf
  | succ N ih =>
    intro μ a1 h_a0 hf H locs ls hI hl
    rw [f_X10_joins_b2] at hf
    refine lv_iload_n hx hb dX10_joins_2 rfl (lv_at hl 1 rfl) ?_
    refine lv_bipush (v := (9 : Int32)) hx hb dX10_joins_3 kb_9 ?_
    refine lv_icmp_ge (tgt := 33) hx hb dX10_joins_5 rfl (fun hc => ?_) (fun hc => ?_)
    · replace hf := it hf hc
      refine lv_iconst (v := (0 : Int32)) hx hb dX10_joins_33 kc_0 ?_
      refine lv_istore_n hx hb dX10_joins_34 rfl hl (by decide) rfl (fun ls hl => ?_)
      have hl : lv_has ls 7 [(1, .int (0 : Int32)), (0, .ref (ad E 1000 0))] := hl
      exact cb_X10_joins_35 C hr hlk  _ _ _ h_a0 hf hI (lv_sub hl [1, 0] rfl)
    · replace hf := ie hf hc
      refine lv_aload_n hx hb dX10_joins_8 rfl (lv_at hl 0 rfl) ?_
      refine gf_10_45 C hI h_a0.1 fl_X10_112 dX10_joins_9 ?_
      refine lv_iload_n hx hb dX10_joins_12 rfl (lv_at hl 1 rfl) ?_
      refine lv_iload_n hx hb dX10_joins_13 rfl (lv_at hl 1 rfl) ?_
      refine lv_iconst (v := (4 : Int32)) hx hb dX10_joins_14 kc_4 ?_
      refine lv_irem hx hb dX10_joins_15 (by decide) ?_
      refine lv_if_ne (tgt := 23) hx hb dX10_joins_16 rfl (fun hc => ?_) (fun hc => ?_)
      · replace hf := ie hf hc
        refine lv_ldc2 (v := (1125899906842624 : Int64)) hx hb C.1.2.2.2.1 (m_in C kl_X10_294) dX10_joins_23 ?_
        obtain ⟨m67, e68, hf⟩ := ob hf
        refine m_last C hI h_a0.2.2.2.2.2.2.2.2.2.2.2.2.2.2.2.2.2.2.2.2.2.2.2.2.2.2.2.2.2.2.2.1 (ce_1046 E _) e68 dX10_joins_26 (fun H locs hI => ?_)
        refine lv_iinc (v := a1 + (1 : Int32)) hx hb dX10_joins_27 hl (k := 1) rfl (ki_1 _) (by decide) rfl (fun ls hl => ?_)
        have hl : lv_has ls 7 [(1, .int (a1 + (1 : Int32))), (0, .ref (ad E 1000 0))] := hl
        refine lv_goto (tgt := 2) hx hb dX10_joins_30 rfl ?_
        exact ih _ _ h_a0 hf hI (lv_sub hl [1, 0] rfl)
      · replace hf := it hf hc
        refine lv_lconst (v := (0 : Int64)) hx hb dX10_joins_19 kl_0 ?_
        refine lv_goto (tgt := 26) hx hb dX10_joins_20 rfl ?_
        obtain ⟨m69, e70, hf⟩ := ob hf
        refine m_last C hI h_a0.2.2.2.2.2.2.2.2.2.2.2.2.2.2.2.2.2.2.2.2.2.2.2.2.2.2.2.2.2.2.2.1 (ce_1046 E _) e70 dX10_joins_26 (fun H locs hI => ?_)
        refine lv_iinc (v := a1 + (1 : Int32)) hx hb dX10_joins_27 hl (k := 1) rfl (ki_1 _) (by decide) rfl (fun ls hl => ?_)
        have hl : lv_has ls 7 [(1, .int (a1 + (1 : Int32))), (0, .ref (ad E 1000 0))] := hl
        refine lv_goto (tgt := 2) hx hb dX10_joins_30 rfl ?_
        exact ih _ _ h_a0 hf hI (lv_sub hl [1, 0] rfl)
def f_X10_joins (F : Nat) (μ : Mm) : Option (Int32 × Mm) :=
 f_X10_joins_b2 F F μ (0 : Int32)
set_option maxHeartbeats 4000000 in
set_option maxRecDepth 100000 in
theorem c_X10_joins (l : Launch) (E : En) {F : Nat} {μ : Mm} (h0 : l10 E 0) {z : Int32 × Mm} (hf : f_X10_joins F μ = some z) : Met l yX10_joins (wt yX10_joins cX10_joins 7 (some .boolean)) { frames := 1, cells := 0, slots := 0, locals := 24 } (Pm E [.ref (ad E 1000 0)] μ) (Qm E (some (.int z.1)) z.2) 0 0 (Ad E) := by
  unfold f_X10_joins at hf
  refine met_of (cc := cX10_joins) (nL := 7) (ret := (some .boolean)) (by decide) _ (Nat.le_of_ble_eq_true rfl) ?_
  intro p e s m below meth c C hr hlk hI ls hl
  have hx := C.1.1
  have hb := C.1.2.1
  have hl : lv_has ls 7 [(0, .ref (ad E 1000 0))] := hl
  refine lv_iconst (v := (0 : Int32)) hx hb dX10_joins_0 kc_0 ?_
  refine lv_istore_n hx hb dX10_joins_1 rfl hl (by decide) rfl (fun ls hl => ?_)
  have hl : lv_has ls 7 [(1, .int (0 : Int32)), (0, .ref (ad E 1000 0))] := hl
  exact cb_X10_joins_2 C hr hlk  _ _ _ h0 hf hI (lv_sub hl [1, 0] rfl)

