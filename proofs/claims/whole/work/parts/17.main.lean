theorem dX9_home_0 : decode cX9_home 0 = .ok (.aload_n 0, 1) := by decide +kernel
theorem dX9_home_1 : decode cX9_home 1 = .ok (.getfield 12, 3) := by decide +kernel
theorem dX9_home_4 : decode cX9_home 4 = .ok (.iload_n 1, 1) := by decide +kernel
theorem dX9_home_5 : decode cX9_home 5 = .ok (.invokevirtual 85, 3) := by decide +kernel
theorem dX9_home_8 : decode cX9_home 8 = .ok (.ifCond .eq 14, 3) := by decide +kernel
theorem dX9_home_11 : decode cX9_home 11 = .ok (.aload_n 0, 1) := by decide +kernel
theorem dX9_home_12 : decode cX9_home 12 = .ok (.getfield 12, 3) := by decide +kernel
theorem dX9_home_15 : decode cX9_home 15 = .ok (.iload_n 2, 1) := by decide +kernel
theorem dX9_home_16 : decode cX9_home 16 = .ok (.invokevirtual 89, 3) := by decide +kernel
theorem dX9_home_19 : decode cX9_home 19 = .ok (.ifCond .ne 5, 3) := by decide +kernel
theorem dX9_home_22 : decode cX9_home 22 = .ok (.iconst (-1), 1) := by decide +kernel
theorem dX9_home_23 : decode cX9_home 23 = .ok (.ireturn, 1) := by decide +kernel
theorem dX9_home_24 : decode cX9_home 24 = .ok (.aload_n 0, 1) := by decide +kernel
theorem dX9_home_25 : decode cX9_home 25 = .ok (.getfield 12, 3) := by decide +kernel
theorem dX9_home_28 : decode cX9_home 28 = .ok (.invokevirtual 92, 3) := by decide +kernel
theorem dX9_home_31 : decode cX9_home 31 = .ok (.ifCond .le 6, 3) := by decide +kernel
theorem dX9_home_34 : decode cX9_home 34 = .ok (.bipush (-2), 2) := by decide +kernel
theorem dX9_home_36 : decode cX9_home 36 = .ok (.ireturn, 1) := by decide +kernel
theorem dX9_home_37 : decode cX9_home 37 = .ok (.aload_n 0, 1) := by decide +kernel
theorem dX9_home_38 : decode cX9_home 38 = .ok (.getfield 12, 3) := by decide +kernel
theorem dX9_home_41 : decode cX9_home 41 = .ok (.iload_n 1, 1) := by decide +kernel
theorem dX9_home_42 : decode cX9_home 42 = .ok (.invokevirtual 96, 3) := by decide +kernel
theorem dX9_home_45 : decode cX9_home 45 = .ok (.istore_n 3, 1) := by decide +kernel
theorem dX9_home_46 : decode cX9_home 46 = .ok (.aload_n 0, 1) := by decide +kernel
theorem dX9_home_47 : decode cX9_home 47 = .ok (.getfield 12, 3) := by decide +kernel
theorem dX9_home_50 : decode cX9_home 50 = .ok (.getfield 100, 3) := by decide +kernel
theorem dX9_home_53 : decode cX9_home 53 = .ok (.iload_n 1, 1) := by decide +kernel
theorem dX9_home_54 : decode cX9_home 54 = .ok (.iload_n 2, 1) := by decide +kernel
theorem dX9_home_55 : decode cX9_home 55 = .ok (.iastore, 1) := by decide +kernel
theorem dX9_home_56 : decode cX9_home 56 = .ok (.iload_n 3, 1) := by decide +kernel
theorem dX9_home_57 : decode cX9_home 57 = .ok (.ireturn, 1) := by decide +kernel
def f_X9_home (F : Nat) (μ : Mm) (p1 : Int32) (p2 : Int32) : Option (Int32 × Mm) :=
 (f_X7_hasTask μ 0 p1).bind fun q11 =>
 if q11 = 0 then
 some ((-1 : Int32), μ)
 else
 (f_X7_hasProcessor μ 0 p2).bind fun q13 =>
 if q13 = 0 then
 some ((-1 : Int32), μ)
 else
 (f_X7_allMarks F μ 0).bind fun q15 =>
 if q15 ≤ 0 then
 (f_X7_homeOf μ 0 p1).bind fun q17 =>
 (wa μ 701 0 8 p1 p2).bind fun m19 =>
 some (q17, m19)
 else
 some ((-2 : Int32), μ)
set_option maxHeartbeats 4000000 in
set_option maxRecDepth 100000 in
theorem c_X9_home (l : Launch) (E : En) {F : Nat} {μ : Mm} {p1 : Int32} {p2 : Int32} (h0 : l9 E 0) {z : Int32 × Mm} (hf : f_X9_home F μ p1 p2 = some z) : Met l yX9_home (wt yX9_home cX9_home 4 (some .int)) { frames := 1, cells := 0, slots := 0, locals := 22 } (Pm E [.ref (ad E 900 0), .int p1, .int p2] μ) (Qm E (some (.int z.1)) z.2) 0 0 (Ad E) := by
  unfold f_X9_home at hf
  refine met_of (cc := cX9_home) (nL := 4) (ret := (some .int)) (by decide) _ (Nat.le_of_ble_eq_true rfl) ?_
  intro p e s m below meth c C hr hlk hI ls hl
  have hx := C.1.1
  have hb := C.1.2.1
  have hl : lv_has ls 4 [(0, .ref (ad E 900 0)), (1, .int p1), (2, .int p2)] := hl
  refine lv_aload_n hx hb dX9_home_0 rfl (lv_at hl 0 rfl) ?_
  refine gf_9_0 C hI h0.1 fl_X9_12 dX9_home_1 ?_
  refine lv_iload_n hx hb dX9_home_4 rfl (lv_at hl 1 rfl) ?_
  obtain ⟨q11, e12, hf⟩ := ob hf
  refine mcV (As := [.int p1]) (rest := []) C hI (c_X7_hasTask l E h0.2.2.2.2.1 e12) ml_X9_85 kv_X7_hasTask (m_recv C hI h0.2.2.2.2.1.1 (ce_700 E _ _ _) rfl) rfl rfl ⟨Nat.le_of_ble_eq_true rfl, Nat.le_of_ble_eq_true rfl⟩ ⟨Nat.zero_le _, Nat.zero_le _⟩ rfl rfl hl.1 (Nat.le_of_ble_eq_true rfl) dX9_home_5 (st1 := [.int q11]) rfl (fun H locs hI => ?_)
  refine lv_if_eq (tgt := 22) hx hb dX9_home_8 rfl (fun hc => ?_) (fun hc => ?_)
  · replace hf := it hf hc
    refine lv_iconst (v := (-1 : Int32)) hx hb dX9_home_22 kc_m1 ?_
    obtain rfl := Option.some.inj hf
    exact m_iret C hr hlk hI dX9_home_23
  · replace hf := ie hf hc
    refine lv_aload_n hx hb dX9_home_11 rfl (lv_at hl 0 rfl) ?_
    refine gf_9_0 C hI h0.1 fl_X9_12 dX9_home_12 ?_
    refine lv_iload_n hx hb dX9_home_15 rfl (lv_at hl 2 rfl) ?_
    obtain ⟨q13, e14, hf⟩ := ob hf
    refine mcV (As := [.int p2]) (rest := []) C hI (c_X7_hasProcessor l E h0.2.2.2.2.1 e14) ml_X9_89 kv_X7_hasProcessor (m_recv C hI h0.2.2.2.2.1.1 (ce_700 E _ _ _) rfl) rfl rfl ⟨Nat.le_of_ble_eq_true rfl, Nat.le_of_ble_eq_true rfl⟩ ⟨Nat.zero_le _, Nat.zero_le _⟩ rfl rfl hl.1 (Nat.le_of_ble_eq_true rfl) dX9_home_16 (st1 := [.int q13]) rfl (fun H locs hI => ?_)
    refine lv_if_ne (tgt := 24) hx hb dX9_home_19 rfl (fun hc => ?_) (fun hc => ?_)
    · replace hf := ie hf hc
      refine lv_aload_n hx hb dX9_home_24 rfl (lv_at hl 0 rfl) ?_
      refine gf_9_0 C hI h0.1 fl_X9_12 dX9_home_25 ?_
      obtain ⟨q15, e16, hf⟩ := ob hf
      refine mcV (As := []) (rest := []) C hI (c_X7_allMarks l E h0.2.2.2.2.1 e16) ml_X9_92 kv_X7_allMarks (m_recv C hI h0.2.2.2.2.1.1 (ce_700 E _ _ _) rfl) rfl rfl ⟨Nat.le_of_ble_eq_true rfl, Nat.le_of_ble_eq_true rfl⟩ ⟨Nat.zero_le _, Nat.zero_le _⟩ rfl rfl hl.1 (Nat.le_of_ble_eq_true rfl) dX9_home_28 (st1 := [.int q15]) rfl (fun H locs hI => ?_)
      refine lv_if_le (tgt := 37) hx hb dX9_home_31 rfl (fun hc => ?_) (fun hc => ?_)
      · replace hf := it hf hc
        refine lv_aload_n hx hb dX9_home_37 rfl (lv_at hl 0 rfl) ?_
        refine gf_9_0 C hI h0.1 fl_X9_12 dX9_home_38 ?_
        refine lv_iload_n hx hb dX9_home_41 rfl (lv_at hl 1 rfl) ?_
        obtain ⟨q17, e18, hf⟩ := ob hf
        refine mcV (As := [.int p1]) (rest := []) C hI (c_X7_homeOf l E h0.2.2.2.2.1 e18) ml_X9_96 kv_X7_homeOf (m_recv C hI h0.2.2.2.2.1.1 (ce_700 E _ _ _) rfl) rfl rfl ⟨Nat.le_of_ble_eq_true rfl, Nat.le_of_ble_eq_true rfl⟩ ⟨Nat.zero_le _, Nat.zero_le _⟩ rfl rfl hl.1 (Nat.le_of_ble_eq_true rfl) dX9_home_42 (st1 := [.int q17]) rfl (fun H locs hI => ?_)
        refine lv_istore_n hx hb dX9_home_45 rfl hl (by decide) rfl (fun ls hl => ?_)
        have hl : lv_has ls 4 [(3, .int q17), (0, .ref (ad E 900 0)), (1, .int p1), (2, .int p2)] := hl
        refine lv_aload_n hx hb dX9_home_46 rfl (lv_at hl 1 rfl) ?_
        refine gf_9_0 C hI h0.1 fl_X9_12 dX9_home_47 ?_
        refine gf_7_0 C hI h0.2.2.2.2.1.1 fl_X9_100 dX9_home_50 ?_
        refine lv_iload_n hx hb dX9_home_53 rfl (lv_at hl 2 rfl) ?_
        refine lv_iload_n hx hb dX9_home_54 rfl (lv_at hl 3 rfl) ?_
        obtain ⟨m19, e20, hf⟩ := ob hf
        refine m_iast C hI h0.2.2.2.2.1.2.1 (ce_701 E _) e20 dX9_home_55 (fun H locs hI => ?_)
        refine lv_iload_n hx hb dX9_home_56 rfl (lv_at hl 0 rfl) ?_
        obtain rfl := Option.some.inj hf
        exact m_iret C hr hlk hI dX9_home_57
      · replace hf := ie hf hc
        refine lv_bipush (v := (-2 : Int32)) hx hb dX9_home_34 kb_m2 ?_
        obtain rfl := Option.some.inj hf
        exact m_iret C hr hlk hI dX9_home_36
    · replace hf := it hf hc
      refine lv_iconst (v := (-1 : Int32)) hx hb dX9_home_22 kc_m1 ?_
      obtain rfl := Option.some.inj hf
      exact m_iret C hr hlk hI dX9_home_23

theorem dX9_forgetLawsAndOthers_0 : decode cX9_forgetLawsAndOthers 0 = .ok (.aload_n 0, 1) := by decide +kernel
theorem dX9_forgetLawsAndOthers_1 : decode cX9_forgetLawsAndOthers 1 = .ok (.getfield 26, 3) := by decide +kernel
theorem dX9_forgetLawsAndOthers_4 : decode cX9_forgetLawsAndOthers 4 = .ok (.iconst 0, 1) := by decide +kernel
theorem dX9_forgetLawsAndOthers_5 : decode cX9_forgetLawsAndOthers 5 = .ok (.putfield 125, 3) := by decide +kernel
theorem dX9_forgetLawsAndOthers_8 : decode cX9_forgetLawsAndOthers 8 = .ok (.aload_n 0, 1) := by decide +kernel
theorem dX9_forgetLawsAndOthers_9 : decode cX9_forgetLawsAndOthers 9 = .ok (.getfield 16, 3) := by decide +kernel
theorem dX9_forgetLawsAndOthers_12 : decode cX9_forgetLawsAndOthers 12 = .ok (.iconst (-1), 1) := by decide +kernel
theorem dX9_forgetLawsAndOthers_13 : decode cX9_forgetLawsAndOthers 13 = .ok (.invokestatic 71, 3) := by decide +kernel
theorem dX9_forgetLawsAndOthers_16 : decode cX9_forgetLawsAndOthers 16 = .ok (.return_, 1) := by decide +kernel
def f_X9_forgetLawsAndOthers (μ : Mm) : Option Mm :=
 (wf μ 300 0 4 (0 : Int32)).bind fun m5 =>
 (f_J7_fill_53178 m5 902 0 8 (-1 : Int32)).bind fun q7 =>
 some q7
set_option maxHeartbeats 4000000 in
set_option maxRecDepth 100000 in
theorem c_X9_forgetLawsAndOthers (l : Launch) (E : En) {μ : Mm} (h0 : l9 E 0) {z : Mm} (hf : f_X9_forgetLawsAndOthers μ = some z) : Met l yX9_forgetLawsAndOthers (wt yX9_forgetLawsAndOthers cX9_forgetLawsAndOthers 1 (none : Option FieldType)) { frames := 1, cells := 0, slots := 0, locals := 23 } (Pm E [.ref (ad E 900 0)] μ) (Qm E none z) 0 0 (Ad E) := by
  unfold f_X9_forgetLawsAndOthers at hf
  refine met_of (cc := cX9_forgetLawsAndOthers) (nL := 1) (ret := (none : Option FieldType)) (by decide) _ (Nat.le_of_ble_eq_true rfl) ?_
  intro p e s m below meth c C hr hlk hI ls hl
  have hx := C.1.1
  have hb := C.1.2.1
  have hl : lv_has ls 1 [(0, .ref (ad E 900 0))] := hl
  refine lv_aload_n hx hb dX9_forgetLawsAndOthers_0 rfl (lv_at hl 0 rfl) ?_
  refine gf_9_3 C hI h0.1 fl_X9_26 dX9_forgetLawsAndOthers_1 ?_
  refine lv_iconst (v := (0 : Int32)) hx hb dX9_forgetLawsAndOthers_4 kc_0 ?_
  obtain ⟨m5, e6, hf⟩ := ob hf
  refine pf_3_4 C hI h0.2.2.2.2.2.1.1 fl_X9_125 e6 dX9_forgetLawsAndOthers_5 (fun H locs hI => ?_)
  refine lv_aload_n hx hb dX9_forgetLawsAndOthers_8 rfl (lv_at hl 0 rfl) ?_
  refine gf_9_1 C hI h0.1 fl_X9_16 dX9_forgetLawsAndOthers_9 ?_
  refine lv_iconst (v := (-1 : Int32)) hx hb dX9_forgetLawsAndOthers_12 kc_m1 ?_
  obtain ⟨q7, e8, hf⟩ := ob hf
  refine mcS (As := [.ref (ad E 902 0), .int (-1 : Int32)]) (rest := []) C hI (c_J7_fill_53178 l E h0.2.1 (ce_902 E 0) (Nat.le_of_ble_eq_true rfl) e8) ml_X9_71 ks_J7_fill_53178 rfl rfl ⟨Nat.le_of_ble_eq_true rfl, Nat.le_of_ble_eq_true rfl⟩ ⟨Nat.zero_le _, Nat.zero_le _⟩ rfl rfl hl.1 (Nat.le_of_ble_eq_true rfl) dX9_forgetLawsAndOthers_13 (st1 := []) rfl (fun H locs hI => ?_)
  obtain rfl := Option.some.inj hf
  exact m_vret C hr hlk hI dX9_forgetLawsAndOthers_16

theorem dX9_isRank_0 : decode cX9_isRank 0 = .ok (.iload_n 0, 1) := by decide +kernel
theorem dX9_isRank_1 : decode cX9_isRank 1 = .ok (.ifCond .lt 13, 3) := by decide +kernel
theorem dX9_isRank_4 : decode cX9_isRank 4 = .ok (.iload_n 0, 1) := by decide +kernel
theorem dX9_isRank_5 : decode cX9_isRank 5 = .ok (.bipush 15, 2) := by decide +kernel
theorem dX9_isRank_7 : decode cX9_isRank 7 = .ok (.if_icmp .gt 7, 3) := by decide +kernel
theorem dX9_isRank_10 : decode cX9_isRank 10 = .ok (.iconst 1, 1) := by decide +kernel
theorem dX9_isRank_11 : decode cX9_isRank 11 = .ok (.goto 4, 3) := by decide +kernel
theorem dX9_isRank_14 : decode cX9_isRank 14 = .ok (.iconst 0, 1) := by decide +kernel
theorem dX9_isRank_15 : decode cX9_isRank 15 = .ok (.ireturn, 1) := by decide +kernel
def f_X9_isRank (μ : Mm) (p0 : Int32) : Option Int32 :=
 if p0 < 0 then
 some (0 : Int32)
 else
 if (15 : Int32) < p0 then
 some (0 : Int32)
 else
 some (1 : Int32)
set_option maxHeartbeats 4000000 in
set_option maxRecDepth 100000 in
theorem c_X9_isRank (l : Launch) (E : En) {μ : Mm} {p0 : Int32} {z : Int32} (hf : f_X9_isRank μ p0 = some z) : Met l yX9_isRank (wt yX9_isRank cX9_isRank 1 (some .boolean)) { frames := 0, cells := 0, slots := 0, locals := 0 } (Pm E [.int p0] μ) (Qm E (some (.int z)) μ) 0 0 (Ad E) := by
  unfold f_X9_isRank at hf
  refine met_of (cc := cX9_isRank) (nL := 1) (ret := (some .boolean)) (by decide) _ (Nat.le_of_ble_eq_true rfl) ?_
  intro p e s m below meth c C hr hlk hI ls hl
  have hx := C.1.1
  have hb := C.1.2.1
  have hl : lv_has ls 1 [(0, .int p0)] := hl
  refine lv_iload_n hx hb dX9_isRank_0 rfl (lv_at hl 0 rfl) ?_
  refine lv_if_lt (tgt := 14) hx hb dX9_isRank_1 rfl (fun hc => ?_) (fun hc => ?_)
  · replace hf := it hf hc
    refine lv_iconst (v := (0 : Int32)) hx hb dX9_isRank_14 kc_0 ?_
    obtain rfl := Option.some.inj hf
    exact m_zret C hr hlk hI (by decide) dX9_isRank_15
  · replace hf := ie hf hc
    refine lv_iload_n hx hb dX9_isRank_4 rfl (lv_at hl 0 rfl) ?_
    refine lv_bipush (v := (15 : Int32)) hx hb dX9_isRank_5 kb_15 ?_
    refine lv_icmp_gt (tgt := 14) hx hb dX9_isRank_7 rfl (fun hc => ?_) (fun hc => ?_)
    · replace hf := it hf hc
      refine lv_iconst (v := (0 : Int32)) hx hb dX9_isRank_14 kc_0 ?_
      obtain rfl := Option.some.inj hf
      exact m_zret C hr hlk hI (by decide) dX9_isRank_15
    · replace hf := ie hf hc
      refine lv_iconst (v := (1 : Int32)) hx hb dX9_isRank_10 kc_1 ?_
      refine lv_goto (tgt := 15) hx hb dX9_isRank_11 rfl ?_
      obtain rfl := Option.some.inj hf
      exact m_zret C hr hlk hI (by decide) dX9_isRank_15

theorem dX9_otherRankOf_0 : decode cX9_otherRankOf 0 = .ok (.iload_n 1, 1) := by decide +kernel
theorem dX9_otherRankOf_1 : decode cX9_otherRankOf 1 = .ok (.ifCond .lt 9, 3) := by decide +kernel
theorem dX9_otherRankOf_4 : decode cX9_otherRankOf 4 = .ok (.iload_n 1, 1) := by decide +kernel
theorem dX9_otherRankOf_5 : decode cX9_otherRankOf 5 = .ok (.bipush 8, 2) := by decide +kernel
theorem dX9_otherRankOf_7 : decode cX9_otherRankOf 7 = .ok (.if_icmp .lt 5, 3) := by decide +kernel
theorem dX9_otherRankOf_10 : decode cX9_otherRankOf 10 = .ok (.iconst 0, 1) := by decide +kernel
theorem dX9_otherRankOf_11 : decode cX9_otherRankOf 11 = .ok (.ireturn, 1) := by decide +kernel
theorem dX9_otherRankOf_12 : decode cX9_otherRankOf 12 = .ok (.aload_n 0, 1) := by decide +kernel
theorem dX9_otherRankOf_13 : decode cX9_otherRankOf 13 = .ok (.getfield 16, 3) := by decide +kernel
theorem dX9_otherRankOf_16 : decode cX9_otherRankOf 16 = .ok (.iload_n 1, 1) := by decide +kernel
theorem dX9_otherRankOf_17 : decode cX9_otherRankOf 17 = .ok (.iaload, 1) := by decide +kernel
theorem dX9_otherRankOf_18 : decode cX9_otherRankOf 18 = .ok (.iconst (-1), 1) := by decide +kernel
theorem dX9_otherRankOf_19 : decode cX9_otherRankOf 19 = .ok (.if_icmp .eq 12, 3) := by decide +kernel
theorem dX9_otherRankOf_22 : decode cX9_otherRankOf 22 = .ok (.aload_n 0, 1) := by decide +kernel
theorem dX9_otherRankOf_23 : decode cX9_otherRankOf 23 = .ok (.getfield 16, 3) := by decide +kernel
theorem dX9_otherRankOf_26 : decode cX9_otherRankOf 26 = .ok (.iload_n 1, 1) := by decide +kernel
theorem dX9_otherRankOf_27 : decode cX9_otherRankOf 27 = .ok (.iaload, 1) := by decide +kernel
theorem dX9_otherRankOf_28 : decode cX9_otherRankOf 28 = .ok (.goto 11, 3) := by decide +kernel
theorem dX9_otherRankOf_31 : decode cX9_otherRankOf 31 = .ok (.aload_n 0, 1) := by decide +kernel
theorem dX9_otherRankOf_32 : decode cX9_otherRankOf 32 = .ok (.getfield 12, 3) := by decide +kernel
theorem dX9_otherRankOf_35 : decode cX9_otherRankOf 35 = .ok (.iload_n 1, 1) := by decide +kernel
theorem dX9_otherRankOf_36 : decode cX9_otherRankOf 36 = .ok (.invokevirtual 106, 3) := by decide +kernel
theorem dX9_otherRankOf_39 : decode cX9_otherRankOf 39 = .ok (.ireturn, 1) := by decide +kernel
def f_X9_otherRankOf (μ : Mm) (p1 : Int32) : Option Int32 :=
 if p1 < 0 then
 some (0 : Int32)
 else
 if p1 < (8 : Int32) then
 (ra μ 902 0 8 p1).bind fun v7 =>
 if v7 = (-1 : Int32) then
 (f_X7_rankOf μ 0 p1).bind fun q9 =>
 some q9
 else
 (ra μ 902 0 8 p1).bind fun v11 =>
 some v11
 else
 some (0 : Int32)
set_option maxHeartbeats 4000000 in
set_option maxRecDepth 100000 in
theorem c_X9_otherRankOf (l : Launch) (E : En) {μ : Mm} {p1 : Int32} (h0 : l9 E 0) {z : Int32} (hf : f_X9_otherRankOf μ p1 = some z) : Met l yX9_otherRankOf (wt yX9_otherRankOf cX9_otherRankOf 2 (some .int)) { frames := 1, cells := 0, slots := 0, locals := 21 } (Pm E [.ref (ad E 900 0), .int p1] μ) (Qm E (some (.int z)) μ) 0 0 (Ad E) := by
  unfold f_X9_otherRankOf at hf
  refine met_of (cc := cX9_otherRankOf) (nL := 2) (ret := (some .int)) (by decide) _ (Nat.le_of_ble_eq_true rfl) ?_
  intro p e s m below meth c C hr hlk hI ls hl
  have hx := C.1.1
  have hb := C.1.2.1
  have hl : lv_has ls 2 [(0, .ref (ad E 900 0)), (1, .int p1)] := hl
  refine lv_iload_n hx hb dX9_otherRankOf_0 rfl (lv_at hl 1 rfl) ?_
  refine lv_if_lt (tgt := 10) hx hb dX9_otherRankOf_1 rfl (fun hc => ?_) (fun hc => ?_)
  · replace hf := it hf hc
    refine lv_iconst (v := (0 : Int32)) hx hb dX9_otherRankOf_10 kc_0 ?_
    obtain rfl := Option.some.inj hf
    exact m_iret C hr hlk hI dX9_otherRankOf_11
  · replace hf := ie hf hc
    refine lv_iload_n hx hb dX9_otherRankOf_4 rfl (lv_at hl 1 rfl) ?_
    refine lv_bipush (v := (8 : Int32)) hx hb dX9_otherRankOf_5 kb_8 ?_
    refine lv_icmp_lt (tgt := 12) hx hb dX9_otherRankOf_7 rfl (fun hc => ?_) (fun hc => ?_)
    · replace hf := it hf hc
      refine lv_aload_n hx hb dX9_otherRankOf_12 rfl (lv_at hl 0 rfl) ?_
      refine gf_9_1 C hI h0.1 fl_X9_16 dX9_otherRankOf_13 ?_
      refine lv_iload_n hx hb dX9_otherRankOf_16 rfl (lv_at hl 1 rfl) ?_
      obtain ⟨v7, e8, hf⟩ := ob hf
      refine m_iald C hI h0.2.1 (ce_902 E _ _ _) e8 dX9_otherRankOf_17 ?_
      refine lv_iconst (v := (-1 : Int32)) hx hb dX9_otherRankOf_18 kc_m1 ?_
      refine lv_icmp_eq (tgt := 31) hx hb dX9_otherRankOf_19 rfl (fun hc => ?_) (fun hc => ?_)
      · replace hf := it hf hc
        refine lv_aload_n hx hb dX9_otherRankOf_31 rfl (lv_at hl 0 rfl) ?_
        refine gf_9_0 C hI h0.1 fl_X9_12 dX9_otherRankOf_32 ?_
        refine lv_iload_n hx hb dX9_otherRankOf_35 rfl (lv_at hl 1 rfl) ?_
        obtain ⟨q9, e10, hf⟩ := ob hf
        refine mcV (As := [.int p1]) (rest := []) C hI (c_X7_rankOf l E h0.2.2.2.2.1 e10) ml_X9_106 kv_X7_rankOf (m_recv C hI h0.2.2.2.2.1.1 (ce_700 E _ _ _) rfl) rfl rfl ⟨Nat.le_of_ble_eq_true rfl, Nat.le_of_ble_eq_true rfl⟩ ⟨Nat.zero_le _, Nat.zero_le _⟩ rfl rfl hl.1 (Nat.le_of_ble_eq_true rfl) dX9_otherRankOf_36 (st1 := [.int q9]) rfl (fun H locs hI => ?_)
        obtain rfl := Option.some.inj hf
        exact m_iret C hr hlk hI dX9_otherRankOf_39
      · replace hf := ie hf hc
        refine lv_aload_n hx hb dX9_otherRankOf_22 rfl (lv_at hl 0 rfl) ?_
        refine gf_9_1 C hI h0.1 fl_X9_16 dX9_otherRankOf_23 ?_
        refine lv_iload_n hx hb dX9_otherRankOf_26 rfl (lv_at hl 1 rfl) ?_
        obtain ⟨v11, e12, hf⟩ := ob hf
        refine m_iald C hI h0.2.1 (ce_902 E _ _ _) e12 dX9_otherRankOf_27 ?_
        refine lv_goto (tgt := 39) hx hb dX9_otherRankOf_28 rfl ?_
        obtain rfl := Option.some.inj hf
        exact m_iret C hr hlk hI dX9_otherRankOf_39
    · replace hf := ie hf hc
      refine lv_iconst (v := (0 : Int32)) hx hb dX9_otherRankOf_10 kc_0 ?_
      obtain rfl := Option.some.inj hf
      exact m_iret C hr hlk hI dX9_otherRankOf_11

theorem dX9_told_0 : decode cX9_told 0 = .ok (.aload_n 0, 1) := by decide +kernel
theorem dX9_told_1 : decode cX9_told 1 = .ok (.getfield 12, 3) := by decide +kernel
theorem dX9_told_4 : decode cX9_told 4 = .ok (.iload_n 1, 1) := by decide +kernel
theorem dX9_told_5 : decode cX9_told 5 = .ok (.invokevirtual 89, 3) := by decide +kernel
theorem dX9_told_8 : decode cX9_told 8 = .ok (.ifCond .ne 5, 3) := by decide +kernel
theorem dX9_told_11 : decode cX9_told 11 = .ok (.iconst (-1), 1) := by decide +kernel
theorem dX9_told_12 : decode cX9_told 12 = .ok (.ireturn, 1) := by decide +kernel
theorem dX9_told_13 : decode cX9_told 13 = .ok (.aload_n 0, 1) := by decide +kernel
theorem dX9_told_14 : decode cX9_told 14 = .ok (.getfield 12, 3) := by decide +kernel
theorem dX9_told_17 : decode cX9_told 17 = .ok (.iload_n 1, 1) := by decide +kernel
theorem dX9_told_18 : decode cX9_told 18 = .ok (.invokevirtual 128, 3) := by decide +kernel
theorem dX9_told_21 : decode cX9_told 21 = .ok (.astore 4, 2) := by decide +kernel
theorem dX9_told_23 : decode cX9_told 23 = .ok (.aload 4, 2) := by decide +kernel
theorem dX9_told_25 : decode cX9_told 25 = .ok (.iload_n 2, 1) := by decide +kernel
theorem dX9_told_26 : decode cX9_told 26 = .ok (.invokevirtual 132, 3) := by decide +kernel
theorem dX9_told_29 : decode cX9_told 29 = .ok (.ifCond .ne 5, 3) := by decide +kernel
theorem dX9_told_32 : decode cX9_told 32 = .ok (.iconst (-1), 1) := by decide +kernel
theorem dX9_told_33 : decode cX9_told 33 = .ok (.ireturn, 1) := by decide +kernel
theorem dX9_told_34 : decode cX9_told 34 = .ok (.iload_n 3, 1) := by decide +kernel
theorem dX9_told_35 : decode cX9_told 35 = .ok (.tableswitch 57 0 3 #[29, 36, 43, 50], 29) := by decide +kernel
theorem dX9_told_64 : decode cX9_told 64 = .ok (.aload 4, 2) := by decide +kernel
theorem dX9_told_66 : decode cX9_told 66 = .ok (.iload_n 2, 1) := by decide +kernel
theorem dX9_told_67 : decode cX9_told 67 = .ok (.invokevirtual 137, 3) := by decide +kernel
theorem dX9_told_70 : decode cX9_told 70 = .ok (.ireturn, 1) := by decide +kernel
theorem dX9_told_71 : decode cX9_told 71 = .ok (.aload 4, 2) := by decide +kernel
theorem dX9_told_73 : decode cX9_told 73 = .ok (.iload_n 2, 1) := by decide +kernel
theorem dX9_told_74 : decode cX9_told 74 = .ok (.invokevirtual 140, 3) := by decide +kernel
theorem dX9_told_77 : decode cX9_told 77 = .ok (.ireturn, 1) := by decide +kernel
theorem dX9_told_78 : decode cX9_told 78 = .ok (.aload 4, 2) := by decide +kernel
theorem dX9_told_80 : decode cX9_told 80 = .ok (.iload_n 2, 1) := by decide +kernel
theorem dX9_told_81 : decode cX9_told 81 = .ok (.invokevirtual 143, 3) := by decide +kernel
theorem dX9_told_84 : decode cX9_told 84 = .ok (.ireturn, 1) := by decide +kernel
theorem dX9_told_85 : decode cX9_told 85 = .ok (.aload 4, 2) := by decide +kernel
theorem dX9_told_87 : decode cX9_told 87 = .ok (.iload_n 2, 1) := by decide +kernel
theorem dX9_told_88 : decode cX9_told 88 = .ok (.invokevirtual 146, 3) := by decide +kernel
theorem dX9_told_91 : decode cX9_told 91 = .ok (.ireturn, 1) := by decide +kernel
theorem dX9_told_92 : decode cX9_told 92 = .ok (.iconst (-1), 1) := by decide +kernel
theorem dX9_told_93 : decode cX9_told 93 = .ok (.ireturn, 1) := by decide +kernel
def f_X9_told (μ : Mm) (p1 : Int32) (p2 : Int32) (p3 : Int32) : Option Int32 :=
 (f_X7_hasProcessor μ 0 p1).bind fun q15 =>
 if q15 = 0 then
 some (-1 : Int32)
 else
 (f_X7_laneOf μ 0 p1).bind fun q17 =>
 (f_X2_has μ q17 p2).bind fun q19 =>
 if q19 = 0 then
 some (-1 : Int32)
 else
 if p3 = (0 : Int32) then
 (f_X2_kindOf μ q17 p2).bind fun q21 =>
 some q21
 else
 if p3 = (1 : Int32) then
 (f_X2_taskOf μ q17 p2).bind fun q23 =>
 some q23
 else
 if p3 = (2 : Int32) then
 (f_X2_numberOf μ q17 p2).bind fun q25 =>
 some q25
 else
 if p3 = (3 : Int32) then
 (f_X2_timeOf μ q17 p2).bind fun q27 =>
 some q27
 else
 some (-1 : Int32)
set_option maxHeartbeats 4000000 in
set_option maxRecDepth 100000 in
theorem c_X9_told (l : Launch) (E : En) {μ : Mm} {p1 : Int32} {p2 : Int32} {p3 : Int32} (h0 : l9 E 0) {z : Int32} (hf : f_X9_told μ p1 p2 p3 = some z) : Met l yX9_told (wt yX9_told cX9_told 5 (some .int)) { frames := 2, cells := 0, slots := 0, locals := 42 } (Pm E [.ref (ad E 900 0), .int p1, .int p2, .int p3] μ) (Qm E (some (.int z)) μ) 0 0 (Ad E) := by
  unfold f_X9_told at hf
  refine met_of (cc := cX9_told) (nL := 5) (ret := (some .int)) (by decide) _ (Nat.le_of_ble_eq_true rfl) ?_
  intro p e s m below meth c C hr hlk hI ls hl
  have hx := C.1.1
  have hb := C.1.2.1
  have hl : lv_has ls 5 [(0, .ref (ad E 900 0)), (1, .int p1), (2, .int p2), (3, .int p3)] := hl
  refine lv_aload_n hx hb dX9_told_0 rfl (lv_at hl 0 rfl) ?_
  refine gf_9_0 C hI h0.1 fl_X9_12 dX9_told_1 ?_
  refine lv_iload_n hx hb dX9_told_4 rfl (lv_at hl 1 rfl) ?_
  obtain ⟨q15, e16, hf⟩ := ob hf
  refine mcV (As := [.int p1]) (rest := []) C hI (c_X7_hasProcessor l E h0.2.2.2.2.1 e16) ml_X9_89 kv_X7_hasProcessor (m_recv C hI h0.2.2.2.2.1.1 (ce_700 E _ _ _) rfl) rfl rfl ⟨Nat.le_of_ble_eq_true rfl, Nat.le_of_ble_eq_true rfl⟩ ⟨Nat.zero_le _, Nat.zero_le _⟩ rfl rfl hl.1 (Nat.le_of_ble_eq_true rfl) dX9_told_5 (st1 := [.int q15]) rfl (fun H locs hI => ?_)
  refine lv_if_ne (tgt := 13) hx hb dX9_told_8 rfl (fun hc => ?_) (fun hc => ?_)
  · replace hf := ie hf hc
    refine lv_aload_n hx hb dX9_told_13 rfl (lv_at hl 0 rfl) ?_
    refine gf_9_0 C hI h0.1 fl_X9_12 dX9_told_14 ?_
    refine lv_iload_n hx hb dX9_told_17 rfl (lv_at hl 1 rfl) ?_
    obtain ⟨q17, e18, hf⟩ := ob hf
    refine mcV (As := [.int p1]) (rest := []) C hI (c_X7_laneOf l E h0.2.2.2.2.1 e18) ml_X9_128 kv_X7_laneOf (m_recv C hI h0.2.2.2.2.1.1 (ce_700 E _ _ _) rfl) rfl rfl ⟨Nat.le_of_ble_eq_true rfl, Nat.le_of_ble_eq_true rfl⟩ ⟨Nat.zero_le _, Nat.zero_le _⟩ rfl rfl hl.1 (Nat.le_of_ble_eq_true rfl) dX9_told_18 (st1 := [.ref (ad E 200 q17)]) rfl (fun H locs hI => ?_)
    refine lv_astore hx hb dX9_told_21 hl (by decide) rfl (fun ls hl => ?_)
    have hl : lv_has ls 5 [(4, .ref (ad E 200 q17)), (0, .ref (ad E 900 0)), (1, .int p1), (2, .int p2), (3, .int p3)] := hl
    refine lv_aload hx hb dX9_told_23 (lv_at hl 0 rfl) ?_
    refine lv_iload_n hx hb dX9_told_25 rfl (lv_at hl 3 rfl) ?_
    obtain ⟨q19, e20, hf⟩ := ob hf
    refine mcV (As := [.int p2]) (rest := []) C hI (c_X2_has l E (lr_X7_laneOf h0.2.2.2.2.1 e18) e20) ml_X9_132 kv_X2_has (m_recv C hI (lr_X7_laneOf h0.2.2.2.2.1 e18).1 (ce_200 E _ _ _) rfl) rfl rfl ⟨Nat.le_of_ble_eq_true rfl, Nat.le_of_ble_eq_true rfl⟩ ⟨Nat.zero_le _, Nat.zero_le _⟩ rfl rfl hl.1 (Nat.le_of_ble_eq_true rfl) dX9_told_26 (st1 := [.int q19]) rfl (fun H locs hI => ?_)
    refine lv_if_ne (tgt := 34) hx hb dX9_told_29 rfl (fun hc => ?_) (fun hc => ?_)
    · replace hf := ie hf hc
      refine lv_iload_n hx hb dX9_told_34 rfl (lv_at hl 4 rfl) ?_
      by_cases hn0 : p3 = (0 : Int32)
      · replace hf := it hf hn0
        refine lv_tableIn (tgt := 64) (off := 29) hx hb dX9_told_35 (by rw [hn0]; decide) (by rw [hn0]; decide) (by rw [hn0]; rfl) rfl ?_
        refine lv_aload hx hb dX9_told_64 (lv_at hl 0 rfl) ?_
        refine lv_iload_n hx hb dX9_told_66 rfl (lv_at hl 3 rfl) ?_
        obtain ⟨q21, e22, hf⟩ := ob hf
        refine mcV (As := [.int p2]) (rest := []) C hI (c_X2_kindOf l E (lr_X7_laneOf h0.2.2.2.2.1 e18) e22) ml_X9_137 kv_X2_kindOf (m_recv C hI (lr_X7_laneOf h0.2.2.2.2.1 e18).1 (ce_200 E _ _ _) rfl) rfl rfl ⟨Nat.le_of_ble_eq_true rfl, Nat.le_of_ble_eq_true rfl⟩ ⟨Nat.zero_le _, Nat.zero_le _⟩ rfl rfl hl.1 (Nat.le_of_ble_eq_true rfl) dX9_told_67 (st1 := [.int q21]) rfl (fun H locs hI => ?_)
        obtain rfl := Option.some.inj hf
        exact m_iret C hr hlk hI dX9_told_70
      replace hf := ie hf hn0
      by_cases hn1 : p3 = (1 : Int32)
      · replace hf := it hf hn1
        refine lv_tableIn (tgt := 71) (off := 36) hx hb dX9_told_35 (by rw [hn1]; decide) (by rw [hn1]; decide) (by rw [hn1]; rfl) rfl ?_
        refine lv_aload hx hb dX9_told_71 (lv_at hl 0 rfl) ?_
        refine lv_iload_n hx hb dX9_told_73 rfl (lv_at hl 3 rfl) ?_
        obtain ⟨q23, e24, hf⟩ := ob hf
        refine mcV (As := [.int p2]) (rest := []) C hI (c_X2_taskOf l E (lr_X7_laneOf h0.2.2.2.2.1 e18) e24) ml_X9_140 kv_X2_taskOf (m_recv C hI (lr_X7_laneOf h0.2.2.2.2.1 e18).1 (ce_200 E _ _ _) rfl) rfl rfl ⟨Nat.le_of_ble_eq_true rfl, Nat.le_of_ble_eq_true rfl⟩ ⟨Nat.zero_le _, Nat.zero_le _⟩ rfl rfl hl.1 (Nat.le_of_ble_eq_true rfl) dX9_told_74 (st1 := [.int q23]) rfl (fun H locs hI => ?_)
        obtain rfl := Option.some.inj hf
        exact m_iret C hr hlk hI dX9_told_77
      replace hf := ie hf hn1
      by_cases hn2 : p3 = (2 : Int32)
      · replace hf := it hf hn2
        refine lv_tableIn (tgt := 78) (off := 43) hx hb dX9_told_35 (by rw [hn2]; decide) (by rw [hn2]; decide) (by rw [hn2]; rfl) rfl ?_
        refine lv_aload hx hb dX9_told_78 (lv_at hl 0 rfl) ?_
        refine lv_iload_n hx hb dX9_told_80 rfl (lv_at hl 3 rfl) ?_
        obtain ⟨q25, e26, hf⟩ := ob hf
        refine mcV (As := [.int p2]) (rest := []) C hI (c_X2_numberOf l E (lr_X7_laneOf h0.2.2.2.2.1 e18) e26) ml_X9_143 kv_X2_numberOf (m_recv C hI (lr_X7_laneOf h0.2.2.2.2.1 e18).1 (ce_200 E _ _ _) rfl) rfl rfl ⟨Nat.le_of_ble_eq_true rfl, Nat.le_of_ble_eq_true rfl⟩ ⟨Nat.zero_le _, Nat.zero_le _⟩ rfl rfl hl.1 (Nat.le_of_ble_eq_true rfl) dX9_told_81 (st1 := [.int q25]) rfl (fun H locs hI => ?_)
        obtain rfl := Option.some.inj hf
        exact m_iret C hr hlk hI dX9_told_84
      replace hf := ie hf hn2
      by_cases hn3 : p3 = (3 : Int32)
      · replace hf := it hf hn3
        refine lv_tableIn (tgt := 85) (off := 50) hx hb dX9_told_35 (by rw [hn3]; decide) (by rw [hn3]; decide) (by rw [hn3]; rfl) rfl ?_
        refine lv_aload hx hb dX9_told_85 (lv_at hl 0 rfl) ?_
        refine lv_iload_n hx hb dX9_told_87 rfl (lv_at hl 3 rfl) ?_
        obtain ⟨q27, e28, hf⟩ := ob hf
        refine mcV (As := [.int p2]) (rest := []) C hI (c_X2_timeOf l E (lr_X7_laneOf h0.2.2.2.2.1 e18) e28) ml_X9_146 kv_X2_timeOf (m_recv C hI (lr_X7_laneOf h0.2.2.2.2.1 e18).1 (ce_200 E _ _ _) rfl) rfl rfl ⟨Nat.le_of_ble_eq_true rfl, Nat.le_of_ble_eq_true rfl⟩ ⟨Nat.zero_le _, Nat.zero_le _⟩ rfl rfl hl.1 (Nat.le_of_ble_eq_true rfl) dX9_told_88 (st1 := [.int q27]) rfl (fun H locs hI => ?_)
        obtain rfl := Option.some.inj hf
        exact m_iret C hr hlk hI dX9_told_91
      replace hf := ie hf hn3
      have a0_ := ts_ne (n := 0) hn0 (by decide)
      have a1_ := ts_ne (n := 1) hn1 (by decide)
      have a2_ := ts_ne (n := 2) hn2 (by decide)
      have a3_ := ts_ne (n := 3) hn3 (by decide)
      refine lv_tableOut (tgt := 92) hx hb dX9_told_35 (by omega) rfl ?_
      refine lv_iconst (v := (-1 : Int32)) hx hb dX9_told_92 kc_m1 ?_
      obtain rfl := Option.some.inj hf
      exact m_iret C hr hlk hI dX9_told_93
    · replace hf := it hf hc
      refine lv_iconst (v := (-1 : Int32)) hx hb dX9_told_32 kc_m1 ?_
      obtain rfl := Option.some.inj hf
      exact m_iret C hr hlk hI dX9_told_33
  · replace hf := it hf hc
    refine lv_iconst (v := (-1 : Int32)) hx hb dX9_told_11 kc_m1 ?_
    obtain rfl := Option.some.inj hf
    exact m_iret C hr hlk hI dX9_told_12

theorem dX9_state_0 : decode cX9_state 0 = .ok (.aload_n 0, 1) := by decide +kernel
theorem dX9_state_1 : decode cX9_state 1 = .ok (.getfield 12, 3) := by decide +kernel
theorem dX9_state_4 : decode cX9_state 4 = .ok (.iload_n 1, 1) := by decide +kernel
theorem dX9_state_5 : decode cX9_state 5 = .ok (.invokevirtual 85, 3) := by decide +kernel
theorem dX9_state_8 : decode cX9_state 8 = .ok (.ifCond .eq 21, 3) := by decide +kernel
theorem dX9_state_11 : decode cX9_state 11 = .ok (.aload_n 0, 1) := by decide +kernel
theorem dX9_state_12 : decode cX9_state 12 = .ok (.getfield 12, 3) := by decide +kernel
theorem dX9_state_15 : decode cX9_state 15 = .ok (.iload_n 1, 1) := by decide +kernel
theorem dX9_state_16 : decode cX9_state 16 = .ok (.invokevirtual 149, 3) := by decide +kernel
theorem dX9_state_19 : decode cX9_state 19 = .ok (.getfield 152, 3) := by decide +kernel
theorem dX9_state_22 : decode cX9_state 22 = .ok (.iload_n 1, 1) := by decide +kernel
theorem dX9_state_23 : decode cX9_state 23 = .ok (.invokevirtual 156, 3) := by decide +kernel
theorem dX9_state_26 : decode cX9_state 26 = .ok (.goto 4, 3) := by decide +kernel
theorem dX9_state_29 : decode cX9_state 29 = .ok (.iconst (-1), 1) := by decide +kernel
theorem dX9_state_30 : decode cX9_state 30 = .ok (.ireturn, 1) := by decide +kernel
def f_X9_state (μ : Mm) (p1 : Int32) : Option Int32 :=
 (f_X7_hasTask μ 0 p1).bind fun q7 =>
 if q7 = 0 then
 some (-1 : Int32)
 else
 (f_X7_homeLane μ 0 p1).bind fun q9 =>
 (f_X4_stateOf μ q9 p1).bind fun q11 =>
 some q11
set_option maxHeartbeats 4000000 in
set_option maxRecDepth 100000 in
theorem c_X9_state (l : Launch) (E : En) {μ : Mm} {p1 : Int32} (h0 : l9 E 0) {z : Int32} (hf : f_X9_state μ p1 = some z) : Met l yX9_state (wt yX9_state cX9_state 2 (some .int)) { frames := 2, cells := 0, slots := 0, locals := 42 } (Pm E [.ref (ad E 900 0), .int p1] μ) (Qm E (some (.int z)) μ) 0 0 (Ad E) := by
  unfold f_X9_state at hf
  refine met_of (cc := cX9_state) (nL := 2) (ret := (some .int)) (by decide) _ (Nat.le_of_ble_eq_true rfl) ?_
  intro p e s m below meth c C hr hlk hI ls hl
  have hx := C.1.1
  have hb := C.1.2.1
  have hl : lv_has ls 2 [(0, .ref (ad E 900 0)), (1, .int p1)] := hl
  refine lv_aload_n hx hb dX9_state_0 rfl (lv_at hl 0 rfl) ?_
  refine gf_9_0 C hI h0.1 fl_X9_12 dX9_state_1 ?_
  refine lv_iload_n hx hb dX9_state_4 rfl (lv_at hl 1 rfl) ?_
  obtain ⟨q7, e8, hf⟩ := ob hf
  refine mcV (As := [.int p1]) (rest := []) C hI (c_X7_hasTask l E h0.2.2.2.2.1 e8) ml_X9_85 kv_X7_hasTask (m_recv C hI h0.2.2.2.2.1.1 (ce_700 E _ _ _) rfl) rfl rfl ⟨Nat.le_of_ble_eq_true rfl, Nat.le_of_ble_eq_true rfl⟩ ⟨Nat.zero_le _, Nat.zero_le _⟩ rfl rfl hl.1 (Nat.le_of_ble_eq_true rfl) dX9_state_5 (st1 := [.int q7]) rfl (fun H locs hI => ?_)
  refine lv_if_eq (tgt := 29) hx hb dX9_state_8 rfl (fun hc => ?_) (fun hc => ?_)
  · replace hf := it hf hc
    refine lv_iconst (v := (-1 : Int32)) hx hb dX9_state_29 kc_m1 ?_
    obtain rfl := Option.some.inj hf
    exact m_iret C hr hlk hI dX9_state_30
  · replace hf := ie hf hc
    refine lv_aload_n hx hb dX9_state_11 rfl (lv_at hl 0 rfl) ?_
    refine gf_9_0 C hI h0.1 fl_X9_12 dX9_state_12 ?_
    refine lv_iload_n hx hb dX9_state_15 rfl (lv_at hl 1 rfl) ?_
    obtain ⟨q9, e10, hf⟩ := ob hf
    refine mcV (As := [.int p1]) (rest := []) C hI (c_X7_homeLane l E h0.2.2.2.2.1 e10) ml_X9_149 kv_X7_homeLane (m_recv C hI h0.2.2.2.2.1.1 (ce_700 E _ _ _) rfl) rfl rfl ⟨Nat.le_of_ble_eq_true rfl, Nat.le_of_ble_eq_true rfl⟩ ⟨Nat.zero_le _, Nat.zero_le _⟩ rfl rfl hl.1 (Nat.le_of_ble_eq_true rfl) dX9_state_16 (st1 := [.ref (ad E 200 q9)]) rfl (fun H locs hI => ?_)
    refine gf_2_4 C hI (lr_X7_homeLane h0.2.2.2.2.1 e10).1 fl_X9_152 dX9_state_19 ?_
    refine lv_iload_n hx hb dX9_state_22 rfl (lv_at hl 1 rfl) ?_
    obtain ⟨q11, e12, hf⟩ := ob hf
    refine mcV (As := [.int p1]) (rest := []) C hI (c_X4_stateOf l E ((lr_X7_homeLane h0.2.2.2.2.1 e10).2.2.2.2.2) e12) ml_X9_156 kv_X4_stateOf (m_recv C hI ((lr_X7_homeLane h0.2.2.2.2.1 e10).2.2.2.2.2).1 (ce_400 E _ _ _) rfl) rfl rfl ⟨Nat.le_of_ble_eq_true rfl, Nat.le_of_ble_eq_true rfl⟩ ⟨Nat.zero_le _, Nat.zero_le _⟩ rfl rfl hl.1 (Nat.le_of_ble_eq_true rfl) dX9_state_23 (st1 := [.int q11]) rfl (fun H locs hI => ?_)
    refine lv_goto (tgt := 30) hx hb dX9_state_26 rfl ?_
    obtain rfl := Option.some.inj hf
    exact m_iret C hr hlk hI dX9_state_30

theorem dX9_holder_0 : decode cX9_holder 0 = .ok (.aload_n 0, 1) := by decide +kernel
theorem dX9_holder_1 : decode cX9_holder 1 = .ok (.getfield 12, 3) := by decide +kernel
theorem dX9_holder_4 : decode cX9_holder 4 = .ok (.iload_n 1, 1) := by decide +kernel
theorem dX9_holder_5 : decode cX9_holder 5 = .ok (.invokevirtual 89, 3) := by decide +kernel
theorem dX9_holder_8 : decode cX9_holder 8 = .ok (.ifCond .eq 12, 3) := by decide +kernel
theorem dX9_holder_11 : decode cX9_holder 11 = .ok (.iload_n 2, 1) := by decide +kernel
theorem dX9_holder_12 : decode cX9_holder 12 = .ok (.ifCond .lt 8, 3) := by decide +kernel
theorem dX9_holder_15 : decode cX9_holder 15 = .ok (.iload_n 2, 1) := by decide +kernel
theorem dX9_holder_16 : decode cX9_holder 16 = .ok (.iconst 4, 1) := by decide +kernel
theorem dX9_holder_17 : decode cX9_holder 17 = .ok (.if_icmp .lt 5, 3) := by decide +kernel
theorem dX9_holder_20 : decode cX9_holder 20 = .ok (.iconst (-1), 1) := by decide +kernel
theorem dX9_holder_21 : decode cX9_holder 21 = .ok (.ireturn, 1) := by decide +kernel
theorem dX9_holder_22 : decode cX9_holder 22 = .ok (.aload_n 0, 1) := by decide +kernel
theorem dX9_holder_23 : decode cX9_holder 23 = .ok (.getfield 12, 3) := by decide +kernel
theorem dX9_holder_26 : decode cX9_holder 26 = .ok (.iload_n 1, 1) := by decide +kernel
theorem dX9_holder_27 : decode cX9_holder 27 = .ok (.invokevirtual 128, 3) := by decide +kernel
theorem dX9_holder_30 : decode cX9_holder 30 = .ok (.getfield 152, 3) := by decide +kernel
theorem dX9_holder_33 : decode cX9_holder 33 = .ok (.iload_n 2, 1) := by decide +kernel
theorem dX9_holder_34 : decode cX9_holder 34 = .ok (.invokevirtual 161, 3) := by decide +kernel
theorem dX9_holder_37 : decode cX9_holder 37 = .ok (.ireturn, 1) := by decide +kernel
def f_X9_holder (μ : Mm) (p1 : Int32) (p2 : Int32) : Option Int32 :=
 (f_X7_hasProcessor μ 0 p1).bind fun q7 =>
 if q7 = 0 then
 some (-1 : Int32)
 else
 if p2 < 0 then
 some (-1 : Int32)
 else
 if p2 < (4 : Int32) then
 (f_X7_laneOf μ 0 p1).bind fun q9 =>
 (f_X4_holderOf μ q9 p2).bind fun q11 =>
 some q11
 else
 some (-1 : Int32)
set_option maxHeartbeats 4000000 in
set_option maxRecDepth 100000 in
theorem c_X9_holder (l : Launch) (E : En) {μ : Mm} {p1 : Int32} {p2 : Int32} (h0 : l9 E 0) {z : Int32} (hf : f_X9_holder μ p1 p2 = some z) : Met l yX9_holder (wt yX9_holder cX9_holder 3 (some .int)) { frames := 1, cells := 0, slots := 0, locals := 21 } (Pm E [.ref (ad E 900 0), .int p1, .int p2] μ) (Qm E (some (.int z)) μ) 0 0 (Ad E) := by
  unfold f_X9_holder at hf
  refine met_of (cc := cX9_holder) (nL := 3) (ret := (some .int)) (by decide) _ (Nat.le_of_ble_eq_true rfl) ?_
  intro p e s m below meth c C hr hlk hI ls hl
  have hx := C.1.1
  have hb := C.1.2.1
  have hl : lv_has ls 3 [(0, .ref (ad E 900 0)), (1, .int p1), (2, .int p2)] := hl
  refine lv_aload_n hx hb dX9_holder_0 rfl (lv_at hl 0 rfl) ?_
  refine gf_9_0 C hI h0.1 fl_X9_12 dX9_holder_1 ?_
  refine lv_iload_n hx hb dX9_holder_4 rfl (lv_at hl 1 rfl) ?_
  obtain ⟨q7, e8, hf⟩ := ob hf
  refine mcV (As := [.int p1]) (rest := []) C hI (c_X7_hasProcessor l E h0.2.2.2.2.1 e8) ml_X9_89 kv_X7_hasProcessor (m_recv C hI h0.2.2.2.2.1.1 (ce_700 E _ _ _) rfl) rfl rfl ⟨Nat.le_of_ble_eq_true rfl, Nat.le_of_ble_eq_true rfl⟩ ⟨Nat.zero_le _, Nat.zero_le _⟩ rfl rfl hl.1 (Nat.le_of_ble_eq_true rfl) dX9_holder_5 (st1 := [.int q7]) rfl (fun H locs hI => ?_)
  refine lv_if_eq (tgt := 20) hx hb dX9_holder_8 rfl (fun hc => ?_) (fun hc => ?_)
  · replace hf := it hf hc
    refine lv_iconst (v := (-1 : Int32)) hx hb dX9_holder_20 kc_m1 ?_
    obtain rfl := Option.some.inj hf
    exact m_iret C hr hlk hI dX9_holder_21
  · replace hf := ie hf hc
    refine lv_iload_n hx hb dX9_holder_11 rfl (lv_at hl 2 rfl) ?_
    refine lv_if_lt (tgt := 20) hx hb dX9_holder_12 rfl (fun hc => ?_) (fun hc => ?_)
    · replace hf := it hf hc
      refine lv_iconst (v := (-1 : Int32)) hx hb dX9_holder_20 kc_m1 ?_
      obtain rfl := Option.some.inj hf
      exact m_iret C hr hlk hI dX9_holder_21
    · replace hf := ie hf hc
      refine lv_iload_n hx hb dX9_holder_15 rfl (lv_at hl 2 rfl) ?_
      refine lv_iconst (v := (4 : Int32)) hx hb dX9_holder_16 kc_4 ?_
      refine lv_icmp_lt (tgt := 22) hx hb dX9_holder_17 rfl (fun hc => ?_) (fun hc => ?_)
      · replace hf := it hf hc
        refine lv_aload_n hx hb dX9_holder_22 rfl (lv_at hl 0 rfl) ?_
        refine gf_9_0 C hI h0.1 fl_X9_12 dX9_holder_23 ?_
        refine lv_iload_n hx hb dX9_holder_26 rfl (lv_at hl 1 rfl) ?_
        obtain ⟨q9, e10, hf⟩ := ob hf
        refine mcV (As := [.int p1]) (rest := []) C hI (c_X7_laneOf l E h0.2.2.2.2.1 e10) ml_X9_128 kv_X7_laneOf (m_recv C hI h0.2.2.2.2.1.1 (ce_700 E _ _ _) rfl) rfl rfl ⟨Nat.le_of_ble_eq_true rfl, Nat.le_of_ble_eq_true rfl⟩ ⟨Nat.zero_le _, Nat.zero_le _⟩ rfl rfl hl.1 (Nat.le_of_ble_eq_true rfl) dX9_holder_27 (st1 := [.ref (ad E 200 q9)]) rfl (fun H locs hI => ?_)
        refine gf_2_4 C hI (lr_X7_laneOf h0.2.2.2.2.1 e10).1 fl_X9_152 dX9_holder_30 ?_
        refine lv_iload_n hx hb dX9_holder_33 rfl (lv_at hl 2 rfl) ?_
        obtain ⟨q11, e12, hf⟩ := ob hf
        refine mcV (As := [.int p2]) (rest := []) C hI (c_X4_holderOf l E ((lr_X7_laneOf h0.2.2.2.2.1 e10).2.2.2.2.2) e12) ml_X9_161 kv_X4_holderOf (m_recv C hI ((lr_X7_laneOf h0.2.2.2.2.1 e10).2.2.2.2.2).1 (ce_400 E _ _ _) rfl) rfl rfl ⟨Nat.le_of_ble_eq_true rfl, Nat.le_of_ble_eq_true rfl⟩ ⟨Nat.zero_le _, Nat.zero_le _⟩ rfl rfl hl.1 (Nat.le_of_ble_eq_true rfl) dX9_holder_34 (st1 := [.int q11]) rfl (fun H locs hI => ?_)
        obtain rfl := Option.some.inj hf
        exact m_iret C hr hlk hI dX9_holder_37
      · replace hf := ie hf hc
        refine lv_iconst (v := (-1 : Int32)) hx hb dX9_holder_20 kc_m1 ?_
        obtain rfl := Option.some.inj hf
        exact m_iret C hr hlk hI dX9_holder_21

theorem dX9_isSumWhat_0 : decode cX9_isSumWhat 0 = .ok (.iload_n 0, 1) := by decide +kernel
theorem dX9_isSumWhat_1 : decode cX9_isSumWhat 1 = .ok (.ifCond .lt 12, 3) := by decide +kernel
theorem dX9_isSumWhat_4 : decode cX9_isSumWhat 4 = .ok (.iload_n 0, 1) := by decide +kernel
theorem dX9_isSumWhat_5 : decode cX9_isSumWhat 5 = .ok (.iconst 5, 1) := by decide +kernel
theorem dX9_isSumWhat_6 : decode cX9_isSumWhat 6 = .ok (.if_icmp .gt 7, 3) := by decide +kernel
theorem dX9_isSumWhat_9 : decode cX9_isSumWhat 9 = .ok (.iconst 1, 1) := by decide +kernel
theorem dX9_isSumWhat_10 : decode cX9_isSumWhat 10 = .ok (.goto 4, 3) := by decide +kernel
theorem dX9_isSumWhat_13 : decode cX9_isSumWhat 13 = .ok (.iconst 0, 1) := by decide +kernel
theorem dX9_isSumWhat_14 : decode cX9_isSumWhat 14 = .ok (.ireturn, 1) := by decide +kernel
def f_X9_isSumWhat (μ : Mm) (p0 : Int32) : Option Int32 :=
 if p0 < 0 then
 some (0 : Int32)
 else
 if (5 : Int32) < p0 then
 some (0 : Int32)
 else
 some (1 : Int32)
set_option maxHeartbeats 4000000 in
set_option maxRecDepth 100000 in
theorem c_X9_isSumWhat (l : Launch) (E : En) {μ : Mm} {p0 : Int32} {z : Int32} (hf : f_X9_isSumWhat μ p0 = some z) : Met l yX9_isSumWhat (wt yX9_isSumWhat cX9_isSumWhat 1 (some .boolean)) { frames := 0, cells := 0, slots := 0, locals := 0 } (Pm E [.int p0] μ) (Qm E (some (.int z)) μ) 0 0 (Ad E) := by
  unfold f_X9_isSumWhat at hf
  refine met_of (cc := cX9_isSumWhat) (nL := 1) (ret := (some .boolean)) (by decide) _ (Nat.le_of_ble_eq_true rfl) ?_
  intro p e s m below meth c C hr hlk hI ls hl
  have hx := C.1.1
  have hb := C.1.2.1
  have hl : lv_has ls 1 [(0, .int p0)] := hl
  refine lv_iload_n hx hb dX9_isSumWhat_0 rfl (lv_at hl 0 rfl) ?_
  refine lv_if_lt (tgt := 13) hx hb dX9_isSumWhat_1 rfl (fun hc => ?_) (fun hc => ?_)
  · replace hf := it hf hc
    refine lv_iconst (v := (0 : Int32)) hx hb dX9_isSumWhat_13 kc_0 ?_
    obtain rfl := Option.some.inj hf
    exact m_zret C hr hlk hI (by decide) dX9_isSumWhat_14
  · replace hf := ie hf hc
    refine lv_iload_n hx hb dX9_isSumWhat_4 rfl (lv_at hl 0 rfl) ?_
    refine lv_iconst (v := (5 : Int32)) hx hb dX9_isSumWhat_5 kc_5 ?_
    refine lv_icmp_gt (tgt := 13) hx hb dX9_isSumWhat_6 rfl (fun hc => ?_) (fun hc => ?_)
    · replace hf := it hf hc
      refine lv_iconst (v := (0 : Int32)) hx hb dX9_isSumWhat_13 kc_0 ?_
      obtain rfl := Option.some.inj hf
      exact m_zret C hr hlk hI (by decide) dX9_isSumWhat_14
    · replace hf := ie hf hc
      refine lv_iconst (v := (1 : Int32)) hx hb dX9_isSumWhat_9 kc_1 ?_
      refine lv_goto (tgt := 14) hx hb dX9_isSumWhat_10 rfl ?_
      obtain rfl := Option.some.inj hf
      exact m_zret C hr hlk hI (by decide) dX9_isSumWhat_14

theorem dX9_isLaw_0 : decode cX9_isLaw 0 = .ok (.iload 4, 2) := by decide +kernel
theorem dX9_isLaw_2 : decode cX9_isLaw 2 = .ok (.ifCond .ge 5, 3) := by decide +kernel
theorem dX9_isLaw_5 : decode cX9_isLaw 5 = .ok (.iconst 0, 1) := by decide +kernel
theorem dX9_isLaw_6 : decode cX9_isLaw 6 = .ok (.ireturn, 1) := by decide +kernel
theorem dX9_isLaw_7 : decode cX9_isLaw 7 = .ok (.iload_n 1, 1) := by decide +kernel
theorem dX9_isLaw_8 : decode cX9_isLaw 8 = .ok (.tableswitch 105 0 3 #[32, 53, 32, 79], 32) := by decide +kernel
theorem dX9_isLaw_40 : decode cX9_isLaw 40 = .ok (.aload_n 0, 1) := by decide +kernel
theorem dX9_isLaw_41 : decode cX9_isLaw 41 = .ok (.getfield 12, 3) := by decide +kernel
theorem dX9_isLaw_44 : decode cX9_isLaw 44 = .ok (.iload_n 2, 1) := by decide +kernel
theorem dX9_isLaw_45 : decode cX9_isLaw 45 = .ok (.invokevirtual 85, 3) := by decide +kernel
theorem dX9_isLaw_48 : decode cX9_isLaw 48 = .ok (.ifCond .eq 11, 3) := by decide +kernel
theorem dX9_isLaw_51 : decode cX9_isLaw 51 = .ok (.iload_n 3, 1) := by decide +kernel
theorem dX9_isLaw_52 : decode cX9_isLaw 52 = .ok (.ifCond .ne 7, 3) := by decide +kernel
theorem dX9_isLaw_55 : decode cX9_isLaw 55 = .ok (.iconst 1, 1) := by decide +kernel
theorem dX9_isLaw_56 : decode cX9_isLaw 56 = .ok (.goto 4, 3) := by decide +kernel
theorem dX9_isLaw_59 : decode cX9_isLaw 59 = .ok (.iconst 0, 1) := by decide +kernel
theorem dX9_isLaw_60 : decode cX9_isLaw 60 = .ok (.ireturn, 1) := by decide +kernel
theorem dX9_isLaw_61 : decode cX9_isLaw 61 = .ok (.aload_n 0, 1) := by decide +kernel
theorem dX9_isLaw_62 : decode cX9_isLaw 62 = .ok (.getfield 12, 3) := by decide +kernel
theorem dX9_isLaw_65 : decode cX9_isLaw 65 = .ok (.iload_n 2, 1) := by decide +kernel
theorem dX9_isLaw_66 : decode cX9_isLaw 66 = .ok (.invokevirtual 89, 3) := by decide +kernel
theorem dX9_isLaw_69 : decode cX9_isLaw 69 = .ok (.ifCond .eq 16, 3) := by decide +kernel
theorem dX9_isLaw_72 : decode cX9_isLaw 72 = .ok (.iload_n 3, 1) := by decide +kernel
theorem dX9_isLaw_73 : decode cX9_isLaw 73 = .ok (.ifCond .lt 12, 3) := by decide +kernel
theorem dX9_isLaw_76 : decode cX9_isLaw 76 = .ok (.iload_n 3, 1) := by decide +kernel
theorem dX9_isLaw_77 : decode cX9_isLaw 77 = .ok (.iconst 4, 1) := by decide +kernel
theorem dX9_isLaw_78 : decode cX9_isLaw 78 = .ok (.if_icmp .ge 7, 3) := by decide +kernel
theorem dX9_isLaw_81 : decode cX9_isLaw 81 = .ok (.iconst 1, 1) := by decide +kernel
theorem dX9_isLaw_82 : decode cX9_isLaw 82 = .ok (.goto 4, 3) := by decide +kernel
theorem dX9_isLaw_85 : decode cX9_isLaw 85 = .ok (.iconst 0, 1) := by decide +kernel
theorem dX9_isLaw_86 : decode cX9_isLaw 86 = .ok (.ireturn, 1) := by decide +kernel
theorem dX9_isLaw_87 : decode cX9_isLaw 87 = .ok (.aload_n 0, 1) := by decide +kernel
theorem dX9_isLaw_88 : decode cX9_isLaw 88 = .ok (.getfield 12, 3) := by decide +kernel
theorem dX9_isLaw_91 : decode cX9_isLaw 91 = .ok (.iload_n 2, 1) := by decide +kernel
theorem dX9_isLaw_92 : decode cX9_isLaw 92 = .ok (.invokevirtual 89, 3) := by decide +kernel
theorem dX9_isLaw_95 : decode cX9_isLaw 95 = .ok (.ifCond .eq 16, 3) := by decide +kernel
theorem dX9_isLaw_98 : decode cX9_isLaw 98 = .ok (.iload_n 3, 1) := by decide +kernel
theorem dX9_isLaw_99 : decode cX9_isLaw 99 = .ok (.ifCond .ne 12, 3) := by decide +kernel
theorem dX9_isLaw_102 : decode cX9_isLaw 102 = .ok (.iload 4, 2) := by decide +kernel
theorem dX9_isLaw_104 : decode cX9_isLaw 104 = .ok (.ifCond .ne 7, 3) := by decide +kernel
theorem dX9_isLaw_107 : decode cX9_isLaw 107 = .ok (.iconst 1, 1) := by decide +kernel
theorem dX9_isLaw_108 : decode cX9_isLaw 108 = .ok (.goto 4, 3) := by decide +kernel
theorem dX9_isLaw_111 : decode cX9_isLaw 111 = .ok (.iconst 0, 1) := by decide +kernel
theorem dX9_isLaw_112 : decode cX9_isLaw 112 = .ok (.ireturn, 1) := by decide +kernel
theorem dX9_isLaw_113 : decode cX9_isLaw 113 = .ok (.iconst 0, 1) := by decide +kernel
theorem dX9_isLaw_114 : decode cX9_isLaw 114 = .ok (.ireturn, 1) := by decide +kernel
def f_X9_isLaw (μ : Mm) (p1 : Int32) (p2 : Int32) (p3 : Int32) (p4 : Int32) : Option Int32 :=
 if 0 ≤ p4 then
 if p1 = (0 : Int32) then
 (f_X7_hasTask μ 0 p2).bind fun q7 =>
 if q7 = 0 then
 some (0 : Int32)
 else
 if p3 = 0 then
 some (1 : Int32)
 else
 some (0 : Int32)
 else
 if p1 = (1 : Int32) then
 (f_X7_hasProcessor μ 0 p2).bind fun q9 =>
 if q9 = 0 then
 some (0 : Int32)
 else
 if p3 < 0 then
 some (0 : Int32)
 else
 if (4 : Int32) ≤ p3 then
 some (0 : Int32)
 else
 some (1 : Int32)
 else
 if p1 = (2 : Int32) then
 (f_X7_hasTask μ 0 p2).bind fun q11 =>
 if q11 = 0 then
 some (0 : Int32)
 else
 if p3 = 0 then
 some (1 : Int32)
 else
 some (0 : Int32)
 else
 if p1 = (3 : Int32) then
 (f_X7_hasProcessor μ 0 p2).bind fun q13 =>
 if q13 = 0 then
 some (0 : Int32)
 else
 if p3 = 0 then
 if p4 = 0 then
 some (1 : Int32)
 else
 some (0 : Int32)
 else
 some (0 : Int32)
 else
 some (0 : Int32)
 else
 some (0 : Int32)
set_option maxHeartbeats 4000000 in
set_option maxRecDepth 100000 in
theorem c_X9_isLaw (l : Launch) (E : En) {μ : Mm} {p1 : Int32} {p2 : Int32} {p3 : Int32} {p4 : Int32} (h0 : l9 E 0) {z : Int32} (hf : f_X9_isLaw μ p1 p2 p3 p4 = some z) : Met l yX9_isLaw (wt yX9_isLaw cX9_isLaw 5 (some .boolean)) { frames := 1, cells := 0, slots := 0, locals := 21 } (Pm E [.ref (ad E 900 0), .int p1, .int p2, .int p3, .int p4] μ) (Qm E (some (.int z)) μ) 0 0 (Ad E) := by
  unfold f_X9_isLaw at hf
  refine met_of (cc := cX9_isLaw) (nL := 5) (ret := (some .boolean)) (by decide) _ (Nat.le_of_ble_eq_true rfl) ?_
  intro p e s m below meth c C hr hlk hI ls hl
  have hx := C.1.1
  have hb := C.1.2.1
  have hl : lv_has ls 5 [(0, .ref (ad E 900 0)), (1, .int p1), (2, .int p2), (3, .int p3), (4, .int p4)] := hl
  refine lv_iload hx hb dX9_isLaw_0 (lv_at hl 4 rfl) ?_
  refine lv_if_ge (tgt := 7) hx hb dX9_isLaw_2 rfl (fun hc => ?_) (fun hc => ?_)
  · replace hf := it hf hc
    refine lv_iload_n hx hb dX9_isLaw_7 rfl (lv_at hl 1 rfl) ?_
    by_cases hn0 : p1 = (0 : Int32)
    · replace hf := it hf hn0
      refine lv_tableIn (tgt := 40) (off := 32) hx hb dX9_isLaw_8 (by rw [hn0]; decide) (by rw [hn0]; decide) (by rw [hn0]; rfl) rfl ?_
      refine lv_aload_n hx hb dX9_isLaw_40 rfl (lv_at hl 0 rfl) ?_
      refine gf_9_0 C hI h0.1 fl_X9_12 dX9_isLaw_41 ?_
      refine lv_iload_n hx hb dX9_isLaw_44 rfl (lv_at hl 2 rfl) ?_
      obtain ⟨q7, e8, hf⟩ := ob hf
      refine mcV (As := [.int p2]) (rest := []) C hI (c_X7_hasTask l E h0.2.2.2.2.1 e8) ml_X9_85 kv_X7_hasTask (m_recv C hI h0.2.2.2.2.1.1 (ce_700 E _ _ _) rfl) rfl rfl ⟨Nat.le_of_ble_eq_true rfl, Nat.le_of_ble_eq_true rfl⟩ ⟨Nat.zero_le _, Nat.zero_le _⟩ rfl rfl hl.1 (Nat.le_of_ble_eq_true rfl) dX9_isLaw_45 (st1 := [.int q7]) rfl (fun H locs hI => ?_)
      refine lv_if_eq (tgt := 59) hx hb dX9_isLaw_48 rfl (fun hc => ?_) (fun hc => ?_)
      · replace hf := it hf hc
        refine lv_iconst (v := (0 : Int32)) hx hb dX9_isLaw_59 kc_0 ?_
        obtain rfl := Option.some.inj hf
        exact m_zret C hr hlk hI (by decide) dX9_isLaw_60
      · replace hf := ie hf hc
        refine lv_iload_n hx hb dX9_isLaw_51 rfl (lv_at hl 3 rfl) ?_
        refine lv_if_ne (tgt := 59) hx hb dX9_isLaw_52 rfl (fun hc => ?_) (fun hc => ?_)
        · replace hf := ie hf hc
          refine lv_iconst (v := (0 : Int32)) hx hb dX9_isLaw_59 kc_0 ?_
          obtain rfl := Option.some.inj hf
          exact m_zret C hr hlk hI (by decide) dX9_isLaw_60
        · replace hf := it hf hc
          refine lv_iconst (v := (1 : Int32)) hx hb dX9_isLaw_55 kc_1 ?_
          refine lv_goto (tgt := 60) hx hb dX9_isLaw_56 rfl ?_
          obtain rfl := Option.some.inj hf
          exact m_zret C hr hlk hI (by decide) dX9_isLaw_60
    replace hf := ie hf hn0
    by_cases hn1 : p1 = (1 : Int32)
    · replace hf := it hf hn1
      refine lv_tableIn (tgt := 61) (off := 53) hx hb dX9_isLaw_8 (by rw [hn1]; decide) (by rw [hn1]; decide) (by rw [hn1]; rfl) rfl ?_
      refine lv_aload_n hx hb dX9_isLaw_61 rfl (lv_at hl 0 rfl) ?_
      refine gf_9_0 C hI h0.1 fl_X9_12 dX9_isLaw_62 ?_
      refine lv_iload_n hx hb dX9_isLaw_65 rfl (lv_at hl 2 rfl) ?_
      obtain ⟨q9, e10, hf⟩ := ob hf
      refine mcV (As := [.int p2]) (rest := []) C hI (c_X7_hasProcessor l E h0.2.2.2.2.1 e10) ml_X9_89 kv_X7_hasProcessor (m_recv C hI h0.2.2.2.2.1.1 (ce_700 E _ _ _) rfl) rfl rfl ⟨Nat.le_of_ble_eq_true rfl, Nat.le_of_ble_eq_true rfl⟩ ⟨Nat.zero_le _, Nat.zero_le _⟩ rfl rfl hl.1 (Nat.le_of_ble_eq_true rfl) dX9_isLaw_66 (st1 := [.int q9]) rfl (fun H locs hI => ?_)
      refine lv_if_eq (tgt := 85) hx hb dX9_isLaw_69 rfl (fun hc => ?_) (fun hc => ?_)
      · replace hf := it hf hc
        refine lv_iconst (v := (0 : Int32)) hx hb dX9_isLaw_85 kc_0 ?_
        obtain rfl := Option.some.inj hf
        exact m_zret C hr hlk hI (by decide) dX9_isLaw_86
      · replace hf := ie hf hc
        refine lv_iload_n hx hb dX9_isLaw_72 rfl (lv_at hl 3 rfl) ?_
        refine lv_if_lt (tgt := 85) hx hb dX9_isLaw_73 rfl (fun hc => ?_) (fun hc => ?_)
        · replace hf := it hf hc
          refine lv_iconst (v := (0 : Int32)) hx hb dX9_isLaw_85 kc_0 ?_
          obtain rfl := Option.some.inj hf
          exact m_zret C hr hlk hI (by decide) dX9_isLaw_86
        · replace hf := ie hf hc
          refine lv_iload_n hx hb dX9_isLaw_76 rfl (lv_at hl 3 rfl) ?_
          refine lv_iconst (v := (4 : Int32)) hx hb dX9_isLaw_77 kc_4 ?_
          refine lv_icmp_ge (tgt := 85) hx hb dX9_isLaw_78 rfl (fun hc => ?_) (fun hc => ?_)
          · replace hf := it hf hc
            refine lv_iconst (v := (0 : Int32)) hx hb dX9_isLaw_85 kc_0 ?_
            obtain rfl := Option.some.inj hf
            exact m_zret C hr hlk hI (by decide) dX9_isLaw_86
          · replace hf := ie hf hc
            refine lv_iconst (v := (1 : Int32)) hx hb dX9_isLaw_81 kc_1 ?_
            refine lv_goto (tgt := 86) hx hb dX9_isLaw_82 rfl ?_
            obtain rfl := Option.some.inj hf
            exact m_zret C hr hlk hI (by decide) dX9_isLaw_86
    replace hf := ie hf hn1
    by_cases hn2 : p1 = (2 : Int32)
    · replace hf := it hf hn2
      refine lv_tableIn (tgt := 40) (off := 32) hx hb dX9_isLaw_8 (by rw [hn2]; decide) (by rw [hn2]; decide) (by rw [hn2]; rfl) rfl ?_
      refine lv_aload_n hx hb dX9_isLaw_40 rfl (lv_at hl 0 rfl) ?_
      refine gf_9_0 C hI h0.1 fl_X9_12 dX9_isLaw_41 ?_
      refine lv_iload_n hx hb dX9_isLaw_44 rfl (lv_at hl 2 rfl) ?_
      obtain ⟨q11, e12, hf⟩ := ob hf
      refine mcV (As := [.int p2]) (rest := []) C hI (c_X7_hasTask l E h0.2.2.2.2.1 e12) ml_X9_85 kv_X7_hasTask (m_recv C hI h0.2.2.2.2.1.1 (ce_700 E _ _ _) rfl) rfl rfl ⟨Nat.le_of_ble_eq_true rfl, Nat.le_of_ble_eq_true rfl⟩ ⟨Nat.zero_le _, Nat.zero_le _⟩ rfl rfl hl.1 (Nat.le_of_ble_eq_true rfl) dX9_isLaw_45 (st1 := [.int q11]) rfl (fun H locs hI => ?_)
      refine lv_if_eq (tgt := 59) hx hb dX9_isLaw_48 rfl (fun hc => ?_) (fun hc => ?_)
      · replace hf := it hf hc
        refine lv_iconst (v := (0 : Int32)) hx hb dX9_isLaw_59 kc_0 ?_
        obtain rfl := Option.some.inj hf
        exact m_zret C hr hlk hI (by decide) dX9_isLaw_60
      · replace hf := ie hf hc
        refine lv_iload_n hx hb dX9_isLaw_51 rfl (lv_at hl 3 rfl) ?_
        refine lv_if_ne (tgt := 59) hx hb dX9_isLaw_52 rfl (fun hc => ?_) (fun hc => ?_)
        · replace hf := ie hf hc
          refine lv_iconst (v := (0 : Int32)) hx hb dX9_isLaw_59 kc_0 ?_
          obtain rfl := Option.some.inj hf
          exact m_zret C hr hlk hI (by decide) dX9_isLaw_60
        · replace hf := it hf hc
          refine lv_iconst (v := (1 : Int32)) hx hb dX9_isLaw_55 kc_1 ?_
          refine lv_goto (tgt := 60) hx hb dX9_isLaw_56 rfl ?_
          obtain rfl := Option.some.inj hf
          exact m_zret C hr hlk hI (by decide) dX9_isLaw_60
    replace hf := ie hf hn2
    by_cases hn3 : p1 = (3 : Int32)
    · replace hf := it hf hn3
      refine lv_tableIn (tgt := 87) (off := 79) hx hb dX9_isLaw_8 (by rw [hn3]; decide) (by rw [hn3]; decide) (by rw [hn3]; rfl) rfl ?_
      refine lv_aload_n hx hb dX9_isLaw_87 rfl (lv_at hl 0 rfl) ?_
      refine gf_9_0 C hI h0.1 fl_X9_12 dX9_isLaw_88 ?_
      refine lv_iload_n hx hb dX9_isLaw_91 rfl (lv_at hl 2 rfl) ?_
      obtain ⟨q13, e14, hf⟩ := ob hf
      refine mcV (As := [.int p2]) (rest := []) C hI (c_X7_hasProcessor l E h0.2.2.2.2.1 e14) ml_X9_89 kv_X7_hasProcessor (m_recv C hI h0.2.2.2.2.1.1 (ce_700 E _ _ _) rfl) rfl rfl ⟨Nat.le_of_ble_eq_true rfl, Nat.le_of_ble_eq_true rfl⟩ ⟨Nat.zero_le _, Nat.zero_le _⟩ rfl rfl hl.1 (Nat.le_of_ble_eq_true rfl) dX9_isLaw_92 (st1 := [.int q13]) rfl (fun H locs hI => ?_)
      refine lv_if_eq (tgt := 111) hx hb dX9_isLaw_95 rfl (fun hc => ?_) (fun hc => ?_)
      · replace hf := it hf hc
        refine lv_iconst (v := (0 : Int32)) hx hb dX9_isLaw_111 kc_0 ?_
        obtain rfl := Option.some.inj hf
        exact m_zret C hr hlk hI (by decide) dX9_isLaw_112
      · replace hf := ie hf hc
        refine lv_iload_n hx hb dX9_isLaw_98 rfl (lv_at hl 3 rfl) ?_
        refine lv_if_ne (tgt := 111) hx hb dX9_isLaw_99 rfl (fun hc => ?_) (fun hc => ?_)
        · replace hf := ie hf hc
          refine lv_iconst (v := (0 : Int32)) hx hb dX9_isLaw_111 kc_0 ?_
          obtain rfl := Option.some.inj hf
          exact m_zret C hr hlk hI (by decide) dX9_isLaw_112
        · replace hf := it hf hc
          refine lv_iload hx hb dX9_isLaw_102 (lv_at hl 4 rfl) ?_
          refine lv_if_ne (tgt := 111) hx hb dX9_isLaw_104 rfl (fun hc => ?_) (fun hc => ?_)
          · replace hf := ie hf hc
            refine lv_iconst (v := (0 : Int32)) hx hb dX9_isLaw_111 kc_0 ?_
            obtain rfl := Option.some.inj hf
            exact m_zret C hr hlk hI (by decide) dX9_isLaw_112
          · replace hf := it hf hc
            refine lv_iconst (v := (1 : Int32)) hx hb dX9_isLaw_107 kc_1 ?_
            refine lv_goto (tgt := 112) hx hb dX9_isLaw_108 rfl ?_
            obtain rfl := Option.some.inj hf
            exact m_zret C hr hlk hI (by decide) dX9_isLaw_112
    replace hf := ie hf hn3
    have a0_ := ts_ne (n := 0) hn0 (by decide)
    have a1_ := ts_ne (n := 1) hn1 (by decide)
    have a2_ := ts_ne (n := 2) hn2 (by decide)
    have a3_ := ts_ne (n := 3) hn3 (by decide)
    refine lv_tableOut (tgt := 113) hx hb dX9_isLaw_8 (by omega) rfl ?_
    refine lv_iconst (v := (0 : Int32)) hx hb dX9_isLaw_113 kc_0 ?_
    obtain rfl := Option.some.inj hf
    exact m_zret C hr hlk hI (by decide) dX9_isLaw_114
  · replace hf := ie hf hc
    refine lv_iconst (v := (0 : Int32)) hx hb dX9_isLaw_5 kc_0 ?_
    obtain rfl := Option.some.inj hf
    exact m_zret C hr hlk hI (by decide) dX9_isLaw_6

theorem dX9_count_0 : decode cX9_count 0 = .ok (.iload_n 1, 1) := by decide +kernel
theorem dX9_count_1 : decode cX9_count 1 = .ok (.tableswitch 93 0 6 #[43, 51, 59, 67, 75, 83, 88], 43) := by decide +kernel
theorem dX9_count_44 : decode cX9_count 44 = .ok (.aload_n 0, 1) := by decide +kernel
theorem dX9_count_45 : decode cX9_count 45 = .ok (.getfield 12, 3) := by decide +kernel
theorem dX9_count_48 : decode cX9_count 48 = .ok (.getfield 418, 3) := by decide +kernel
theorem dX9_count_51 : decode cX9_count 51 = .ok (.ireturn, 1) := by decide +kernel
theorem dX9_count_52 : decode cX9_count 52 = .ok (.aload_n 0, 1) := by decide +kernel
theorem dX9_count_53 : decode cX9_count 53 = .ok (.getfield 12, 3) := by decide +kernel
theorem dX9_count_56 : decode cX9_count 56 = .ok (.getfield 421, 3) := by decide +kernel
theorem dX9_count_59 : decode cX9_count 59 = .ok (.ireturn, 1) := by decide +kernel
theorem dX9_count_60 : decode cX9_count 60 = .ok (.aload_n 0, 1) := by decide +kernel
theorem dX9_count_61 : decode cX9_count 61 = .ok (.getfield 12, 3) := by decide +kernel
theorem dX9_count_64 : decode cX9_count 64 = .ok (.getfield 424, 3) := by decide +kernel
theorem dX9_count_67 : decode cX9_count 67 = .ok (.ireturn, 1) := by decide +kernel
theorem dX9_count_68 : decode cX9_count 68 = .ok (.aload_n 0, 1) := by decide +kernel
theorem dX9_count_69 : decode cX9_count 69 = .ok (.getfield 12, 3) := by decide +kernel
theorem dX9_count_72 : decode cX9_count 72 = .ok (.invokevirtual 92, 3) := by decide +kernel
theorem dX9_count_75 : decode cX9_count 75 = .ok (.ireturn, 1) := by decide +kernel
theorem dX9_count_76 : decode cX9_count 76 = .ok (.aload_n 0, 1) := by decide +kernel
theorem dX9_count_77 : decode cX9_count 77 = .ok (.getfield 26, 3) := by decide +kernel
theorem dX9_count_80 : decode cX9_count 80 = .ok (.getfield 125, 3) := by decide +kernel
theorem dX9_count_83 : decode cX9_count 83 = .ok (.ireturn, 1) := by decide +kernel
theorem dX9_count_84 : decode cX9_count 84 = .ok (.aload_n 0, 1) := by decide +kernel
theorem dX9_count_85 : decode cX9_count 85 = .ok (.getfield 64, 3) := by decide +kernel
theorem dX9_count_88 : decode cX9_count 88 = .ok (.ireturn, 1) := by decide +kernel
theorem dX9_count_89 : decode cX9_count 89 = .ok (.aload_n 0, 1) := by decide +kernel
theorem dX9_count_90 : decode cX9_count 90 = .ok (.getfield 68, 3) := by decide +kernel
theorem dX9_count_93 : decode cX9_count 93 = .ok (.ireturn, 1) := by decide +kernel
theorem dX9_count_94 : decode cX9_count 94 = .ok (.iload_n 1, 1) := by decide +kernel
theorem dX9_count_95 : decode cX9_count 95 = .ok (.bipush 10, 2) := by decide +kernel
theorem dX9_count_97 : decode cX9_count 97 = .ok (.if_icmp .lt 34, 3) := by decide +kernel
theorem dX9_count_100 : decode cX9_count 100 = .ok (.aload_n 0, 1) := by decide +kernel
theorem dX9_count_101 : decode cX9_count 101 = .ok (.getfield 12, 3) := by decide +kernel
theorem dX9_count_104 : decode cX9_count 104 = .ok (.iload_n 1, 1) := by decide +kernel
theorem dX9_count_105 : decode cX9_count 105 = .ok (.bipush 10, 2) := by decide +kernel
theorem dX9_count_107 : decode cX9_count 107 = .ok (.isub, 1) := by decide +kernel
theorem dX9_count_108 : decode cX9_count 108 = .ok (.invokevirtual 89, 3) := by decide +kernel
theorem dX9_count_111 : decode cX9_count 111 = .ok (.ifCond .eq 20, 3) := by decide +kernel
theorem dX9_count_114 : decode cX9_count 114 = .ok (.aload_n 0, 1) := by decide +kernel
theorem dX9_count_115 : decode cX9_count 115 = .ok (.getfield 12, 3) := by decide +kernel
theorem dX9_count_118 : decode cX9_count 118 = .ok (.iload_n 1, 1) := by decide +kernel
theorem dX9_count_119 : decode cX9_count 119 = .ok (.bipush 10, 2) := by decide +kernel
theorem dX9_count_121 : decode cX9_count 121 = .ok (.isub, 1) := by decide +kernel
theorem dX9_count_122 : decode cX9_count 122 = .ok (.invokevirtual 128, 3) := by decide +kernel
theorem dX9_count_125 : decode cX9_count 125 = .ok (.getfield 174, 3) := by decide +kernel
theorem dX9_count_128 : decode cX9_count 128 = .ok (.goto 4, 3) := by decide +kernel
theorem dX9_count_131 : decode cX9_count 131 = .ok (.iconst (-1), 1) := by decide +kernel
theorem dX9_count_132 : decode cX9_count 132 = .ok (.ireturn, 1) := by decide +kernel
def f_X9_count (F : Nat) (μ : Mm) (p1 : Int32) : Option Int32 :=
 if p1 = (0 : Int32) then
 some (μ.1 700 0 4)
 else
 if p1 = (1 : Int32) then
 some (μ.1 700 0 5)
 else
 if p1 = (2 : Int32) then
 some (μ.1 700 0 6)
 else
 if p1 = (3 : Int32) then
 (f_X7_allMarks F μ 0).bind fun q11 =>
 some q11
 else
 if p1 = (4 : Int32) then
 some (μ.1 300 0 4)
 else
 if p1 = (5 : Int32) then
 some (μ.1 900 0 9)
 else
 if p1 = (6 : Int32) then
 some (μ.1 900 0 10)
 else
 if p1 < (10 : Int32) then
 some (-1 : Int32)
 else
 (f_X7_hasProcessor μ 0 (p1 - (10 : Int32))).bind fun q7 =>
 if q7 = 0 then
 some (-1 : Int32)
 else
 (f_X7_laneOf μ 0 (p1 - (10 : Int32))).bind fun q9 =>
 some (μ.1 200 q9 5)
set_option maxHeartbeats 4000000 in
set_option maxRecDepth 100000 in
theorem c_X9_count (l : Launch) (E : En) {F : Nat} {μ : Mm} {p1 : Int32} (h0 : l9 E 0) {z : Int32} (hf : f_X9_count F μ p1 = some z) : Met l yX9_count (wt yX9_count cX9_count 2 (some .int)) { frames := 1, cells := 0, slots := 0, locals := 22 } (Pm E [.ref (ad E 900 0), .int p1] μ) (Qm E (some (.int z)) μ) 0 0 (Ad E) := by
  unfold f_X9_count at hf
  refine met_of (cc := cX9_count) (nL := 2) (ret := (some .int)) (by decide) _ (Nat.le_of_ble_eq_true rfl) ?_
  intro p e s m below meth c C hr hlk hI ls hl
  have hx := C.1.1
  have hb := C.1.2.1
  have hl : lv_has ls 2 [(0, .ref (ad E 900 0)), (1, .int p1)] := hl
  refine lv_iload_n hx hb dX9_count_0 rfl (lv_at hl 1 rfl) ?_
  by_cases hn0 : p1 = (0 : Int32)
  · replace hf := it hf hn0
    refine lv_tableIn (tgt := 44) (off := 43) hx hb dX9_count_1 (by rw [hn0]; decide) (by rw [hn0]; decide) (by rw [hn0]; rfl) rfl ?_
    refine lv_aload_n hx hb dX9_count_44 rfl (lv_at hl 0 rfl) ?_
    refine gf_9_0 C hI h0.1 fl_X9_12 dX9_count_45 ?_
    refine gf_7_4 C hI h0.2.2.2.2.1.1 fl_X9_418 dX9_count_48 ?_
    obtain rfl := Option.some.inj hf
    exact m_iret C hr hlk hI dX9_count_51
  replace hf := ie hf hn0
  by_cases hn1 : p1 = (1 : Int32)
  · replace hf := it hf hn1
    refine lv_tableIn (tgt := 52) (off := 51) hx hb dX9_count_1 (by rw [hn1]; decide) (by rw [hn1]; decide) (by rw [hn1]; rfl) rfl ?_
    refine lv_aload_n hx hb dX9_count_52 rfl (lv_at hl 0 rfl) ?_
    refine gf_9_0 C hI h0.1 fl_X9_12 dX9_count_53 ?_
    refine gf_7_5 C hI h0.2.2.2.2.1.1 fl_X9_421 dX9_count_56 ?_
    obtain rfl := Option.some.inj hf
    exact m_iret C hr hlk hI dX9_count_59
  replace hf := ie hf hn1
  by_cases hn2 : p1 = (2 : Int32)
  · replace hf := it hf hn2
    refine lv_tableIn (tgt := 60) (off := 59) hx hb dX9_count_1 (by rw [hn2]; decide) (by rw [hn2]; decide) (by rw [hn2]; rfl) rfl ?_
    refine lv_aload_n hx hb dX9_count_60 rfl (lv_at hl 0 rfl) ?_
    refine gf_9_0 C hI h0.1 fl_X9_12 dX9_count_61 ?_
    refine gf_7_6 C hI h0.2.2.2.2.1.1 fl_X9_424 dX9_count_64 ?_
    obtain rfl := Option.some.inj hf
    exact m_iret C hr hlk hI dX9_count_67
  replace hf := ie hf hn2
  by_cases hn3 : p1 = (3 : Int32)
  · replace hf := it hf hn3
    refine lv_tableIn (tgt := 68) (off := 67) hx hb dX9_count_1 (by rw [hn3]; decide) (by rw [hn3]; decide) (by rw [hn3]; rfl) rfl ?_
    refine lv_aload_n hx hb dX9_count_68 rfl (lv_at hl 0 rfl) ?_
    refine gf_9_0 C hI h0.1 fl_X9_12 dX9_count_69 ?_
    obtain ⟨q11, e12, hf⟩ := ob hf
    refine mcV (As := []) (rest := []) C hI (c_X7_allMarks l E h0.2.2.2.2.1 e12) ml_X9_92 kv_X7_allMarks (m_recv C hI h0.2.2.2.2.1.1 (ce_700 E _ _ _) rfl) rfl rfl ⟨Nat.le_of_ble_eq_true rfl, Nat.le_of_ble_eq_true rfl⟩ ⟨Nat.zero_le _, Nat.zero_le _⟩ rfl rfl hl.1 (Nat.le_of_ble_eq_true rfl) dX9_count_72 (st1 := [.int q11]) rfl (fun H locs hI => ?_)
    obtain rfl := Option.some.inj hf
    exact m_iret C hr hlk hI dX9_count_75
  replace hf := ie hf hn3
  by_cases hn4 : p1 = (4 : Int32)
  · replace hf := it hf hn4
    refine lv_tableIn (tgt := 76) (off := 75) hx hb dX9_count_1 (by rw [hn4]; decide) (by rw [hn4]; decide) (by rw [hn4]; rfl) rfl ?_
    refine lv_aload_n hx hb dX9_count_76 rfl (lv_at hl 0 rfl) ?_
    refine gf_9_3 C hI h0.1 fl_X9_26 dX9_count_77 ?_
    refine gf_3_4 C hI h0.2.2.2.2.2.1.1 fl_X9_125 dX9_count_80 ?_
    obtain rfl := Option.some.inj hf
    exact m_iret C hr hlk hI dX9_count_83
  replace hf := ie hf hn4
  by_cases hn5 : p1 = (5 : Int32)
  · replace hf := it hf hn5
    refine lv_tableIn (tgt := 84) (off := 83) hx hb dX9_count_1 (by rw [hn5]; decide) (by rw [hn5]; decide) (by rw [hn5]; rfl) rfl ?_
    refine lv_aload_n hx hb dX9_count_84 rfl (lv_at hl 0 rfl) ?_
    refine gf_9_9 C hI h0.1 fl_X9_64 dX9_count_85 ?_
    obtain rfl := Option.some.inj hf
    exact m_iret C hr hlk hI dX9_count_88
  replace hf := ie hf hn5
  by_cases hn6 : p1 = (6 : Int32)
  · replace hf := it hf hn6
    refine lv_tableIn (tgt := 89) (off := 88) hx hb dX9_count_1 (by rw [hn6]; decide) (by rw [hn6]; decide) (by rw [hn6]; rfl) rfl ?_
    refine lv_aload_n hx hb dX9_count_89 rfl (lv_at hl 0 rfl) ?_
    refine gf_9_10 C hI h0.1 fl_X9_68 dX9_count_90 ?_
    obtain rfl := Option.some.inj hf
    exact m_iret C hr hlk hI dX9_count_93
  replace hf := ie hf hn6
  have a0_ := ts_ne (n := 0) hn0 (by decide)
  have a1_ := ts_ne (n := 1) hn1 (by decide)
  have a2_ := ts_ne (n := 2) hn2 (by decide)
  have a3_ := ts_ne (n := 3) hn3 (by decide)
  have a4_ := ts_ne (n := 4) hn4 (by decide)
  have a5_ := ts_ne (n := 5) hn5 (by decide)
  have a6_ := ts_ne (n := 6) hn6 (by decide)
  refine lv_tableOut (tgt := 94) hx hb dX9_count_1 (by omega) rfl ?_
  refine lv_iload_n hx hb dX9_count_94 rfl (lv_at hl 1 rfl) ?_
  refine lv_bipush (v := (10 : Int32)) hx hb dX9_count_95 kb_10 ?_
  refine lv_icmp_lt (tgt := 131) hx hb dX9_count_97 rfl (fun hc => ?_) (fun hc => ?_)
  · replace hf := it hf hc
    refine lv_iconst (v := (-1 : Int32)) hx hb dX9_count_131 kc_m1 ?_
    obtain rfl := Option.some.inj hf
    exact m_iret C hr hlk hI dX9_count_132
  · replace hf := ie hf hc
    refine lv_aload_n hx hb dX9_count_100 rfl (lv_at hl 0 rfl) ?_
    refine gf_9_0 C hI h0.1 fl_X9_12 dX9_count_101 ?_
    refine lv_iload_n hx hb dX9_count_104 rfl (lv_at hl 1 rfl) ?_
    refine lv_bipush (v := (10 : Int32)) hx hb dX9_count_105 kb_10 ?_
    refine lv_isub hx hb dX9_count_107 ?_
    obtain ⟨q7, e8, hf⟩ := ob hf
    refine mcV (As := [.int (p1 - (10 : Int32))]) (rest := []) C hI (c_X7_hasProcessor l E h0.2.2.2.2.1 e8) ml_X9_89 kv_X7_hasProcessor (m_recv C hI h0.2.2.2.2.1.1 (ce_700 E _ _ _) rfl) rfl rfl ⟨Nat.le_of_ble_eq_true rfl, Nat.le_of_ble_eq_true rfl⟩ ⟨Nat.zero_le _, Nat.zero_le _⟩ rfl rfl hl.1 (Nat.le_of_ble_eq_true rfl) dX9_count_108 (st1 := [.int q7]) rfl (fun H locs hI => ?_)
    refine lv_if_eq (tgt := 131) hx hb dX9_count_111 rfl (fun hc => ?_) (fun hc => ?_)
    · replace hf := it hf hc
      refine lv_iconst (v := (-1 : Int32)) hx hb dX9_count_131 kc_m1 ?_
      obtain rfl := Option.some.inj hf
      exact m_iret C hr hlk hI dX9_count_132
    · replace hf := ie hf hc
      refine lv_aload_n hx hb dX9_count_114 rfl (lv_at hl 0 rfl) ?_
      refine gf_9_0 C hI h0.1 fl_X9_12 dX9_count_115 ?_
      refine lv_iload_n hx hb dX9_count_118 rfl (lv_at hl 1 rfl) ?_
      refine lv_bipush (v := (10 : Int32)) hx hb dX9_count_119 kb_10 ?_
      refine lv_isub hx hb dX9_count_121 ?_
      obtain ⟨q9, e10, hf⟩ := ob hf
      refine mcV (As := [.int (p1 - (10 : Int32))]) (rest := []) C hI (c_X7_laneOf l E h0.2.2.2.2.1 e10) ml_X9_128 kv_X7_laneOf (m_recv C hI h0.2.2.2.2.1.1 (ce_700 E _ _ _) rfl) rfl rfl ⟨Nat.le_of_ble_eq_true rfl, Nat.le_of_ble_eq_true rfl⟩ ⟨Nat.zero_le _, Nat.zero_le _⟩ rfl rfl hl.1 (Nat.le_of_ble_eq_true rfl) dX9_count_122 (st1 := [.ref (ad E 200 q9)]) rfl (fun H locs hI => ?_)
      refine gf_2_5 C hI (lr_X7_laneOf h0.2.2.2.2.1 e10).1 fl_X9_174 dX9_count_125 ?_
      refine lv_goto (tgt := 132) hx hb dX9_count_128 rfl ?_
      obtain rfl := Option.some.inj hf
      exact m_iret C hr hlk hI dX9_count_132

theorem dX9_isTape_0 : decode cX9_isTape 0 = .ok (.iload_n 0, 1) := by decide +kernel
theorem dX9_isTape_1 : decode cX9_isTape 1 = .ok (.ifCond .lt 13, 3) := by decide +kernel
theorem dX9_isTape_4 : decode cX9_isTape 4 = .ok (.iload_n 0, 1) := by decide +kernel
theorem dX9_isTape_5 : decode cX9_isTape 5 = .ok (.bipush 6, 2) := by decide +kernel
theorem dX9_isTape_7 : decode cX9_isTape 7 = .ok (.if_icmp .ge 7, 3) := by decide +kernel
theorem dX9_isTape_10 : decode cX9_isTape 10 = .ok (.iconst 1, 1) := by decide +kernel
theorem dX9_isTape_11 : decode cX9_isTape 11 = .ok (.goto 4, 3) := by decide +kernel
theorem dX9_isTape_14 : decode cX9_isTape 14 = .ok (.iconst 0, 1) := by decide +kernel
theorem dX9_isTape_15 : decode cX9_isTape 15 = .ok (.ireturn, 1) := by decide +kernel
def f_X9_isTape (μ : Mm) (p0 : Int32) : Option Int32 :=
 if p0 < 0 then
 some (0 : Int32)
 else
 if (6 : Int32) ≤ p0 then
 some (0 : Int32)
 else
 some (1 : Int32)
set_option maxHeartbeats 4000000 in
set_option maxRecDepth 100000 in
theorem c_X9_isTape (l : Launch) (E : En) {μ : Mm} {p0 : Int32} {z : Int32} (hf : f_X9_isTape μ p0 = some z) : Met l yX9_isTape (wt yX9_isTape cX9_isTape 1 (some .boolean)) { frames := 0, cells := 0, slots := 0, locals := 0 } (Pm E [.int p0] μ) (Qm E (some (.int z)) μ) 0 0 (Ad E) := by
  unfold f_X9_isTape at hf
  refine met_of (cc := cX9_isTape) (nL := 1) (ret := (some .boolean)) (by decide) _ (Nat.le_of_ble_eq_true rfl) ?_
  intro p e s m below meth c C hr hlk hI ls hl
  have hx := C.1.1
  have hb := C.1.2.1
  have hl : lv_has ls 1 [(0, .int p0)] := hl
  refine lv_iload_n hx hb dX9_isTape_0 rfl (lv_at hl 0 rfl) ?_
  refine lv_if_lt (tgt := 14) hx hb dX9_isTape_1 rfl (fun hc => ?_) (fun hc => ?_)
  · replace hf := it hf hc
    refine lv_iconst (v := (0 : Int32)) hx hb dX9_isTape_14 kc_0 ?_
    obtain rfl := Option.some.inj hf
    exact m_zret C hr hlk hI (by decide) dX9_isTape_15
  · replace hf := ie hf hc
    refine lv_iload_n hx hb dX9_isTape_4 rfl (lv_at hl 0 rfl) ?_
    refine lv_bipush (v := (6 : Int32)) hx hb dX9_isTape_5 kb_6 ?_
    refine lv_icmp_ge (tgt := 14) hx hb dX9_isTape_7 rfl (fun hc => ?_) (fun hc => ?_)
    · replace hf := it hf hc
      refine lv_iconst (v := (0 : Int32)) hx hb dX9_isTape_14 kc_0 ?_
      obtain rfl := Option.some.inj hf
      exact m_zret C hr hlk hI (by decide) dX9_isTape_15
    · replace hf := ie hf hc
      refine lv_iconst (v := (1 : Int32)) hx hb dX9_isTape_10 kc_1 ?_
      refine lv_goto (tgt := 15) hx hb dX9_isTape_11 rfl ?_
      obtain rfl := Option.some.inj hf
      exact m_zret C hr hlk hI (by decide) dX9_isTape_15

theorem dX9_refuse_0 : decode cX9_refuse 0 = .ok (.aload_n 0, 1) := by decide +kernel
theorem dX9_refuse_1 : decode cX9_refuse 1 = .ok (.dup, 1) := by decide +kernel
theorem dX9_refuse_2 : decode cX9_refuse 2 = .ok (.getfield 68, 3) := by decide +kernel
theorem dX9_refuse_5 : decode cX9_refuse 5 = .ok (.iconst 1, 1) := by decide +kernel
theorem dX9_refuse_6 : decode cX9_refuse 6 = .ok (.iadd, 1) := by decide +kernel
theorem dX9_refuse_7 : decode cX9_refuse 7 = .ok (.putfield 68, 3) := by decide +kernel
theorem dX9_refuse_10 : decode cX9_refuse 10 = .ok (.iload_n 1, 1) := by decide +kernel
theorem dX9_refuse_11 : decode cX9_refuse 11 = .ok (.ireturn, 1) := by decide +kernel
def f_X9_refuse (μ : Mm) (p1 : Int32) : Option (Int32 × Mm) :=
 (wf μ 900 0 10 ((μ.1 900 0 10) + (1 : Int32))).bind fun m3 =>
 some (p1, m3)
set_option maxHeartbeats 4000000 in
set_option maxRecDepth 100000 in
theorem c_X9_refuse (l : Launch) (E : En) {μ : Mm} {p1 : Int32} (h0 : l9 E 0) {z : Int32 × Mm} (hf : f_X9_refuse μ p1 = some z) : Met l yX9_refuse (wt yX9_refuse cX9_refuse 2 (some .int)) { frames := 0, cells := 0, slots := 0, locals := 0 } (Pm E [.ref (ad E 900 0), .int p1] μ) (Qm E (some (.int z.1)) z.2) 0 0 (Ad E) := by
  unfold f_X9_refuse at hf
  refine met_of (cc := cX9_refuse) (nL := 2) (ret := (some .int)) (by decide) _ (Nat.le_of_ble_eq_true rfl) ?_
  intro p e s m below meth c C hr hlk hI ls hl
  have hx := C.1.1
  have hb := C.1.2.1
  have hl : lv_has ls 2 [(0, .ref (ad E 900 0)), (1, .int p1)] := hl
  refine lv_aload_n hx hb dX9_refuse_0 rfl (lv_at hl 0 rfl) ?_
  refine lv_dup hx hb dX9_refuse_1 rfl ?_
  refine gf_9_10 C hI h0.1 fl_X9_68 dX9_refuse_2 ?_
  refine lv_iconst (v := (1 : Int32)) hx hb dX9_refuse_5 kc_1 ?_
  refine lv_iadd hx hb dX9_refuse_6 ?_
  obtain ⟨m3, e4, hf⟩ := ob hf
  refine pf_9_10 C hI h0.1 fl_X9_68 e4 dX9_refuse_7 (fun H locs hI => ?_)
  refine lv_iload_n hx hb dX9_refuse_10 rfl (lv_at hl 1 rfl) ?_
  obtain rfl := Option.some.inj hf
  exact m_iret C hr hlk hI dX9_refuse_11

theorem dX9_copyFault_0 : decode cX9_copyFault 0 = .ok (.iload_n 1, 1) := by decide +kernel
theorem dX9_copyFault_1 : decode cX9_copyFault 1 = .ok (.invokestatic 357, 3) := by decide +kernel
theorem dX9_copyFault_4 : decode cX9_copyFault 4 = .ok (.ifCond .ne 5, 3) := by decide +kernel
theorem dX9_copyFault_7 : decode cX9_copyFault 7 = .ok (.iconst (-1), 1) := by decide +kernel
theorem dX9_copyFault_8 : decode cX9_copyFault 8 = .ok (.ireturn, 1) := by decide +kernel
theorem dX9_copyFault_9 : decode cX9_copyFault 9 = .ok (.aload_n 0, 1) := by decide +kernel
theorem dX9_copyFault_10 : decode cX9_copyFault 10 = .ok (.getfield 32, 3) := by decide +kernel
theorem dX9_copyFault_13 : decode cX9_copyFault 13 = .ok (.iload_n 1, 1) := by decide +kernel
theorem dX9_copyFault_14 : decode cX9_copyFault 14 = .ok (.aaload, 1) := by decide +kernel
theorem dX9_copyFault_15 : decode cX9_copyFault 15 = .ok (.getfield 381, 3) := by decide +kernel
theorem dX9_copyFault_18 : decode cX9_copyFault 18 = .ok (.ifCond .ne 10, 3) := by decide +kernel
theorem dX9_copyFault_21 : decode cX9_copyFault 21 = .ok (.aload_n 0, 1) := by decide +kernel
theorem dX9_copyFault_22 : decode cX9_copyFault 22 = .ok (.bipush (-11), 2) := by decide +kernel
theorem dX9_copyFault_24 : decode cX9_copyFault 24 = .ok (.invokevirtual 360, 3) := by decide +kernel
theorem dX9_copyFault_27 : decode cX9_copyFault 27 = .ok (.ireturn, 1) := by decide +kernel
theorem dX9_copyFault_28 : decode cX9_copyFault 28 = .ok (.aload_n 0, 1) := by decide +kernel
theorem dX9_copyFault_29 : decode cX9_copyFault 29 = .ok (.getfield 32, 3) := by decide +kernel
theorem dX9_copyFault_32 : decode cX9_copyFault 32 = .ok (.iload_n 1, 1) := by decide +kernel
theorem dX9_copyFault_33 : decode cX9_copyFault 33 = .ok (.aaload, 1) := by decide +kernel
theorem dX9_copyFault_34 : decode cX9_copyFault 34 = .ok (.getfield 381, 3) := by decide +kernel
theorem dX9_copyFault_37 : decode cX9_copyFault 37 = .ok (.iconst 5, 1) := by decide +kernel
theorem dX9_copyFault_38 : decode cX9_copyFault 38 = .ok (.if_icmp .ne 7, 3) := by decide +kernel
theorem dX9_copyFault_41 : decode cX9_copyFault 41 = .ok (.iconst 0, 1) := by decide +kernel
theorem dX9_copyFault_42 : decode cX9_copyFault 42 = .ok (.goto 9, 3) := by decide +kernel
theorem dX9_copyFault_45 : decode cX9_copyFault 45 = .ok (.aload_n 0, 1) := by decide +kernel
theorem dX9_copyFault_46 : decode cX9_copyFault 46 = .ok (.bipush (-12), 2) := by decide +kernel
theorem dX9_copyFault_48 : decode cX9_copyFault 48 = .ok (.invokevirtual 360, 3) := by decide +kernel
theorem dX9_copyFault_51 : decode cX9_copyFault 51 = .ok (.ireturn, 1) := by decide +kernel
def f_X9_copyFault (μ : Mm) (p1 : Int32) : Option (Int32 × Mm) :=
 (f_X9_isTape μ p1).bind fun q11 =>
 if q11 = 0 then
 some ((-1 : Int32), μ)
 else
 (rq 6 p1).bind fun j13 =>
 if (μ.1 600 j13 1) = 0 then
 (f_X9_refuse μ (-11 : Int32)).bind fun q19 =>
 some (q19.1, q19.2)
 else
 (rq 6 p1).bind fun j15 =>
 if (μ.1 600 j15 1) = (5 : Int32) then
 some ((0 : Int32), μ)
 else
 (f_X9_refuse μ (-12 : Int32)).bind fun q17 =>
 some (q17.1, q17.2)
set_option maxHeartbeats 4000000 in
set_option maxRecDepth 100000 in
theorem c_X9_copyFault (l : Launch) (E : En) {μ : Mm} {p1 : Int32} (h0 : l9 E 0) {z : Int32 × Mm} (hf : f_X9_copyFault μ p1 = some z) : Met l yX9_copyFault (wt yX9_copyFault cX9_copyFault 2 (some .int)) { frames := 1, cells := 0, slots := 0, locals := 21 } (Pm E [.ref (ad E 900 0), .int p1] μ) (Qm E (some (.int z.1)) z.2) 0 0 (Ad E) := by
  unfold f_X9_copyFault at hf
  refine met_of (cc := cX9_copyFault) (nL := 2) (ret := (some .int)) (by decide) _ (Nat.le_of_ble_eq_true rfl) ?_
  intro p e s m below meth c C hr hlk hI ls hl
  have hx := C.1.1
  have hb := C.1.2.1
  have hl : lv_has ls 2 [(0, .ref (ad E 900 0)), (1, .int p1)] := hl
  refine lv_iload_n hx hb dX9_copyFault_0 rfl (lv_at hl 1 rfl) ?_
  obtain ⟨q11, e12, hf⟩ := ob hf
  refine mcS (As := [.int p1]) (rest := []) C hI (c_X9_isTape l E  e12) ml_X9_357 ks_X9_isTape rfl rfl ⟨Nat.le_of_ble_eq_true rfl, Nat.le_of_ble_eq_true rfl⟩ ⟨Nat.zero_le _, Nat.zero_le _⟩ rfl rfl hl.1 (Nat.le_of_ble_eq_true rfl) dX9_copyFault_1 (st1 := [.int q11]) rfl (fun H locs hI => ?_)
  refine lv_if_ne (tgt := 9) hx hb dX9_copyFault_4 rfl (fun hc => ?_) (fun hc => ?_)
  · replace hf := ie hf hc
    refine lv_aload_n hx hb dX9_copyFault_9 rfl (lv_at hl 0 rfl) ?_
    refine gf_9_4 C hI h0.1 fl_X9_32 dX9_copyFault_10 ?_
    refine lv_iload_n hx hb dX9_copyFault_13 rfl (lv_at hl 1 rfl) ?_
    obtain ⟨j13, e14, hf⟩ := ob hf
    refine m_aald (t0 := 4) (Cn := RX6) (fun _ => rfl) C hI h0.2.2.2.1 (ce_905 E _ _ _) e14 dX9_copyFault_14 ?_
    refine gf_6_1 C hI (l9_tape h0 e14).1 fl_X9_381 dX9_copyFault_15 ?_
    refine lv_if_ne (tgt := 28) hx hb dX9_copyFault_18 rfl (fun hc => ?_) (fun hc => ?_)
    · replace hf := ie hf hc
      refine lv_aload_n hx hb dX9_copyFault_28 rfl (lv_at hl 0 rfl) ?_
      refine gf_9_4 C hI h0.1 fl_X9_32 dX9_copyFault_29 ?_
      refine lv_iload_n hx hb dX9_copyFault_32 rfl (lv_at hl 1 rfl) ?_
      obtain ⟨j15, e16, hf⟩ := ob hf
      refine m_aald (t0 := 4) (Cn := RX6) (fun _ => rfl) C hI h0.2.2.2.1 (ce_905 E _ _ _) e16 dX9_copyFault_33 ?_
      refine gf_6_1 C hI (l9_tape h0 e16).1 fl_X9_381 dX9_copyFault_34 ?_
      refine lv_iconst (v := (5 : Int32)) hx hb dX9_copyFault_37 kc_5 ?_
      refine lv_icmp_ne (tgt := 45) hx hb dX9_copyFault_38 rfl (fun hc => ?_) (fun hc => ?_)
      · replace hf := ie hf hc
        refine lv_aload_n hx hb dX9_copyFault_45 rfl (lv_at hl 0 rfl) ?_
        refine lv_bipush (v := (-12 : Int32)) hx hb dX9_copyFault_46 kb_m12 ?_
        obtain ⟨q17, e18, hf⟩ := ob hf
        refine mcV (As := [.int (-12 : Int32)]) (rest := []) C hI (c_X9_refuse l E h0 e18) ml_X9_360 kv_X9_refuse (m_recv C hI h0.1 (ce_900 E _ _ _) rfl) rfl rfl ⟨Nat.le_of_ble_eq_true rfl, Nat.le_of_ble_eq_true rfl⟩ ⟨Nat.zero_le _, Nat.zero_le _⟩ rfl rfl hl.1 (Nat.le_of_ble_eq_true rfl) dX9_copyFault_48 (st1 := [.int q17.1]) rfl (fun H locs hI => ?_)
        obtain rfl := Option.some.inj hf
        exact m_iret C hr hlk hI dX9_copyFault_51
      · replace hf := it hf hc
        refine lv_iconst (v := (0 : Int32)) hx hb dX9_copyFault_41 kc_0 ?_
        refine lv_goto (tgt := 51) hx hb dX9_copyFault_42 rfl ?_
        obtain rfl := Option.some.inj hf
        exact m_iret C hr hlk hI dX9_copyFault_51
    · replace hf := it hf hc
      refine lv_aload_n hx hb dX9_copyFault_21 rfl (lv_at hl 0 rfl) ?_
      refine lv_bipush (v := (-11 : Int32)) hx hb dX9_copyFault_22 kb_m11 ?_
      obtain ⟨q19, e20, hf⟩ := ob hf
      refine mcV (As := [.int (-11 : Int32)]) (rest := []) C hI (c_X9_refuse l E h0 e20) ml_X9_360 kv_X9_refuse (m_recv C hI h0.1 (ce_900 E _ _ _) rfl) rfl rfl ⟨Nat.le_of_ble_eq_true rfl, Nat.le_of_ble_eq_true rfl⟩ ⟨Nat.zero_le _, Nat.zero_le _⟩ rfl rfl hl.1 (Nat.le_of_ble_eq_true rfl) dX9_copyFault_24 (st1 := [.int q19.1]) rfl (fun H locs hI => ?_)
      obtain rfl := Option.some.inj hf
      exact m_iret C hr hlk hI dX9_copyFault_27
  · replace hf := it hf hc
    refine lv_iconst (v := (-1 : Int32)) hx hb dX9_copyFault_7 kc_m1 ?_
    obtain rfl := Option.some.inj hf
    exact m_iret C hr hlk hI dX9_copyFault_8

theorem dX9_begin_0 : decode cX9_begin 0 = .ok (.iload_n 1, 1) := by decide +kernel
theorem dX9_begin_1 : decode cX9_begin 1 = .ok (.iconst 1, 1) := by decide +kernel
theorem dX9_begin_2 : decode cX9_begin 2 = .ok (.if_icmp .lt 30, 3) := by decide +kernel
theorem dX9_begin_5 : decode cX9_begin 5 = .ok (.iload_n 1, 1) := by decide +kernel
theorem dX9_begin_6 : decode cX9_begin 6 = .ok (.iconst 3, 1) := by decide +kernel
theorem dX9_begin_7 : decode cX9_begin 7 = .ok (.if_icmp .gt 25, 3) := by decide +kernel
theorem dX9_begin_10 : decode cX9_begin 10 = .ok (.iload_n 2, 1) := by decide +kernel
theorem dX9_begin_11 : decode cX9_begin 11 = .ok (.iconst 1, 1) := by decide +kernel
theorem dX9_begin_12 : decode cX9_begin 12 = .ok (.if_icmp .lt 20, 3) := by decide +kernel
theorem dX9_begin_15 : decode cX9_begin 15 = .ok (.iload_n 2, 1) := by decide +kernel
theorem dX9_begin_16 : decode cX9_begin 16 = .ok (.bipush 8, 2) := by decide +kernel
theorem dX9_begin_18 : decode cX9_begin 18 = .ok (.if_icmp .gt 14, 3) := by decide +kernel
theorem dX9_begin_21 : decode cX9_begin 21 = .ok (.iload_n 3, 1) := by decide +kernel
theorem dX9_begin_22 : decode cX9_begin 22 = .ok (.iconst 4, 1) := by decide +kernel
theorem dX9_begin_23 : decode cX9_begin 23 = .ok (.if_icmp .lt 9, 3) := by decide +kernel
theorem dX9_begin_26 : decode cX9_begin 26 = .ok (.iload_n 3, 1) := by decide +kernel
theorem dX9_begin_27 : decode cX9_begin 27 = .ok (.bipush 16, 2) := by decide +kernel
theorem dX9_begin_29 : decode cX9_begin 29 = .ok (.if_icmp .le 5, 3) := by decide +kernel
theorem dX9_begin_32 : decode cX9_begin 32 = .ok (.iconst (-1), 1) := by decide +kernel
theorem dX9_begin_33 : decode cX9_begin 33 = .ok (.ireturn, 1) := by decide +kernel
theorem dX9_begin_34 : decode cX9_begin 34 = .ok (.aload_n 0, 1) := by decide +kernel
theorem dX9_begin_35 : decode cX9_begin 35 = .ok (.getfield 12, 3) := by decide +kernel
theorem dX9_begin_38 : decode cX9_begin 38 = .ok (.iload_n 1, 1) := by decide +kernel
theorem dX9_begin_39 : decode cX9_begin 39 = .ok (.iload_n 2, 1) := by decide +kernel
theorem dX9_begin_40 : decode cX9_begin 40 = .ok (.iload_n 3, 1) := by decide +kernel
theorem dX9_begin_41 : decode cX9_begin 41 = .ok (.invokevirtual 78, 3) := by decide +kernel
theorem dX9_begin_44 : decode cX9_begin 44 = .ok (.aload_n 0, 1) := by decide +kernel
theorem dX9_begin_45 : decode cX9_begin 45 = .ok (.invokevirtual 82, 3) := by decide +kernel
theorem dX9_begin_48 : decode cX9_begin 48 = .ok (.aload_n 0, 1) := by decide +kernel
theorem dX9_begin_49 : decode cX9_begin 49 = .ok (.iconst 0, 1) := by decide +kernel
theorem dX9_begin_50 : decode cX9_begin 50 = .ok (.putfield 64, 3) := by decide +kernel
theorem dX9_begin_53 : decode cX9_begin 53 = .ok (.aload_n 0, 1) := by decide +kernel
theorem dX9_begin_54 : decode cX9_begin 54 = .ok (.iconst 0, 1) := by decide +kernel
theorem dX9_begin_55 : decode cX9_begin 55 = .ok (.putfield 68, 3) := by decide +kernel
theorem dX9_begin_58 : decode cX9_begin 58 = .ok (.iload_n 1, 1) := by decide +kernel
theorem dX9_begin_59 : decode cX9_begin 59 = .ok (.ireturn, 1) := by decide +kernel
def f_X9_begin (F : Nat) (μ : Mm) (p1 : Int32) (p2 : Int32) (p3 : Int32) : Option (Int32 × Mm) :=
 if p1 < (1 : Int32) then
 some ((-1 : Int32), μ)
 else
 if (3 : Int32) < p1 then
 some ((-1 : Int32), μ)
 else
 if p2 < (1 : Int32) then
 some ((-1 : Int32), μ)
 else
 if (8 : Int32) < p2 then
 some ((-1 : Int32), μ)
 else
 if p3 < (4 : Int32) then
 some ((-1 : Int32), μ)
 else
 if p3 ≤ (16 : Int32) then
 (f_X7_restart F μ 0 p1 p2 p3).bind fun q9 =>
 (f_X9_forgetLawsAndOthers q9).bind fun q11 =>
 (wf q11 900 0 9 (0 : Int32)).bind fun m13 =>
 (wf m13 900 0 10 (0 : Int32)).bind fun m15 =>
 some (p1, m15)
 else
 some ((-1 : Int32), μ)
set_option maxHeartbeats 4000000 in
set_option maxRecDepth 100000 in
theorem c_X9_begin (l : Launch) (E : En) {F : Nat} {μ : Mm} {p1 : Int32} {p2 : Int32} {p3 : Int32} (h0 : l9 E 0) {z : Int32 × Mm} (hf : f_X9_begin F μ p1 p2 p3 = some z) : Met l yX9_begin (wt yX9_begin cX9_begin 4 (some .int)) { frames := 4, cells := 0, slots := 0, locals := 87 } (Pm E [.ref (ad E 900 0), .int p1, .int p2, .int p3] μ) (Qm E (some (.int z.1)) z.2) 0 0 (Ad E) := by
  unfold f_X9_begin at hf
  refine met_of (cc := cX9_begin) (nL := 4) (ret := (some .int)) (by decide) _ (Nat.le_of_ble_eq_true rfl) ?_
  intro p e s m below meth c C hr hlk hI ls hl
  have hx := C.1.1
  have hb := C.1.2.1
  have hl : lv_has ls 4 [(0, .ref (ad E 900 0)), (1, .int p1), (2, .int p2), (3, .int p3)] := hl
  refine lv_iload_n hx hb dX9_begin_0 rfl (lv_at hl 1 rfl) ?_
  refine lv_iconst (v := (1 : Int32)) hx hb dX9_begin_1 kc_1 ?_
  refine lv_icmp_lt (tgt := 32) hx hb dX9_begin_2 rfl (fun hc => ?_) (fun hc => ?_)
  · replace hf := it hf hc
    refine lv_iconst (v := (-1 : Int32)) hx hb dX9_begin_32 kc_m1 ?_
    obtain rfl := Option.some.inj hf
    exact m_iret C hr hlk hI dX9_begin_33
  · replace hf := ie hf hc
    refine lv_iload_n hx hb dX9_begin_5 rfl (lv_at hl 1 rfl) ?_
    refine lv_iconst (v := (3 : Int32)) hx hb dX9_begin_6 kc_3 ?_
    refine lv_icmp_gt (tgt := 32) hx hb dX9_begin_7 rfl (fun hc => ?_) (fun hc => ?_)
    · replace hf := it hf hc
      refine lv_iconst (v := (-1 : Int32)) hx hb dX9_begin_32 kc_m1 ?_
      obtain rfl := Option.some.inj hf
      exact m_iret C hr hlk hI dX9_begin_33
    · replace hf := ie hf hc
      refine lv_iload_n hx hb dX9_begin_10 rfl (lv_at hl 2 rfl) ?_
      refine lv_iconst (v := (1 : Int32)) hx hb dX9_begin_11 kc_1 ?_
      refine lv_icmp_lt (tgt := 32) hx hb dX9_begin_12 rfl (fun hc => ?_) (fun hc => ?_)
      · replace hf := it hf hc
        refine lv_iconst (v := (-1 : Int32)) hx hb dX9_begin_32 kc_m1 ?_
        obtain rfl := Option.some.inj hf
        exact m_iret C hr hlk hI dX9_begin_33
      · replace hf := ie hf hc
        refine lv_iload_n hx hb dX9_begin_15 rfl (lv_at hl 2 rfl) ?_
        refine lv_bipush (v := (8 : Int32)) hx hb dX9_begin_16 kb_8 ?_
        refine lv_icmp_gt (tgt := 32) hx hb dX9_begin_18 rfl (fun hc => ?_) (fun hc => ?_)
        · replace hf := it hf hc
          refine lv_iconst (v := (-1 : Int32)) hx hb dX9_begin_32 kc_m1 ?_
          obtain rfl := Option.some.inj hf
          exact m_iret C hr hlk hI dX9_begin_33
        · replace hf := ie hf hc
          refine lv_iload_n hx hb dX9_begin_21 rfl (lv_at hl 3 rfl) ?_
          refine lv_iconst (v := (4 : Int32)) hx hb dX9_begin_22 kc_4 ?_
          refine lv_icmp_lt (tgt := 32) hx hb dX9_begin_23 rfl (fun hc => ?_) (fun hc => ?_)
          · replace hf := it hf hc
            refine lv_iconst (v := (-1 : Int32)) hx hb dX9_begin_32 kc_m1 ?_
            obtain rfl := Option.some.inj hf
            exact m_iret C hr hlk hI dX9_begin_33
          · replace hf := ie hf hc
            refine lv_iload_n hx hb dX9_begin_26 rfl (lv_at hl 3 rfl) ?_
            refine lv_bipush (v := (16 : Int32)) hx hb dX9_begin_27 kb_16 ?_
            refine lv_icmp_le (tgt := 34) hx hb dX9_begin_29 rfl (fun hc => ?_) (fun hc => ?_)
            · replace hf := it hf hc
              refine lv_aload_n hx hb dX9_begin_34 rfl (lv_at hl 0 rfl) ?_
              refine gf_9_0 C hI h0.1 fl_X9_12 dX9_begin_35 ?_
              refine lv_iload_n hx hb dX9_begin_38 rfl (lv_at hl 1 rfl) ?_
              refine lv_iload_n hx hb dX9_begin_39 rfl (lv_at hl 2 rfl) ?_
              refine lv_iload_n hx hb dX9_begin_40 rfl (lv_at hl 3 rfl) ?_
              obtain ⟨q9, e10, hf⟩ := ob hf
              refine mcV (As := [.int p1, .int p2, .int p3]) (rest := []) C hI (c_X7_restart l E h0.2.2.2.2.1 e10) ml_X9_78 kv_X7_restart (m_recv C hI h0.2.2.2.2.1.1 (ce_700 E _ _ _) rfl) rfl rfl ⟨Nat.le_of_ble_eq_true rfl, Nat.le_of_ble_eq_true rfl⟩ ⟨Nat.zero_le _, Nat.zero_le _⟩ rfl rfl hl.1 (Nat.le_of_ble_eq_true rfl) dX9_begin_41 (st1 := []) rfl (fun H locs hI => ?_)
              refine lv_aload_n hx hb dX9_begin_44 rfl (lv_at hl 0 rfl) ?_
              obtain ⟨q11, e12, hf⟩ := ob hf
              refine mcV (As := []) (rest := []) C hI (c_X9_forgetLawsAndOthers l E h0 e12) ml_X9_82 kv_X9_forgetLawsAndOthers (m_recv C hI h0.1 (ce_900 E _ _ _) rfl) rfl rfl ⟨Nat.le_of_ble_eq_true rfl, Nat.le_of_ble_eq_true rfl⟩ ⟨Nat.zero_le _, Nat.zero_le _⟩ rfl rfl hl.1 (Nat.le_of_ble_eq_true rfl) dX9_begin_45 (st1 := []) rfl (fun H locs hI => ?_)
              refine lv_aload_n hx hb dX9_begin_48 rfl (lv_at hl 0 rfl) ?_
              refine lv_iconst (v := (0 : Int32)) hx hb dX9_begin_49 kc_0 ?_
              obtain ⟨m13, e14, hf⟩ := ob hf
              refine pf_9_9 C hI h0.1 fl_X9_64 e14 dX9_begin_50 (fun H locs hI => ?_)
              refine lv_aload_n hx hb dX9_begin_53 rfl (lv_at hl 0 rfl) ?_
              refine lv_iconst (v := (0 : Int32)) hx hb dX9_begin_54 kc_0 ?_
              obtain ⟨m15, e16, hf⟩ := ob hf
              refine pf_9_10 C hI h0.1 fl_X9_68 e16 dX9_begin_55 (fun H locs hI => ?_)
              refine lv_iload_n hx hb dX9_begin_58 rfl (lv_at hl 1 rfl) ?_
              obtain rfl := Option.some.inj hf
              exact m_iret C hr hlk hI dX9_begin_59
            · replace hf := ie hf hc
              refine lv_iconst (v := (-1 : Int32)) hx hb dX9_begin_32 kc_m1 ?_
              obtain rfl := Option.some.inj hf
              exact m_iret C hr hlk hI dX9_begin_33

theorem dX9_rank_0 : decode cX9_rank 0 = .ok (.aload_n 0, 1) := by decide +kernel
theorem dX9_rank_1 : decode cX9_rank 1 = .ok (.getfield 12, 3) := by decide +kernel
theorem dX9_rank_4 : decode cX9_rank 4 = .ok (.iload_n 1, 1) := by decide +kernel
theorem dX9_rank_5 : decode cX9_rank 5 = .ok (.invokevirtual 85, 3) := by decide +kernel
theorem dX9_rank_8 : decode cX9_rank 8 = .ok (.ifCond .eq 10, 3) := by decide +kernel
theorem dX9_rank_11 : decode cX9_rank 11 = .ok (.iload_n 2, 1) := by decide +kernel
theorem dX9_rank_12 : decode cX9_rank 12 = .ok (.invokestatic 103, 3) := by decide +kernel
theorem dX9_rank_15 : decode cX9_rank 15 = .ok (.ifCond .ne 5, 3) := by decide +kernel
theorem dX9_rank_18 : decode cX9_rank 18 = .ok (.iconst (-1), 1) := by decide +kernel
theorem dX9_rank_19 : decode cX9_rank 19 = .ok (.ireturn, 1) := by decide +kernel
theorem dX9_rank_20 : decode cX9_rank 20 = .ok (.aload_n 0, 1) := by decide +kernel
theorem dX9_rank_21 : decode cX9_rank 21 = .ok (.getfield 12, 3) := by decide +kernel
theorem dX9_rank_24 : decode cX9_rank 24 = .ok (.iload_n 1, 1) := by decide +kernel
theorem dX9_rank_25 : decode cX9_rank 25 = .ok (.invokevirtual 106, 3) := by decide +kernel
theorem dX9_rank_28 : decode cX9_rank 28 = .ok (.istore_n 3, 1) := by decide +kernel
theorem dX9_rank_29 : decode cX9_rank 29 = .ok (.aload_n 0, 1) := by decide +kernel
theorem dX9_rank_30 : decode cX9_rank 30 = .ok (.getfield 12, 3) := by decide +kernel
theorem dX9_rank_33 : decode cX9_rank 33 = .ok (.getfield 109, 3) := by decide +kernel
theorem dX9_rank_36 : decode cX9_rank 36 = .ok (.iload_n 1, 1) := by decide +kernel
theorem dX9_rank_37 : decode cX9_rank 37 = .ok (.iload_n 2, 1) := by decide +kernel
theorem dX9_rank_38 : decode cX9_rank 38 = .ok (.iastore, 1) := by decide +kernel
theorem dX9_rank_39 : decode cX9_rank 39 = .ok (.iload_n 3, 1) := by decide +kernel
theorem dX9_rank_40 : decode cX9_rank 40 = .ok (.ireturn, 1) := by decide +kernel
def f_X9_rank (μ : Mm) (p1 : Int32) (p2 : Int32) : Option (Int32 × Mm) :=
 (f_X7_hasTask μ 0 p1).bind fun q9 =>
 if q9 = 0 then
 some ((-1 : Int32), μ)
 else
 (f_X9_isRank μ p2).bind fun q11 =>
 if q11 = 0 then
 some ((-1 : Int32), μ)
 else
 (f_X7_rankOf μ 0 p1).bind fun q13 =>
 (wa μ 702 0 8 p1 p2).bind fun m15 =>
 some (q13, m15)
set_option maxHeartbeats 4000000 in
set_option maxRecDepth 100000 in
theorem c_X9_rank (l : Launch) (E : En) {μ : Mm} {p1 : Int32} {p2 : Int32} (h0 : l9 E 0) {z : Int32 × Mm} (hf : f_X9_rank μ p1 p2 = some z) : Met l yX9_rank (wt yX9_rank cX9_rank 4 (some .int)) { frames := 1, cells := 0, slots := 0, locals := 21 } (Pm E [.ref (ad E 900 0), .int p1, .int p2] μ) (Qm E (some (.int z.1)) z.2) 0 0 (Ad E) := by
  unfold f_X9_rank at hf
  refine met_of (cc := cX9_rank) (nL := 4) (ret := (some .int)) (by decide) _ (Nat.le_of_ble_eq_true rfl) ?_
  intro p e s m below meth c C hr hlk hI ls hl
  have hx := C.1.1
  have hb := C.1.2.1
  have hl : lv_has ls 4 [(0, .ref (ad E 900 0)), (1, .int p1), (2, .int p2)] := hl
  refine lv_aload_n hx hb dX9_rank_0 rfl (lv_at hl 0 rfl) ?_
  refine gf_9_0 C hI h0.1 fl_X9_12 dX9_rank_1 ?_
  refine lv_iload_n hx hb dX9_rank_4 rfl (lv_at hl 1 rfl) ?_
  obtain ⟨q9, e10, hf⟩ := ob hf
  refine mcV (As := [.int p1]) (rest := []) C hI (c_X7_hasTask l E h0.2.2.2.2.1 e10) ml_X9_85 kv_X7_hasTask (m_recv C hI h0.2.2.2.2.1.1 (ce_700 E _ _ _) rfl) rfl rfl ⟨Nat.le_of_ble_eq_true rfl, Nat.le_of_ble_eq_true rfl⟩ ⟨Nat.zero_le _, Nat.zero_le _⟩ rfl rfl hl.1 (Nat.le_of_ble_eq_true rfl) dX9_rank_5 (st1 := [.int q9]) rfl (fun H locs hI => ?_)
  refine lv_if_eq (tgt := 18) hx hb dX9_rank_8 rfl (fun hc => ?_) (fun hc => ?_)
  · replace hf := it hf hc
    refine lv_iconst (v := (-1 : Int32)) hx hb dX9_rank_18 kc_m1 ?_
    obtain rfl := Option.some.inj hf
    exact m_iret C hr hlk hI dX9_rank_19
  · replace hf := ie hf hc
    refine lv_iload_n hx hb dX9_rank_11 rfl (lv_at hl 2 rfl) ?_
    obtain ⟨q11, e12, hf⟩ := ob hf
    refine mcS (As := [.int p2]) (rest := []) C hI (c_X9_isRank l E  e12) ml_X9_103 ks_X9_isRank rfl rfl ⟨Nat.le_of_ble_eq_true rfl, Nat.le_of_ble_eq_true rfl⟩ ⟨Nat.zero_le _, Nat.zero_le _⟩ rfl rfl hl.1 (Nat.le_of_ble_eq_true rfl) dX9_rank_12 (st1 := [.int q11]) rfl (fun H locs hI => ?_)
    refine lv_if_ne (tgt := 20) hx hb dX9_rank_15 rfl (fun hc => ?_) (fun hc => ?_)
    · replace hf := ie hf hc
      refine lv_aload_n hx hb dX9_rank_20 rfl (lv_at hl 0 rfl) ?_
      refine gf_9_0 C hI h0.1 fl_X9_12 dX9_rank_21 ?_
      refine lv_iload_n hx hb dX9_rank_24 rfl (lv_at hl 1 rfl) ?_
      obtain ⟨q13, e14, hf⟩ := ob hf
      refine mcV (As := [.int p1]) (rest := []) C hI (c_X7_rankOf l E h0.2.2.2.2.1 e14) ml_X9_106 kv_X7_rankOf (m_recv C hI h0.2.2.2.2.1.1 (ce_700 E _ _ _) rfl) rfl rfl ⟨Nat.le_of_ble_eq_true rfl, Nat.le_of_ble_eq_true rfl⟩ ⟨Nat.zero_le _, Nat.zero_le _⟩ rfl rfl hl.1 (Nat.le_of_ble_eq_true rfl) dX9_rank_25 (st1 := [.int q13]) rfl (fun H locs hI => ?_)
      refine lv_istore_n hx hb dX9_rank_28 rfl hl (by decide) rfl (fun ls hl => ?_)
      have hl : lv_has ls 4 [(3, .int q13), (0, .ref (ad E 900 0)), (1, .int p1), (2, .int p2)] := hl
      refine lv_aload_n hx hb dX9_rank_29 rfl (lv_at hl 1 rfl) ?_
      refine gf_9_0 C hI h0.1 fl_X9_12 dX9_rank_30 ?_
      refine gf_7_1 C hI h0.2.2.2.2.1.1 fl_X9_109 dX9_rank_33 ?_
      refine lv_iload_n hx hb dX9_rank_36 rfl (lv_at hl 2 rfl) ?_
      refine lv_iload_n hx hb dX9_rank_37 rfl (lv_at hl 3 rfl) ?_
      obtain ⟨m15, e16, hf⟩ := ob hf
      refine m_iast C hI h0.2.2.2.2.1.2.2.1 (ce_702 E _) e16 dX9_rank_38 (fun H locs hI => ?_)
      refine lv_iload_n hx hb dX9_rank_39 rfl (lv_at hl 0 rfl) ?_
      obtain rfl := Option.some.inj hf
      exact m_iret C hr hlk hI dX9_rank_40
    · replace hf := it hf hc
      refine lv_iconst (v := (-1 : Int32)) hx hb dX9_rank_18 kc_m1 ?_
      obtain rfl := Option.some.inj hf
      exact m_iret C hr hlk hI dX9_rank_19

theorem dX9_other_0 : decode cX9_other 0 = .ok (.aload_n 0, 1) := by decide +kernel
theorem dX9_other_1 : decode cX9_other 1 = .ok (.getfield 12, 3) := by decide +kernel
theorem dX9_other_4 : decode cX9_other 4 = .ok (.iload_n 1, 1) := by decide +kernel
theorem dX9_other_5 : decode cX9_other 5 = .ok (.invokevirtual 85, 3) := by decide +kernel
theorem dX9_other_8 : decode cX9_other 8 = .ok (.ifCond .eq 10, 3) := by decide +kernel
theorem dX9_other_11 : decode cX9_other 11 = .ok (.iload_n 2, 1) := by decide +kernel
theorem dX9_other_12 : decode cX9_other 12 = .ok (.invokestatic 103, 3) := by decide +kernel
theorem dX9_other_15 : decode cX9_other 15 = .ok (.ifCond .ne 5, 3) := by decide +kernel
theorem dX9_other_18 : decode cX9_other 18 = .ok (.iconst (-1), 1) := by decide +kernel
theorem dX9_other_19 : decode cX9_other 19 = .ok (.ireturn, 1) := by decide +kernel
theorem dX9_other_20 : decode cX9_other 20 = .ok (.aload_n 0, 1) := by decide +kernel
theorem dX9_other_21 : decode cX9_other 21 = .ok (.iload_n 1, 1) := by decide +kernel
theorem dX9_other_22 : decode cX9_other 22 = .ok (.invokevirtual 112, 3) := by decide +kernel
theorem dX9_other_25 : decode cX9_other 25 = .ok (.istore_n 3, 1) := by decide +kernel
theorem dX9_other_26 : decode cX9_other 26 = .ok (.aload_n 0, 1) := by decide +kernel
theorem dX9_other_27 : decode cX9_other 27 = .ok (.getfield 16, 3) := by decide +kernel
theorem dX9_other_30 : decode cX9_other 30 = .ok (.iload_n 1, 1) := by decide +kernel
theorem dX9_other_31 : decode cX9_other 31 = .ok (.iload_n 2, 1) := by decide +kernel
theorem dX9_other_32 : decode cX9_other 32 = .ok (.iastore, 1) := by decide +kernel
theorem dX9_other_33 : decode cX9_other 33 = .ok (.iload_n 3, 1) := by decide +kernel
theorem dX9_other_34 : decode cX9_other 34 = .ok (.ireturn, 1) := by decide +kernel
def f_X9_other (μ : Mm) (p1 : Int32) (p2 : Int32) : Option (Int32 × Mm) :=
 (f_X7_hasTask μ 0 p1).bind fun q9 =>
 if q9 = 0 then
 some ((-1 : Int32), μ)
 else
 (f_X9_isRank μ p2).bind fun q11 =>
 if q11 = 0 then
 some ((-1 : Int32), μ)
 else
 (f_X9_otherRankOf μ p1).bind fun q13 =>
 (wa μ 902 0 8 p1 p2).bind fun m15 =>
 some (q13, m15)
set_option maxHeartbeats 4000000 in
set_option maxRecDepth 100000 in
theorem c_X9_other (l : Launch) (E : En) {μ : Mm} {p1 : Int32} {p2 : Int32} (h0 : l9 E 0) {z : Int32 × Mm} (hf : f_X9_other μ p1 p2 = some z) : Met l yX9_other (wt yX9_other cX9_other 4 (some .int)) { frames := 2, cells := 0, slots := 0, locals := 42 } (Pm E [.ref (ad E 900 0), .int p1, .int p2] μ) (Qm E (some (.int z.1)) z.2) 0 0 (Ad E) := by
  unfold f_X9_other at hf
  refine met_of (cc := cX9_other) (nL := 4) (ret := (some .int)) (by decide) _ (Nat.le_of_ble_eq_true rfl) ?_
  intro p e s m below meth c C hr hlk hI ls hl
  have hx := C.1.1
  have hb := C.1.2.1
  have hl : lv_has ls 4 [(0, .ref (ad E 900 0)), (1, .int p1), (2, .int p2)] := hl
  refine lv_aload_n hx hb dX9_other_0 rfl (lv_at hl 0 rfl) ?_
  refine gf_9_0 C hI h0.1 fl_X9_12 dX9_other_1 ?_
  refine lv_iload_n hx hb dX9_other_4 rfl (lv_at hl 1 rfl) ?_
  obtain ⟨q9, e10, hf⟩ := ob hf
  refine mcV (As := [.int p1]) (rest := []) C hI (c_X7_hasTask l E h0.2.2.2.2.1 e10) ml_X9_85 kv_X7_hasTask (m_recv C hI h0.2.2.2.2.1.1 (ce_700 E _ _ _) rfl) rfl rfl ⟨Nat.le_of_ble_eq_true rfl, Nat.le_of_ble_eq_true rfl⟩ ⟨Nat.zero_le _, Nat.zero_le _⟩ rfl rfl hl.1 (Nat.le_of_ble_eq_true rfl) dX9_other_5 (st1 := [.int q9]) rfl (fun H locs hI => ?_)
  refine lv_if_eq (tgt := 18) hx hb dX9_other_8 rfl (fun hc => ?_) (fun hc => ?_)
  · replace hf := it hf hc
    refine lv_iconst (v := (-1 : Int32)) hx hb dX9_other_18 kc_m1 ?_
    obtain rfl := Option.some.inj hf
    exact m_iret C hr hlk hI dX9_other_19
  · replace hf := ie hf hc
    refine lv_iload_n hx hb dX9_other_11 rfl (lv_at hl 2 rfl) ?_
    obtain ⟨q11, e12, hf⟩ := ob hf
    refine mcS (As := [.int p2]) (rest := []) C hI (c_X9_isRank l E  e12) ml_X9_103 ks_X9_isRank rfl rfl ⟨Nat.le_of_ble_eq_true rfl, Nat.le_of_ble_eq_true rfl⟩ ⟨Nat.zero_le _, Nat.zero_le _⟩ rfl rfl hl.1 (Nat.le_of_ble_eq_true rfl) dX9_other_12 (st1 := [.int q11]) rfl (fun H locs hI => ?_)
    refine lv_if_ne (tgt := 20) hx hb dX9_other_15 rfl (fun hc => ?_) (fun hc => ?_)
    · replace hf := ie hf hc
      refine lv_aload_n hx hb dX9_other_20 rfl (lv_at hl 0 rfl) ?_
      refine lv_iload_n hx hb dX9_other_21 rfl (lv_at hl 1 rfl) ?_
      obtain ⟨q13, e14, hf⟩ := ob hf
      refine mcV (As := [.int p1]) (rest := []) C hI (c_X9_otherRankOf l E h0 e14) ml_X9_112 kv_X9_otherRankOf (m_recv C hI h0.1 (ce_900 E _ _ _) rfl) rfl rfl ⟨Nat.le_of_ble_eq_true rfl, Nat.le_of_ble_eq_true rfl⟩ ⟨Nat.zero_le _, Nat.zero_le _⟩ rfl rfl hl.1 (Nat.le_of_ble_eq_true rfl) dX9_other_22 (st1 := [.int q13]) rfl (fun H locs hI => ?_)
      refine lv_istore_n hx hb dX9_other_25 rfl hl (by decide) rfl (fun ls hl => ?_)
      have hl : lv_has ls 4 [(3, .int q13), (0, .ref (ad E 900 0)), (1, .int p1), (2, .int p2)] := hl
      refine lv_aload_n hx hb dX9_other_26 rfl (lv_at hl 1 rfl) ?_
      refine gf_9_1 C hI h0.1 fl_X9_16 dX9_other_27 ?_
      refine lv_iload_n hx hb dX9_other_30 rfl (lv_at hl 2 rfl) ?_
      refine lv_iload_n hx hb dX9_other_31 rfl (lv_at hl 3 rfl) ?_
      obtain ⟨m15, e16, hf⟩ := ob hf
      refine m_iast C hI h0.2.1 (ce_902 E _) e16 dX9_other_32 (fun H locs hI => ?_)
      refine lv_iload_n hx hb dX9_other_33 rfl (lv_at hl 0 rfl) ?_
      obtain rfl := Option.some.inj hf
      exact m_iret C hr hlk hI dX9_other_34
    · replace hf := it hf hc
      refine lv_iconst (v := (-1 : Int32)) hx hb dX9_other_18 kc_m1 ?_
      obtain rfl := Option.some.inj hf
      exact m_iret C hr hlk hI dX9_other_19

theorem dX9_busy_0 : decode cX9_busy 0 = .ok (.aload_n 0, 1) := by decide +kernel
theorem dX9_busy_1 : decode cX9_busy 1 = .ok (.getfield 12, 3) := by decide +kernel
theorem dX9_busy_4 : decode cX9_busy 4 = .ok (.iload_n 1, 1) := by decide +kernel
theorem dX9_busy_5 : decode cX9_busy 5 = .ok (.invokevirtual 89, 3) := by decide +kernel
theorem dX9_busy_8 : decode cX9_busy 8 = .ok (.ifCond .eq 12, 3) := by decide +kernel
theorem dX9_busy_11 : decode cX9_busy 11 = .ok (.iload_n 2, 1) := by decide +kernel
theorem dX9_busy_12 : decode cX9_busy 12 = .ok (.ifCond .lt 8, 3) := by decide +kernel
theorem dX9_busy_15 : decode cX9_busy 15 = .ok (.iload_n 2, 1) := by decide +kernel
theorem dX9_busy_16 : decode cX9_busy 16 = .ok (.iconst 3, 1) := by decide +kernel
theorem dX9_busy_17 : decode cX9_busy 17 = .ok (.if_icmp .le 5, 3) := by decide +kernel
theorem dX9_busy_20 : decode cX9_busy 20 = .ok (.iconst (-1), 1) := by decide +kernel
theorem dX9_busy_21 : decode cX9_busy 21 = .ok (.ireturn, 1) := by decide +kernel
theorem dX9_busy_22 : decode cX9_busy 22 = .ok (.aload_n 0, 1) := by decide +kernel
theorem dX9_busy_23 : decode cX9_busy 23 = .ok (.getfield 12, 3) := by decide +kernel
theorem dX9_busy_26 : decode cX9_busy 26 = .ok (.iload_n 1, 1) := by decide +kernel
theorem dX9_busy_27 : decode cX9_busy 27 = .ok (.invokevirtual 128, 3) := by decide +kernel
theorem dX9_busy_30 : decode cX9_busy 30 = .ok (.astore_n 3, 1) := by decide +kernel
theorem dX9_busy_31 : decode cX9_busy 31 = .ok (.iconst 0, 1) := by decide +kernel
theorem dX9_busy_32 : decode cX9_busy 32 = .ok (.istore 4, 2) := by decide +kernel
theorem dX9_busy_34 : decode cX9_busy 34 = .ok (.aload_n 0, 1) := by decide +kernel
theorem dX9_busy_35 : decode cX9_busy 35 = .ok (.getfield 39, 3) := by decide +kernel
theorem dX9_busy_38 : decode cX9_busy 38 = .ok (.invokevirtual 171, 3) := by decide +kernel
theorem dX9_busy_41 : decode cX9_busy 41 = .ok (.iconst 0, 1) := by decide +kernel
theorem dX9_busy_42 : decode cX9_busy 42 = .ok (.istore 5, 2) := by decide +kernel
theorem dX9_busy_44 : decode cX9_busy 44 = .ok (.iload 5, 2) := by decide +kernel
theorem dX9_busy_46 : decode cX9_busy 46 = .ok (.iconst 1, 1) := by decide +kernel
theorem dX9_busy_47 : decode cX9_busy 47 = .ok (.iadd, 1) := by decide +kernel
theorem dX9_busy_48 : decode cX9_busy 48 = .ok (.aload_n 3, 1) := by decide +kernel
theorem dX9_busy_49 : decode cX9_busy 49 = .ok (.getfield 174, 3) := by decide +kernel
theorem dX9_busy_52 : decode cX9_busy 52 = .ok (.if_icmp .ge 42, 3) := by decide +kernel
theorem dX9_busy_55 : decode cX9_busy 55 = .ok (.aload_n 0, 1) := by decide +kernel
theorem dX9_busy_56 : decode cX9_busy 56 = .ok (.getfield 39, 3) := by decide +kernel
theorem dX9_busy_59 : decode cX9_busy 59 = .ok (.aload_n 3, 1) := by decide +kernel
theorem dX9_busy_60 : decode cX9_busy 60 = .ok (.iload 5, 2) := by decide +kernel
theorem dX9_busy_62 : decode cX9_busy 62 = .ok (.invokevirtual 175, 3) := by decide +kernel
theorem dX9_busy_65 : decode cX9_busy 65 = .ok (.aload_n 0, 1) := by decide +kernel
theorem dX9_busy_66 : decode cX9_busy 66 = .ok (.getfield 39, 3) := by decide +kernel
theorem dX9_busy_69 : decode cX9_busy 69 = .ok (.invokevirtual 179, 3) := by decide +kernel
theorem dX9_busy_72 : decode cX9_busy 72 = .ok (.iload_n 2, 1) := by decide +kernel
theorem dX9_busy_73 : decode cX9_busy 73 = .ok (.if_icmp .ne 15, 3) := by decide +kernel
theorem dX9_busy_76 : decode cX9_busy 76 = .ok (.iload 4, 2) := by decide +kernel
theorem dX9_busy_78 : decode cX9_busy 78 = .ok (.aload_n 0, 1) := by decide +kernel
theorem dX9_busy_79 : decode cX9_busy 79 = .ok (.getfield 39, 3) := by decide +kernel
theorem dX9_busy_82 : decode cX9_busy 82 = .ok (.getfield 182, 3) := by decide +kernel
theorem dX9_busy_85 : decode cX9_busy 85 = .ok (.iadd, 1) := by decide +kernel
theorem dX9_busy_86 : decode cX9_busy 86 = .ok (.istore 4, 2) := by decide +kernel
theorem dX9_busy_88 : decode cX9_busy 88 = .ok (.iinc 5 1, 3) := by decide +kernel
theorem dX9_busy_91 : decode cX9_busy 91 = .ok (.goto (-47), 3) := by decide +kernel
theorem dX9_busy_94 : decode cX9_busy 94 = .ok (.iload 4, 2) := by decide +kernel
theorem dX9_busy_96 : decode cX9_busy 96 = .ok (.ireturn, 1) := by decide +kernel
def f_X9_busy_b44 (F : Nat) : Nat → Mm → Int32 → Nat → Int32 → Int32 → Option (Int32 × Mm)
 | 0, _, _, _, _, _ => none
 | N + 1, μ, a2, a3, a4, a5 =>
 if (μ.1 200 a3 5) ≤ (a5 + (1 : Int32)) then
 some (a4, μ)
 else
 (f_X8_step μ a3 a5).bind fun q11 =>
 (f_X8_doing q11).bind fun q13 =>
 if q13 = a2 then
 f_X9_busy_b44 F N q11 a2 a3 (a4 + (q11.1 800 0 1)) (a5 + (1 : Int32))
 else
 f_X9_busy_b44 F N q11 a2 a3 a4 (a5 + (1 : Int32))
set_option maxHeartbeats 4000000 in
set_option maxRecDepth 100000 in
theorem cb_X9_busy_44 {l : Launch} {E : En} {p : Program} {e : Env} {s : State} {m : MethodId} {av : Array Value} {below : List Frame} {meth : Method} {c : Code} (C : Cx E p s m av c cX9_busy 6 yX9_busy.cls) (hr : meth.sig.returnType = (some .int)) (hlk : meth.locks = false) {F : Nat} {z : Int32 × Mm} : ∀ (N : Nat) (μ : Mm) (a2 : Int32) (a3 : Nat) (a4 : Int32) (a5 : Int32) (h_a0 : l9 E 0) (h_a3 : l2 E a3), f_X9_busy_b44 F N μ a2 a3 a4 a5 = some z → ∀ {H : Heap} {locs : List Loc} {ls : Array Slot}, Iv E s μ H locs → lv_has ls 6 [(0, .ref (ad E 900 0)), (2, .int a2), (3, .ref (ad E 200 a3)), (4, .int a4), (5, .int a5)] → W p l e { frames := 4, cells := 0, slots := 0, locals := 89 } s m av below meth c H locs 0 0 (MQ below (Qm E (some (.int z.1)) z.2) av s 0 0 (Ad E)) (F0 m 44 ls []) := by
  have hx := C.1.1
  have hb := C.1.2.1
  intro N
  induction N with
  | zero => intro μ a2 a3 a4 a5 h_a0 h_a3 hf; cases hf
  | succ N ih =>
    intro μ a2 a3 a4 a5 h_a0 h_a3 hf H locs ls hI hl
    rw [f_X9_busy_b44] at hf
    refine lv_iload hx hb dX9_busy_44 (lv_at hl 4 rfl) ?_
    refine lv_iconst (v := (1 : Int32)) hx hb dX9_busy_46 kc_1 ?_
    refine lv_iadd hx hb dX9_busy_47 ?_
    refine lv_aload_n hx hb dX9_busy_48 rfl (lv_at hl 2 rfl) ?_
    refine gf_2_5 C hI h_a3.1 fl_X9_174 dX9_busy_49 ?_
    refine lv_icmp_ge (tgt := 94) hx hb dX9_busy_52 rfl (fun hc => ?_) (fun hc => ?_)
    · replace hf := it hf hc
      refine lv_iload hx hb dX9_busy_94 (lv_at hl 3 rfl) ?_
      obtain rfl := Option.some.inj hf
      exact m_iret C hr hlk hI dX9_busy_96
    · replace hf := ie hf hc
      refine lv_aload_n hx hb dX9_busy_55 rfl (lv_at hl 0 rfl) ?_
      refine gf_9_5 C hI h_a0.1 fl_X9_39 dX9_busy_56 ?_
      refine lv_aload_n hx hb dX9_busy_59 rfl (lv_at hl 2 rfl) ?_
      refine lv_iload hx hb dX9_busy_60 (lv_at hl 4 rfl) ?_
      obtain ⟨q11, e12, hf⟩ := ob hf
      refine mcV (As := [.ref (ad E 200 a3), .int a5]) (rest := []) C hI (c_X8_step l E h_a0.2.2.2.2.2.2.1 h_a3 e12) ml_X9_175 kv_X8_step (m_recv C hI h_a0.2.2.2.2.2.2.1.1 (ce_800 E _ _ _) rfl) rfl rfl ⟨Nat.le_of_ble_eq_true rfl, Nat.le_of_ble_eq_true rfl⟩ ⟨Nat.zero_le _, Nat.zero_le _⟩ rfl rfl hl.1 (Nat.le_of_ble_eq_true rfl) dX9_busy_62 (st1 := []) rfl (fun H locs hI => ?_)
      refine lv_aload_n hx hb dX9_busy_65 rfl (lv_at hl 0 rfl) ?_
      refine gf_9_5 C hI h_a0.1 fl_X9_39 dX9_busy_66 ?_
      obtain ⟨q13, e14, hf⟩ := ob hf
      refine mcV (As := []) (rest := []) C hI (c_X8_doing l E h_a0.2.2.2.2.2.2.1 e14) ml_X9_179 kv_X8_doing (m_recv C hI h_a0.2.2.2.2.2.2.1.1 (ce_800 E _ _ _) rfl) rfl rfl ⟨Nat.le_of_ble_eq_true rfl, Nat.le_of_ble_eq_true rfl⟩ ⟨Nat.zero_le _, Nat.zero_le _⟩ rfl rfl hl.1 (Nat.le_of_ble_eq_true rfl) dX9_busy_69 (st1 := [.int q13]) rfl (fun H locs hI => ?_)
      refine lv_iload_n hx hb dX9_busy_72 rfl (lv_at hl 1 rfl) ?_
      refine lv_icmp_ne (tgt := 88) hx hb dX9_busy_73 rfl (fun hc => ?_) (fun hc => ?_)
      · replace hf := ie hf hc
        refine lv_iinc (v := a5 + (1 : Int32)) hx hb dX9_busy_88 hl (k := 4) rfl (ki_1 _) (by decide) rfl (fun ls hl => ?_)
        have hl : lv_has ls 6 [(5, .int (a5 + (1 : Int32))), (0, .ref (ad E 900 0)), (2, .int a2), (3, .ref (ad E 200 a3)), (4, .int a4)] := hl
        refine lv_goto (tgt := 44) hx hb dX9_busy_91 rfl ?_
        exact ih _ _ _ _ _ h_a0 h_a3 hf hI (lv_sub hl [1, 2, 3, 4, 0] rfl)
      · replace hf := it hf hc
        refine lv_iload hx hb dX9_busy_76 (lv_at hl 3 rfl) ?_
        refine lv_aload_n hx hb dX9_busy_78 rfl (lv_at hl 0 rfl) ?_
        refine gf_9_5 C hI h_a0.1 fl_X9_39 dX9_busy_79 ?_
        refine gf_8_1 C hI h_a0.2.2.2.2.2.2.1.1 fl_X9_182 dX9_busy_82 ?_
        refine lv_iadd hx hb dX9_busy_85 ?_
        refine lv_istore hx hb dX9_busy_86 hl (by decide) rfl (fun ls hl => ?_)
        have hl : lv_has ls 6 [(4, .int (a4 + (q11.1 800 0 1))), (0, .ref (ad E 900 0)), (2, .int a2), (3, .ref (ad E 200 a3)), (5, .int a5)] := hl
        refine lv_iinc (v := a5 + (1 : Int32)) hx hb dX9_busy_88 hl (k := 4) rfl (ki_1 _) (by decide) rfl (fun ls hl => ?_)
        have hl : lv_has ls 6 [(5, .int (a5 + (1 : Int32))), (4, .int (a4 + (q11.1 800 0 1))), (0, .ref (ad E 900 0)), (2, .int a2), (3, .ref (ad E 200 a3))] := hl
        refine lv_goto (tgt := 44) hx hb dX9_busy_91 rfl ?_
        exact ih _ _ _ _ _ h_a0 h_a3 hf hI (lv_sub hl [2, 3, 4, 1, 0] rfl)
def f_X9_busy (F : Nat) (μ : Mm) (p1 : Int32) (p2 : Int32) : Option (Int32 × Mm) :=
 (f_X7_hasProcessor μ 0 p1).bind fun q15 =>
 if q15 = 0 then
 some ((-1 : Int32), μ)
 else
 if p2 < 0 then
 some ((-1 : Int32), μ)
 else
 if p2 ≤ (3 : Int32) then
 (f_X7_laneOf μ 0 p1).bind fun q17 =>
 (f_X8_start μ).bind fun q19 =>
 f_X9_busy_b44 F F q19 p2 q17 (0 : Int32) (0 : Int32)
 else
 some ((-1 : Int32), μ)
set_option maxHeartbeats 4000000 in
set_option maxRecDepth 100000 in
theorem c_X9_busy (l : Launch) (E : En) {F : Nat} {μ : Mm} {p1 : Int32} {p2 : Int32} (h0 : l9 E 0) {z : Int32 × Mm} (hf : f_X9_busy F μ p1 p2 = some z) : Met l yX9_busy (wt yX9_busy cX9_busy 6 (some .int)) { frames := 4, cells := 0, slots := 0, locals := 89 } (Pm E [.ref (ad E 900 0), .int p1, .int p2] μ) (Qm E (some (.int z.1)) z.2) 0 0 (Ad E) := by
  unfold f_X9_busy at hf
  refine met_of (cc := cX9_busy) (nL := 6) (ret := (some .int)) (by decide) _ (Nat.le_of_ble_eq_true rfl) ?_
  intro p e s m below meth c C hr hlk hI ls hl
  have hx := C.1.1
  have hb := C.1.2.1
  have hl : lv_has ls 6 [(0, .ref (ad E 900 0)), (1, .int p1), (2, .int p2)] := hl
  refine lv_aload_n hx hb dX9_busy_0 rfl (lv_at hl 0 rfl) ?_
  refine gf_9_0 C hI h0.1 fl_X9_12 dX9_busy_1 ?_
  refine lv_iload_n hx hb dX9_busy_4 rfl (lv_at hl 1 rfl) ?_
  obtain ⟨q15, e16, hf⟩ := ob hf
  refine mcV (As := [.int p1]) (rest := []) C hI (c_X7_hasProcessor l E h0.2.2.2.2.1 e16) ml_X9_89 kv_X7_hasProcessor (m_recv C hI h0.2.2.2.2.1.1 (ce_700 E _ _ _) rfl) rfl rfl ⟨Nat.le_of_ble_eq_true rfl, Nat.le_of_ble_eq_true rfl⟩ ⟨Nat.zero_le _, Nat.zero_le _⟩ rfl rfl hl.1 (Nat.le_of_ble_eq_true rfl) dX9_busy_5 (st1 := [.int q15]) rfl (fun H locs hI => ?_)
  refine lv_if_eq (tgt := 20) hx hb dX9_busy_8 rfl (fun hc => ?_) (fun hc => ?_)
  · replace hf := it hf hc
    refine lv_iconst (v := (-1 : Int32)) hx hb dX9_busy_20 kc_m1 ?_
    obtain rfl := Option.some.inj hf
    exact m_iret C hr hlk hI dX9_busy_21
  · replace hf := ie hf hc
    refine lv_iload_n hx hb dX9_busy_11 rfl (lv_at hl 2 rfl) ?_
    refine lv_if_lt (tgt := 20) hx hb dX9_busy_12 rfl (fun hc => ?_) (fun hc => ?_)
    · replace hf := it hf hc
      refine lv_iconst (v := (-1 : Int32)) hx hb dX9_busy_20 kc_m1 ?_
      obtain rfl := Option.some.inj hf
      exact m_iret C hr hlk hI dX9_busy_21
    · replace hf := ie hf hc
      refine lv_iload_n hx hb dX9_busy_15 rfl (lv_at hl 2 rfl) ?_
      refine lv_iconst (v := (3 : Int32)) hx hb dX9_busy_16 kc_3 ?_
      refine lv_icmp_le (tgt := 22) hx hb dX9_busy_17 rfl (fun hc => ?_) (fun hc => ?_)
      · replace hf := it hf hc
        refine lv_aload_n hx hb dX9_busy_22 rfl (lv_at hl 0 rfl) ?_
        refine gf_9_0 C hI h0.1 fl_X9_12 dX9_busy_23 ?_
        refine lv_iload_n hx hb dX9_busy_26 rfl (lv_at hl 1 rfl) ?_
        obtain ⟨q17, e18, hf⟩ := ob hf
        refine mcV (As := [.int p1]) (rest := []) C hI (c_X7_laneOf l E h0.2.2.2.2.1 e18) ml_X9_128 kv_X7_laneOf (m_recv C hI h0.2.2.2.2.1.1 (ce_700 E _ _ _) rfl) rfl rfl ⟨Nat.le_of_ble_eq_true rfl, Nat.le_of_ble_eq_true rfl⟩ ⟨Nat.zero_le _, Nat.zero_le _⟩ rfl rfl hl.1 (Nat.le_of_ble_eq_true rfl) dX9_busy_27 (st1 := [.ref (ad E 200 q17)]) rfl (fun H locs hI => ?_)
        refine lv_astore_n hx hb dX9_busy_30 rfl hl (by decide) rfl (fun ls hl => ?_)
        have hl : lv_has ls 6 [(3, .ref (ad E 200 q17)), (0, .ref (ad E 900 0)), (1, .int p1), (2, .int p2)] := hl
        refine lv_iconst (v := (0 : Int32)) hx hb dX9_busy_31 kc_0 ?_
        refine lv_istore hx hb dX9_busy_32 hl (by decide) rfl (fun ls hl => ?_)
        have hl : lv_has ls 6 [(4, .int (0 : Int32)), (3, .ref (ad E 200 q17)), (0, .ref (ad E 900 0)), (1, .int p1), (2, .int p2)] := hl
        refine lv_aload_n hx hb dX9_busy_34 rfl (lv_at hl 2 rfl) ?_
        refine gf_9_5 C hI h0.1 fl_X9_39 dX9_busy_35 ?_
        obtain ⟨q19, e20, hf⟩ := ob hf
        refine mcV (As := []) (rest := []) C hI (c_X8_start l E h0.2.2.2.2.2.2.1 e20) ml_X9_171 kv_X8_start (m_recv C hI h0.2.2.2.2.2.2.1.1 (ce_800 E _ _ _) rfl) rfl rfl ⟨Nat.le_of_ble_eq_true rfl, Nat.le_of_ble_eq_true rfl⟩ ⟨Nat.zero_le _, Nat.zero_le _⟩ rfl rfl hl.1 (Nat.le_of_ble_eq_true rfl) dX9_busy_38 (st1 := []) rfl (fun H locs hI => ?_)
        refine lv_iconst (v := (0 : Int32)) hx hb dX9_busy_41 kc_0 ?_
        refine lv_istore hx hb dX9_busy_42 hl (by decide) rfl (fun ls hl => ?_)
        have hl : lv_has ls 6 [(5, .int (0 : Int32)), (4, .int (0 : Int32)), (3, .ref (ad E 200 q17)), (0, .ref (ad E 900 0)), (1, .int p1), (2, .int p2)] := hl
        exact cb_X9_busy_44 C hr hlk  _ _ _ _ _ _ h0 (lr_X7_laneOf h0.2.2.2.2.1 e18) hf hI (lv_sub hl [3, 5, 2, 1, 0] rfl)
      · replace hf := ie hf hc
        refine lv_iconst (v := (-1 : Int32)) hx hb dX9_busy_20 kc_m1 ?_
        obtain rfl := Option.some.inj hf
        exact m_iret C hr hlk hI dX9_busy_21

theorem dX9_wait_0 : decode cX9_wait 0 = .ok (.aload_n 0, 1) := by decide +kernel
theorem dX9_wait_1 : decode cX9_wait 1 = .ok (.getfield 12, 3) := by decide +kernel
theorem dX9_wait_4 : decode cX9_wait 4 = .ok (.iload_n 1, 1) := by decide +kernel
theorem dX9_wait_5 : decode cX9_wait 5 = .ok (.invokevirtual 85, 3) := by decide +kernel
theorem dX9_wait_8 : decode cX9_wait 8 = .ok (.ifCond .eq 12, 3) := by decide +kernel
theorem dX9_wait_11 : decode cX9_wait 11 = .ok (.iload_n 2, 1) := by decide +kernel
theorem dX9_wait_12 : decode cX9_wait 12 = .ok (.ifCond .lt 8, 3) := by decide +kernel
theorem dX9_wait_15 : decode cX9_wait 15 = .ok (.iload_n 2, 1) := by decide +kernel
theorem dX9_wait_16 : decode cX9_wait 16 = .ok (.iconst 4, 1) := by decide +kernel
theorem dX9_wait_17 : decode cX9_wait 17 = .ok (.if_icmp .le 5, 3) := by decide +kernel
theorem dX9_wait_20 : decode cX9_wait 20 = .ok (.iconst (-1), 1) := by decide +kernel
theorem dX9_wait_21 : decode cX9_wait 21 = .ok (.ireturn, 1) := by decide +kernel
theorem dX9_wait_22 : decode cX9_wait 22 = .ok (.aload_n 0, 1) := by decide +kernel
theorem dX9_wait_23 : decode cX9_wait 23 = .ok (.getfield 12, 3) := by decide +kernel
theorem dX9_wait_26 : decode cX9_wait 26 = .ok (.iload_n 1, 1) := by decide +kernel
theorem dX9_wait_27 : decode cX9_wait 27 = .ok (.invokevirtual 149, 3) := by decide +kernel
theorem dX9_wait_30 : decode cX9_wait 30 = .ok (.astore_n 3, 1) := by decide +kernel
theorem dX9_wait_31 : decode cX9_wait 31 = .ok (.iconst 0, 1) := by decide +kernel
theorem dX9_wait_32 : decode cX9_wait 32 = .ok (.istore 4, 2) := by decide +kernel
theorem dX9_wait_34 : decode cX9_wait 34 = .ok (.aload_n 0, 1) := by decide +kernel
theorem dX9_wait_35 : decode cX9_wait 35 = .ok (.getfield 39, 3) := by decide +kernel
theorem dX9_wait_38 : decode cX9_wait 38 = .ok (.invokevirtual 171, 3) := by decide +kernel
theorem dX9_wait_41 : decode cX9_wait 41 = .ok (.iconst 0, 1) := by decide +kernel
theorem dX9_wait_42 : decode cX9_wait 42 = .ok (.istore 5, 2) := by decide +kernel
theorem dX9_wait_44 : decode cX9_wait 44 = .ok (.iload 5, 2) := by decide +kernel
theorem dX9_wait_46 : decode cX9_wait 46 = .ok (.iconst 1, 1) := by decide +kernel
theorem dX9_wait_47 : decode cX9_wait 47 = .ok (.iadd, 1) := by decide +kernel
theorem dX9_wait_48 : decode cX9_wait 48 = .ok (.aload_n 3, 1) := by decide +kernel
theorem dX9_wait_49 : decode cX9_wait 49 = .ok (.getfield 174, 3) := by decide +kernel
theorem dX9_wait_52 : decode cX9_wait 52 = .ok (.if_icmp .ge 59, 3) := by decide +kernel
theorem dX9_wait_55 : decode cX9_wait 55 = .ok (.aload_n 0, 1) := by decide +kernel
theorem dX9_wait_56 : decode cX9_wait 56 = .ok (.getfield 39, 3) := by decide +kernel
theorem dX9_wait_59 : decode cX9_wait 59 = .ok (.aload_n 3, 1) := by decide +kernel
theorem dX9_wait_60 : decode cX9_wait 60 = .ok (.iload 5, 2) := by decide +kernel
theorem dX9_wait_62 : decode cX9_wait 62 = .ok (.invokevirtual 175, 3) := by decide +kernel
theorem dX9_wait_65 : decode cX9_wait 65 = .ok (.aload_n 0, 1) := by decide +kernel
theorem dX9_wait_66 : decode cX9_wait 66 = .ok (.getfield 39, 3) := by decide +kernel
theorem dX9_wait_69 : decode cX9_wait 69 = .ok (.iload_n 1, 1) := by decide +kernel
theorem dX9_wait_70 : decode cX9_wait 70 = .ok (.invokevirtual 185, 3) := by decide +kernel
theorem dX9_wait_73 : decode cX9_wait 73 = .ok (.iconst 1, 1) := by decide +kernel
theorem dX9_wait_74 : decode cX9_wait 74 = .ok (.if_icmp .ne 31, 3) := by decide +kernel
theorem dX9_wait_77 : decode cX9_wait 77 = .ok (.aload_n 0, 1) := by decide +kernel
theorem dX9_wait_78 : decode cX9_wait 78 = .ok (.getfield 39, 3) := by decide +kernel
theorem dX9_wait_81 : decode cX9_wait 81 = .ok (.iload_n 1, 1) := by decide +kernel
theorem dX9_wait_82 : decode cX9_wait 82 = .ok (.aload_n 0, 1) := by decide +kernel
theorem dX9_wait_83 : decode cX9_wait 83 = .ok (.getfield 12, 3) := by decide +kernel
theorem dX9_wait_86 : decode cX9_wait 86 = .ok (.invokevirtual 188, 3) := by decide +kernel
theorem dX9_wait_89 : decode cX9_wait 89 = .ok (.iload_n 2, 1) := by decide +kernel
theorem dX9_wait_90 : decode cX9_wait 90 = .ok (.if_icmp .ne 15, 3) := by decide +kernel
theorem dX9_wait_93 : decode cX9_wait 93 = .ok (.iload 4, 2) := by decide +kernel
theorem dX9_wait_95 : decode cX9_wait 95 = .ok (.aload_n 0, 1) := by decide +kernel
theorem dX9_wait_96 : decode cX9_wait 96 = .ok (.getfield 39, 3) := by decide +kernel
theorem dX9_wait_99 : decode cX9_wait 99 = .ok (.getfield 182, 3) := by decide +kernel
theorem dX9_wait_102 : decode cX9_wait 102 = .ok (.iadd, 1) := by decide +kernel
theorem dX9_wait_103 : decode cX9_wait 103 = .ok (.istore 4, 2) := by decide +kernel
theorem dX9_wait_105 : decode cX9_wait 105 = .ok (.iinc 5 1, 3) := by decide +kernel
theorem dX9_wait_108 : decode cX9_wait 108 = .ok (.goto (-64), 3) := by decide +kernel
theorem dX9_wait_111 : decode cX9_wait 111 = .ok (.iload 4, 2) := by decide +kernel
theorem dX9_wait_113 : decode cX9_wait 113 = .ok (.ireturn, 1) := by decide +kernel
def f_X9_wait_b44 (F : Nat) : Nat → Mm → Int32 → Int32 → Nat → Int32 → Int32 → Option (Int32 × Mm)
 | 0, _, _, _, _, _, _ => none
 | N + 1, μ, a1, a2, a3, a4, a5 =>
 if (μ.1 200 a3 5) ≤ (a5 + (1 : Int32)) then
 some (a4, μ)
 else
 (f_X8_step μ a3 a5).bind fun q13 =>
 (f_X8_countsAs q13 a1).bind fun q15 =>
 if q15 = (1 : Int32) then
 (f_X8_readyBy q13 a1 0).bind fun q17 =>
 if q17 = a2 then
 f_X9_wait_b44 F N q13 a1 a2 a3 (a4 + (q13.1 800 0 1)) (a5 + (1 : Int32))
 else
 f_X9_wait_b44 F N q13 a1 a2 a3 a4 (a5 + (1 : Int32))
 else
 f_X9_wait_b44 F N q13 a1 a2 a3 a4 (a5 + (1 : Int32))
set_option maxHeartbeats 4000000 in
set_option maxRecDepth 100000 in
theorem cb_X9_wait_44 {l : Launch} {E : En} {p : Program} {e : Env} {s : State} {m : MethodId} {av : Array Value} {below : List Frame} {meth : Method} {c : Code} (C : Cx E p s m av c cX9_wait 6 yX9_wait.cls) (hr : meth.sig.returnType = (some .int)) (hlk : meth.locks = false) {F : Nat} {z : Int32 × Mm} : ∀ (N : Nat) (μ : Mm) (a1 : Int32) (a2 : Int32) (a3 : Nat) (a4 : Int32) (a5 : Int32) (h_a0 : l9 E 0) (h_a3 : l2 E a3), f_X9_wait_b44 F N μ a1 a2 a3 a4 a5 = some z → ∀ {H : Heap} {locs : List Loc} {ls : Array Slot}, Iv E s μ H locs → lv_has ls 6 [(0, .ref (ad E 900 0)), (1, .int a1), (2, .int a2), (3, .ref (ad E 200 a3)), (4, .int a4), (5, .int a5)] → W p l e { frames := 4, cells := 0, slots := 0, locals := 89 } s m av below meth c H locs 0 0 (MQ below (Qm E (some (.int z.1)) z.2) av s 0 0 (Ad E)) (F0 m 44 ls []) := by
  have hx := C.1.1
  have hb := C.1.2.1
  intro N
  induction N with
  | zero => intro μ a1 a2 a3 a4 a5 h_a0 h_a3 hf; cases hf
  | succ N ih =>
    intro μ a1 a2 a3 a4 a5 h_a0 h_a3 hf H locs ls hI hl
    rw [f_X9_wait_b44] at hf
    refine lv_iload hx hb dX9_wait_44 (lv_at hl 5 rfl) ?_
    refine lv_iconst (v := (1 : Int32)) hx hb dX9_wait_46 kc_1 ?_
    refine lv_iadd hx hb dX9_wait_47 ?_
    refine lv_aload_n hx hb dX9_wait_48 rfl (lv_at hl 3 rfl) ?_
    refine gf_2_5 C hI h_a3.1 fl_X9_174 dX9_wait_49 ?_
    refine lv_icmp_ge (tgt := 111) hx hb dX9_wait_52 rfl (fun hc => ?_) (fun hc => ?_)
    · replace hf := it hf hc
      refine lv_iload hx hb dX9_wait_111 (lv_at hl 4 rfl) ?_
      obtain rfl := Option.some.inj hf
      exact m_iret C hr hlk hI dX9_wait_113
    · replace hf := ie hf hc
      refine lv_aload_n hx hb dX9_wait_55 rfl (lv_at hl 0 rfl) ?_
      refine gf_9_5 C hI h_a0.1 fl_X9_39 dX9_wait_56 ?_
      refine lv_aload_n hx hb dX9_wait_59 rfl (lv_at hl 3 rfl) ?_
      refine lv_iload hx hb dX9_wait_60 (lv_at hl 5 rfl) ?_
      obtain ⟨q13, e14, hf⟩ := ob hf
      refine mcV (As := [.ref (ad E 200 a3), .int a5]) (rest := []) C hI (c_X8_step l E h_a0.2.2.2.2.2.2.1 h_a3 e14) ml_X9_175 kv_X8_step (m_recv C hI h_a0.2.2.2.2.2.2.1.1 (ce_800 E _ _ _) rfl) rfl rfl ⟨Nat.le_of_ble_eq_true rfl, Nat.le_of_ble_eq_true rfl⟩ ⟨Nat.zero_le _, Nat.zero_le _⟩ rfl rfl hl.1 (Nat.le_of_ble_eq_true rfl) dX9_wait_62 (st1 := []) rfl (fun H locs hI => ?_)
      refine lv_aload_n hx hb dX9_wait_65 rfl (lv_at hl 0 rfl) ?_
      refine gf_9_5 C hI h_a0.1 fl_X9_39 dX9_wait_66 ?_
      refine lv_iload_n hx hb dX9_wait_69 rfl (lv_at hl 1 rfl) ?_
      obtain ⟨q15, e16, hf⟩ := ob hf
      refine mcV (As := [.int a1]) (rest := []) C hI (c_X8_countsAs l E h_a0.2.2.2.2.2.2.1 e16) ml_X9_185 kv_X8_countsAs (m_recv C hI h_a0.2.2.2.2.2.2.1.1 (ce_800 E _ _ _) rfl) rfl rfl ⟨Nat.le_of_ble_eq_true rfl, Nat.le_of_ble_eq_true rfl⟩ ⟨Nat.zero_le _, Nat.zero_le _⟩ rfl rfl hl.1 (Nat.le_of_ble_eq_true rfl) dX9_wait_70 (st1 := [.int q15]) rfl (fun H locs hI => ?_)
      refine lv_iconst (v := (1 : Int32)) hx hb dX9_wait_73 kc_1 ?_
      refine lv_icmp_ne (tgt := 105) hx hb dX9_wait_74 rfl (fun hc => ?_) (fun hc => ?_)
      · replace hf := ie hf hc
        refine lv_iinc (v := a5 + (1 : Int32)) hx hb dX9_wait_105 hl (k := 5) rfl (ki_1 _) (by decide) rfl (fun ls hl => ?_)
        have hl : lv_has ls 6 [(5, .int (a5 + (1 : Int32))), (0, .ref (ad E 900 0)), (1, .int a1), (2, .int a2), (3, .ref (ad E 200 a3)), (4, .int a4)] := hl
        refine lv_goto (tgt := 44) hx hb dX9_wait_108 rfl ?_
        exact ih _ _ _ _ _ _ h_a0 h_a3 hf hI (lv_sub hl [1, 2, 3, 4, 5, 0] rfl)
      · replace hf := it hf hc
        refine lv_aload_n hx hb dX9_wait_77 rfl (lv_at hl 0 rfl) ?_
        refine gf_9_5 C hI h_a0.1 fl_X9_39 dX9_wait_78 ?_
        refine lv_iload_n hx hb dX9_wait_81 rfl (lv_at hl 1 rfl) ?_
        refine lv_aload_n hx hb dX9_wait_82 rfl (lv_at hl 0 rfl) ?_
        refine gf_9_0 C hI h_a0.1 fl_X9_12 dX9_wait_83 ?_
        obtain ⟨q17, e18, hf⟩ := ob hf
        refine mcV (As := [.int a1, .ref (ad E 700 0)]) (rest := []) C hI (c_X8_readyBy l E h_a0.2.2.2.2.2.2.1 h_a0.2.2.2.2.1 e18) ml_X9_188 kv_X8_readyBy (m_recv C hI h_a0.2.2.2.2.2.2.1.1 (ce_800 E _ _ _) rfl) rfl rfl ⟨Nat.le_of_ble_eq_true rfl, Nat.le_of_ble_eq_true rfl⟩ ⟨Nat.zero_le _, Nat.zero_le _⟩ rfl rfl hl.1 (Nat.le_of_ble_eq_true rfl) dX9_wait_86 (st1 := [.int q17]) rfl (fun H locs hI => ?_)
        refine lv_iload_n hx hb dX9_wait_89 rfl (lv_at hl 2 rfl) ?_
        refine lv_icmp_ne (tgt := 105) hx hb dX9_wait_90 rfl (fun hc => ?_) (fun hc => ?_)
        · replace hf := ie hf hc
          refine lv_iinc (v := a5 + (1 : Int32)) hx hb dX9_wait_105 hl (k := 5) rfl (ki_1 _) (by decide) rfl (fun ls hl => ?_)
          have hl : lv_has ls 6 [(5, .int (a5 + (1 : Int32))), (0, .ref (ad E 900 0)), (1, .int a1), (2, .int a2), (3, .ref (ad E 200 a3)), (4, .int a4)] := hl
          refine lv_goto (tgt := 44) hx hb dX9_wait_108 rfl ?_
          exact ih _ _ _ _ _ _ h_a0 h_a3 hf hI (lv_sub hl [1, 2, 3, 4, 5, 0] rfl)
        · replace hf := it hf hc
          refine lv_iload hx hb dX9_wait_93 (lv_at hl 4 rfl) ?_
          refine lv_aload_n hx hb dX9_wait_95 rfl (lv_at hl 0 rfl) ?_
          refine gf_9_5 C hI h_a0.1 fl_X9_39 dX9_wait_96 ?_
          refine gf_8_1 C hI h_a0.2.2.2.2.2.2.1.1 fl_X9_182 dX9_wait_99 ?_
          refine lv_iadd hx hb dX9_wait_102 ?_
          refine lv_istore hx hb dX9_wait_103 hl (by decide) rfl (fun ls hl => ?_)
          have hl : lv_has ls 6 [(4, .int (a4 + (q13.1 800 0 1))), (0, .ref (ad E 900 0)), (1, .int a1), (2, .int a2), (3, .ref (ad E 200 a3)), (5, .int a5)] := hl
          refine lv_iinc (v := a5 + (1 : Int32)) hx hb dX9_wait_105 hl (k := 5) rfl (ki_1 _) (by decide) rfl (fun ls hl => ?_)
          have hl : lv_has ls 6 [(5, .int (a5 + (1 : Int32))), (4, .int (a4 + (q13.1 800 0 1))), (0, .ref (ad E 900 0)), (1, .int a1), (2, .int a2), (3, .ref (ad E 200 a3))] := hl
          refine lv_goto (tgt := 44) hx hb dX9_wait_108 rfl ?_
          exact ih _ _ _ _ _ _ h_a0 h_a3 hf hI (lv_sub hl [2, 3, 4, 5, 1, 0] rfl)
def f_X9_wait (F : Nat) (μ : Mm) (p1 : Int32) (p2 : Int32) : Option (Int32 × Mm) :=
 (f_X7_hasTask μ 0 p1).bind fun q19 =>
 if q19 = 0 then
 some ((-1 : Int32), μ)
 else
 if p2 < 0 then
 some ((-1 : Int32), μ)
 else
 if p2 ≤ (4 : Int32) then
 (f_X7_homeLane μ 0 p1).bind fun q21 =>
 (f_X8_start μ).bind fun q23 =>
 f_X9_wait_b44 F F q23 p1 p2 q21 (0 : Int32) (0 : Int32)
 else
 some ((-1 : Int32), μ)
set_option maxHeartbeats 4000000 in
set_option maxRecDepth 100000 in
theorem c_X9_wait (l : Launch) (E : En) {F : Nat} {μ : Mm} {p1 : Int32} {p2 : Int32} (h0 : l9 E 0) {z : Int32 × Mm} (hf : f_X9_wait F μ p1 p2 = some z) : Met l yX9_wait (wt yX9_wait cX9_wait 6 (some .int)) { frames := 4, cells := 0, slots := 0, locals := 89 } (Pm E [.ref (ad E 900 0), .int p1, .int p2] μ) (Qm E (some (.int z.1)) z.2) 0 0 (Ad E) := by
  unfold f_X9_wait at hf
  refine met_of (cc := cX9_wait) (nL := 6) (ret := (some .int)) (by decide) _ (Nat.le_of_ble_eq_true rfl) ?_
  intro p e s m below meth c C hr hlk hI ls hl
  have hx := C.1.1
  have hb := C.1.2.1
  have hl : lv_has ls 6 [(0, .ref (ad E 900 0)), (1, .int p1), (2, .int p2)] := hl
  refine lv_aload_n hx hb dX9_wait_0 rfl (lv_at hl 0 rfl) ?_
  refine gf_9_0 C hI h0.1 fl_X9_12 dX9_wait_1 ?_
  refine lv_iload_n hx hb dX9_wait_4 rfl (lv_at hl 1 rfl) ?_
  obtain ⟨q19, e20, hf⟩ := ob hf
  refine mcV (As := [.int p1]) (rest := []) C hI (c_X7_hasTask l E h0.2.2.2.2.1 e20) ml_X9_85 kv_X7_hasTask (m_recv C hI h0.2.2.2.2.1.1 (ce_700 E _ _ _) rfl) rfl rfl ⟨Nat.le_of_ble_eq_true rfl, Nat.le_of_ble_eq_true rfl⟩ ⟨Nat.zero_le _, Nat.zero_le _⟩ rfl rfl hl.1 (Nat.le_of_ble_eq_true rfl) dX9_wait_5 (st1 := [.int q19]) rfl (fun H locs hI => ?_)
  refine lv_if_eq (tgt := 20) hx hb dX9_wait_8 rfl (fun hc => ?_) (fun hc => ?_)
  · replace hf := it hf hc
    refine lv_iconst (v := (-1 : Int32)) hx hb dX9_wait_20 kc_m1 ?_
    obtain rfl := Option.some.inj hf
    exact m_iret C hr hlk hI dX9_wait_21
  · replace hf := ie hf hc
    refine lv_iload_n hx hb dX9_wait_11 rfl (lv_at hl 2 rfl) ?_
    refine lv_if_lt (tgt := 20) hx hb dX9_wait_12 rfl (fun hc => ?_) (fun hc => ?_)
    · replace hf := it hf hc
      refine lv_iconst (v := (-1 : Int32)) hx hb dX9_wait_20 kc_m1 ?_
      obtain rfl := Option.some.inj hf
      exact m_iret C hr hlk hI dX9_wait_21
    · replace hf := ie hf hc
      refine lv_iload_n hx hb dX9_wait_15 rfl (lv_at hl 2 rfl) ?_
      refine lv_iconst (v := (4 : Int32)) hx hb dX9_wait_16 kc_4 ?_
      refine lv_icmp_le (tgt := 22) hx hb dX9_wait_17 rfl (fun hc => ?_) (fun hc => ?_)
      · replace hf := it hf hc
        refine lv_aload_n hx hb dX9_wait_22 rfl (lv_at hl 0 rfl) ?_
        refine gf_9_0 C hI h0.1 fl_X9_12 dX9_wait_23 ?_
        refine lv_iload_n hx hb dX9_wait_26 rfl (lv_at hl 1 rfl) ?_
        obtain ⟨q21, e22, hf⟩ := ob hf
        refine mcV (As := [.int p1]) (rest := []) C hI (c_X7_homeLane l E h0.2.2.2.2.1 e22) ml_X9_149 kv_X7_homeLane (m_recv C hI h0.2.2.2.2.1.1 (ce_700 E _ _ _) rfl) rfl rfl ⟨Nat.le_of_ble_eq_true rfl, Nat.le_of_ble_eq_true rfl⟩ ⟨Nat.zero_le _, Nat.zero_le _⟩ rfl rfl hl.1 (Nat.le_of_ble_eq_true rfl) dX9_wait_27 (st1 := [.ref (ad E 200 q21)]) rfl (fun H locs hI => ?_)
        refine lv_astore_n hx hb dX9_wait_30 rfl hl (by decide) rfl (fun ls hl => ?_)
        have hl : lv_has ls 6 [(3, .ref (ad E 200 q21)), (0, .ref (ad E 900 0)), (1, .int p1), (2, .int p2)] := hl
        refine lv_iconst (v := (0 : Int32)) hx hb dX9_wait_31 kc_0 ?_
        refine lv_istore hx hb dX9_wait_32 hl (by decide) rfl (fun ls hl => ?_)
        have hl : lv_has ls 6 [(4, .int (0 : Int32)), (3, .ref (ad E 200 q21)), (0, .ref (ad E 900 0)), (1, .int p1), (2, .int p2)] := hl
        refine lv_aload_n hx hb dX9_wait_34 rfl (lv_at hl 2 rfl) ?_
        refine gf_9_5 C hI h0.1 fl_X9_39 dX9_wait_35 ?_
        obtain ⟨q23, e24, hf⟩ := ob hf
        refine mcV (As := []) (rest := []) C hI (c_X8_start l E h0.2.2.2.2.2.2.1 e24) ml_X9_171 kv_X8_start (m_recv C hI h0.2.2.2.2.2.2.1.1 (ce_800 E _ _ _) rfl) rfl rfl ⟨Nat.le_of_ble_eq_true rfl, Nat.le_of_ble_eq_true rfl⟩ ⟨Nat.zero_le _, Nat.zero_le _⟩ rfl rfl hl.1 (Nat.le_of_ble_eq_true rfl) dX9_wait_38 (st1 := []) rfl (fun H locs hI => ?_)
        refine lv_iconst (v := (0 : Int32)) hx hb dX9_wait_41 kc_0 ?_
        refine lv_istore hx hb dX9_wait_42 hl (by decide) rfl (fun ls hl => ?_)
        have hl : lv_has ls 6 [(5, .int (0 : Int32)), (4, .int (0 : Int32)), (3, .ref (ad E 200 q21)), (0, .ref (ad E 900 0)), (1, .int p1), (2, .int p2)] := hl
        exact cb_X9_wait_44 C hr hlk  _ _ _ _ _ _ _ h0 (lr_X7_homeLane h0.2.2.2.2.1 e22) hf hI (lv_sub hl [3, 4, 5, 2, 1, 0] rfl)
      · replace hf := ie hf hc
        refine lv_iconst (v := (-1 : Int32)) hx hb dX9_wait_20 kc_m1 ?_
        obtain rfl := Option.some.inj hf
        exact m_iret C hr hlk hI dX9_wait_21

theorem dX9_held_0 : decode cX9_held 0 = .ok (.aload_n 0, 1) := by decide +kernel
theorem dX9_held_1 : decode cX9_held 1 = .ok (.getfield 12, 3) := by decide +kernel
theorem dX9_held_4 : decode cX9_held 4 = .ok (.iload_n 1, 1) := by decide +kernel
theorem dX9_held_5 : decode cX9_held 5 = .ok (.invokevirtual 85, 3) := by decide +kernel
theorem dX9_held_8 : decode cX9_held 8 = .ok (.ifCond .eq 13, 3) := by decide +kernel
theorem dX9_held_11 : decode cX9_held 11 = .ok (.iload_n 2, 1) := by decide +kernel
theorem dX9_held_12 : decode cX9_held 12 = .ok (.ifCond .lt 9, 3) := by decide +kernel
theorem dX9_held_15 : decode cX9_held 15 = .ok (.iload_n 2, 1) := by decide +kernel
theorem dX9_held_16 : decode cX9_held 16 = .ok (.bipush 6, 2) := by decide +kernel
theorem dX9_held_18 : decode cX9_held 18 = .ok (.if_icmp .le 5, 3) := by decide +kernel
theorem dX9_held_21 : decode cX9_held 21 = .ok (.iconst (-1), 1) := by decide +kernel
theorem dX9_held_22 : decode cX9_held 22 = .ok (.ireturn, 1) := by decide +kernel
theorem dX9_held_23 : decode cX9_held 23 = .ok (.aload_n 0, 1) := by decide +kernel
theorem dX9_held_24 : decode cX9_held 24 = .ok (.getfield 12, 3) := by decide +kernel
theorem dX9_held_27 : decode cX9_held 27 = .ok (.iload_n 1, 1) := by decide +kernel
theorem dX9_held_28 : decode cX9_held 28 = .ok (.invokevirtual 149, 3) := by decide +kernel
theorem dX9_held_31 : decode cX9_held 31 = .ok (.astore_n 3, 1) := by decide +kernel
theorem dX9_held_32 : decode cX9_held 32 = .ok (.iconst 0, 1) := by decide +kernel
theorem dX9_held_33 : decode cX9_held 33 = .ok (.istore 4, 2) := by decide +kernel
theorem dX9_held_35 : decode cX9_held 35 = .ok (.aload_n 0, 1) := by decide +kernel
theorem dX9_held_36 : decode cX9_held 36 = .ok (.getfield 39, 3) := by decide +kernel
theorem dX9_held_39 : decode cX9_held 39 = .ok (.invokevirtual 171, 3) := by decide +kernel
theorem dX9_held_42 : decode cX9_held 42 = .ok (.iconst 0, 1) := by decide +kernel
theorem dX9_held_43 : decode cX9_held 43 = .ok (.istore 5, 2) := by decide +kernel
theorem dX9_held_45 : decode cX9_held 45 = .ok (.iload 5, 2) := by decide +kernel
theorem dX9_held_47 : decode cX9_held 47 = .ok (.iconst 1, 1) := by decide +kernel
theorem dX9_held_48 : decode cX9_held 48 = .ok (.iadd, 1) := by decide +kernel
theorem dX9_held_49 : decode cX9_held 49 = .ok (.aload_n 3, 1) := by decide +kernel
theorem dX9_held_50 : decode cX9_held 50 = .ok (.getfield 174, 3) := by decide +kernel
theorem dX9_held_53 : decode cX9_held 53 = .ok (.if_icmp .ge 59, 3) := by decide +kernel
theorem dX9_held_56 : decode cX9_held 56 = .ok (.aload_n 0, 1) := by decide +kernel
theorem dX9_held_57 : decode cX9_held 57 = .ok (.getfield 39, 3) := by decide +kernel
theorem dX9_held_60 : decode cX9_held 60 = .ok (.aload_n 3, 1) := by decide +kernel
theorem dX9_held_61 : decode cX9_held 61 = .ok (.iload 5, 2) := by decide +kernel
theorem dX9_held_63 : decode cX9_held 63 = .ok (.invokevirtual 175, 3) := by decide +kernel
theorem dX9_held_66 : decode cX9_held 66 = .ok (.aload_n 0, 1) := by decide +kernel
theorem dX9_held_67 : decode cX9_held 67 = .ok (.getfield 39, 3) := by decide +kernel
theorem dX9_held_70 : decode cX9_held 70 = .ok (.iload_n 1, 1) := by decide +kernel
theorem dX9_held_71 : decode cX9_held 71 = .ok (.invokevirtual 185, 3) := by decide +kernel
theorem dX9_held_74 : decode cX9_held 74 = .ok (.iconst 3, 1) := by decide +kernel
theorem dX9_held_75 : decode cX9_held 75 = .ok (.if_icmp .ne 31, 3) := by decide +kernel
theorem dX9_held_78 : decode cX9_held 78 = .ok (.aload_n 0, 1) := by decide +kernel
theorem dX9_held_79 : decode cX9_held 79 = .ok (.getfield 39, 3) := by decide +kernel
theorem dX9_held_82 : decode cX9_held 82 = .ok (.iload_n 1, 1) := by decide +kernel
theorem dX9_held_83 : decode cX9_held 83 = .ok (.aload_n 0, 1) := by decide +kernel
theorem dX9_held_84 : decode cX9_held 84 = .ok (.getfield 12, 3) := by decide +kernel
theorem dX9_held_87 : decode cX9_held 87 = .ok (.invokevirtual 192, 3) := by decide +kernel
theorem dX9_held_90 : decode cX9_held 90 = .ok (.iload_n 2, 1) := by decide +kernel
theorem dX9_held_91 : decode cX9_held 91 = .ok (.if_icmp .ne 15, 3) := by decide +kernel
theorem dX9_held_94 : decode cX9_held 94 = .ok (.iload 4, 2) := by decide +kernel
theorem dX9_held_96 : decode cX9_held 96 = .ok (.aload_n 0, 1) := by decide +kernel
theorem dX9_held_97 : decode cX9_held 97 = .ok (.getfield 39, 3) := by decide +kernel
theorem dX9_held_100 : decode cX9_held 100 = .ok (.getfield 182, 3) := by decide +kernel
theorem dX9_held_103 : decode cX9_held 103 = .ok (.iadd, 1) := by decide +kernel
theorem dX9_held_104 : decode cX9_held 104 = .ok (.istore 4, 2) := by decide +kernel
theorem dX9_held_106 : decode cX9_held 106 = .ok (.iinc 5 1, 3) := by decide +kernel
theorem dX9_held_109 : decode cX9_held 109 = .ok (.goto (-64), 3) := by decide +kernel
theorem dX9_held_112 : decode cX9_held 112 = .ok (.iload 4, 2) := by decide +kernel
theorem dX9_held_114 : decode cX9_held 114 = .ok (.ireturn, 1) := by decide +kernel
def f_X9_held_b45 (F : Nat) : Nat → Mm → Int32 → Int32 → Nat → Int32 → Int32 → Option (Int32 × Mm)
 | 0, _, _, _, _, _, _ => none
 | N + 1, μ, a1, a2, a3, a4, a5 =>
 if (μ.1 200 a3 5) ≤ (a5 + (1 : Int32)) then
 some (a4, μ)
 else
 (f_X8_step μ a3 a5).bind fun q13 =>
 (f_X8_countsAs q13 a1).bind fun q15 =>
 if q15 = (3 : Int32) then
 (f_X8_wantingBy q13 a1 0).bind fun q17 =>
 if q17 = a2 then
 f_X9_held_b45 F N q13 a1 a2 a3 (a4 + (q13.1 800 0 1)) (a5 + (1 : Int32))
 else
 f_X9_held_b45 F N q13 a1 a2 a3 a4 (a5 + (1 : Int32))
 else
 f_X9_held_b45 F N q13 a1 a2 a3 a4 (a5 + (1 : Int32))
set_option maxHeartbeats 4000000 in
set_option maxRecDepth 100000 in
theorem cb_X9_held_45 {l : Launch} {E : En} {p : Program} {e : Env} {s : State} {m : MethodId} {av : Array Value} {below : List Frame} {meth : Method} {c : Code} (C : Cx E p s m av c cX9_held 6 yX9_held.cls) (hr : meth.sig.returnType = (some .int)) (hlk : meth.locks = false) {F : Nat} {z : Int32 × Mm} : ∀ (N : Nat) (μ : Mm) (a1 : Int32) (a2 : Int32) (a3 : Nat) (a4 : Int32) (a5 : Int32) (h_a0 : l9 E 0) (h_a3 : l2 E a3), f_X9_held_b45 F N μ a1 a2 a3 a4 a5 = some z → ∀ {H : Heap} {locs : List Loc} {ls : Array Slot}, Iv E s μ H locs → lv_has ls 6 [(0, .ref (ad E 900 0)), (1, .int a1), (2, .int a2), (3, .ref (ad E 200 a3)), (4, .int a4), (5, .int a5)] → W p l e { frames := 4, cells := 0, slots := 0, locals := 89 } s m av below meth c H locs 0 0 (MQ below (Qm E (some (.int z.1)) z.2) av s 0 0 (Ad E)) (F0 m 45 ls []) := by
  have hx := C.1.1
  have hb := C.1.2.1
  intro N
  induction N with
  | zero => intro μ a1 a2 a3 a4 a5 h_a0 h_a3 hf; cases hf
  | succ N ih =>
    intro μ a1 a2 a3 a4 a5 h_a0 h_a3 hf H locs ls hI hl
    rw [f_X9_held_b45] at hf
    refine lv_iload hx hb dX9_held_45 (lv_at hl 5 rfl) ?_
    refine lv_iconst (v := (1 : Int32)) hx hb dX9_held_47 kc_1 ?_
    refine lv_iadd hx hb dX9_held_48 ?_
    refine lv_aload_n hx hb dX9_held_49 rfl (lv_at hl 3 rfl) ?_
    refine gf_2_5 C hI h_a3.1 fl_X9_174 dX9_held_50 ?_
    refine lv_icmp_ge (tgt := 112) hx hb dX9_held_53 rfl (fun hc => ?_) (fun hc => ?_)
    · replace hf := it hf hc
      refine lv_iload hx hb dX9_held_112 (lv_at hl 4 rfl) ?_
      obtain rfl := Option.some.inj hf
      exact m_iret C hr hlk hI dX9_held_114
    · replace hf := ie hf hc
      refine lv_aload_n hx hb dX9_held_56 rfl (lv_at hl 0 rfl) ?_
      refine gf_9_5 C hI h_a0.1 fl_X9_39 dX9_held_57 ?_
      refine lv_aload_n hx hb dX9_held_60 rfl (lv_at hl 3 rfl) ?_
      refine lv_iload hx hb dX9_held_61 (lv_at hl 5 rfl) ?_
      obtain ⟨q13, e14, hf⟩ := ob hf
      refine mcV (As := [.ref (ad E 200 a3), .int a5]) (rest := []) C hI (c_X8_step l E h_a0.2.2.2.2.2.2.1 h_a3 e14) ml_X9_175 kv_X8_step (m_recv C hI h_a0.2.2.2.2.2.2.1.1 (ce_800 E _ _ _) rfl) rfl rfl ⟨Nat.le_of_ble_eq_true rfl, Nat.le_of_ble_eq_true rfl⟩ ⟨Nat.zero_le _, Nat.zero_le _⟩ rfl rfl hl.1 (Nat.le_of_ble_eq_true rfl) dX9_held_63 (st1 := []) rfl (fun H locs hI => ?_)
      refine lv_aload_n hx hb dX9_held_66 rfl (lv_at hl 0 rfl) ?_
      refine gf_9_5 C hI h_a0.1 fl_X9_39 dX9_held_67 ?_
      refine lv_iload_n hx hb dX9_held_70 rfl (lv_at hl 1 rfl) ?_
      obtain ⟨q15, e16, hf⟩ := ob hf
      refine mcV (As := [.int a1]) (rest := []) C hI (c_X8_countsAs l E h_a0.2.2.2.2.2.2.1 e16) ml_X9_185 kv_X8_countsAs (m_recv C hI h_a0.2.2.2.2.2.2.1.1 (ce_800 E _ _ _) rfl) rfl rfl ⟨Nat.le_of_ble_eq_true rfl, Nat.le_of_ble_eq_true rfl⟩ ⟨Nat.zero_le _, Nat.zero_le _⟩ rfl rfl hl.1 (Nat.le_of_ble_eq_true rfl) dX9_held_71 (st1 := [.int q15]) rfl (fun H locs hI => ?_)
      refine lv_iconst (v := (3 : Int32)) hx hb dX9_held_74 kc_3 ?_
      refine lv_icmp_ne (tgt := 106) hx hb dX9_held_75 rfl (fun hc => ?_) (fun hc => ?_)
      · replace hf := ie hf hc
        refine lv_iinc (v := a5 + (1 : Int32)) hx hb dX9_held_106 hl (k := 5) rfl (ki_1 _) (by decide) rfl (fun ls hl => ?_)
        have hl : lv_has ls 6 [(5, .int (a5 + (1 : Int32))), (0, .ref (ad E 900 0)), (1, .int a1), (2, .int a2), (3, .ref (ad E 200 a3)), (4, .int a4)] := hl
        refine lv_goto (tgt := 45) hx hb dX9_held_109 rfl ?_
        exact ih _ _ _ _ _ _ h_a0 h_a3 hf hI (lv_sub hl [1, 2, 3, 4, 5, 0] rfl)
      · replace hf := it hf hc
        refine lv_aload_n hx hb dX9_held_78 rfl (lv_at hl 0 rfl) ?_
        refine gf_9_5 C hI h_a0.1 fl_X9_39 dX9_held_79 ?_
        refine lv_iload_n hx hb dX9_held_82 rfl (lv_at hl 1 rfl) ?_
        refine lv_aload_n hx hb dX9_held_83 rfl (lv_at hl 0 rfl) ?_
        refine gf_9_0 C hI h_a0.1 fl_X9_12 dX9_held_84 ?_
        obtain ⟨q17, e18, hf⟩ := ob hf
        refine mcV (As := [.int a1, .ref (ad E 700 0)]) (rest := []) C hI (c_X8_wantingBy l E h_a0.2.2.2.2.2.2.1 h_a0.2.2.2.2.1 e18) ml_X9_192 kv_X8_wantingBy (m_recv C hI h_a0.2.2.2.2.2.2.1.1 (ce_800 E _ _ _) rfl) rfl rfl ⟨Nat.le_of_ble_eq_true rfl, Nat.le_of_ble_eq_true rfl⟩ ⟨Nat.zero_le _, Nat.zero_le _⟩ rfl rfl hl.1 (Nat.le_of_ble_eq_true rfl) dX9_held_87 (st1 := [.int q17]) rfl (fun H locs hI => ?_)
        refine lv_iload_n hx hb dX9_held_90 rfl (lv_at hl 2 rfl) ?_
        refine lv_icmp_ne (tgt := 106) hx hb dX9_held_91 rfl (fun hc => ?_) (fun hc => ?_)
        · replace hf := ie hf hc
          refine lv_iinc (v := a5 + (1 : Int32)) hx hb dX9_held_106 hl (k := 5) rfl (ki_1 _) (by decide) rfl (fun ls hl => ?_)
          have hl : lv_has ls 6 [(5, .int (a5 + (1 : Int32))), (0, .ref (ad E 900 0)), (1, .int a1), (2, .int a2), (3, .ref (ad E 200 a3)), (4, .int a4)] := hl
          refine lv_goto (tgt := 45) hx hb dX9_held_109 rfl ?_
          exact ih _ _ _ _ _ _ h_a0 h_a3 hf hI (lv_sub hl [1, 2, 3, 4, 5, 0] rfl)
        · replace hf := it hf hc
          refine lv_iload hx hb dX9_held_94 (lv_at hl 4 rfl) ?_
          refine lv_aload_n hx hb dX9_held_96 rfl (lv_at hl 0 rfl) ?_
          refine gf_9_5 C hI h_a0.1 fl_X9_39 dX9_held_97 ?_
          refine gf_8_1 C hI h_a0.2.2.2.2.2.2.1.1 fl_X9_182 dX9_held_100 ?_
          refine lv_iadd hx hb dX9_held_103 ?_
          refine lv_istore hx hb dX9_held_104 hl (by decide) rfl (fun ls hl => ?_)
          have hl : lv_has ls 6 [(4, .int (a4 + (q13.1 800 0 1))), (0, .ref (ad E 900 0)), (1, .int a1), (2, .int a2), (3, .ref (ad E 200 a3)), (5, .int a5)] := hl
          refine lv_iinc (v := a5 + (1 : Int32)) hx hb dX9_held_106 hl (k := 5) rfl (ki_1 _) (by decide) rfl (fun ls hl => ?_)
          have hl : lv_has ls 6 [(5, .int (a5 + (1 : Int32))), (4, .int (a4 + (q13.1 800 0 1))), (0, .ref (ad E 900 0)), (1, .int a1), (2, .int a2), (3, .ref (ad E 200 a3))] := hl
          refine lv_goto (tgt := 45) hx hb dX9_held_109 rfl ?_
          exact ih _ _ _ _ _ _ h_a0 h_a3 hf hI (lv_sub hl [2, 3, 4, 5, 1, 0] rfl)
def f_X9_held (F : Nat) (μ : Mm) (p1 : Int32) (p2 : Int32) : Option (Int32 × Mm) :=
 (f_X7_hasTask μ 0 p1).bind fun q19 =>
 if q19 = 0 then
 some ((-1 : Int32), μ)
 else
 if p2 < 0 then
 some ((-1 : Int32), μ)
 else
 if p2 ≤ (6 : Int32) then
 (f_X7_homeLane μ 0 p1).bind fun q21 =>
 (f_X8_start μ).bind fun q23 =>
 f_X9_held_b45 F F q23 p1 p2 q21 (0 : Int32) (0 : Int32)
 else
 some ((-1 : Int32), μ)
set_option maxHeartbeats 4000000 in
set_option maxRecDepth 100000 in
theorem c_X9_held (l : Launch) (E : En) {F : Nat} {μ : Mm} {p1 : Int32} {p2 : Int32} (h0 : l9 E 0) {z : Int32 × Mm} (hf : f_X9_held F μ p1 p2 = some z) : Met l yX9_held (wt yX9_held cX9_held 6 (some .int)) { frames := 4, cells := 0, slots := 0, locals := 89 } (Pm E [.ref (ad E 900 0), .int p1, .int p2] μ) (Qm E (some (.int z.1)) z.2) 0 0 (Ad E) := by
  unfold f_X9_held at hf
  refine met_of (cc := cX9_held) (nL := 6) (ret := (some .int)) (by decide) _ (Nat.le_of_ble_eq_true rfl) ?_
  intro p e s m below meth c C hr hlk hI ls hl
  have hx := C.1.1
  have hb := C.1.2.1
  have hl : lv_has ls 6 [(0, .ref (ad E 900 0)), (1, .int p1), (2, .int p2)] := hl
  refine lv_aload_n hx hb dX9_held_0 rfl (lv_at hl 0 rfl) ?_
  refine gf_9_0 C hI h0.1 fl_X9_12 dX9_held_1 ?_
  refine lv_iload_n hx hb dX9_held_4 rfl (lv_at hl 1 rfl) ?_
  obtain ⟨q19, e20, hf⟩ := ob hf
  refine mcV (As := [.int p1]) (rest := []) C hI (c_X7_hasTask l E h0.2.2.2.2.1 e20) ml_X9_85 kv_X7_hasTask (m_recv C hI h0.2.2.2.2.1.1 (ce_700 E _ _ _) rfl) rfl rfl ⟨Nat.le_of_ble_eq_true rfl, Nat.le_of_ble_eq_true rfl⟩ ⟨Nat.zero_le _, Nat.zero_le _⟩ rfl rfl hl.1 (Nat.le_of_ble_eq_true rfl) dX9_held_5 (st1 := [.int q19]) rfl (fun H locs hI => ?_)
  refine lv_if_eq (tgt := 21) hx hb dX9_held_8 rfl (fun hc => ?_) (fun hc => ?_)
  · replace hf := it hf hc
    refine lv_iconst (v := (-1 : Int32)) hx hb dX9_held_21 kc_m1 ?_
    obtain rfl := Option.some.inj hf
    exact m_iret C hr hlk hI dX9_held_22
  · replace hf := ie hf hc
    refine lv_iload_n hx hb dX9_held_11 rfl (lv_at hl 2 rfl) ?_
    refine lv_if_lt (tgt := 21) hx hb dX9_held_12 rfl (fun hc => ?_) (fun hc => ?_)
    · replace hf := it hf hc
      refine lv_iconst (v := (-1 : Int32)) hx hb dX9_held_21 kc_m1 ?_
      obtain rfl := Option.some.inj hf
      exact m_iret C hr hlk hI dX9_held_22
    · replace hf := ie hf hc
      refine lv_iload_n hx hb dX9_held_15 rfl (lv_at hl 2 rfl) ?_
      refine lv_bipush (v := (6 : Int32)) hx hb dX9_held_16 kb_6 ?_
      refine lv_icmp_le (tgt := 23) hx hb dX9_held_18 rfl (fun hc => ?_) (fun hc => ?_)
      · replace hf := it hf hc
        refine lv_aload_n hx hb dX9_held_23 rfl (lv_at hl 0 rfl) ?_
        refine gf_9_0 C hI h0.1 fl_X9_12 dX9_held_24 ?_
        refine lv_iload_n hx hb dX9_held_27 rfl (lv_at hl 1 rfl) ?_
        obtain ⟨q21, e22, hf⟩ := ob hf
        refine mcV (As := [.int p1]) (rest := []) C hI (c_X7_homeLane l E h0.2.2.2.2.1 e22) ml_X9_149 kv_X7_homeLane (m_recv C hI h0.2.2.2.2.1.1 (ce_700 E _ _ _) rfl) rfl rfl ⟨Nat.le_of_ble_eq_true rfl, Nat.le_of_ble_eq_true rfl⟩ ⟨Nat.zero_le _, Nat.zero_le _⟩ rfl rfl hl.1 (Nat.le_of_ble_eq_true rfl) dX9_held_28 (st1 := [.ref (ad E 200 q21)]) rfl (fun H locs hI => ?_)
        refine lv_astore_n hx hb dX9_held_31 rfl hl (by decide) rfl (fun ls hl => ?_)
        have hl : lv_has ls 6 [(3, .ref (ad E 200 q21)), (0, .ref (ad E 900 0)), (1, .int p1), (2, .int p2)] := hl
        refine lv_iconst (v := (0 : Int32)) hx hb dX9_held_32 kc_0 ?_
        refine lv_istore hx hb dX9_held_33 hl (by decide) rfl (fun ls hl => ?_)
        have hl : lv_has ls 6 [(4, .int (0 : Int32)), (3, .ref (ad E 200 q21)), (0, .ref (ad E 900 0)), (1, .int p1), (2, .int p2)] := hl
        refine lv_aload_n hx hb dX9_held_35 rfl (lv_at hl 2 rfl) ?_
        refine gf_9_5 C hI h0.1 fl_X9_39 dX9_held_36 ?_
        obtain ⟨q23, e24, hf⟩ := ob hf
        refine mcV (As := []) (rest := []) C hI (c_X8_start l E h0.2.2.2.2.2.2.1 e24) ml_X9_171 kv_X8_start (m_recv C hI h0.2.2.2.2.2.2.1.1 (ce_800 E _ _ _) rfl) rfl rfl ⟨Nat.le_of_ble_eq_true rfl, Nat.le_of_ble_eq_true rfl⟩ ⟨Nat.zero_le _, Nat.zero_le _⟩ rfl rfl hl.1 (Nat.le_of_ble_eq_true rfl) dX9_held_39 (st1 := []) rfl (fun H locs hI => ?_)
        refine lv_iconst (v := (0 : Int32)) hx hb dX9_held_42 kc_0 ?_
        refine lv_istore hx hb dX9_held_43 hl (by decide) rfl (fun ls hl => ?_)
        have hl : lv_has ls 6 [(5, .int (0 : Int32)), (4, .int (0 : Int32)), (3, .ref (ad E 200 q21)), (0, .ref (ad E 900 0)), (1, .int p1), (2, .int p2)] := hl
        exact cb_X9_held_45 C hr hlk  _ _ _ _ _ _ _ h0 (lr_X7_homeLane h0.2.2.2.2.1 e22) hf hI (lv_sub hl [3, 4, 5, 2, 1, 0] rfl)
      · replace hf := ie hf hc
        refine lv_iconst (v := (-1 : Int32)) hx hb dX9_held_21 kc_m1 ?_
        obtain rfl := Option.some.inj hf
        exact m_iret C hr hlk hI dX9_held_22

theorem dX9_chain_0 : decode cX9_chain 0 = .ok (.aload_n 0, 1) := by decide +kernel
theorem dX9_chain_1 : decode cX9_chain 1 = .ok (.getfield 12, 3) := by decide +kernel
theorem dX9_chain_4 : decode cX9_chain 4 = .ok (.iload_n 1, 1) := by decide +kernel
theorem dX9_chain_5 : decode cX9_chain 5 = .ok (.invokevirtual 85, 3) := by decide +kernel
theorem dX9_chain_8 : decode cX9_chain 8 = .ok (.ifCond .ne 5, 3) := by decide +kernel
theorem dX9_chain_11 : decode cX9_chain 11 = .ok (.iconst (-1), 1) := by decide +kernel
theorem dX9_chain_12 : decode cX9_chain 12 = .ok (.ireturn, 1) := by decide +kernel
theorem dX9_chain_13 : decode cX9_chain 13 = .ok (.aload_n 0, 1) := by decide +kernel
theorem dX9_chain_14 : decode cX9_chain 14 = .ok (.getfield 12, 3) := by decide +kernel
theorem dX9_chain_17 : decode cX9_chain 17 = .ok (.iload_n 1, 1) := by decide +kernel
theorem dX9_chain_18 : decode cX9_chain 18 = .ok (.invokevirtual 149, 3) := by decide +kernel
theorem dX9_chain_21 : decode cX9_chain 21 = .ok (.astore_n 2, 1) := by decide +kernel
theorem dX9_chain_22 : decode cX9_chain 22 = .ok (.iconst 0, 1) := by decide +kernel
theorem dX9_chain_23 : decode cX9_chain 23 = .ok (.istore_n 3, 1) := by decide +kernel
theorem dX9_chain_24 : decode cX9_chain 24 = .ok (.aload_n 0, 1) := by decide +kernel
theorem dX9_chain_25 : decode cX9_chain 25 = .ok (.getfield 39, 3) := by decide +kernel
theorem dX9_chain_28 : decode cX9_chain 28 = .ok (.invokevirtual 171, 3) := by decide +kernel
theorem dX9_chain_31 : decode cX9_chain 31 = .ok (.iconst 0, 1) := by decide +kernel
theorem dX9_chain_32 : decode cX9_chain 32 = .ok (.istore 4, 2) := by decide +kernel
theorem dX9_chain_34 : decode cX9_chain 34 = .ok (.iload 4, 2) := by decide +kernel
theorem dX9_chain_36 : decode cX9_chain 36 = .ok (.iconst 1, 1) := by decide +kernel
theorem dX9_chain_37 : decode cX9_chain 37 = .ok (.iadd, 1) := by decide +kernel
theorem dX9_chain_38 : decode cX9_chain 38 = .ok (.aload_n 2, 1) := by decide +kernel
theorem dX9_chain_39 : decode cX9_chain 39 = .ok (.getfield 174, 3) := by decide +kernel
theorem dX9_chain_42 : decode cX9_chain 42 = .ok (.if_icmp .ge 47, 3) := by decide +kernel
theorem dX9_chain_45 : decode cX9_chain 45 = .ok (.aload_n 0, 1) := by decide +kernel
theorem dX9_chain_46 : decode cX9_chain 46 = .ok (.getfield 39, 3) := by decide +kernel
theorem dX9_chain_49 : decode cX9_chain 49 = .ok (.aload_n 2, 1) := by decide +kernel
theorem dX9_chain_50 : decode cX9_chain 50 = .ok (.iload 4, 2) := by decide +kernel
theorem dX9_chain_52 : decode cX9_chain 52 = .ok (.invokevirtual 175, 3) := by decide +kernel
theorem dX9_chain_55 : decode cX9_chain 55 = .ok (.aload_n 0, 1) := by decide +kernel
theorem dX9_chain_56 : decode cX9_chain 56 = .ok (.getfield 39, 3) := by decide +kernel
theorem dX9_chain_59 : decode cX9_chain 59 = .ok (.iload_n 1, 1) := by decide +kernel
theorem dX9_chain_60 : decode cX9_chain 60 = .ok (.invokevirtual 185, 3) := by decide +kernel
theorem dX9_chain_63 : decode cX9_chain 63 = .ok (.iconst 3, 1) := by decide +kernel
theorem dX9_chain_64 : decode cX9_chain 64 = .ok (.if_icmp .ne 19, 3) := by decide +kernel
theorem dX9_chain_67 : decode cX9_chain 67 = .ok (.iload_n 3, 1) := by decide +kernel
theorem dX9_chain_68 : decode cX9_chain 68 = .ok (.aload_n 0, 1) := by decide +kernel
theorem dX9_chain_69 : decode cX9_chain 69 = .ok (.getfield 39, 3) := by decide +kernel
theorem dX9_chain_72 : decode cX9_chain 72 = .ok (.getfield 195, 3) := by decide +kernel
theorem dX9_chain_75 : decode cX9_chain 75 = .ok (.iload_n 1, 1) := by decide +kernel
theorem dX9_chain_76 : decode cX9_chain 76 = .ok (.invokevirtual 198, 3) := by decide +kernel
theorem dX9_chain_79 : decode cX9_chain 79 = .ok (.invokestatic 201, 3) := by decide +kernel
theorem dX9_chain_82 : decode cX9_chain 82 = .ok (.istore_n 3, 1) := by decide +kernel
theorem dX9_chain_83 : decode cX9_chain 83 = .ok (.iinc 4 1, 3) := by decide +kernel
theorem dX9_chain_86 : decode cX9_chain 86 = .ok (.goto (-52), 3) := by decide +kernel
theorem dX9_chain_89 : decode cX9_chain 89 = .ok (.iload_n 3, 1) := by decide +kernel
theorem dX9_chain_90 : decode cX9_chain 90 = .ok (.ireturn, 1) := by decide +kernel
def f_X9_chain_b34 (F : Nat) : Nat → Mm → Int32 → Nat → Int32 → Int32 → Option (Int32 × Mm)
 | 0, _, _, _, _, _ => none
 | N + 1, μ, a1, a2, a3, a4 =>
 if (μ.1 200 a2 5) ≤ (a4 + (1 : Int32)) then
 some (a3, μ)
 else
 (f_X8_step μ a2 a4).bind fun q13 =>
 (f_X8_countsAs q13 a1).bind fun q15 =>
 if q15 = (3 : Int32) then
 (f_X4_chainOf F q13 21 a1).bind fun q17 =>
 f_X9_chain_b34 F N q13 a1 a2 (if a3 < q17 then q17 else a3) (a4 + (1 : Int32))
 else
 f_X9_chain_b34 F N q13 a1 a2 a3 (a4 + (1 : Int32))
set_option maxHeartbeats 4000000 in
set_option maxRecDepth 100000 in
theorem cb_X9_chain_34 {l : Launch} {E : En} {p : Program} {e : Env} {s : State} {m : MethodId} {av : Array Value} {below : List Frame} {meth : Method} {c : Code} (C : Cx E p s m av c cX9_chain 5 yX9_chain.cls) (hr : meth.sig.returnType = (some .int)) (hlk : meth.locks = false) {F : Nat} {z : Int32 × Mm} : ∀ (N : Nat) (μ : Mm) (a1 : Int32) (a2 : Nat) (a3 : Int32) (a4 : Int32) (h_a0 : l9 E 0) (h_a2 : l2 E a2), f_X9_chain_b34 F N μ a1 a2 a3 a4 = some z → ∀ {H : Heap} {locs : List Loc} {ls : Array Slot}, Iv E s μ H locs → lv_has ls 5 [(0, .ref (ad E 900 0)), (1, .int a1), (2, .ref (ad E 200 a2)), (3, .int a3), (4, .int a4)] → W p l e { frames := 4, cells := 0, slots := 0, locals := 89 } s m av below meth c H locs 0 0 (MQ below (Qm E (some (.int z.1)) z.2) av s 0 0 (Ad E)) (F0 m 34 ls []) := by
  have hx := C.1.1
  have hb := C.1.2.1
  intro N
  induction N with
  | zero => intro μ a1 a2 a3 a4 h_a0 h_a2 hf; cases hf
  | succ N ih =>
    intro μ a1 a2 a3 a4 h_a0 h_a2 hf H locs ls hI hl
    rw [f_X9_chain_b34] at hf
    refine lv_iload hx hb dX9_chain_34 (lv_at hl 4 rfl) ?_
    refine lv_iconst (v := (1 : Int32)) hx hb dX9_chain_36 kc_1 ?_
    refine lv_iadd hx hb dX9_chain_37 ?_
    refine lv_aload_n hx hb dX9_chain_38 rfl (lv_at hl 2 rfl) ?_
    refine gf_2_5 C hI h_a2.1 fl_X9_174 dX9_chain_39 ?_
    refine lv_icmp_ge (tgt := 89) hx hb dX9_chain_42 rfl (fun hc => ?_) (fun hc => ?_)
    · replace hf := it hf hc
      refine lv_iload_n hx hb dX9_chain_89 rfl (lv_at hl 3 rfl) ?_
      obtain rfl := Option.some.inj hf
      exact m_iret C hr hlk hI dX9_chain_90
    · replace hf := ie hf hc
      refine lv_aload_n hx hb dX9_chain_45 rfl (lv_at hl 0 rfl) ?_
      refine gf_9_5 C hI h_a0.1 fl_X9_39 dX9_chain_46 ?_
      refine lv_aload_n hx hb dX9_chain_49 rfl (lv_at hl 2 rfl) ?_
      refine lv_iload hx hb dX9_chain_50 (lv_at hl 4 rfl) ?_
      obtain ⟨q13, e14, hf⟩ := ob hf
      refine mcV (As := [.ref (ad E 200 a2), .int a4]) (rest := []) C hI (c_X8_step l E h_a0.2.2.2.2.2.2.1 h_a2 e14) ml_X9_175 kv_X8_step (m_recv C hI h_a0.2.2.2.2.2.2.1.1 (ce_800 E _ _ _) rfl) rfl rfl ⟨Nat.le_of_ble_eq_true rfl, Nat.le_of_ble_eq_true rfl⟩ ⟨Nat.zero_le _, Nat.zero_le _⟩ rfl rfl hl.1 (Nat.le_of_ble_eq_true rfl) dX9_chain_52 (st1 := []) rfl (fun H locs hI => ?_)
      refine lv_aload_n hx hb dX9_chain_55 rfl (lv_at hl 0 rfl) ?_
      refine gf_9_5 C hI h_a0.1 fl_X9_39 dX9_chain_56 ?_
      refine lv_iload_n hx hb dX9_chain_59 rfl (lv_at hl 1 rfl) ?_
      obtain ⟨q15, e16, hf⟩ := ob hf
      refine mcV (As := [.int a1]) (rest := []) C hI (c_X8_countsAs l E h_a0.2.2.2.2.2.2.1 e16) ml_X9_185 kv_X8_countsAs (m_recv C hI h_a0.2.2.2.2.2.2.1.1 (ce_800 E _ _ _) rfl) rfl rfl ⟨Nat.le_of_ble_eq_true rfl, Nat.le_of_ble_eq_true rfl⟩ ⟨Nat.zero_le _, Nat.zero_le _⟩ rfl rfl hl.1 (Nat.le_of_ble_eq_true rfl) dX9_chain_60 (st1 := [.int q15]) rfl (fun H locs hI => ?_)
      refine lv_iconst (v := (3 : Int32)) hx hb dX9_chain_63 kc_3 ?_
      refine lv_icmp_ne (tgt := 83) hx hb dX9_chain_64 rfl (fun hc => ?_) (fun hc => ?_)
      · replace hf := ie hf hc
        refine lv_iinc (v := a4 + (1 : Int32)) hx hb dX9_chain_83 hl (k := 4) rfl (ki_1 _) (by decide) rfl (fun ls hl => ?_)
        have hl : lv_has ls 5 [(4, .int (a4 + (1 : Int32))), (0, .ref (ad E 900 0)), (1, .int a1), (2, .ref (ad E 200 a2)), (3, .int a3)] := hl
        refine lv_goto (tgt := 34) hx hb dX9_chain_86 rfl ?_
        exact ih _ _ _ _ _ h_a0 h_a2 hf hI (lv_sub hl [1, 2, 3, 4, 0] rfl)
      · replace hf := it hf hc
        refine lv_iload_n hx hb dX9_chain_67 rfl (lv_at hl 3 rfl) ?_
        refine lv_aload_n hx hb dX9_chain_68 rfl (lv_at hl 0 rfl) ?_
        refine gf_9_5 C hI h_a0.1 fl_X9_39 dX9_chain_69 ?_
        refine gf_8_0 C hI h_a0.2.2.2.2.2.2.1.1 fl_X9_195 dX9_chain_72 ?_
        refine lv_iload_n hx hb dX9_chain_75 rfl (lv_at hl 1 rfl) ?_
        obtain ⟨q17, e18, hf⟩ := ob hf
        refine mcV (As := [.int a1]) (rest := [.int a3]) C hI (c_X4_chainOf l E h_a0.2.2.2.2.2.2.1.2 e18) ml_X9_198 kv_X4_chainOf (m_recv C hI h_a0.2.2.2.2.2.2.1.2.1 (ce_400 E _ _ _) rfl) rfl rfl ⟨Nat.le_of_ble_eq_true rfl, Nat.le_of_ble_eq_true rfl⟩ ⟨Nat.zero_le _, Nat.zero_le _⟩ rfl rfl hl.1 (Nat.le_of_ble_eq_true rfl) dX9_chain_76 (st1 := [.int q17, .int a3]) rfl (fun H locs hI => ?_)
        refine mmaxI C hl.1 ml_X9_201 (Nat.le_of_ble_eq_true rfl) (Nat.le_of_ble_eq_true rfl) (Nat.zero_le _) (Nat.zero_le _) dX9_chain_79 ?_
        refine lv_istore_n hx hb dX9_chain_82 rfl hl (by decide) rfl (fun ls hl => ?_)
        have hl : lv_has ls 5 [(3, .int (if a3 < q17 then q17 else a3)), (0, .ref (ad E 900 0)), (1, .int a1), (2, .ref (ad E 200 a2)), (4, .int a4)] := hl
        refine lv_iinc (v := a4 + (1 : Int32)) hx hb dX9_chain_83 hl (k := 4) rfl (ki_1 _) (by decide) rfl (fun ls hl => ?_)
        have hl : lv_has ls 5 [(4, .int (a4 + (1 : Int32))), (3, .int (if a3 < q17 then q17 else a3)), (0, .ref (ad E 900 0)), (1, .int a1), (2, .ref (ad E 200 a2))] := hl
        refine lv_goto (tgt := 34) hx hb dX9_chain_86 rfl ?_
        exact ih _ _ _ _ _ h_a0 h_a2 hf hI (lv_sub hl [2, 3, 4, 1, 0] rfl)
def f_X9_chain (F : Nat) (μ : Mm) (p1 : Int32) : Option (Int32 × Mm) :=
 (f_X7_hasTask μ 0 p1).bind fun q19 =>
 if q19 = 0 then
 some ((-1 : Int32), μ)
 else
 (f_X7_homeLane μ 0 p1).bind fun q21 =>
 (f_X8_start μ).bind fun q23 =>
 f_X9_chain_b34 F F q23 p1 q21 (0 : Int32) (0 : Int32)
set_option maxHeartbeats 4000000 in
set_option maxRecDepth 100000 in
theorem c_X9_chain (l : Launch) (E : En) {F : Nat} {μ : Mm} {p1 : Int32} (h0 : l9 E 0) {z : Int32 × Mm} (hf : f_X9_chain F μ p1 = some z) : Met l yX9_chain (wt yX9_chain cX9_chain 5 (some .int)) { frames := 4, cells := 0, slots := 0, locals := 89 } (Pm E [.ref (ad E 900 0), .int p1] μ) (Qm E (some (.int z.1)) z.2) 0 0 (Ad E) := by
  unfold f_X9_chain at hf
  refine met_of (cc := cX9_chain) (nL := 5) (ret := (some .int)) (by decide) _ (Nat.le_of_ble_eq_true rfl) ?_
  intro p e s m below meth c C hr hlk hI ls hl
  have hx := C.1.1
  have hb := C.1.2.1
  have hl : lv_has ls 5 [(0, .ref (ad E 900 0)), (1, .int p1)] := hl
  refine lv_aload_n hx hb dX9_chain_0 rfl (lv_at hl 0 rfl) ?_
  refine gf_9_0 C hI h0.1 fl_X9_12 dX9_chain_1 ?_
  refine lv_iload_n hx hb dX9_chain_4 rfl (lv_at hl 1 rfl) ?_
  obtain ⟨q19, e20, hf⟩ := ob hf
  refine mcV (As := [.int p1]) (rest := []) C hI (c_X7_hasTask l E h0.2.2.2.2.1 e20) ml_X9_85 kv_X7_hasTask (m_recv C hI h0.2.2.2.2.1.1 (ce_700 E _ _ _) rfl) rfl rfl ⟨Nat.le_of_ble_eq_true rfl, Nat.le_of_ble_eq_true rfl⟩ ⟨Nat.zero_le _, Nat.zero_le _⟩ rfl rfl hl.1 (Nat.le_of_ble_eq_true rfl) dX9_chain_5 (st1 := [.int q19]) rfl (fun H locs hI => ?_)
  refine lv_if_ne (tgt := 13) hx hb dX9_chain_8 rfl (fun hc => ?_) (fun hc => ?_)
  · replace hf := ie hf hc
    refine lv_aload_n hx hb dX9_chain_13 rfl (lv_at hl 0 rfl) ?_
    refine gf_9_0 C hI h0.1 fl_X9_12 dX9_chain_14 ?_
    refine lv_iload_n hx hb dX9_chain_17 rfl (lv_at hl 1 rfl) ?_
    obtain ⟨q21, e22, hf⟩ := ob hf
    refine mcV (As := [.int p1]) (rest := []) C hI (c_X7_homeLane l E h0.2.2.2.2.1 e22) ml_X9_149 kv_X7_homeLane (m_recv C hI h0.2.2.2.2.1.1 (ce_700 E _ _ _) rfl) rfl rfl ⟨Nat.le_of_ble_eq_true rfl, Nat.le_of_ble_eq_true rfl⟩ ⟨Nat.zero_le _, Nat.zero_le _⟩ rfl rfl hl.1 (Nat.le_of_ble_eq_true rfl) dX9_chain_18 (st1 := [.ref (ad E 200 q21)]) rfl (fun H locs hI => ?_)
    refine lv_astore_n hx hb dX9_chain_21 rfl hl (by decide) rfl (fun ls hl => ?_)
    have hl : lv_has ls 5 [(2, .ref (ad E 200 q21)), (0, .ref (ad E 900 0)), (1, .int p1)] := hl
    refine lv_iconst (v := (0 : Int32)) hx hb dX9_chain_22 kc_0 ?_
    refine lv_istore_n hx hb dX9_chain_23 rfl hl (by decide) rfl (fun ls hl => ?_)
    have hl : lv_has ls 5 [(3, .int (0 : Int32)), (2, .ref (ad E 200 q21)), (0, .ref (ad E 900 0)), (1, .int p1)] := hl
    refine lv_aload_n hx hb dX9_chain_24 rfl (lv_at hl 2 rfl) ?_
    refine gf_9_5 C hI h0.1 fl_X9_39 dX9_chain_25 ?_
    obtain ⟨q23, e24, hf⟩ := ob hf
    refine mcV (As := []) (rest := []) C hI (c_X8_start l E h0.2.2.2.2.2.2.1 e24) ml_X9_171 kv_X8_start (m_recv C hI h0.2.2.2.2.2.2.1.1 (ce_800 E _ _ _) rfl) rfl rfl ⟨Nat.le_of_ble_eq_true rfl, Nat.le_of_ble_eq_true rfl⟩ ⟨Nat.zero_le _, Nat.zero_le _⟩ rfl rfl hl.1 (Nat.le_of_ble_eq_true rfl) dX9_chain_28 (st1 := []) rfl (fun H locs hI => ?_)
    refine lv_iconst (v := (0 : Int32)) hx hb dX9_chain_31 kc_0 ?_
    refine lv_istore hx hb dX9_chain_32 hl (by decide) rfl (fun ls hl => ?_)
    have hl : lv_has ls 5 [(4, .int (0 : Int32)), (3, .int (0 : Int32)), (2, .ref (ad E 200 q21)), (0, .ref (ad E 900 0)), (1, .int p1)] := hl
    exact cb_X9_chain_34 C hr hlk  _ _ _ _ _ _ h0 (lr_X7_homeLane h0.2.2.2.2.1 e22) hf hI (lv_sub hl [3, 4, 2, 1, 0] rfl)
  · replace hf := it hf hc
    refine lv_iconst (v := (-1 : Int32)) hx hb dX9_chain_11 kc_m1 ?_
    obtain rfl := Option.some.inj hf
    exact m_iret C hr hlk hI dX9_chain_12

theorem dX9_timeCountedAs_0 : decode cX9_timeCountedAs 0 = .ok (.aload_n 1, 1) := by decide +kernel
theorem dX9_timeCountedAs_1 : decode cX9_timeCountedAs 1 = .ok (.iload_n 2, 1) := by decide +kernel
theorem dX9_timeCountedAs_2 : decode cX9_timeCountedAs 2 = .ok (.invokevirtual 149, 3) := by decide +kernel
theorem dX9_timeCountedAs_5 : decode cX9_timeCountedAs 5 = .ok (.astore 4, 2) := by decide +kernel
theorem dX9_timeCountedAs_7 : decode cX9_timeCountedAs 7 = .ok (.iload_n 3, 1) := by decide +kernel
theorem dX9_timeCountedAs_8 : decode cX9_timeCountedAs 8 = .ok (.iconst 5, 1) := by decide +kernel
theorem dX9_timeCountedAs_9 : decode cX9_timeCountedAs 9 = .ok (.if_icmp .ne 9, 3) := by decide +kernel
theorem dX9_timeCountedAs_12 : decode cX9_timeCountedAs 12 = .ok (.aload 4, 2) := by decide +kernel
theorem dX9_timeCountedAs_14 : decode cX9_timeCountedAs 14 = .ok (.invokevirtual 207, 3) := by decide +kernel
theorem dX9_timeCountedAs_17 : decode cX9_timeCountedAs 17 = .ok (.ireturn, 1) := by decide +kernel
theorem dX9_timeCountedAs_18 : decode cX9_timeCountedAs 18 = .ok (.iconst 0, 1) := by decide +kernel
theorem dX9_timeCountedAs_19 : decode cX9_timeCountedAs 19 = .ok (.istore 5, 2) := by decide +kernel
theorem dX9_timeCountedAs_21 : decode cX9_timeCountedAs 21 = .ok (.aload_n 0, 1) := by decide +kernel
theorem dX9_timeCountedAs_22 : decode cX9_timeCountedAs 22 = .ok (.getfield 39, 3) := by decide +kernel
theorem dX9_timeCountedAs_25 : decode cX9_timeCountedAs 25 = .ok (.invokevirtual 171, 3) := by decide +kernel
theorem dX9_timeCountedAs_28 : decode cX9_timeCountedAs 28 = .ok (.iconst 0, 1) := by decide +kernel
theorem dX9_timeCountedAs_29 : decode cX9_timeCountedAs 29 = .ok (.istore 6, 2) := by decide +kernel
theorem dX9_timeCountedAs_31 : decode cX9_timeCountedAs 31 = .ok (.iload 6, 2) := by decide +kernel
theorem dX9_timeCountedAs_33 : decode cX9_timeCountedAs 33 = .ok (.iconst 1, 1) := by decide +kernel
theorem dX9_timeCountedAs_34 : decode cX9_timeCountedAs 34 = .ok (.iadd, 1) := by decide +kernel
theorem dX9_timeCountedAs_35 : decode cX9_timeCountedAs 35 = .ok (.aload 4, 2) := by decide +kernel
theorem dX9_timeCountedAs_37 : decode cX9_timeCountedAs 37 = .ok (.getfield 174, 3) := by decide +kernel
theorem dX9_timeCountedAs_40 : decode cX9_timeCountedAs 40 = .ok (.if_icmp .ge 44, 3) := by decide +kernel
theorem dX9_timeCountedAs_43 : decode cX9_timeCountedAs 43 = .ok (.aload_n 0, 1) := by decide +kernel
theorem dX9_timeCountedAs_44 : decode cX9_timeCountedAs 44 = .ok (.getfield 39, 3) := by decide +kernel
theorem dX9_timeCountedAs_47 : decode cX9_timeCountedAs 47 = .ok (.aload 4, 2) := by decide +kernel
theorem dX9_timeCountedAs_49 : decode cX9_timeCountedAs 49 = .ok (.iload 6, 2) := by decide +kernel
theorem dX9_timeCountedAs_51 : decode cX9_timeCountedAs 51 = .ok (.invokevirtual 175, 3) := by decide +kernel
theorem dX9_timeCountedAs_54 : decode cX9_timeCountedAs 54 = .ok (.aload_n 0, 1) := by decide +kernel
theorem dX9_timeCountedAs_55 : decode cX9_timeCountedAs 55 = .ok (.getfield 39, 3) := by decide +kernel
theorem dX9_timeCountedAs_58 : decode cX9_timeCountedAs 58 = .ok (.iload_n 2, 1) := by decide +kernel
theorem dX9_timeCountedAs_59 : decode cX9_timeCountedAs 59 = .ok (.invokevirtual 185, 3) := by decide +kernel
theorem dX9_timeCountedAs_62 : decode cX9_timeCountedAs 62 = .ok (.iload_n 3, 1) := by decide +kernel
theorem dX9_timeCountedAs_63 : decode cX9_timeCountedAs 63 = .ok (.if_icmp .ne 15, 3) := by decide +kernel
theorem dX9_timeCountedAs_66 : decode cX9_timeCountedAs 66 = .ok (.iload 5, 2) := by decide +kernel
theorem dX9_timeCountedAs_68 : decode cX9_timeCountedAs 68 = .ok (.aload_n 0, 1) := by decide +kernel
theorem dX9_timeCountedAs_69 : decode cX9_timeCountedAs 69 = .ok (.getfield 39, 3) := by decide +kernel
theorem dX9_timeCountedAs_72 : decode cX9_timeCountedAs 72 = .ok (.getfield 182, 3) := by decide +kernel
theorem dX9_timeCountedAs_75 : decode cX9_timeCountedAs 75 = .ok (.iadd, 1) := by decide +kernel
theorem dX9_timeCountedAs_76 : decode cX9_timeCountedAs 76 = .ok (.istore 5, 2) := by decide +kernel
theorem dX9_timeCountedAs_78 : decode cX9_timeCountedAs 78 = .ok (.iinc 6 1, 3) := by decide +kernel
theorem dX9_timeCountedAs_81 : decode cX9_timeCountedAs 81 = .ok (.goto (-50), 3) := by decide +kernel
theorem dX9_timeCountedAs_84 : decode cX9_timeCountedAs 84 = .ok (.iload 5, 2) := by decide +kernel
theorem dX9_timeCountedAs_86 : decode cX9_timeCountedAs 86 = .ok (.ireturn, 1) := by decide +kernel
def f_X9_timeCountedAs_b31 (F : Nat) : Nat → Mm → Int32 → Int32 → Nat → Int32 → Int32 → Option (Int32 × Mm)
 | 0, _, _, _, _, _, _ => none
 | N + 1, μ, a2, a3, a4, a5, a6 =>
 if (μ.1 200 a4 5) ≤ (a6 + (1 : Int32)) then
 some (a5, μ)
 else
 (f_X8_step μ a4 a6).bind fun q11 =>
 (f_X8_countsAs q11 a2).bind fun q13 =>
 if q13 = a3 then
 f_X9_timeCountedAs_b31 F N q11 a2 a3 a4 (a5 + (q11.1 800 0 1)) (a6 + (1 : Int32))
 else
 f_X9_timeCountedAs_b31 F N q11 a2 a3 a4 a5 (a6 + (1 : Int32))
set_option maxHeartbeats 4000000 in
set_option maxRecDepth 100000 in
theorem cb_X9_timeCountedAs_31 {l : Launch} {E : En} {p : Program} {e : Env} {s : State} {m : MethodId} {av : Array Value} {below : List Frame} {meth : Method} {c : Code} (C : Cx E p s m av c cX9_timeCountedAs 7 yX9_timeCountedAs.cls) (hr : meth.sig.returnType = (some .int)) (hlk : meth.locks = false) {F : Nat} {z : Int32 × Mm} : ∀ (N : Nat) (μ : Mm) (a2 : Int32) (a3 : Int32) (a4 : Nat) (a5 : Int32) (a6 : Int32) (h_a0 : l9 E 0) (h_a4 : l2 E a4), f_X9_timeCountedAs_b31 F N μ a2 a3 a4 a5 a6 = some z → ∀ {H : Heap} {locs : List Loc} {ls : Array Slot}, Iv E s μ H locs → lv_has ls 7 [(0, .ref (ad E 900 0)), (2, .int a2), (3, .int a3), (4, .ref (ad E 200 a4)), (5, .int a5), (6, .int a6)] → W p l e { frames := 4, cells := 0, slots := 0, locals := 89 } s m av below meth c H locs 0 0 (MQ below (Qm E (some (.int z.1)) z.2) av s 0 0 (Ad E)) (F0 m 31 ls []) := by
  have hx := C.1.1
  have hb := C.1.2.1
  intro N
  induction N with
  | zero => intro μ a2 a3 a4 a5 a6 h_a0 h_a4 hf; cases hf
  | succ N ih =>
    intro μ a2 a3 a4 a5 a6 h_a0 h_a4 hf H locs ls hI hl
    rw [f_X9_timeCountedAs_b31] at hf
    refine lv_iload hx hb dX9_timeCountedAs_31 (lv_at hl 5 rfl) ?_
    refine lv_iconst (v := (1 : Int32)) hx hb dX9_timeCountedAs_33 kc_1 ?_
    refine lv_iadd hx hb dX9_timeCountedAs_34 ?_
    refine lv_aload hx hb dX9_timeCountedAs_35 (lv_at hl 3 rfl) ?_
    refine gf_2_5 C hI h_a4.1 fl_X9_174 dX9_timeCountedAs_37 ?_
    refine lv_icmp_ge (tgt := 84) hx hb dX9_timeCountedAs_40 rfl (fun hc => ?_) (fun hc => ?_)
    · replace hf := it hf hc
      refine lv_iload hx hb dX9_timeCountedAs_84 (lv_at hl 4 rfl) ?_
      obtain rfl := Option.some.inj hf
      exact m_iret C hr hlk hI dX9_timeCountedAs_86
    · replace hf := ie hf hc
      refine lv_aload_n hx hb dX9_timeCountedAs_43 rfl (lv_at hl 0 rfl) ?_
      refine gf_9_5 C hI h_a0.1 fl_X9_39 dX9_timeCountedAs_44 ?_
      refine lv_aload hx hb dX9_timeCountedAs_47 (lv_at hl 3 rfl) ?_
      refine lv_iload hx hb dX9_timeCountedAs_49 (lv_at hl 5 rfl) ?_
      obtain ⟨q11, e12, hf⟩ := ob hf
      refine mcV (As := [.ref (ad E 200 a4), .int a6]) (rest := []) C hI (c_X8_step l E h_a0.2.2.2.2.2.2.1 h_a4 e12) ml_X9_175 kv_X8_step (m_recv C hI h_a0.2.2.2.2.2.2.1.1 (ce_800 E _ _ _) rfl) rfl rfl ⟨Nat.le_of_ble_eq_true rfl, Nat.le_of_ble_eq_true rfl⟩ ⟨Nat.zero_le _, Nat.zero_le _⟩ rfl rfl hl.1 (Nat.le_of_ble_eq_true rfl) dX9_timeCountedAs_51 (st1 := []) rfl (fun H locs hI => ?_)
      refine lv_aload_n hx hb dX9_timeCountedAs_54 rfl (lv_at hl 0 rfl) ?_
      refine gf_9_5 C hI h_a0.1 fl_X9_39 dX9_timeCountedAs_55 ?_
      refine lv_iload_n hx hb dX9_timeCountedAs_58 rfl (lv_at hl 1 rfl) ?_
      obtain ⟨q13, e14, hf⟩ := ob hf
      refine mcV (As := [.int a2]) (rest := []) C hI (c_X8_countsAs l E h_a0.2.2.2.2.2.2.1 e14) ml_X9_185 kv_X8_countsAs (m_recv C hI h_a0.2.2.2.2.2.2.1.1 (ce_800 E _ _ _) rfl) rfl rfl ⟨Nat.le_of_ble_eq_true rfl, Nat.le_of_ble_eq_true rfl⟩ ⟨Nat.zero_le _, Nat.zero_le _⟩ rfl rfl hl.1 (Nat.le_of_ble_eq_true rfl) dX9_timeCountedAs_59 (st1 := [.int q13]) rfl (fun H locs hI => ?_)
      refine lv_iload_n hx hb dX9_timeCountedAs_62 rfl (lv_at hl 2 rfl) ?_
      refine lv_icmp_ne (tgt := 78) hx hb dX9_timeCountedAs_63 rfl (fun hc => ?_) (fun hc => ?_)
      · replace hf := ie hf hc
        refine lv_iinc (v := a6 + (1 : Int32)) hx hb dX9_timeCountedAs_78 hl (k := 5) rfl (ki_1 _) (by decide) rfl (fun ls hl => ?_)
        have hl : lv_has ls 7 [(6, .int (a6 + (1 : Int32))), (0, .ref (ad E 900 0)), (2, .int a2), (3, .int a3), (4, .ref (ad E 200 a4)), (5, .int a5)] := hl
        refine lv_goto (tgt := 31) hx hb dX9_timeCountedAs_81 rfl ?_
        exact ih _ _ _ _ _ _ h_a0 h_a4 hf hI (lv_sub hl [1, 2, 3, 4, 5, 0] rfl)
      · replace hf := it hf hc
        refine lv_iload hx hb dX9_timeCountedAs_66 (lv_at hl 4 rfl) ?_
        refine lv_aload_n hx hb dX9_timeCountedAs_68 rfl (lv_at hl 0 rfl) ?_
        refine gf_9_5 C hI h_a0.1 fl_X9_39 dX9_timeCountedAs_69 ?_
        refine gf_8_1 C hI h_a0.2.2.2.2.2.2.1.1 fl_X9_182 dX9_timeCountedAs_72 ?_
        refine lv_iadd hx hb dX9_timeCountedAs_75 ?_
        refine lv_istore hx hb dX9_timeCountedAs_76 hl (by decide) rfl (fun ls hl => ?_)
        have hl : lv_has ls 7 [(5, .int (a5 + (q11.1 800 0 1))), (0, .ref (ad E 900 0)), (2, .int a2), (3, .int a3), (4, .ref (ad E 200 a4)), (6, .int a6)] := hl
        refine lv_iinc (v := a6 + (1 : Int32)) hx hb dX9_timeCountedAs_78 hl (k := 5) rfl (ki_1 _) (by decide) rfl (fun ls hl => ?_)
        have hl : lv_has ls 7 [(6, .int (a6 + (1 : Int32))), (5, .int (a5 + (q11.1 800 0 1))), (0, .ref (ad E 900 0)), (2, .int a2), (3, .int a3), (4, .ref (ad E 200 a4))] := hl
        refine lv_goto (tgt := 31) hx hb dX9_timeCountedAs_81 rfl ?_
        exact ih _ _ _ _ _ _ h_a0 h_a4 hf hI (lv_sub hl [2, 3, 4, 5, 1, 0] rfl)
def f_X9_timeCountedAs (F : Nat) (μ : Mm) (n1 : Nat) (p2 : Int32) (p3 : Int32) : Option (Int32 × Mm) :=
 (f_X7_homeLane μ n1 p2).bind fun q15 =>
 if p3 = (5 : Int32) then
 (f_X2_wholeLength μ q15).bind fun q19 =>
 some (q19, μ)
 else
 (f_X8_start μ).bind fun q17 =>
 f_X9_timeCountedAs_b31 F F q17 p2 p3 q15 (0 : Int32) (0 : Int32)
set_option maxHeartbeats 4000000 in
set_option maxRecDepth 100000 in
theorem c_X9_timeCountedAs (l : Launch) (E : En) {F : Nat} {μ : Mm} {n1 : Nat} {p2 : Int32} {p3 : Int32} (h0 : l9 E 0) (h1 : l7 E n1) {z : Int32 × Mm} (hf : f_X9_timeCountedAs F μ n1 p2 p3 = some z) : Met l yX9_timeCountedAs (wt yX9_timeCountedAs cX9_timeCountedAs 7 (some .int)) { frames := 4, cells := 0, slots := 0, locals := 89 } (Pm E [.ref (ad E 900 0), .ref (ad E 700 n1), .int p2, .int p3] μ) (Qm E (some (.int z.1)) z.2) 0 0 (Ad E) := by
  unfold f_X9_timeCountedAs at hf
  refine met_of (cc := cX9_timeCountedAs) (nL := 7) (ret := (some .int)) (by decide) _ (Nat.le_of_ble_eq_true rfl) ?_
  intro p e s m below meth c C hr hlk hI ls hl
  have hx := C.1.1
  have hb := C.1.2.1
  have hl : lv_has ls 7 [(0, .ref (ad E 900 0)), (1, .ref (ad E 700 n1)), (2, .int p2), (3, .int p3)] := hl
  refine lv_aload_n hx hb dX9_timeCountedAs_0 rfl (lv_at hl 1 rfl) ?_
  refine lv_iload_n hx hb dX9_timeCountedAs_1 rfl (lv_at hl 2 rfl) ?_
  obtain ⟨q15, e16, hf⟩ := ob hf
  refine mcV (As := [.int p2]) (rest := []) C hI (c_X7_homeLane l E h1 e16) ml_X9_149 kv_X7_homeLane (m_recv C hI h1.1 (ce_700 E _ _ _) rfl) rfl rfl ⟨Nat.le_of_ble_eq_true rfl, Nat.le_of_ble_eq_true rfl⟩ ⟨Nat.zero_le _, Nat.zero_le _⟩ rfl rfl hl.1 (Nat.le_of_ble_eq_true rfl) dX9_timeCountedAs_2 (st1 := [.ref (ad E 200 q15)]) rfl (fun H locs hI => ?_)
  refine lv_astore hx hb dX9_timeCountedAs_5 hl (by decide) rfl (fun ls hl => ?_)
  have hl : lv_has ls 7 [(4, .ref (ad E 200 q15)), (0, .ref (ad E 900 0)), (1, .ref (ad E 700 n1)), (2, .int p2), (3, .int p3)] := hl
  refine lv_iload_n hx hb dX9_timeCountedAs_7 rfl (lv_at hl 4 rfl) ?_
  refine lv_iconst (v := (5 : Int32)) hx hb dX9_timeCountedAs_8 kc_5 ?_
  refine lv_icmp_ne (tgt := 18) hx hb dX9_timeCountedAs_9 rfl (fun hc => ?_) (fun hc => ?_)
  · replace hf := ie hf hc
    refine lv_iconst (v := (0 : Int32)) hx hb dX9_timeCountedAs_18 kc_0 ?_
    refine lv_istore hx hb dX9_timeCountedAs_19 hl (by decide) rfl (fun ls hl => ?_)
    have hl : lv_has ls 7 [(5, .int (0 : Int32)), (4, .ref (ad E 200 q15)), (0, .ref (ad E 900 0)), (1, .ref (ad E 700 n1)), (2, .int p2), (3, .int p3)] := hl
    refine lv_aload_n hx hb dX9_timeCountedAs_21 rfl (lv_at hl 2 rfl) ?_
    refine gf_9_5 C hI h0.1 fl_X9_39 dX9_timeCountedAs_22 ?_
    obtain ⟨q17, e18, hf⟩ := ob hf
    refine mcV (As := []) (rest := []) C hI (c_X8_start l E h0.2.2.2.2.2.2.1 e18) ml_X9_171 kv_X8_start (m_recv C hI h0.2.2.2.2.2.2.1.1 (ce_800 E _ _ _) rfl) rfl rfl ⟨Nat.le_of_ble_eq_true rfl, Nat.le_of_ble_eq_true rfl⟩ ⟨Nat.zero_le _, Nat.zero_le _⟩ rfl rfl hl.1 (Nat.le_of_ble_eq_true rfl) dX9_timeCountedAs_25 (st1 := []) rfl (fun H locs hI => ?_)
    refine lv_iconst (v := (0 : Int32)) hx hb dX9_timeCountedAs_28 kc_0 ?_
    refine lv_istore hx hb dX9_timeCountedAs_29 hl (by decide) rfl (fun ls hl => ?_)
    have hl : lv_has ls 7 [(6, .int (0 : Int32)), (5, .int (0 : Int32)), (4, .ref (ad E 200 q15)), (0, .ref (ad E 900 0)), (1, .ref (ad E 700 n1)), (2, .int p2), (3, .int p3)] := hl
    exact cb_X9_timeCountedAs_31 C hr hlk  _ _ _ _ _ _ _ h0 (lr_X7_homeLane h1 e16) hf hI (lv_sub hl [3, 5, 6, 2, 1, 0] rfl)
  · replace hf := it hf hc
    refine lv_aload hx hb dX9_timeCountedAs_12 (lv_at hl 0 rfl) ?_
    obtain ⟨q19, e20, hf⟩ := ob hf
    refine mcV (As := []) (rest := []) C hI (c_X2_wholeLength l E (lr_X7_homeLane h1 e16) e20) ml_X9_207 kv_X2_wholeLength (m_recv C hI (lr_X7_homeLane h1 e16).1 (ce_200 E _ _ _) rfl) rfl rfl ⟨Nat.le_of_ble_eq_true rfl, Nat.le_of_ble_eq_true rfl⟩ ⟨Nat.zero_le _, Nat.zero_le _⟩ rfl rfl hl.1 (Nat.le_of_ble_eq_true rfl) dX9_timeCountedAs_14 (st1 := [.int q19]) rfl (fun H locs hI => ?_)
    obtain rfl := Option.some.inj hf
    exact m_iret C hr hlk hI dX9_timeCountedAs_17

theorem dX9_law_0 : decode cX9_law 0 = .ok (.aload_n 0, 1) := by decide +kernel
theorem dX9_law_1 : decode cX9_law 1 = .ok (.iload_n 1, 1) := by decide +kernel
theorem dX9_law_2 : decode cX9_law 2 = .ok (.iload_n 2, 1) := by decide +kernel
theorem dX9_law_3 : decode cX9_law 3 = .ok (.iload_n 3, 1) := by decide +kernel
theorem dX9_law_4 : decode cX9_law 4 = .ok (.iload 4, 2) := by decide +kernel
theorem dX9_law_6 : decode cX9_law 6 = .ok (.invokevirtual 247, 3) := by decide +kernel
theorem dX9_law_9 : decode cX9_law 9 = .ok (.ifCond .ne 5, 3) := by decide +kernel
theorem dX9_law_12 : decode cX9_law 12 = .ok (.iconst (-1), 1) := by decide +kernel
theorem dX9_law_13 : decode cX9_law 13 = .ok (.ireturn, 1) := by decide +kernel
theorem dX9_law_14 : decode cX9_law 14 = .ok (.aload_n 0, 1) := by decide +kernel
theorem dX9_law_15 : decode cX9_law 15 = .ok (.getfield 26, 3) := by decide +kernel
theorem dX9_law_18 : decode cX9_law 18 = .ok (.getfield 125, 3) := by decide +kernel
theorem dX9_law_21 : decode cX9_law 21 = .ok (.bipush 8, 2) := by decide +kernel
theorem dX9_law_23 : decode cX9_law 23 = .ok (.if_icmp .lt 6, 3) := by decide +kernel
theorem dX9_law_26 : decode cX9_law 26 = .ok (.bipush (-4), 2) := by decide +kernel
theorem dX9_law_28 : decode cX9_law 28 = .ok (.ireturn, 1) := by decide +kernel
theorem dX9_law_29 : decode cX9_law 29 = .ok (.aload_n 0, 1) := by decide +kernel
theorem dX9_law_30 : decode cX9_law 30 = .ok (.getfield 26, 3) := by decide +kernel
theorem dX9_law_33 : decode cX9_law 33 = .ok (.iload_n 1, 1) := by decide +kernel
theorem dX9_law_34 : decode cX9_law 34 = .ok (.iload_n 2, 1) := by decide +kernel
theorem dX9_law_35 : decode cX9_law 35 = .ok (.iload_n 3, 1) := by decide +kernel
theorem dX9_law_36 : decode cX9_law 36 = .ok (.iload 4, 2) := by decide +kernel
theorem dX9_law_38 : decode cX9_law 38 = .ok (.invokevirtual 251, 3) := by decide +kernel
theorem dX9_law_41 : decode cX9_law 41 = .ok (.ireturn, 1) := by decide +kernel
def f_X9_law (μ : Mm) (p1 : Int32) (p2 : Int32) (p3 : Int32) (p4 : Int32) : Option (Int32 × Mm) :=
 (f_X9_isLaw μ p1 p2 p3 p4).bind fun q5 =>
 if q5 = 0 then
 some ((-1 : Int32), μ)
 else
 if (μ.1 300 0 4) < (8 : Int32) then
 (f_X3_add μ p1 p2 p3 p4).bind fun q7 =>
 some (q7.1, q7.2)
 else
 some ((-4 : Int32), μ)
set_option maxHeartbeats 4000000 in
set_option maxRecDepth 100000 in
theorem c_X9_law (l : Launch) (E : En) {μ : Mm} {p1 : Int32} {p2 : Int32} {p3 : Int32} {p4 : Int32} (h0 : l9 E 0) {z : Int32 × Mm} (hf : f_X9_law μ p1 p2 p3 p4 = some z) : Met l yX9_law (wt yX9_law cX9_law 5 (some .int)) { frames := 2, cells := 0, slots := 0, locals := 45 } (Pm E [.ref (ad E 900 0), .int p1, .int p2, .int p3, .int p4] μ) (Qm E (some (.int z.1)) z.2) 0 0 (Ad E) := by
  unfold f_X9_law at hf
  refine met_of (cc := cX9_law) (nL := 5) (ret := (some .int)) (by decide) _ (Nat.le_of_ble_eq_true rfl) ?_
  intro p e s m below meth c C hr hlk hI ls hl
  have hx := C.1.1
  have hb := C.1.2.1
  have hl : lv_has ls 5 [(0, .ref (ad E 900 0)), (1, .int p1), (2, .int p2), (3, .int p3), (4, .int p4)] := hl
  refine lv_aload_n hx hb dX9_law_0 rfl (lv_at hl 0 rfl) ?_
  refine lv_iload_n hx hb dX9_law_1 rfl (lv_at hl 1 rfl) ?_
  refine lv_iload_n hx hb dX9_law_2 rfl (lv_at hl 2 rfl) ?_
  refine lv_iload_n hx hb dX9_law_3 rfl (lv_at hl 3 rfl) ?_
  refine lv_iload hx hb dX9_law_4 (lv_at hl 4 rfl) ?_
  obtain ⟨q5, e6, hf⟩ := ob hf
  refine mcV (As := [.int p1, .int p2, .int p3, .int p4]) (rest := []) C hI (c_X9_isLaw l E h0 e6) ml_X9_247 kv_X9_isLaw (m_recv C hI h0.1 (ce_900 E _ _ _) rfl) rfl rfl ⟨Nat.le_of_ble_eq_true rfl, Nat.le_of_ble_eq_true rfl⟩ ⟨Nat.zero_le _, Nat.zero_le _⟩ rfl rfl hl.1 (Nat.le_of_ble_eq_true rfl) dX9_law_6 (st1 := [.int q5]) rfl (fun H locs hI => ?_)
  refine lv_if_ne (tgt := 14) hx hb dX9_law_9 rfl (fun hc => ?_) (fun hc => ?_)
  · replace hf := ie hf hc
    refine lv_aload_n hx hb dX9_law_14 rfl (lv_at hl 0 rfl) ?_
    refine gf_9_3 C hI h0.1 fl_X9_26 dX9_law_15 ?_
    refine gf_3_4 C hI h0.2.2.2.2.2.1.1 fl_X9_125 dX9_law_18 ?_
    refine lv_bipush (v := (8 : Int32)) hx hb dX9_law_21 kb_8 ?_
    refine lv_icmp_lt (tgt := 29) hx hb dX9_law_23 rfl (fun hc => ?_) (fun hc => ?_)
    · replace hf := it hf hc
      refine lv_aload_n hx hb dX9_law_29 rfl (lv_at hl 0 rfl) ?_
      refine gf_9_3 C hI h0.1 fl_X9_26 dX9_law_30 ?_
      refine lv_iload_n hx hb dX9_law_33 rfl (lv_at hl 1 rfl) ?_
      refine lv_iload_n hx hb dX9_law_34 rfl (lv_at hl 2 rfl) ?_
      refine lv_iload_n hx hb dX9_law_35 rfl (lv_at hl 3 rfl) ?_
      refine lv_iload hx hb dX9_law_36 (lv_at hl 4 rfl) ?_
      obtain ⟨q7, e8, hf⟩ := ob hf
      refine mcV (As := [.int p1, .int p2, .int p3, .int p4]) (rest := []) C hI (c_X3_add l E h0.2.2.2.2.2.1 e8) ml_X9_251 kv_X3_add (m_recv C hI h0.2.2.2.2.2.1.1 (ce_300 E _ _ _) rfl) rfl rfl ⟨Nat.le_of_ble_eq_true rfl, Nat.le_of_ble_eq_true rfl⟩ ⟨Nat.zero_le _, Nat.zero_le _⟩ rfl rfl hl.1 (Nat.le_of_ble_eq_true rfl) dX9_law_38 (st1 := [.int q7.1]) rfl (fun H locs hI => ?_)
      obtain rfl := Option.some.inj hf
      exact m_iret C hr hlk hI dX9_law_41
    · replace hf := ie hf hc
      refine lv_bipush (v := (-4 : Int32)) hx hb dX9_law_26 kb_m4 ?_
      obtain rfl := Option.some.inj hf
      exact m_iret C hr hlk hI dX9_law_28
  · replace hf := it hf hc
    refine lv_iconst (v := (-1 : Int32)) hx hb dX9_law_12 kc_m1 ?_
    obtain rfl := Option.some.inj hf
    exact m_iret C hr hlk hI dX9_law_13

theorem dX9_tape_0 : decode cX9_tape 0 = .ok (.iload_n 1, 1) := by decide +kernel
theorem dX9_tape_1 : decode cX9_tape 1 = .ok (.invokestatic 357, 3) := by decide +kernel
theorem dX9_tape_4 : decode cX9_tape 4 = .ok (.ifCond .eq 19, 3) := by decide +kernel
theorem dX9_tape_7 : decode cX9_tape 7 = .ok (.iload_n 2, 1) := by decide +kernel
theorem dX9_tape_8 : decode cX9_tape 8 = .ok (.iconst 1, 1) := by decide +kernel
theorem dX9_tape_9 : decode cX9_tape 9 = .ok (.if_icmp .lt 14, 3) := by decide +kernel
theorem dX9_tape_12 : decode cX9_tape 12 = .ok (.iload_n 2, 1) := by decide +kernel
theorem dX9_tape_13 : decode cX9_tape 13 = .ok (.iconst 4, 1) := by decide +kernel
theorem dX9_tape_14 : decode cX9_tape 14 = .ok (.if_icmp .gt 9, 3) := by decide +kernel
theorem dX9_tape_17 : decode cX9_tape 17 = .ok (.iload_n 3, 1) := by decide +kernel
theorem dX9_tape_18 : decode cX9_tape 18 = .ok (.bipush 100, 2) := by decide +kernel
theorem dX9_tape_20 : decode cX9_tape 20 = .ok (.if_icmp .le 5, 3) := by decide +kernel
theorem dX9_tape_23 : decode cX9_tape 23 = .ok (.iconst (-1), 1) := by decide +kernel
theorem dX9_tape_24 : decode cX9_tape 24 = .ok (.ireturn, 1) := by decide +kernel
theorem dX9_tape_25 : decode cX9_tape 25 = .ok (.iload_n 3, 1) := by decide +kernel
theorem dX9_tape_26 : decode cX9_tape 26 = .ok (.ifCond .ge 10, 3) := by decide +kernel
theorem dX9_tape_29 : decode cX9_tape 29 = .ok (.aload_n 0, 1) := by decide +kernel
theorem dX9_tape_30 : decode cX9_tape 30 = .ok (.bipush (-14), 2) := by decide +kernel
theorem dX9_tape_32 : decode cX9_tape 32 = .ok (.invokevirtual 360, 3) := by decide +kernel
theorem dX9_tape_35 : decode cX9_tape 35 = .ok (.ireturn, 1) := by decide +kernel
theorem dX9_tape_36 : decode cX9_tape 36 = .ok (.aload_n 0, 1) := by decide +kernel
theorem dX9_tape_37 : decode cX9_tape 37 = .ok (.getfield 32, 3) := by decide +kernel
theorem dX9_tape_40 : decode cX9_tape 40 = .ok (.iload_n 1, 1) := by decide +kernel
theorem dX9_tape_41 : decode cX9_tape 41 = .ok (.aaload, 1) := by decide +kernel
theorem dX9_tape_42 : decode cX9_tape 42 = .ok (.iload_n 2, 1) := by decide +kernel
theorem dX9_tape_43 : decode cX9_tape 43 = .ok (.iload_n 3, 1) := by decide +kernel
theorem dX9_tape_44 : decode cX9_tape 44 = .ok (.invokevirtual 363, 3) := by decide +kernel
theorem dX9_tape_47 : decode cX9_tape 47 = .ok (.iload_n 3, 1) := by decide +kernel
theorem dX9_tape_48 : decode cX9_tape 48 = .ok (.ireturn, 1) := by decide +kernel
def f_X9_tape (μ : Mm) (p1 : Int32) (p2 : Int32) (p3 : Int32) : Option (Int32 × Mm) :=
 (f_X9_isTape μ p1).bind fun q9 =>
 if q9 = 0 then
 some ((-1 : Int32), μ)
 else
 if p2 < (1 : Int32) then
 some ((-1 : Int32), μ)
 else
 if (4 : Int32) < p2 then
 some ((-1 : Int32), μ)
 else
 if p3 ≤ (100 : Int32) then
 if 0 ≤ p3 then
 (rq 6 p1).bind fun j11 =>
 (f_X6_layRow μ j11 p2 p3).bind fun q13 =>
 some (p3, q13)
 else
 (f_X9_refuse μ (-14 : Int32)).bind fun q15 =>
 some (q15.1, q15.2)
 else
 some ((-1 : Int32), μ)
set_option maxHeartbeats 4000000 in
set_option maxRecDepth 100000 in
theorem c_X9_tape (l : Launch) (E : En) {μ : Mm} {p1 : Int32} {p2 : Int32} {p3 : Int32} (h0 : l9 E 0) {z : Int32 × Mm} (hf : f_X9_tape μ p1 p2 p3 = some z) : Met l yX9_tape (wt yX9_tape cX9_tape 4 (some .int)) { frames := 2, cells := 0, slots := 0, locals := 46 } (Pm E [.ref (ad E 900 0), .int p1, .int p2, .int p3] μ) (Qm E (some (.int z.1)) z.2) 0 0 (Ad E) := by
  unfold f_X9_tape at hf
  refine met_of (cc := cX9_tape) (nL := 4) (ret := (some .int)) (by decide) _ (Nat.le_of_ble_eq_true rfl) ?_
  intro p e s m below meth c C hr hlk hI ls hl
  have hx := C.1.1
  have hb := C.1.2.1
  have hl : lv_has ls 4 [(0, .ref (ad E 900 0)), (1, .int p1), (2, .int p2), (3, .int p3)] := hl
  refine lv_iload_n hx hb dX9_tape_0 rfl (lv_at hl 1 rfl) ?_
  obtain ⟨q9, e10, hf⟩ := ob hf
  refine mcS (As := [.int p1]) (rest := []) C hI (c_X9_isTape l E  e10) ml_X9_357 ks_X9_isTape rfl rfl ⟨Nat.le_of_ble_eq_true rfl, Nat.le_of_ble_eq_true rfl⟩ ⟨Nat.zero_le _, Nat.zero_le _⟩ rfl rfl hl.1 (Nat.le_of_ble_eq_true rfl) dX9_tape_1 (st1 := [.int q9]) rfl (fun H locs hI => ?_)
  refine lv_if_eq (tgt := 23) hx hb dX9_tape_4 rfl (fun hc => ?_) (fun hc => ?_)
  · replace hf := it hf hc
    refine lv_iconst (v := (-1 : Int32)) hx hb dX9_tape_23 kc_m1 ?_
    obtain rfl := Option.some.inj hf
    exact m_iret C hr hlk hI dX9_tape_24
  · replace hf := ie hf hc
    refine lv_iload_n hx hb dX9_tape_7 rfl (lv_at hl 2 rfl) ?_
    refine lv_iconst (v := (1 : Int32)) hx hb dX9_tape_8 kc_1 ?_
    refine lv_icmp_lt (tgt := 23) hx hb dX9_tape_9 rfl (fun hc => ?_) (fun hc => ?_)
    · replace hf := it hf hc
      refine lv_iconst (v := (-1 : Int32)) hx hb dX9_tape_23 kc_m1 ?_
      obtain rfl := Option.some.inj hf
      exact m_iret C hr hlk hI dX9_tape_24
    · replace hf := ie hf hc
      refine lv_iload_n hx hb dX9_tape_12 rfl (lv_at hl 2 rfl) ?_
      refine lv_iconst (v := (4 : Int32)) hx hb dX9_tape_13 kc_4 ?_
      refine lv_icmp_gt (tgt := 23) hx hb dX9_tape_14 rfl (fun hc => ?_) (fun hc => ?_)
      · replace hf := it hf hc
        refine lv_iconst (v := (-1 : Int32)) hx hb dX9_tape_23 kc_m1 ?_
        obtain rfl := Option.some.inj hf
        exact m_iret C hr hlk hI dX9_tape_24
      · replace hf := ie hf hc
        refine lv_iload_n hx hb dX9_tape_17 rfl (lv_at hl 3 rfl) ?_
        refine lv_bipush (v := (100 : Int32)) hx hb dX9_tape_18 kb_100 ?_
        refine lv_icmp_le (tgt := 25) hx hb dX9_tape_20 rfl (fun hc => ?_) (fun hc => ?_)
        · replace hf := it hf hc
          refine lv_iload_n hx hb dX9_tape_25 rfl (lv_at hl 3 rfl) ?_
          refine lv_if_ge (tgt := 36) hx hb dX9_tape_26 rfl (fun hc => ?_) (fun hc => ?_)
          · replace hf := it hf hc
            refine lv_aload_n hx hb dX9_tape_36 rfl (lv_at hl 0 rfl) ?_
            refine gf_9_4 C hI h0.1 fl_X9_32 dX9_tape_37 ?_
            refine lv_iload_n hx hb dX9_tape_40 rfl (lv_at hl 1 rfl) ?_
            obtain ⟨j11, e12, hf⟩ := ob hf
            refine m_aald (t0 := 4) (Cn := RX6) (fun _ => rfl) C hI h0.2.2.2.1 (ce_905 E _ _ _) e12 dX9_tape_41 ?_
            refine lv_iload_n hx hb dX9_tape_42 rfl (lv_at hl 2 rfl) ?_
            refine lv_iload_n hx hb dX9_tape_43 rfl (lv_at hl 3 rfl) ?_
            obtain ⟨q13, e14, hf⟩ := ob hf
            refine mcV (As := [.int p2, .int p3]) (rest := []) C hI (c_X6_layRow l E (l9_tape h0 e12) e14) ml_X9_363 kv_X6_layRow (m_recv C hI (l9_tape h0 e12).1 (ce_600 E _ _ _) rfl) rfl rfl ⟨Nat.le_of_ble_eq_true rfl, Nat.le_of_ble_eq_true rfl⟩ ⟨Nat.zero_le _, Nat.zero_le _⟩ rfl rfl hl.1 (Nat.le_of_ble_eq_true rfl) dX9_tape_44 (st1 := []) rfl (fun H locs hI => ?_)
            refine lv_iload_n hx hb dX9_tape_47 rfl (lv_at hl 3 rfl) ?_
            obtain rfl := Option.some.inj hf
            exact m_iret C hr hlk hI dX9_tape_48
          · replace hf := ie hf hc
            refine lv_aload_n hx hb dX9_tape_29 rfl (lv_at hl 0 rfl) ?_
            refine lv_bipush (v := (-14 : Int32)) hx hb dX9_tape_30 kb_m14 ?_
            obtain ⟨q15, e16, hf⟩ := ob hf
            refine mcV (As := [.int (-14 : Int32)]) (rest := []) C hI (c_X9_refuse l E h0 e16) ml_X9_360 kv_X9_refuse (m_recv C hI h0.1 (ce_900 E _ _ _) rfl) rfl rfl ⟨Nat.le_of_ble_eq_true rfl, Nat.le_of_ble_eq_true rfl⟩ ⟨Nat.zero_le _, Nat.zero_le _⟩ rfl rfl hl.1 (Nat.le_of_ble_eq_true rfl) dX9_tape_32 (st1 := [.int q15.1]) rfl (fun H locs hI => ?_)
            obtain rfl := Option.some.inj hf
            exact m_iret C hr hlk hI dX9_tape_35
        · replace hf := ie hf hc
          refine lv_iconst (v := (-1 : Int32)) hx hb dX9_tape_23 kc_m1 ?_
          obtain rfl := Option.some.inj hf
          exact m_iret C hr hlk hI dX9_tape_24

theorem dX9_clear_0 : decode cX9_clear 0 = .ok (.iload_n 1, 1) := by decide +kernel
theorem dX9_clear_1 : decode cX9_clear 1 = .ok (.invokestatic 357, 3) := by decide +kernel
theorem dX9_clear_4 : decode cX9_clear 4 = .ok (.ifCond .ne 5, 3) := by decide +kernel
theorem dX9_clear_7 : decode cX9_clear 7 = .ok (.iconst (-1), 1) := by decide +kernel
theorem dX9_clear_8 : decode cX9_clear 8 = .ok (.ireturn, 1) := by decide +kernel
theorem dX9_clear_9 : decode cX9_clear 9 = .ok (.aload_n 0, 1) := by decide +kernel
theorem dX9_clear_10 : decode cX9_clear 10 = .ok (.getfield 32, 3) := by decide +kernel
theorem dX9_clear_13 : decode cX9_clear 13 = .ok (.iload_n 1, 1) := by decide +kernel
theorem dX9_clear_14 : decode cX9_clear 14 = .ok (.aaload, 1) := by decide +kernel
theorem dX9_clear_15 : decode cX9_clear 15 = .ok (.getfield 381, 3) := by decide +kernel
theorem dX9_clear_18 : decode cX9_clear 18 = .ok (.istore_n 2, 1) := by decide +kernel
theorem dX9_clear_19 : decode cX9_clear 19 = .ok (.aload_n 0, 1) := by decide +kernel
theorem dX9_clear_20 : decode cX9_clear 20 = .ok (.getfield 32, 3) := by decide +kernel
theorem dX9_clear_23 : decode cX9_clear 23 = .ok (.iload_n 1, 1) := by decide +kernel
theorem dX9_clear_24 : decode cX9_clear 24 = .ok (.aaload, 1) := by decide +kernel
theorem dX9_clear_25 : decode cX9_clear 25 = .ok (.iconst 0, 1) := by decide +kernel
theorem dX9_clear_26 : decode cX9_clear 26 = .ok (.putfield 381, 3) := by decide +kernel
theorem dX9_clear_29 : decode cX9_clear 29 = .ok (.iload_n 2, 1) := by decide +kernel
theorem dX9_clear_30 : decode cX9_clear 30 = .ok (.ireturn, 1) := by decide +kernel
def f_X9_clear (μ : Mm) (p1 : Int32) : Option (Int32 × Mm) :=
 (f_X9_isTape μ p1).bind fun q9 =>
 if q9 = 0 then
 some ((-1 : Int32), μ)
 else
 (rq 6 p1).bind fun j11 =>
 (rq 6 p1).bind fun j13 =>
 (wf μ 600 j13 1 (0 : Int32)).bind fun m15 =>
 some (μ.1 600 j11 1, m15)
set_option maxHeartbeats 4000000 in
set_option maxRecDepth 100000 in
theorem c_X9_clear (l : Launch) (E : En) {μ : Mm} {p1 : Int32} (h0 : l9 E 0) {z : Int32 × Mm} (hf : f_X9_clear μ p1 = some z) : Met l yX9_clear (wt yX9_clear cX9_clear 3 (some .int)) { frames := 1, cells := 0, slots := 0, locals := 20 } (Pm E [.ref (ad E 900 0), .int p1] μ) (Qm E (some (.int z.1)) z.2) 0 0 (Ad E) := by
  unfold f_X9_clear at hf
  refine met_of (cc := cX9_clear) (nL := 3) (ret := (some .int)) (by decide) _ (Nat.le_of_ble_eq_true rfl) ?_
  intro p e s m below meth c C hr hlk hI ls hl
  have hx := C.1.1
  have hb := C.1.2.1
  have hl : lv_has ls 3 [(0, .ref (ad E 900 0)), (1, .int p1)] := hl
  refine lv_iload_n hx hb dX9_clear_0 rfl (lv_at hl 1 rfl) ?_
  obtain ⟨q9, e10, hf⟩ := ob hf
  refine mcS (As := [.int p1]) (rest := []) C hI (c_X9_isTape l E  e10) ml_X9_357 ks_X9_isTape rfl rfl ⟨Nat.le_of_ble_eq_true rfl, Nat.le_of_ble_eq_true rfl⟩ ⟨Nat.zero_le _, Nat.zero_le _⟩ rfl rfl hl.1 (Nat.le_of_ble_eq_true rfl) dX9_clear_1 (st1 := [.int q9]) rfl (fun H locs hI => ?_)
  refine lv_if_ne (tgt := 9) hx hb dX9_clear_4 rfl (fun hc => ?_) (fun hc => ?_)
  · replace hf := ie hf hc
    refine lv_aload_n hx hb dX9_clear_9 rfl (lv_at hl 0 rfl) ?_
    refine gf_9_4 C hI h0.1 fl_X9_32 dX9_clear_10 ?_
    refine lv_iload_n hx hb dX9_clear_13 rfl (lv_at hl 1 rfl) ?_
    obtain ⟨j11, e12, hf⟩ := ob hf
    refine m_aald (t0 := 4) (Cn := RX6) (fun _ => rfl) C hI h0.2.2.2.1 (ce_905 E _ _ _) e12 dX9_clear_14 ?_
    refine gf_6_1 C hI (l9_tape h0 e12).1 fl_X9_381 dX9_clear_15 ?_
    refine lv_istore_n hx hb dX9_clear_18 rfl hl (by decide) rfl (fun ls hl => ?_)
    have hl : lv_has ls 3 [(2, .int (μ.1 600 j11 1)), (0, .ref (ad E 900 0)), (1, .int p1)] := hl
    refine lv_aload_n hx hb dX9_clear_19 rfl (lv_at hl 1 rfl) ?_
    refine gf_9_4 C hI h0.1 fl_X9_32 dX9_clear_20 ?_
    refine lv_iload_n hx hb dX9_clear_23 rfl (lv_at hl 2 rfl) ?_
    obtain ⟨j13, e14, hf⟩ := ob hf
    refine m_aald (t0 := 4) (Cn := RX6) (fun _ => rfl) C hI h0.2.2.2.1 (ce_905 E _ _ _) e14 dX9_clear_24 ?_
    refine lv_iconst (v := (0 : Int32)) hx hb dX9_clear_25 kc_0 ?_
    obtain ⟨m15, e16, hf⟩ := ob hf
    refine pf_6_1 C hI (l9_tape h0 e14).1 fl_X9_381 e16 dX9_clear_26 (fun H locs hI => ?_)
    refine lv_iload_n hx hb dX9_clear_29 rfl (lv_at hl 0 rfl) ?_
    obtain rfl := Option.some.inj hf
    exact m_iret C hr hlk hI dX9_clear_30
  · replace hf := it hf hc
    refine lv_iconst (v := (-1 : Int32)) hx hb dX9_clear_7 kc_m1 ?_
    obtain rfl := Option.some.inj hf
    exact m_iret C hr hlk hI dX9_clear_8

theorem dX9_put_0 : decode cX9_put 0 = .ok (.iload_n 1, 1) := by decide +kernel
theorem dX9_put_1 : decode cX9_put 1 = .ok (.invokestatic 357, 3) := by decide +kernel
theorem dX9_put_4 : decode cX9_put 4 = .ok (.ifCond .ne 5, 3) := by decide +kernel
theorem dX9_put_7 : decode cX9_put 7 = .ok (.iconst (-1), 1) := by decide +kernel
theorem dX9_put_8 : decode cX9_put 8 = .ok (.ireturn, 1) := by decide +kernel
theorem dX9_put_9 : decode cX9_put 9 = .ok (.aload_n 0, 1) := by decide +kernel
theorem dX9_put_10 : decode cX9_put 10 = .ok (.getfield 32, 3) := by decide +kernel
theorem dX9_put_13 : decode cX9_put 13 = .ok (.iload_n 1, 1) := by decide +kernel
theorem dX9_put_14 : decode cX9_put 14 = .ok (.aaload, 1) := by decide +kernel
theorem dX9_put_15 : decode cX9_put 15 = .ok (.astore 5, 2) := by decide +kernel
theorem dX9_put_17 : decode cX9_put 17 = .ok (.aload 5, 2) := by decide +kernel
theorem dX9_put_19 : decode cX9_put 19 = .ok (.getfield 381, 3) := by decide +kernel
theorem dX9_put_22 : decode cX9_put 22 = .ok (.ifCond .ne 10, 3) := by decide +kernel
theorem dX9_put_25 : decode cX9_put 25 = .ok (.aload_n 0, 1) := by decide +kernel
theorem dX9_put_26 : decode cX9_put 26 = .ok (.bipush (-11), 2) := by decide +kernel
theorem dX9_put_28 : decode cX9_put 28 = .ok (.invokevirtual 360, 3) := by decide +kernel
theorem dX9_put_31 : decode cX9_put 31 = .ok (.ireturn, 1) := by decide +kernel
theorem dX9_put_32 : decode cX9_put 32 = .ok (.aload 5, 2) := by decide +kernel
theorem dX9_put_34 : decode cX9_put 34 = .ok (.getfield 381, 3) := by decide +kernel
theorem dX9_put_37 : decode cX9_put 37 = .ok (.iconst 5, 1) := by decide +kernel
theorem dX9_put_38 : decode cX9_put 38 = .ok (.if_icmp .ne 10, 3) := by decide +kernel
theorem dX9_put_41 : decode cX9_put 41 = .ok (.aload_n 0, 1) := by decide +kernel
theorem dX9_put_42 : decode cX9_put 42 = .ok (.bipush (-12), 2) := by decide +kernel
theorem dX9_put_44 : decode cX9_put 44 = .ok (.invokevirtual 360, 3) := by decide +kernel
theorem dX9_put_47 : decode cX9_put 47 = .ok (.ireturn, 1) := by decide +kernel
theorem dX9_put_48 : decode cX9_put 48 = .ok (.aload 5, 2) := by decide +kernel
theorem dX9_put_50 : decode cX9_put 50 = .ok (.iload_n 2, 1) := by decide +kernel
theorem dX9_put_51 : decode cX9_put 51 = .ok (.i2l, 1) := by decide +kernel
theorem dX9_put_52 : decode cX9_put 52 = .ok (.iconst 1, 1) := by decide +kernel
theorem dX9_put_53 : decode cX9_put 53 = .ok (.invokevirtual 388, 3) := by decide +kernel
theorem dX9_put_56 : decode cX9_put 56 = .ok (.ifCond .ne 10, 3) := by decide +kernel
theorem dX9_put_59 : decode cX9_put 59 = .ok (.aload_n 0, 1) := by decide +kernel
theorem dX9_put_60 : decode cX9_put 60 = .ok (.bipush (-13), 2) := by decide +kernel
theorem dX9_put_62 : decode cX9_put 62 = .ok (.invokevirtual 360, 3) := by decide +kernel
theorem dX9_put_65 : decode cX9_put 65 = .ok (.ireturn, 1) := by decide +kernel
theorem dX9_put_66 : decode cX9_put 66 = .ok (.aload 5, 2) := by decide +kernel
theorem dX9_put_68 : decode cX9_put 68 = .ok (.getfield 397, 3) := by decide +kernel
theorem dX9_put_71 : decode cX9_put 71 = .ok (.iload_n 2, 1) := by decide +kernel
theorem dX9_put_72 : decode cX9_put 72 = .ok (.aload 5, 2) := by decide +kernel
theorem dX9_put_74 : decode cX9_put 74 = .ok (.lload_n 3, 1) := by decide +kernel
theorem dX9_put_75 : decode cX9_put 75 = .ok (.invokevirtual 401, 3) := by decide +kernel
theorem dX9_put_78 : decode cX9_put 78 = .ok (.lastore, 1) := by decide +kernel
theorem dX9_put_79 : decode cX9_put 79 = .ok (.iconst 1, 1) := by decide +kernel
theorem dX9_put_80 : decode cX9_put 80 = .ok (.ireturn, 1) := by decide +kernel
def f_X9_put (μ : Mm) (p1 : Int32) (p2 : Int32) (p3 : Int64) : Option (Int32 × Mm) :=
 (f_X9_isTape μ p1).bind fun q17 =>
 if q17 = 0 then
 some ((-1 : Int32), μ)
 else
 (rq 6 p1).bind fun j19 =>
 if (μ.1 600 j19 1) = 0 then
 (f_X9_refuse μ (-11 : Int32)).bind fun q31 =>
 some (q31.1, q31.2)
 else
 if (μ.1 600 j19 1) = (5 : Int32) then
 (f_X9_refuse μ (-12 : Int32)).bind fun q29 =>
 some (q29.1, q29.2)
 else
 (f_X6_hasPlaces μ j19 p2.toInt64 (1 : Int32)).bind fun q21 =>
 if q21 = 0 then
 (f_X9_refuse μ (-13 : Int32)).bind fun q27 =>
 some (q27.1, q27.2)
 else
 (f_X6_narrow μ j19 p3).bind fun q23 =>
 (wg μ 601 j19 100 p2 q23).bind fun m25 =>
 some ((1 : Int32), m25)
set_option maxHeartbeats 4000000 in
set_option maxRecDepth 100000 in
theorem c_X9_put (l : Launch) (E : En) {μ : Mm} {p1 : Int32} {p2 : Int32} {p3 : Int64} (h0 : l9 E 0) {z : Int32 × Mm} (hf : f_X9_put μ p1 p2 p3 = some z) : Met l yX9_put (wt yX9_put cX9_put 6 (some .int)) { frames := 1, cells := 0, slots := 0, locals := 23 } (Pm E [.ref (ad E 900 0), .int p1, .int p2, .long p3] μ) (Qm E (some (.int z.1)) z.2) 0 0 (Ad E) := by
  unfold f_X9_put at hf
  refine met_of (cc := cX9_put) (nL := 6) (ret := (some .int)) (by decide) _ (Nat.le_of_ble_eq_true rfl) ?_
  intro p e s m below meth c C hr hlk hI ls hl
  have hx := C.1.1
  have hb := C.1.2.1
  have hl : lv_has ls 6 [(0, .ref (ad E 900 0)), (1, .int p1), (2, .int p2), (3, .long p3)] := hl
  refine lv_iload_n hx hb dX9_put_0 rfl (lv_at hl 1 rfl) ?_
  obtain ⟨q17, e18, hf⟩ := ob hf
  refine mcS (As := [.int p1]) (rest := []) C hI (c_X9_isTape l E  e18) ml_X9_357 ks_X9_isTape rfl rfl ⟨Nat.le_of_ble_eq_true rfl, Nat.le_of_ble_eq_true rfl⟩ ⟨Nat.zero_le _, Nat.zero_le _⟩ rfl rfl hl.1 (Nat.le_of_ble_eq_true rfl) dX9_put_1 (st1 := [.int q17]) rfl (fun H locs hI => ?_)
  refine lv_if_ne (tgt := 9) hx hb dX9_put_4 rfl (fun hc => ?_) (fun hc => ?_)
  · replace hf := ie hf hc
    refine lv_aload_n hx hb dX9_put_9 rfl (lv_at hl 0 rfl) ?_
    refine gf_9_4 C hI h0.1 fl_X9_32 dX9_put_10 ?_
    refine lv_iload_n hx hb dX9_put_13 rfl (lv_at hl 1 rfl) ?_
    obtain ⟨j19, e20, hf⟩ := ob hf
    refine m_aald (t0 := 4) (Cn := RX6) (fun _ => rfl) C hI h0.2.2.2.1 (ce_905 E _ _ _) e20 dX9_put_14 ?_
    refine lv_astore hx hb dX9_put_15 hl (by decide) rfl (fun ls hl => ?_)
    have hl : lv_has ls 6 [(5, .ref (ad E 600 j19)), (0, .ref (ad E 900 0)), (1, .int p1), (2, .int p2), (3, .long p3)] := hl
    refine lv_aload hx hb dX9_put_17 (lv_at hl 0 rfl) ?_
    refine gf_6_1 C hI (l9_tape h0 e20).1 fl_X9_381 dX9_put_19 ?_
    refine lv_if_ne (tgt := 32) hx hb dX9_put_22 rfl (fun hc => ?_) (fun hc => ?_)
    · replace hf := ie hf hc
      refine lv_aload hx hb dX9_put_32 (lv_at hl 0 rfl) ?_
      refine gf_6_1 C hI (l9_tape h0 e20).1 fl_X9_381 dX9_put_34 ?_
      refine lv_iconst (v := (5 : Int32)) hx hb dX9_put_37 kc_5 ?_
      refine lv_icmp_ne (tgt := 48) hx hb dX9_put_38 rfl (fun hc => ?_) (fun hc => ?_)
      · replace hf := ie hf hc
        refine lv_aload hx hb dX9_put_48 (lv_at hl 0 rfl) ?_
        refine lv_iload_n hx hb dX9_put_50 rfl (lv_at hl 3 rfl) ?_
        refine lv_i2l (v := p2.toInt64) hx hb dX9_put_51 rfl ?_
        refine lv_iconst (v := (1 : Int32)) hx hb dX9_put_52 kc_1 ?_
        obtain ⟨q21, e22, hf⟩ := ob hf
        refine mcV (As := [.long p2.toInt64, .int (1 : Int32)]) (rest := []) C hI (c_X6_hasPlaces l E (l9_tape h0 e20) e22) ml_X9_388 kv_X6_hasPlaces (m_recv C hI (l9_tape h0 e20).1 (ce_600 E _ _ _) rfl) rfl rfl ⟨Nat.le_of_ble_eq_true rfl, Nat.le_of_ble_eq_true rfl⟩ ⟨Nat.zero_le _, Nat.zero_le _⟩ rfl rfl hl.1 (Nat.le_of_ble_eq_true rfl) dX9_put_53 (st1 := [.int q21]) rfl (fun H locs hI => ?_)
        refine lv_if_ne (tgt := 66) hx hb dX9_put_56 rfl (fun hc => ?_) (fun hc => ?_)
        · replace hf := ie hf hc
          refine lv_aload hx hb dX9_put_66 (lv_at hl 0 rfl) ?_
          refine gf_6_0 C hI (l9_tape h0 e20).1 fl_X9_397 dX9_put_68 ?_
          refine lv_iload_n hx hb dX9_put_71 rfl (lv_at hl 3 rfl) ?_
          refine lv_aload hx hb dX9_put_72 (lv_at hl 0 rfl) ?_
          refine lv_lload_n hx hb dX9_put_74 rfl (lv_at hl 4 rfl) ?_
          obtain ⟨q23, e24, hf⟩ := ob hf
          refine mcV (As := [.long p3]) (rest := [.int p2, .ref (ad E 601 j19)]) C hI (c_X6_narrow l E (l9_tape h0 e20) e24) ml_X9_401 kv_X6_narrow (m_recv C hI (l9_tape h0 e20).1 (ce_600 E _ _ _) rfl) rfl rfl ⟨Nat.le_of_ble_eq_true rfl, Nat.le_of_ble_eq_true rfl⟩ ⟨Nat.zero_le _, Nat.zero_le _⟩ rfl rfl hl.1 (Nat.le_of_ble_eq_true rfl) dX9_put_75 (st1 := [.long q23, .int p2, .ref (ad E 601 j19)]) rfl (fun H locs hI => ?_)
          obtain ⟨m25, e26, hf⟩ := ob hf
          refine m_last C hI (l9_tape h0 e20).2 (ce_601 E _) e26 dX9_put_78 (fun H locs hI => ?_)
          refine lv_iconst (v := (1 : Int32)) hx hb dX9_put_79 kc_1 ?_
          obtain rfl := Option.some.inj hf
          exact m_iret C hr hlk hI dX9_put_80
        · replace hf := it hf hc
          refine lv_aload_n hx hb dX9_put_59 rfl (lv_at hl 1 rfl) ?_
          refine lv_bipush (v := (-13 : Int32)) hx hb dX9_put_60 kb_m13 ?_
          obtain ⟨q27, e28, hf⟩ := ob hf
          refine mcV (As := [.int (-13 : Int32)]) (rest := []) C hI (c_X9_refuse l E h0 e28) ml_X9_360 kv_X9_refuse (m_recv C hI h0.1 (ce_900 E _ _ _) rfl) rfl rfl ⟨Nat.le_of_ble_eq_true rfl, Nat.le_of_ble_eq_true rfl⟩ ⟨Nat.zero_le _, Nat.zero_le _⟩ rfl rfl hl.1 (Nat.le_of_ble_eq_true rfl) dX9_put_62 (st1 := [.int q27.1]) rfl (fun H locs hI => ?_)
          obtain rfl := Option.some.inj hf
          exact m_iret C hr hlk hI dX9_put_65
      · replace hf := it hf hc
        refine lv_aload_n hx hb dX9_put_41 rfl (lv_at hl 1 rfl) ?_
        refine lv_bipush (v := (-12 : Int32)) hx hb dX9_put_42 kb_m12 ?_
        obtain ⟨q29, e30, hf⟩ := ob hf
        refine mcV (As := [.int (-12 : Int32)]) (rest := []) C hI (c_X9_refuse l E h0 e30) ml_X9_360 kv_X9_refuse (m_recv C hI h0.1 (ce_900 E _ _ _) rfl) rfl rfl ⟨Nat.le_of_ble_eq_true rfl, Nat.le_of_ble_eq_true rfl⟩ ⟨Nat.zero_le _, Nat.zero_le _⟩ rfl rfl hl.1 (Nat.le_of_ble_eq_true rfl) dX9_put_44 (st1 := [.int q29.1]) rfl (fun H locs hI => ?_)
        obtain rfl := Option.some.inj hf
        exact m_iret C hr hlk hI dX9_put_47
    · replace hf := it hf hc
      refine lv_aload_n hx hb dX9_put_25 rfl (lv_at hl 1 rfl) ?_
      refine lv_bipush (v := (-11 : Int32)) hx hb dX9_put_26 kb_m11 ?_
      obtain ⟨q31, e32, hf⟩ := ob hf
      refine mcV (As := [.int (-11 : Int32)]) (rest := []) C hI (c_X9_refuse l E h0 e32) ml_X9_360 kv_X9_refuse (m_recv C hI h0.1 (ce_900 E _ _ _) rfl) rfl rfl ⟨Nat.le_of_ble_eq_true rfl, Nat.le_of_ble_eq_true rfl⟩ ⟨Nat.zero_le _, Nat.zero_le _⟩ rfl rfl hl.1 (Nat.le_of_ble_eq_true rfl) dX9_put_28 (st1 := [.int q31.1]) rfl (fun H locs hI => ?_)
      obtain rfl := Option.some.inj hf
      exact m_iret C hr hlk hI dX9_put_31
  · replace hf := it hf hc
    refine lv_iconst (v := (-1 : Int32)) hx hb dX9_put_7 kc_m1 ?_
    obtain rfl := Option.some.inj hf
    exact m_iret C hr hlk hI dX9_put_8

theorem dX9_copy_0 : decode cX9_copy 0 = .ok (.iload_n 1, 1) := by decide +kernel
theorem dX9_copy_1 : decode cX9_copy 1 = .ok (.invokestatic 357, 3) := by decide +kernel
theorem dX9_copy_4 : decode cX9_copy 4 = .ok (.ifCond .eq 10, 3) := by decide +kernel
theorem dX9_copy_7 : decode cX9_copy 7 = .ok (.iload_n 3, 1) := by decide +kernel
theorem dX9_copy_8 : decode cX9_copy 8 = .ok (.invokestatic 357, 3) := by decide +kernel
theorem dX9_copy_11 : decode cX9_copy 11 = .ok (.ifCond .ne 5, 3) := by decide +kernel
theorem dX9_copy_14 : decode cX9_copy 14 = .ok (.iconst (-1), 1) := by decide +kernel
theorem dX9_copy_15 : decode cX9_copy 15 = .ok (.ireturn, 1) := by decide +kernel
theorem dX9_copy_16 : decode cX9_copy 16 = .ok (.aload_n 0, 1) := by decide +kernel
theorem dX9_copy_17 : decode cX9_copy 17 = .ok (.getfield 32, 3) := by decide +kernel
theorem dX9_copy_20 : decode cX9_copy 20 = .ok (.iload_n 1, 1) := by decide +kernel
theorem dX9_copy_21 : decode cX9_copy 21 = .ok (.aaload, 1) := by decide +kernel
theorem dX9_copy_22 : decode cX9_copy 22 = .ok (.astore 6, 2) := by decide +kernel
theorem dX9_copy_24 : decode cX9_copy 24 = .ok (.aload_n 0, 1) := by decide +kernel
theorem dX9_copy_25 : decode cX9_copy 25 = .ok (.getfield 32, 3) := by decide +kernel
theorem dX9_copy_28 : decode cX9_copy 28 = .ok (.iload_n 3, 1) := by decide +kernel
theorem dX9_copy_29 : decode cX9_copy 29 = .ok (.aaload, 1) := by decide +kernel
theorem dX9_copy_30 : decode cX9_copy 30 = .ok (.astore 7, 2) := by decide +kernel
theorem dX9_copy_32 : decode cX9_copy 32 = .ok (.aload 6, 2) := by decide +kernel
theorem dX9_copy_34 : decode cX9_copy 34 = .ok (.getfield 381, 3) := by decide +kernel
theorem dX9_copy_37 : decode cX9_copy 37 = .ok (.ifCond .eq 11, 3) := by decide +kernel
theorem dX9_copy_40 : decode cX9_copy 40 = .ok (.aload 7, 2) := by decide +kernel
theorem dX9_copy_42 : decode cX9_copy 42 = .ok (.getfield 381, 3) := by decide +kernel
theorem dX9_copy_45 : decode cX9_copy 45 = .ok (.ifCond .ne 10, 3) := by decide +kernel
theorem dX9_copy_48 : decode cX9_copy 48 = .ok (.aload_n 0, 1) := by decide +kernel
theorem dX9_copy_49 : decode cX9_copy 49 = .ok (.bipush (-11), 2) := by decide +kernel
theorem dX9_copy_51 : decode cX9_copy 51 = .ok (.invokevirtual 360, 3) := by decide +kernel
theorem dX9_copy_54 : decode cX9_copy 54 = .ok (.ireturn, 1) := by decide +kernel
theorem dX9_copy_55 : decode cX9_copy 55 = .ok (.aload 6, 2) := by decide +kernel
theorem dX9_copy_57 : decode cX9_copy 57 = .ok (.invokevirtual 407, 3) := by decide +kernel
theorem dX9_copy_60 : decode cX9_copy 60 = .ok (.ifCond .eq 16, 3) := by decide +kernel
theorem dX9_copy_63 : decode cX9_copy 63 = .ok (.aload 6, 2) := by decide +kernel
theorem dX9_copy_65 : decode cX9_copy 65 = .ok (.getfield 381, 3) := by decide +kernel
theorem dX9_copy_68 : decode cX9_copy 68 = .ok (.aload 7, 2) := by decide +kernel
theorem dX9_copy_70 : decode cX9_copy 70 = .ok (.getfield 381, 3) := by decide +kernel
theorem dX9_copy_73 : decode cX9_copy 73 = .ok (.if_icmp .eq 10, 3) := by decide +kernel
theorem dX9_copy_76 : decode cX9_copy 76 = .ok (.aload_n 0, 1) := by decide +kernel
theorem dX9_copy_77 : decode cX9_copy 77 = .ok (.bipush (-12), 2) := by decide +kernel
theorem dX9_copy_79 : decode cX9_copy 79 = .ok (.invokevirtual 360, 3) := by decide +kernel
theorem dX9_copy_82 : decode cX9_copy 82 = .ok (.ireturn, 1) := by decide +kernel
theorem dX9_copy_83 : decode cX9_copy 83 = .ok (.aload 6, 2) := by decide +kernel
theorem dX9_copy_85 : decode cX9_copy 85 = .ok (.iload_n 2, 1) := by decide +kernel
theorem dX9_copy_86 : decode cX9_copy 86 = .ok (.i2l, 1) := by decide +kernel
theorem dX9_copy_87 : decode cX9_copy 87 = .ok (.iload 5, 2) := by decide +kernel
theorem dX9_copy_89 : decode cX9_copy 89 = .ok (.invokevirtual 388, 3) := by decide +kernel
theorem dX9_copy_92 : decode cX9_copy 92 = .ok (.ifCond .eq 16, 3) := by decide +kernel
theorem dX9_copy_95 : decode cX9_copy 95 = .ok (.aload 7, 2) := by decide +kernel
theorem dX9_copy_97 : decode cX9_copy 97 = .ok (.iload 4, 2) := by decide +kernel
theorem dX9_copy_99 : decode cX9_copy 99 = .ok (.i2l, 1) := by decide +kernel
theorem dX9_copy_100 : decode cX9_copy 100 = .ok (.iload 5, 2) := by decide +kernel
theorem dX9_copy_102 : decode cX9_copy 102 = .ok (.invokevirtual 388, 3) := by decide +kernel
theorem dX9_copy_105 : decode cX9_copy 105 = .ok (.ifCond .ne 10, 3) := by decide +kernel
theorem dX9_copy_108 : decode cX9_copy 108 = .ok (.aload_n 0, 1) := by decide +kernel
theorem dX9_copy_109 : decode cX9_copy 109 = .ok (.bipush (-13), 2) := by decide +kernel
theorem dX9_copy_111 : decode cX9_copy 111 = .ok (.invokevirtual 360, 3) := by decide +kernel
theorem dX9_copy_114 : decode cX9_copy 114 = .ok (.ireturn, 1) := by decide +kernel
theorem dX9_copy_115 : decode cX9_copy 115 = .ok (.aload 6, 2) := by decide +kernel
theorem dX9_copy_117 : decode cX9_copy 117 = .ok (.getfield 397, 3) := by decide +kernel
theorem dX9_copy_120 : decode cX9_copy 120 = .ok (.iload_n 2, 1) := by decide +kernel
theorem dX9_copy_121 : decode cX9_copy 121 = .ok (.aload 7, 2) := by decide +kernel
theorem dX9_copy_123 : decode cX9_copy 123 = .ok (.getfield 397, 3) := by decide +kernel
theorem dX9_copy_126 : decode cX9_copy 126 = .ok (.iload 4, 2) := by decide +kernel
theorem dX9_copy_128 : decode cX9_copy 128 = .ok (.iload 5, 2) := by decide +kernel
theorem dX9_copy_130 : decode cX9_copy 130 = .ok (.invokestatic 412, 3) := by decide +kernel
theorem dX9_copy_133 : decode cX9_copy 133 = .ok (.iload 5, 2) := by decide +kernel
theorem dX9_copy_135 : decode cX9_copy 135 = .ok (.ireturn, 1) := by decide +kernel
def f_X9_copy (μ : Mm) (p1 : Int32) (p2 : Int32) (p3 : Int32) (p4 : Int32) (p5 : Int32) : Option (Int32 × Mm) :=
 (f_X9_isTape μ p1).bind fun q23 =>
 if q23 = 0 then
 some ((-1 : Int32), μ)
 else
 (f_X9_isTape μ p3).bind fun q25 =>
 if q25 = 0 then
 some ((-1 : Int32), μ)
 else
 (rq 6 p1).bind fun j27 =>
 (rq 6 p3).bind fun j29 =>
 if (μ.1 600 j27 1) = 0 then
 (f_X9_refuse μ (-11 : Int32)).bind fun q31 =>
 some (q31.1, q31.2)
 else
 if (μ.1 600 j29 1) = 0 then
 (f_X9_refuse μ (-11 : Int32)).bind fun q49 =>
 some (q49.1, q49.2)
 else
 (f_X6_hasRow μ j27).bind fun q33 =>
 if q33 = 0 then
 (f_X9_refuse μ (-12 : Int32)).bind fun q35 =>
 some (q35.1, q35.2)
 else
 if (μ.1 600 j27 1) = (μ.1 600 j29 1) then
 (f_X6_hasPlaces μ j27 p2.toInt64 p5).bind fun q37 =>
 if q37 = 0 then
 (f_X9_refuse μ (-13 : Int32)).bind fun q39 =>
 some (q39.1, q39.2)
 else
 (f_X6_hasPlaces μ j29 p4.toInt64 p5).bind fun q41 =>
 if q41 = 0 then
 (f_X9_refuse μ (-13 : Int32)).bind fun q45 =>
 some (q45.1, q45.2)
 else
 (cpL μ 601 j27 100 601 j29 100 p2 p4 p5).bind fun m43 =>
 some (p5, m43)
 else
 (f_X9_refuse μ (-12 : Int32)).bind fun q47 =>
 some (q47.1, q47.2)
set_option maxHeartbeats 4000000 in
set_option maxRecDepth 100000 in
theorem c_X9_copy (l : Launch) (E : En) {μ : Mm} {p1 : Int32} {p2 : Int32} {p3 : Int32} {p4 : Int32} {p5 : Int32} (h0 : l9 E 0) {z : Int32 × Mm} (hf : f_X9_copy μ p1 p2 p3 p4 p5 = some z) : Met l yX9_copy (wt yX9_copy cX9_copy 8 (some .int)) { frames := 1, cells := 0, slots := 0, locals := 40 } (Pm E [.ref (ad E 900 0), .int p1, .int p2, .int p3, .int p4, .int p5] μ) (Qm E (some (.int z.1)) z.2) 0 0 (Ad E) := by
  unfold f_X9_copy at hf
  refine met_of (cc := cX9_copy) (nL := 8) (ret := (some .int)) (by decide) _ (Nat.le_of_ble_eq_true rfl) ?_
  intro p e s m below meth c C hr hlk hI ls hl
  have hx := C.1.1
  have hb := C.1.2.1
  have hl : lv_has ls 8 [(0, .ref (ad E 900 0)), (1, .int p1), (2, .int p2), (3, .int p3), (4, .int p4), (5, .int p5)] := hl
  refine lv_iload_n hx hb dX9_copy_0 rfl (lv_at hl 1 rfl) ?_
  obtain ⟨q23, e24, hf⟩ := ob hf
  refine mcS (As := [.int p1]) (rest := []) C hI (c_X9_isTape l E  e24) ml_X9_357 ks_X9_isTape rfl rfl ⟨Nat.le_of_ble_eq_true rfl, Nat.le_of_ble_eq_true rfl⟩ ⟨Nat.zero_le _, Nat.zero_le _⟩ rfl rfl hl.1 (Nat.le_of_ble_eq_true rfl) dX9_copy_1 (st1 := [.int q23]) rfl (fun H locs hI => ?_)
  refine lv_if_eq (tgt := 14) hx hb dX9_copy_4 rfl (fun hc => ?_) (fun hc => ?_)
  · replace hf := it hf hc
    refine lv_iconst (v := (-1 : Int32)) hx hb dX9_copy_14 kc_m1 ?_
    obtain rfl := Option.some.inj hf
    exact m_iret C hr hlk hI dX9_copy_15
  · replace hf := ie hf hc
    refine lv_iload_n hx hb dX9_copy_7 rfl (lv_at hl 3 rfl) ?_
    obtain ⟨q25, e26, hf⟩ := ob hf
    refine mcS (As := [.int p3]) (rest := []) C hI (c_X9_isTape l E  e26) ml_X9_357 ks_X9_isTape rfl rfl ⟨Nat.le_of_ble_eq_true rfl, Nat.le_of_ble_eq_true rfl⟩ ⟨Nat.zero_le _, Nat.zero_le _⟩ rfl rfl hl.1 (Nat.le_of_ble_eq_true rfl) dX9_copy_8 (st1 := [.int q25]) rfl (fun H locs hI => ?_)
    refine lv_if_ne (tgt := 16) hx hb dX9_copy_11 rfl (fun hc => ?_) (fun hc => ?_)
    · replace hf := ie hf hc
      refine lv_aload_n hx hb dX9_copy_16 rfl (lv_at hl 0 rfl) ?_
      refine gf_9_4 C hI h0.1 fl_X9_32 dX9_copy_17 ?_
      refine lv_iload_n hx hb dX9_copy_20 rfl (lv_at hl 1 rfl) ?_
      obtain ⟨j27, e28, hf⟩ := ob hf
      refine m_aald (t0 := 4) (Cn := RX6) (fun _ => rfl) C hI h0.2.2.2.1 (ce_905 E _ _ _) e28 dX9_copy_21 ?_
      refine lv_astore hx hb dX9_copy_22 hl (by decide) rfl (fun ls hl => ?_)
      have hl : lv_has ls 8 [(6, .ref (ad E 600 j27)), (0, .ref (ad E 900 0)), (1, .int p1), (2, .int p2), (3, .int p3), (4, .int p4), (5, .int p5)] := hl
      refine lv_aload_n hx hb dX9_copy_24 rfl (lv_at hl 1 rfl) ?_
      refine gf_9_4 C hI h0.1 fl_X9_32 dX9_copy_25 ?_
      refine lv_iload_n hx hb dX9_copy_28 rfl (lv_at hl 4 rfl) ?_
      obtain ⟨j29, e30, hf⟩ := ob hf
      refine m_aald (t0 := 4) (Cn := RX6) (fun _ => rfl) C hI h0.2.2.2.1 (ce_905 E _ _ _) e30 dX9_copy_29 ?_
      refine lv_astore hx hb dX9_copy_30 hl (by decide) rfl (fun ls hl => ?_)
      have hl : lv_has ls 8 [(7, .ref (ad E 600 j29)), (6, .ref (ad E 600 j27)), (0, .ref (ad E 900 0)), (1, .int p1), (2, .int p2), (3, .int p3), (4, .int p4), (5, .int p5)] := hl
      refine lv_aload hx hb dX9_copy_32 (lv_at hl 1 rfl) ?_
      refine gf_6_1 C hI (l9_tape h0 e28).1 fl_X9_381 dX9_copy_34 ?_
      refine lv_if_eq (tgt := 48) hx hb dX9_copy_37 rfl (fun hc => ?_) (fun hc => ?_)
      · replace hf := it hf hc
        refine lv_aload_n hx hb dX9_copy_48 rfl (lv_at hl 2 rfl) ?_
        refine lv_bipush (v := (-11 : Int32)) hx hb dX9_copy_49 kb_m11 ?_
        obtain ⟨q31, e32, hf⟩ := ob hf
        refine mcV (As := [.int (-11 : Int32)]) (rest := []) C hI (c_X9_refuse l E h0 e32) ml_X9_360 kv_X9_refuse (m_recv C hI h0.1 (ce_900 E _ _ _) rfl) rfl rfl ⟨Nat.le_of_ble_eq_true rfl, Nat.le_of_ble_eq_true rfl⟩ ⟨Nat.zero_le _, Nat.zero_le _⟩ rfl rfl hl.1 (Nat.le_of_ble_eq_true rfl) dX9_copy_51 (st1 := [.int q31.1]) rfl (fun H locs hI => ?_)
        obtain rfl := Option.some.inj hf
        exact m_iret C hr hlk hI dX9_copy_54
      · replace hf := ie hf hc
        refine lv_aload hx hb dX9_copy_40 (lv_at hl 0 rfl) ?_
        refine gf_6_1 C hI (l9_tape h0 e30).1 fl_X9_381 dX9_copy_42 ?_
        refine lv_if_ne (tgt := 55) hx hb dX9_copy_45 rfl (fun hc => ?_) (fun hc => ?_)
        · replace hf := ie hf hc
          refine lv_aload hx hb dX9_copy_55 (lv_at hl 1 rfl) ?_
          obtain ⟨q33, e34, hf⟩ := ob hf
          refine mcV (As := []) (rest := []) C hI (c_X6_hasRow l E (l9_tape h0 e28) e34) ml_X9_407 kv_X6_hasRow (m_recv C hI (l9_tape h0 e28).1 (ce_600 E _ _ _) rfl) rfl rfl ⟨Nat.le_of_ble_eq_true rfl, Nat.le_of_ble_eq_true rfl⟩ ⟨Nat.zero_le _, Nat.zero_le _⟩ rfl rfl hl.1 (Nat.le_of_ble_eq_true rfl) dX9_copy_57 (st1 := [.int q33]) rfl (fun H locs hI => ?_)
          refine lv_if_eq (tgt := 76) hx hb dX9_copy_60 rfl (fun hc => ?_) (fun hc => ?_)
          · replace hf := it hf hc
            refine lv_aload_n hx hb dX9_copy_76 rfl (lv_at hl 2 rfl) ?_
            refine lv_bipush (v := (-12 : Int32)) hx hb dX9_copy_77 kb_m12 ?_
            obtain ⟨q35, e36, hf⟩ := ob hf
            refine mcV (As := [.int (-12 : Int32)]) (rest := []) C hI (c_X9_refuse l E h0 e36) ml_X9_360 kv_X9_refuse (m_recv C hI h0.1 (ce_900 E _ _ _) rfl) rfl rfl ⟨Nat.le_of_ble_eq_true rfl, Nat.le_of_ble_eq_true rfl⟩ ⟨Nat.zero_le _, Nat.zero_le _⟩ rfl rfl hl.1 (Nat.le_of_ble_eq_true rfl) dX9_copy_79 (st1 := [.int q35.1]) rfl (fun H locs hI => ?_)
            obtain rfl := Option.some.inj hf
            exact m_iret C hr hlk hI dX9_copy_82
          · replace hf := ie hf hc
            refine lv_aload hx hb dX9_copy_63 (lv_at hl 1 rfl) ?_
            refine gf_6_1 C hI (l9_tape h0 e28).1 fl_X9_381 dX9_copy_65 ?_
            refine lv_aload hx hb dX9_copy_68 (lv_at hl 0 rfl) ?_
            refine gf_6_1 C hI (l9_tape h0 e30).1 fl_X9_381 dX9_copy_70 ?_
            refine lv_icmp_eq (tgt := 83) hx hb dX9_copy_73 rfl (fun hc => ?_) (fun hc => ?_)
            · replace hf := it hf hc
              refine lv_aload hx hb dX9_copy_83 (lv_at hl 1 rfl) ?_
              refine lv_iload_n hx hb dX9_copy_85 rfl (lv_at hl 4 rfl) ?_
              refine lv_i2l (v := p2.toInt64) hx hb dX9_copy_86 rfl ?_
              refine lv_iload hx hb dX9_copy_87 (lv_at hl 7 rfl) ?_
              obtain ⟨q37, e38, hf⟩ := ob hf
              refine mcV (As := [.long p2.toInt64, .int p5]) (rest := []) C hI (c_X6_hasPlaces l E (l9_tape h0 e28) e38) ml_X9_388 kv_X6_hasPlaces (m_recv C hI (l9_tape h0 e28).1 (ce_600 E _ _ _) rfl) rfl rfl ⟨Nat.le_of_ble_eq_true rfl, Nat.le_of_ble_eq_true rfl⟩ ⟨Nat.zero_le _, Nat.zero_le _⟩ rfl rfl hl.1 (Nat.le_of_ble_eq_true rfl) dX9_copy_89 (st1 := [.int q37]) rfl (fun H locs hI => ?_)
              refine lv_if_eq (tgt := 108) hx hb dX9_copy_92 rfl (fun hc => ?_) (fun hc => ?_)
              · replace hf := it hf hc
                refine lv_aload_n hx hb dX9_copy_108 rfl (lv_at hl 2 rfl) ?_
                refine lv_bipush (v := (-13 : Int32)) hx hb dX9_copy_109 kb_m13 ?_
                obtain ⟨q39, e40, hf⟩ := ob hf
                refine mcV (As := [.int (-13 : Int32)]) (rest := []) C hI (c_X9_refuse l E h0 e40) ml_X9_360 kv_X9_refuse (m_recv C hI h0.1 (ce_900 E _ _ _) rfl) rfl rfl ⟨Nat.le_of_ble_eq_true rfl, Nat.le_of_ble_eq_true rfl⟩ ⟨Nat.zero_le _, Nat.zero_le _⟩ rfl rfl hl.1 (Nat.le_of_ble_eq_true rfl) dX9_copy_111 (st1 := [.int q39.1]) rfl (fun H locs hI => ?_)
                obtain rfl := Option.some.inj hf
                exact m_iret C hr hlk hI dX9_copy_114
              · replace hf := ie hf hc
                refine lv_aload hx hb dX9_copy_95 (lv_at hl 0 rfl) ?_
                refine lv_iload hx hb dX9_copy_97 (lv_at hl 6 rfl) ?_
                refine lv_i2l (v := p4.toInt64) hx hb dX9_copy_99 rfl ?_
                refine lv_iload hx hb dX9_copy_100 (lv_at hl 7 rfl) ?_
                obtain ⟨q41, e42, hf⟩ := ob hf
                refine mcV (As := [.long p4.toInt64, .int p5]) (rest := []) C hI (c_X6_hasPlaces l E (l9_tape h0 e30) e42) ml_X9_388 kv_X6_hasPlaces (m_recv C hI (l9_tape h0 e30).1 (ce_600 E _ _ _) rfl) rfl rfl ⟨Nat.le_of_ble_eq_true rfl, Nat.le_of_ble_eq_true rfl⟩ ⟨Nat.zero_le _, Nat.zero_le _⟩ rfl rfl hl.1 (Nat.le_of_ble_eq_true rfl) dX9_copy_102 (st1 := [.int q41]) rfl (fun H locs hI => ?_)
                refine lv_if_ne (tgt := 115) hx hb dX9_copy_105 rfl (fun hc => ?_) (fun hc => ?_)
                · replace hf := ie hf hc
                  refine lv_aload hx hb dX9_copy_115 (lv_at hl 1 rfl) ?_
                  refine gf_6_0 C hI (l9_tape h0 e28).1 fl_X9_397 dX9_copy_117 ?_
                  refine lv_iload_n hx hb dX9_copy_120 rfl (lv_at hl 4 rfl) ?_
                  refine lv_aload hx hb dX9_copy_121 (lv_at hl 0 rfl) ?_
                  refine gf_6_0 C hI (l9_tape h0 e30).1 fl_X9_397 dX9_copy_123 ?_
                  refine lv_iload hx hb dX9_copy_126 (lv_at hl 6 rfl) ?_
                  refine lv_iload hx hb dX9_copy_128 (lv_at hl 7 rfl) ?_
                  obtain ⟨m43, e44, hf⟩ := ob hf
                  refine m_copyL C hI (l9_tape h0 e28).2 (l9_tape h0 e30).2 (ce_601 E _ _ _) (ce_601 E _) e44 acl_X9_412 hl.1 (Nat.le_of_ble_eq_true rfl) (Nat.le_of_ble_eq_true rfl) dX9_copy_130 (fun H locs hI => ?_)
                  refine lv_iload hx hb dX9_copy_133 (lv_at hl 7 rfl) ?_
                  obtain rfl := Option.some.inj hf
                  exact m_iret C hr hlk hI dX9_copy_135
                · replace hf := it hf hc
                  refine lv_aload_n hx hb dX9_copy_108 rfl (lv_at hl 2 rfl) ?_
                  refine lv_bipush (v := (-13 : Int32)) hx hb dX9_copy_109 kb_m13 ?_
                  obtain ⟨q45, e46, hf⟩ := ob hf
                  refine mcV (As := [.int (-13 : Int32)]) (rest := []) C hI (c_X9_refuse l E h0 e46) ml_X9_360 kv_X9_refuse (m_recv C hI h0.1 (ce_900 E _ _ _) rfl) rfl rfl ⟨Nat.le_of_ble_eq_true rfl, Nat.le_of_ble_eq_true rfl⟩ ⟨Nat.zero_le _, Nat.zero_le _⟩ rfl rfl hl.1 (Nat.le_of_ble_eq_true rfl) dX9_copy_111 (st1 := [.int q45.1]) rfl (fun H locs hI => ?_)
                  obtain rfl := Option.some.inj hf
                  exact m_iret C hr hlk hI dX9_copy_114
            · replace hf := ie hf hc
              refine lv_aload_n hx hb dX9_copy_76 rfl (lv_at hl 2 rfl) ?_
              refine lv_bipush (v := (-12 : Int32)) hx hb dX9_copy_77 kb_m12 ?_
              obtain ⟨q47, e48, hf⟩ := ob hf
              refine mcV (As := [.int (-12 : Int32)]) (rest := []) C hI (c_X9_refuse l E h0 e48) ml_X9_360 kv_X9_refuse (m_recv C hI h0.1 (ce_900 E _ _ _) rfl) rfl rfl ⟨Nat.le_of_ble_eq_true rfl, Nat.le_of_ble_eq_true rfl⟩ ⟨Nat.zero_le _, Nat.zero_le _⟩ rfl rfl hl.1 (Nat.le_of_ble_eq_true rfl) dX9_copy_79 (st1 := [.int q47.1]) rfl (fun H locs hI => ?_)
              obtain rfl := Option.some.inj hf
              exact m_iret C hr hlk hI dX9_copy_82
        · replace hf := it hf hc
          refine lv_aload_n hx hb dX9_copy_48 rfl (lv_at hl 2 rfl) ?_
          refine lv_bipush (v := (-11 : Int32)) hx hb dX9_copy_49 kb_m11 ?_
          obtain ⟨q49, e50, hf⟩ := ob hf
          refine mcV (As := [.int (-11 : Int32)]) (rest := []) C hI (c_X9_refuse l E h0 e50) ml_X9_360 kv_X9_refuse (m_recv C hI h0.1 (ce_900 E _ _ _) rfl) rfl rfl ⟨Nat.le_of_ble_eq_true rfl, Nat.le_of_ble_eq_true rfl⟩ ⟨Nat.zero_le _, Nat.zero_le _⟩ rfl rfl hl.1 (Nat.le_of_ble_eq_true rfl) dX9_copy_51 (st1 := [.int q49.1]) rfl (fun H locs hI => ?_)
          obtain rfl := Option.some.inj hf
          exact m_iret C hr hlk hI dX9_copy_54
    · replace hf := it hf hc
      refine lv_iconst (v := (-1 : Int32)) hx hb dX9_copy_14 kc_m1 ?_
      obtain rfl := Option.some.inj hf
      exact m_iret C hr hlk hI dX9_copy_15

theorem dX9_tellMark_0 : decode cX9_tellMark 0 = .ok (.aload_n 0, 1) := by decide +kernel
theorem dX9_tellMark_1 : decode cX9_tellMark 1 = .ok (.getfield 12, 3) := by decide +kernel
theorem dX9_tellMark_4 : decode cX9_tellMark 4 = .ok (.iload_n 1, 1) := by decide +kernel
theorem dX9_tellMark_5 : decode cX9_tellMark 5 = .ok (.iload_n 2, 1) := by decide +kernel
theorem dX9_tellMark_6 : decode cX9_tellMark 6 = .ok (.iload_n 3, 1) := by decide +kernel
theorem dX9_tellMark_7 : decode cX9_tellMark 7 = .ok (.iload 4, 2) := by decide +kernel
theorem dX9_tellMark_9 : decode cX9_tellMark 9 = .ok (.iload 5, 2) := by decide +kernel
theorem dX9_tellMark_11 : decode cX9_tellMark 11 = .ok (.invokevirtual 119, 3) := by decide +kernel
theorem dX9_tellMark_14 : decode cX9_tellMark 14 = .ok (.istore 6, 2) := by decide +kernel
theorem dX9_tellMark_16 : decode cX9_tellMark 16 = .ok (.iload 6, 2) := by decide +kernel
theorem dX9_tellMark_18 : decode cX9_tellMark 18 = .ok (.ifCond .eq 16, 3) := by decide +kernel
theorem dX9_tellMark_21 : decode cX9_tellMark 21 = .ok (.aload_n 0, 1) := by decide +kernel
theorem dX9_tellMark_22 : decode cX9_tellMark 22 = .ok (.dup, 1) := by decide +kernel
theorem dX9_tellMark_23 : decode cX9_tellMark 23 = .ok (.getfield 64, 3) := by decide +kernel
theorem dX9_tellMark_26 : decode cX9_tellMark 26 = .ok (.iconst 1, 1) := by decide +kernel
theorem dX9_tellMark_27 : decode cX9_tellMark 27 = .ok (.iadd, 1) := by decide +kernel
theorem dX9_tellMark_28 : decode cX9_tellMark 28 = .ok (.putfield 64, 3) := by decide +kernel
theorem dX9_tellMark_31 : decode cX9_tellMark 31 = .ok (.iload 6, 2) := by decide +kernel
theorem dX9_tellMark_33 : decode cX9_tellMark 33 = .ok (.ireturn, 1) := by decide +kernel
theorem dX9_tellMark_34 : decode cX9_tellMark 34 = .ok (.aload_n 0, 1) := by decide +kernel
theorem dX9_tellMark_35 : decode cX9_tellMark 35 = .ok (.getfield 12, 3) := by decide +kernel
theorem dX9_tellMark_38 : decode cX9_tellMark 38 = .ok (.iload_n 1, 1) := by decide +kernel
theorem dX9_tellMark_39 : decode cX9_tellMark 39 = .ok (.iload_n 2, 1) := by decide +kernel
theorem dX9_tellMark_40 : decode cX9_tellMark 40 = .ok (.iload_n 3, 1) := by decide +kernel
theorem dX9_tellMark_41 : decode cX9_tellMark 41 = .ok (.iload 4, 2) := by decide +kernel
theorem dX9_tellMark_43 : decode cX9_tellMark 43 = .ok (.iload 5, 2) := by decide +kernel
theorem dX9_tellMark_45 : decode cX9_tellMark 45 = .ok (.invokevirtual 122, 3) := by decide +kernel
theorem dX9_tellMark_48 : decode cX9_tellMark 48 = .ok (.ireturn, 1) := by decide +kernel
def f_X9_tellMark (μ : Mm) (p1 : Int32) (p2 : Int32) (p3 : Int32) (p4 : Int32) (p5 : Int32) : Option (Int32 × Mm) :=
 (f_X7_faultOf μ 0 p1 p2 p3 p4 p5).bind fun q7 =>
 if q7 = 0 then
 (f_X7_addMark μ 0 p1 p2 p3 p4 p5).bind fun q9 =>
 some (q9.1, q9.2)
 else
 (wf μ 900 0 9 ((μ.1 900 0 9) + (1 : Int32))).bind fun m11 =>
 some (q7, m11)
set_option maxHeartbeats 4000000 in
set_option maxRecDepth 100000 in
theorem c_X9_tellMark (l : Launch) (E : En) {μ : Mm} {p1 : Int32} {p2 : Int32} {p3 : Int32} {p4 : Int32} {p5 : Int32} (h0 : l9 E 0) {z : Int32 × Mm} (hf : f_X9_tellMark μ p1 p2 p3 p4 p5 = some z) : Met l yX9_tellMark (wt yX9_tellMark cX9_tellMark 7 (some .int)) { frames := 5, cells := 0, slots := 0, locals := 121 } (Pm E [.ref (ad E 900 0), .int p1, .int p2, .int p3, .int p4, .int p5] μ) (Qm E (some (.int z.1)) z.2) 0 0 (Ad E) := by
  unfold f_X9_tellMark at hf
  refine met_of (cc := cX9_tellMark) (nL := 7) (ret := (some .int)) (by decide) _ (Nat.le_of_ble_eq_true rfl) ?_
  intro p e s m below meth c C hr hlk hI ls hl
  have hx := C.1.1
  have hb := C.1.2.1
  have hl : lv_has ls 7 [(0, .ref (ad E 900 0)), (1, .int p1), (2, .int p2), (3, .int p3), (4, .int p4), (5, .int p5)] := hl
  refine lv_aload_n hx hb dX9_tellMark_0 rfl (lv_at hl 0 rfl) ?_
  refine gf_9_0 C hI h0.1 fl_X9_12 dX9_tellMark_1 ?_
  refine lv_iload_n hx hb dX9_tellMark_4 rfl (lv_at hl 1 rfl) ?_
  refine lv_iload_n hx hb dX9_tellMark_5 rfl (lv_at hl 2 rfl) ?_
  refine lv_iload_n hx hb dX9_tellMark_6 rfl (lv_at hl 3 rfl) ?_
  refine lv_iload hx hb dX9_tellMark_7 (lv_at hl 4 rfl) ?_
  refine lv_iload hx hb dX9_tellMark_9 (lv_at hl 5 rfl) ?_
  obtain ⟨q7, e8, hf⟩ := ob hf
  refine mcV (As := [.int p1, .int p2, .int p3, .int p4, .int p5]) (rest := []) C hI (c_X7_faultOf l E h0.2.2.2.2.1 e8) ml_X9_119 kv_X7_faultOf (m_recv C hI h0.2.2.2.2.1.1 (ce_700 E _ _ _) rfl) rfl rfl ⟨Nat.le_of_ble_eq_true rfl, Nat.le_of_ble_eq_true rfl⟩ ⟨Nat.zero_le _, Nat.zero_le _⟩ rfl rfl hl.1 (Nat.le_of_ble_eq_true rfl) dX9_tellMark_11 (st1 := [.int q7]) rfl (fun H locs hI => ?_)
  refine lv_istore hx hb dX9_tellMark_14 hl (by decide) rfl (fun ls hl => ?_)
  have hl : lv_has ls 7 [(6, .int q7), (0, .ref (ad E 900 0)), (1, .int p1), (2, .int p2), (3, .int p3), (4, .int p4), (5, .int p5)] := hl
  refine lv_iload hx hb dX9_tellMark_16 (lv_at hl 0 rfl) ?_
  refine lv_if_eq (tgt := 34) hx hb dX9_tellMark_18 rfl (fun hc => ?_) (fun hc => ?_)
  · replace hf := it hf hc
    refine lv_aload_n hx hb dX9_tellMark_34 rfl (lv_at hl 1 rfl) ?_
    refine gf_9_0 C hI h0.1 fl_X9_12 dX9_tellMark_35 ?_
    refine lv_iload_n hx hb dX9_tellMark_38 rfl (lv_at hl 2 rfl) ?_
    refine lv_iload_n hx hb dX9_tellMark_39 rfl (lv_at hl 3 rfl) ?_
    refine lv_iload_n hx hb dX9_tellMark_40 rfl (lv_at hl 4 rfl) ?_
    refine lv_iload hx hb dX9_tellMark_41 (lv_at hl 5 rfl) ?_
    refine lv_iload hx hb dX9_tellMark_43 (lv_at hl 6 rfl) ?_
    obtain ⟨q9, e10, hf⟩ := ob hf
    refine mcV (As := [.int p1, .int p2, .int p3, .int p4, .int p5]) (rest := []) C hI (c_X7_addMark l E h0.2.2.2.2.1 e10) ml_X9_122 kv_X7_addMark (m_recv C hI h0.2.2.2.2.1.1 (ce_700 E _ _ _) rfl) rfl rfl ⟨Nat.le_of_ble_eq_true rfl, Nat.le_of_ble_eq_true rfl⟩ ⟨Nat.zero_le _, Nat.zero_le _⟩ rfl rfl hl.1 (Nat.le_of_ble_eq_true rfl) dX9_tellMark_45 (st1 := [.int q9.1]) rfl (fun H locs hI => ?_)
    obtain rfl := Option.some.inj hf
    exact m_iret C hr hlk hI dX9_tellMark_48
  · replace hf := ie hf hc
    refine lv_aload_n hx hb dX9_tellMark_21 rfl (lv_at hl 1 rfl) ?_
    refine lv_dup hx hb dX9_tellMark_22 rfl ?_
    refine gf_9_9 C hI h0.1 fl_X9_64 dX9_tellMark_23 ?_
    refine lv_iconst (v := (1 : Int32)) hx hb dX9_tellMark_26 kc_1 ?_
    refine lv_iadd hx hb dX9_tellMark_27 ?_
    obtain ⟨m11, e12, hf⟩ := ob hf
    refine pf_9_9 C hI h0.1 fl_X9_64 e12 dX9_tellMark_28 (fun H locs hI => ?_)
    refine lv_iload hx hb dX9_tellMark_31 (lv_at hl 0 rfl) ?_
    obtain rfl := Option.some.inj hf
    exact m_iret C hr hlk hI dX9_tellMark_33

theorem dX9_sum_0 : decode cX9_sum 0 = .ok (.aload_n 0, 1) := by decide +kernel
theorem dX9_sum_1 : decode cX9_sum 1 = .ok (.getfield 12, 3) := by decide +kernel
theorem dX9_sum_4 : decode cX9_sum 4 = .ok (.iload_n 1, 1) := by decide +kernel
theorem dX9_sum_5 : decode cX9_sum 5 = .ok (.invokevirtual 85, 3) := by decide +kernel
theorem dX9_sum_8 : decode cX9_sum 8 = .ok (.ifCond .eq 10, 3) := by decide +kernel
theorem dX9_sum_11 : decode cX9_sum 11 = .ok (.iload_n 2, 1) := by decide +kernel
theorem dX9_sum_12 : decode cX9_sum 12 = .ok (.invokestatic 164, 3) := by decide +kernel
theorem dX9_sum_15 : decode cX9_sum 15 = .ok (.ifCond .ne 5, 3) := by decide +kernel
theorem dX9_sum_18 : decode cX9_sum 18 = .ok (.iconst (-1), 1) := by decide +kernel
theorem dX9_sum_19 : decode cX9_sum 19 = .ok (.ireturn, 1) := by decide +kernel
theorem dX9_sum_20 : decode cX9_sum 20 = .ok (.aload_n 0, 1) := by decide +kernel
theorem dX9_sum_21 : decode cX9_sum 21 = .ok (.aload_n 0, 1) := by decide +kernel
theorem dX9_sum_22 : decode cX9_sum 22 = .ok (.getfield 12, 3) := by decide +kernel
theorem dX9_sum_25 : decode cX9_sum 25 = .ok (.iload_n 1, 1) := by decide +kernel
theorem dX9_sum_26 : decode cX9_sum 26 = .ok (.iload_n 2, 1) := by decide +kernel
theorem dX9_sum_27 : decode cX9_sum 27 = .ok (.invokevirtual 167, 3) := by decide +kernel
theorem dX9_sum_30 : decode cX9_sum 30 = .ok (.ireturn, 1) := by decide +kernel
def f_X9_sum (F : Nat) (μ : Mm) (p1 : Int32) (p2 : Int32) : Option (Int32 × Mm) :=
 (f_X7_hasTask μ 0 p1).bind fun q7 =>
 if q7 = 0 then
 some ((-1 : Int32), μ)
 else
 (f_X9_isSumWhat μ p2).bind fun q9 =>
 if q9 = 0 then
 some ((-1 : Int32), μ)
 else
 (f_X9_timeCountedAs F μ 0 p1 p2).bind fun q11 =>
 some (q11.1, q11.2)
set_option maxHeartbeats 4000000 in
set_option maxRecDepth 100000 in
theorem c_X9_sum (l : Launch) (E : En) {F : Nat} {μ : Mm} {p1 : Int32} {p2 : Int32} (h0 : l9 E 0) {z : Int32 × Mm} (hf : f_X9_sum F μ p1 p2 = some z) : Met l yX9_sum (wt yX9_sum cX9_sum 3 (some .int)) { frames := 5, cells := 0, slots := 0, locals := 115 } (Pm E [.ref (ad E 900 0), .int p1, .int p2] μ) (Qm E (some (.int z.1)) z.2) 0 0 (Ad E) := by
  unfold f_X9_sum at hf
  refine met_of (cc := cX9_sum) (nL := 3) (ret := (some .int)) (by decide) _ (Nat.le_of_ble_eq_true rfl) ?_
  intro p e s m below meth c C hr hlk hI ls hl
  have hx := C.1.1
  have hb := C.1.2.1
  have hl : lv_has ls 3 [(0, .ref (ad E 900 0)), (1, .int p1), (2, .int p2)] := hl
  refine lv_aload_n hx hb dX9_sum_0 rfl (lv_at hl 0 rfl) ?_
  refine gf_9_0 C hI h0.1 fl_X9_12 dX9_sum_1 ?_
  refine lv_iload_n hx hb dX9_sum_4 rfl (lv_at hl 1 rfl) ?_
  obtain ⟨q7, e8, hf⟩ := ob hf
  refine mcV (As := [.int p1]) (rest := []) C hI (c_X7_hasTask l E h0.2.2.2.2.1 e8) ml_X9_85 kv_X7_hasTask (m_recv C hI h0.2.2.2.2.1.1 (ce_700 E _ _ _) rfl) rfl rfl ⟨Nat.le_of_ble_eq_true rfl, Nat.le_of_ble_eq_true rfl⟩ ⟨Nat.zero_le _, Nat.zero_le _⟩ rfl rfl hl.1 (Nat.le_of_ble_eq_true rfl) dX9_sum_5 (st1 := [.int q7]) rfl (fun H locs hI => ?_)
  refine lv_if_eq (tgt := 18) hx hb dX9_sum_8 rfl (fun hc => ?_) (fun hc => ?_)
  · replace hf := it hf hc
    refine lv_iconst (v := (-1 : Int32)) hx hb dX9_sum_18 kc_m1 ?_
    obtain rfl := Option.some.inj hf
    exact m_iret C hr hlk hI dX9_sum_19
  · replace hf := ie hf hc
    refine lv_iload_n hx hb dX9_sum_11 rfl (lv_at hl 2 rfl) ?_
    obtain ⟨q9, e10, hf⟩ := ob hf
    refine mcS (As := [.int p2]) (rest := []) C hI (c_X9_isSumWhat l E  e10) ml_X9_164 ks_X9_isSumWhat rfl rfl ⟨Nat.le_of_ble_eq_true rfl, Nat.le_of_ble_eq_true rfl⟩ ⟨Nat.zero_le _, Nat.zero_le _⟩ rfl rfl hl.1 (Nat.le_of_ble_eq_true rfl) dX9_sum_12 (st1 := [.int q9]) rfl (fun H locs hI => ?_)
    refine lv_if_ne (tgt := 20) hx hb dX9_sum_15 rfl (fun hc => ?_) (fun hc => ?_)
    · replace hf := ie hf hc
      refine lv_aload_n hx hb dX9_sum_20 rfl (lv_at hl 0 rfl) ?_
      refine lv_aload_n hx hb dX9_sum_21 rfl (lv_at hl 0 rfl) ?_
      refine gf_9_0 C hI h0.1 fl_X9_12 dX9_sum_22 ?_
      refine lv_iload_n hx hb dX9_sum_25 rfl (lv_at hl 1 rfl) ?_
      refine lv_iload_n hx hb dX9_sum_26 rfl (lv_at hl 2 rfl) ?_
      obtain ⟨q11, e12, hf⟩ := ob hf
      refine mcV (As := [.ref (ad E 700 0), .int p1, .int p2]) (rest := []) C hI (c_X9_timeCountedAs l E h0 h0.2.2.2.2.1 e12) ml_X9_167 kv_X9_timeCountedAs (m_recv C hI h0.1 (ce_900 E _ _ _) rfl) rfl rfl ⟨Nat.le_of_ble_eq_true rfl, Nat.le_of_ble_eq_true rfl⟩ ⟨Nat.zero_le _, Nat.zero_le _⟩ rfl rfl hl.1 (Nat.le_of_ble_eq_true rfl) dX9_sum_27 (st1 := [.int q11.1]) rfl (fun H locs hI => ?_)
      obtain rfl := Option.some.inj hf
      exact m_iret C hr hlk hI dX9_sum_30
    · replace hf := it hf hc
      refine lv_iconst (v := (-1 : Int32)) hx hb dX9_sum_18 kc_m1 ?_
      obtain rfl := Option.some.inj hf
      exact m_iret C hr hlk hI dX9_sum_19

theorem dX9_findBreaks_0 : decode cX9_findBreaks 0 = .ok (.aload_n 0, 1) := by decide +kernel
theorem dX9_findBreaks_1 : decode cX9_findBreaks 1 = .ok (.getfield 53, 3) := by decide +kernel
theorem dX9_findBreaks_4 : decode cX9_findBreaks 4 = .ok (.invokevirtual 271, 3) := by decide +kernel
theorem dX9_findBreaks_7 : decode cX9_findBreaks 7 = .ok (.aload_n 0, 1) := by decide +kernel
theorem dX9_findBreaks_8 : decode cX9_findBreaks 8 = .ok (.getfield 26, 3) := by decide +kernel
theorem dX9_findBreaks_11 : decode cX9_findBreaks 11 = .ok (.iload_n 1, 1) := by decide +kernel
theorem dX9_findBreaks_12 : decode cX9_findBreaks 12 = .ok (.invokevirtual 255, 3) := by decide +kernel
theorem dX9_findBreaks_15 : decode cX9_findBreaks 15 = .ok (.ifCond .ne 4, 3) := by decide +kernel
theorem dX9_findBreaks_18 : decode cX9_findBreaks 18 = .ok (.return_, 1) := by decide +kernel
theorem dX9_findBreaks_19 : decode cX9_findBreaks 19 = .ok (.aload_n 0, 1) := by decide +kernel
theorem dX9_findBreaks_20 : decode cX9_findBreaks 20 = .ok (.getfield 26, 3) := by decide +kernel
theorem dX9_findBreaks_23 : decode cX9_findBreaks 23 = .ok (.getfield 274, 3) := by decide +kernel
theorem dX9_findBreaks_26 : decode cX9_findBreaks 26 = .ok (.iload_n 1, 1) := by decide +kernel
theorem dX9_findBreaks_27 : decode cX9_findBreaks 27 = .ok (.iaload, 1) := by decide +kernel
theorem dX9_findBreaks_28 : decode cX9_findBreaks 28 = .ok (.istore_n 2, 1) := by decide +kernel
theorem dX9_findBreaks_29 : decode cX9_findBreaks 29 = .ok (.aload_n 0, 1) := by decide +kernel
theorem dX9_findBreaks_30 : decode cX9_findBreaks 30 = .ok (.getfield 26, 3) := by decide +kernel
theorem dX9_findBreaks_33 : decode cX9_findBreaks 33 = .ok (.getfield 277, 3) := by decide +kernel
theorem dX9_findBreaks_36 : decode cX9_findBreaks 36 = .ok (.iload_n 1, 1) := by decide +kernel
theorem dX9_findBreaks_37 : decode cX9_findBreaks 37 = .ok (.iaload, 1) := by decide +kernel
theorem dX9_findBreaks_38 : decode cX9_findBreaks 38 = .ok (.istore_n 3, 1) := by decide +kernel
theorem dX9_findBreaks_39 : decode cX9_findBreaks 39 = .ok (.aload_n 0, 1) := by decide +kernel
theorem dX9_findBreaks_40 : decode cX9_findBreaks 40 = .ok (.getfield 26, 3) := by decide +kernel
theorem dX9_findBreaks_43 : decode cX9_findBreaks 43 = .ok (.getfield 280, 3) := by decide +kernel
theorem dX9_findBreaks_46 : decode cX9_findBreaks 46 = .ok (.iload_n 1, 1) := by decide +kernel
theorem dX9_findBreaks_47 : decode cX9_findBreaks 47 = .ok (.iaload, 1) := by decide +kernel
theorem dX9_findBreaks_48 : decode cX9_findBreaks 48 = .ok (.tableswitch 96 0 2 #[28, 48, 76], 28) := by decide +kernel
theorem dX9_findBreaks_76 : decode cX9_findBreaks 76 = .ok (.aload_n 0, 1) := by decide +kernel
theorem dX9_findBreaks_77 : decode cX9_findBreaks 77 = .ok (.getfield 53, 3) := by decide +kernel
theorem dX9_findBreaks_80 : decode cX9_findBreaks 80 = .ok (.aload_n 0, 1) := by decide +kernel
theorem dX9_findBreaks_81 : decode cX9_findBreaks 81 = .ok (.getfield 12, 3) := by decide +kernel
theorem dX9_findBreaks_84 : decode cX9_findBreaks 84 = .ok (.iload_n 2, 1) := by decide +kernel
theorem dX9_findBreaks_85 : decode cX9_findBreaks 85 = .ok (.invokevirtual 149, 3) := by decide +kernel
theorem dX9_findBreaks_88 : decode cX9_findBreaks 88 = .ok (.iload_n 2, 1) := by decide +kernel
theorem dX9_findBreaks_89 : decode cX9_findBreaks 89 = .ok (.iload_n 3, 1) := by decide +kernel
theorem dX9_findBreaks_90 : decode cX9_findBreaks 90 = .ok (.invokevirtual 283, 3) := by decide +kernel
theorem dX9_findBreaks_93 : decode cX9_findBreaks 93 = .ok (.goto 70, 3) := by decide +kernel
theorem dX9_findBreaks_96 : decode cX9_findBreaks 96 = .ok (.aload_n 0, 1) := by decide +kernel
theorem dX9_findBreaks_97 : decode cX9_findBreaks 97 = .ok (.getfield 53, 3) := by decide +kernel
theorem dX9_findBreaks_100 : decode cX9_findBreaks 100 = .ok (.aload_n 0, 1) := by decide +kernel
theorem dX9_findBreaks_101 : decode cX9_findBreaks 101 = .ok (.getfield 12, 3) := by decide +kernel
theorem dX9_findBreaks_104 : decode cX9_findBreaks 104 = .ok (.iload_n 2, 1) := by decide +kernel
theorem dX9_findBreaks_105 : decode cX9_findBreaks 105 = .ok (.invokevirtual 128, 3) := by decide +kernel
theorem dX9_findBreaks_108 : decode cX9_findBreaks 108 = .ok (.aload_n 0, 1) := by decide +kernel
theorem dX9_findBreaks_109 : decode cX9_findBreaks 109 = .ok (.getfield 26, 3) := by decide +kernel
theorem dX9_findBreaks_112 : decode cX9_findBreaks 112 = .ok (.getfield 287, 3) := by decide +kernel
theorem dX9_findBreaks_115 : decode cX9_findBreaks 115 = .ok (.iload_n 1, 1) := by decide +kernel
theorem dX9_findBreaks_116 : decode cX9_findBreaks 116 = .ok (.iaload, 1) := by decide +kernel
theorem dX9_findBreaks_117 : decode cX9_findBreaks 117 = .ok (.iload_n 3, 1) := by decide +kernel
theorem dX9_findBreaks_118 : decode cX9_findBreaks 118 = .ok (.invokevirtual 290, 3) := by decide +kernel
theorem dX9_findBreaks_121 : decode cX9_findBreaks 121 = .ok (.goto 42, 3) := by decide +kernel
theorem dX9_findBreaks_124 : decode cX9_findBreaks 124 = .ok (.aload_n 0, 1) := by decide +kernel
theorem dX9_findBreaks_125 : decode cX9_findBreaks 125 = .ok (.getfield 53, 3) := by decide +kernel
theorem dX9_findBreaks_128 : decode cX9_findBreaks 128 = .ok (.aload_n 0, 1) := by decide +kernel
theorem dX9_findBreaks_129 : decode cX9_findBreaks 129 = .ok (.getfield 12, 3) := by decide +kernel
theorem dX9_findBreaks_132 : decode cX9_findBreaks 132 = .ok (.iload_n 2, 1) := by decide +kernel
theorem dX9_findBreaks_133 : decode cX9_findBreaks 133 = .ok (.invokevirtual 149, 3) := by decide +kernel
theorem dX9_findBreaks_136 : decode cX9_findBreaks 136 = .ok (.iload_n 2, 1) := by decide +kernel
theorem dX9_findBreaks_137 : decode cX9_findBreaks 137 = .ok (.iload_n 3, 1) := by decide +kernel
theorem dX9_findBreaks_138 : decode cX9_findBreaks 138 = .ok (.invokevirtual 293, 3) := by decide +kernel
theorem dX9_findBreaks_141 : decode cX9_findBreaks 141 = .ok (.goto 22, 3) := by decide +kernel
theorem dX9_findBreaks_144 : decode cX9_findBreaks 144 = .ok (.aload_n 0, 1) := by decide +kernel
theorem dX9_findBreaks_145 : decode cX9_findBreaks 145 = .ok (.getfield 53, 3) := by decide +kernel
theorem dX9_findBreaks_148 : decode cX9_findBreaks 148 = .ok (.aload_n 0, 1) := by decide +kernel
theorem dX9_findBreaks_149 : decode cX9_findBreaks 149 = .ok (.getfield 12, 3) := by decide +kernel
theorem dX9_findBreaks_152 : decode cX9_findBreaks 152 = .ok (.iload_n 2, 1) := by decide +kernel
theorem dX9_findBreaks_153 : decode cX9_findBreaks 153 = .ok (.invokevirtual 128, 3) := by decide +kernel
theorem dX9_findBreaks_156 : decode cX9_findBreaks 156 = .ok (.aload_n 0, 1) := by decide +kernel
theorem dX9_findBreaks_157 : decode cX9_findBreaks 157 = .ok (.getfield 39, 3) := by decide +kernel
theorem dX9_findBreaks_160 : decode cX9_findBreaks 160 = .ok (.invokevirtual 296, 3) := by decide +kernel
theorem dX9_findBreaks_163 : decode cX9_findBreaks 163 = .ok (.return_, 1) := by decide +kernel
def f_X9_findBreaks (F : Nat) (μ : Mm) (p1 : Int32) : Option Mm :=
 (f_X0_forget μ).bind fun q29 =>
 (f_X3_has q29 p1).bind fun q31 =>
 if q31 = 0 then
 some q29
 else
 (ra q29 302 0 8 p1).bind fun v33 =>
 (ra q29 304 0 8 p1).bind fun v35 =>
 (ra q29 301 0 8 p1).bind fun v37 =>
 if v37 = (0 : Int32) then
 (f_X7_homeLane q29 0 v33).bind fun q43 =>
 (f_X0_judgeBlocks F q29 q43 v33 v35).bind fun q45 =>
 some q45
 else
 if v37 = (1 : Int32) then
 (f_X7_laneOf q29 0 v33).bind fun q47 =>
 (ra q29 303 0 8 p1).bind fun v49 =>
 (f_X0_judgeLocks F q29 q47 v49 v35).bind fun q51 =>
 some q51
 else
 if v37 = (2 : Int32) then
 (f_X7_homeLane q29 0 v33).bind fun q53 =>
 (f_X0_judgeApart F q29 q53 v33 v35).bind fun q55 =>
 some q55
 else
 (f_X7_laneOf q29 0 v33).bind fun q39 =>
 (f_X0_judgeIdle F q29 q39).bind fun q41 =>
 some q41
set_option maxHeartbeats 4000000 in
set_option maxRecDepth 100000 in
theorem c_X9_findBreaks (l : Launch) (E : En) {F : Nat} {μ : Mm} {p1 : Int32} (h0 : l9 E 0) {z : Mm} (hf : f_X9_findBreaks F μ p1 = some z) : Met l yX9_findBreaks (wt yX9_findBreaks cX9_findBreaks 4 (none : Option FieldType)) { frames := 5, cells := 0, slots := 0, locals := 113 } (Pm E [.ref (ad E 900 0), .int p1] μ) (Qm E none z) 0 0 (Ad E) := by
  unfold f_X9_findBreaks at hf
  refine met_of (cc := cX9_findBreaks) (nL := 4) (ret := (none : Option FieldType)) (by decide) _ (Nat.le_of_ble_eq_true rfl) ?_
  intro p e s m below meth c C hr hlk hI ls hl
  have hx := C.1.1
  have hb := C.1.2.1
  have hl : lv_has ls 4 [(0, .ref (ad E 900 0)), (1, .int p1)] := hl
  refine lv_aload_n hx hb dX9_findBreaks_0 rfl (lv_at hl 0 rfl) ?_
  refine gf_9_7 C hI h0.1 fl_X9_53 dX9_findBreaks_1 ?_
  obtain ⟨q29, e30, hf⟩ := ob hf
  refine mcV (As := []) (rest := []) C hI (c_X0_forget l E h0.2.2.2.2.2.2.2.2.1 e30) ml_X9_271 kv_X0_forget (m_recv C hI h0.2.2.2.2.2.2.2.2.1.1 (ce_0 E _ _ _) rfl) rfl rfl ⟨Nat.le_of_ble_eq_true rfl, Nat.le_of_ble_eq_true rfl⟩ ⟨Nat.zero_le _, Nat.zero_le _⟩ rfl rfl hl.1 (Nat.le_of_ble_eq_true rfl) dX9_findBreaks_4 (st1 := []) rfl (fun H locs hI => ?_)
  refine lv_aload_n hx hb dX9_findBreaks_7 rfl (lv_at hl 0 rfl) ?_
  refine gf_9_3 C hI h0.1 fl_X9_26 dX9_findBreaks_8 ?_
  refine lv_iload_n hx hb dX9_findBreaks_11 rfl (lv_at hl 1 rfl) ?_
  obtain ⟨q31, e32, hf⟩ := ob hf
  refine mcV (As := [.int p1]) (rest := []) C hI (c_X3_has l E h0.2.2.2.2.2.1 e32) ml_X9_255 kv_X3_has (m_recv C hI h0.2.2.2.2.2.1.1 (ce_300 E _ _ _) rfl) rfl rfl ⟨Nat.le_of_ble_eq_true rfl, Nat.le_of_ble_eq_true rfl⟩ ⟨Nat.zero_le _, Nat.zero_le _⟩ rfl rfl hl.1 (Nat.le_of_ble_eq_true rfl) dX9_findBreaks_12 (st1 := [.int q31]) rfl (fun H locs hI => ?_)
  refine lv_if_ne (tgt := 19) hx hb dX9_findBreaks_15 rfl (fun hc => ?_) (fun hc => ?_)
  · replace hf := ie hf hc
    refine lv_aload_n hx hb dX9_findBreaks_19 rfl (lv_at hl 0 rfl) ?_
    refine gf_9_3 C hI h0.1 fl_X9_26 dX9_findBreaks_20 ?_
    refine gf_3_1 C hI h0.2.2.2.2.2.1.1 fl_X9_274 dX9_findBreaks_23 ?_
    refine lv_iload_n hx hb dX9_findBreaks_26 rfl (lv_at hl 1 rfl) ?_
    obtain ⟨v33, e34, hf⟩ := ob hf
    refine m_iald C hI h0.2.2.2.2.2.1.2.2.1 (ce_302 E _ _ _) e34 dX9_findBreaks_27 ?_
    refine lv_istore_n hx hb dX9_findBreaks_28 rfl hl (by decide) rfl (fun ls hl => ?_)
    have hl : lv_has ls 4 [(2, .int v33), (0, .ref (ad E 900 0)), (1, .int p1)] := hl
    refine lv_aload_n hx hb dX9_findBreaks_29 rfl (lv_at hl 1 rfl) ?_
    refine gf_9_3 C hI h0.1 fl_X9_26 dX9_findBreaks_30 ?_
    refine gf_3_3 C hI h0.2.2.2.2.2.1.1 fl_X9_277 dX9_findBreaks_33 ?_
    refine lv_iload_n hx hb dX9_findBreaks_36 rfl (lv_at hl 2 rfl) ?_
    obtain ⟨v35, e36, hf⟩ := ob hf
    refine m_iald C hI h0.2.2.2.2.2.1.2.2.2.2 (ce_304 E _ _ _) e36 dX9_findBreaks_37 ?_
    refine lv_istore_n hx hb dX9_findBreaks_38 rfl hl (by decide) rfl (fun ls hl => ?_)
    have hl : lv_has ls 4 [(3, .int v35), (2, .int v33), (0, .ref (ad E 900 0)), (1, .int p1)] := hl
    refine lv_aload_n hx hb dX9_findBreaks_39 rfl (lv_at hl 2 rfl) ?_
    refine gf_9_3 C hI h0.1 fl_X9_26 dX9_findBreaks_40 ?_
    refine gf_3_0 C hI h0.2.2.2.2.2.1.1 fl_X9_280 dX9_findBreaks_43 ?_
    refine lv_iload_n hx hb dX9_findBreaks_46 rfl (lv_at hl 3 rfl) ?_
    obtain ⟨v37, e38, hf⟩ := ob hf
    refine m_iald C hI h0.2.2.2.2.2.1.2.1 (ce_301 E _ _ _) e38 dX9_findBreaks_47 ?_
    by_cases hn0 : v37 = (0 : Int32)
    · replace hf := it hf hn0
      refine lv_tableIn (tgt := 76) (off := 28) hx hb dX9_findBreaks_48 (by rw [hn0]; decide) (by rw [hn0]; decide) (by rw [hn0]; rfl) rfl ?_
      refine lv_aload_n hx hb dX9_findBreaks_76 rfl (lv_at hl 2 rfl) ?_
      refine gf_9_7 C hI h0.1 fl_X9_53 dX9_findBreaks_77 ?_
      refine lv_aload_n hx hb dX9_findBreaks_80 rfl (lv_at hl 2 rfl) ?_
      refine gf_9_0 C hI h0.1 fl_X9_12 dX9_findBreaks_81 ?_
      refine lv_iload_n hx hb dX9_findBreaks_84 rfl (lv_at hl 1 rfl) ?_
      obtain ⟨q43, e44, hf⟩ := ob hf
      refine mcV (As := [.int v33]) (rest := [.ref (ad E 0 0)]) C hI (c_X7_homeLane l E h0.2.2.2.2.1 e44) ml_X9_149 kv_X7_homeLane (m_recv C hI h0.2.2.2.2.1.1 (ce_700 E _ _ _) rfl) rfl rfl ⟨Nat.le_of_ble_eq_true rfl, Nat.le_of_ble_eq_true rfl⟩ ⟨Nat.zero_le _, Nat.zero_le _⟩ rfl rfl hl.1 (Nat.le_of_ble_eq_true rfl) dX9_findBreaks_85 (st1 := [.ref (ad E 200 q43), .ref (ad E 0 0)]) rfl (fun H locs hI => ?_)
      refine lv_iload_n hx hb dX9_findBreaks_88 rfl (lv_at hl 1 rfl) ?_
      refine lv_iload_n hx hb dX9_findBreaks_89 rfl (lv_at hl 0 rfl) ?_
      obtain ⟨q45, e46, hf⟩ := ob hf
      refine mcV (As := [.ref (ad E 200 q43), .int v33, .int v35]) (rest := []) C hI (c_X0_judgeBlocks l E h0.2.2.2.2.2.2.2.2.1 (lr_X7_homeLane h0.2.2.2.2.1 e44) e46) ml_X9_283 kv_X0_judgeBlocks (m_recv C hI h0.2.2.2.2.2.2.2.2.1.1 (ce_0 E _ _ _) rfl) rfl rfl ⟨Nat.le_of_ble_eq_true rfl, Nat.le_of_ble_eq_true rfl⟩ ⟨Nat.zero_le _, Nat.zero_le _⟩ rfl rfl hl.1 (Nat.le_of_ble_eq_true rfl) dX9_findBreaks_90 (st1 := []) rfl (fun H locs hI => ?_)
      refine lv_goto (tgt := 163) hx hb dX9_findBreaks_93 rfl ?_
      obtain rfl := Option.some.inj hf
      exact m_vret C hr hlk hI dX9_findBreaks_163
    replace hf := ie hf hn0
    by_cases hn1 : v37 = (1 : Int32)
    · replace hf := it hf hn1
      refine lv_tableIn (tgt := 96) (off := 48) hx hb dX9_findBreaks_48 (by rw [hn1]; decide) (by rw [hn1]; decide) (by rw [hn1]; rfl) rfl ?_
      refine lv_aload_n hx hb dX9_findBreaks_96 rfl (lv_at hl 2 rfl) ?_
      refine gf_9_7 C hI h0.1 fl_X9_53 dX9_findBreaks_97 ?_
      refine lv_aload_n hx hb dX9_findBreaks_100 rfl (lv_at hl 2 rfl) ?_
      refine gf_9_0 C hI h0.1 fl_X9_12 dX9_findBreaks_101 ?_
      refine lv_iload_n hx hb dX9_findBreaks_104 rfl (lv_at hl 1 rfl) ?_
      obtain ⟨q47, e48, hf⟩ := ob hf
      refine mcV (As := [.int v33]) (rest := [.ref (ad E 0 0)]) C hI (c_X7_laneOf l E h0.2.2.2.2.1 e48) ml_X9_128 kv_X7_laneOf (m_recv C hI h0.2.2.2.2.1.1 (ce_700 E _ _ _) rfl) rfl rfl ⟨Nat.le_of_ble_eq_true rfl, Nat.le_of_ble_eq_true rfl⟩ ⟨Nat.zero_le _, Nat.zero_le _⟩ rfl rfl hl.1 (Nat.le_of_ble_eq_true rfl) dX9_findBreaks_105 (st1 := [.ref (ad E 200 q47), .ref (ad E 0 0)]) rfl (fun H locs hI => ?_)
      refine lv_aload_n hx hb dX9_findBreaks_108 rfl (lv_at hl 2 rfl) ?_
      refine gf_9_3 C hI h0.1 fl_X9_26 dX9_findBreaks_109 ?_
      refine gf_3_2 C hI h0.2.2.2.2.2.1.1 fl_X9_287 dX9_findBreaks_112 ?_
      refine lv_iload_n hx hb dX9_findBreaks_115 rfl (lv_at hl 3 rfl) ?_
      obtain ⟨v49, e50, hf⟩ := ob hf
      refine m_iald C hI h0.2.2.2.2.2.1.2.2.2.1 (ce_303 E _ _ _) e50 dX9_findBreaks_116 ?_
      refine lv_iload_n hx hb dX9_findBreaks_117 rfl (lv_at hl 0 rfl) ?_
      obtain ⟨q51, e52, hf⟩ := ob hf
      refine mcV (As := [.ref (ad E 200 q47), .int v49, .int v35]) (rest := []) C hI (c_X0_judgeLocks l E h0.2.2.2.2.2.2.2.2.1 (lr_X7_laneOf h0.2.2.2.2.1 e48) e52) ml_X9_290 kv_X0_judgeLocks (m_recv C hI h0.2.2.2.2.2.2.2.2.1.1 (ce_0 E _ _ _) rfl) rfl rfl ⟨Nat.le_of_ble_eq_true rfl, Nat.le_of_ble_eq_true rfl⟩ ⟨Nat.zero_le _, Nat.zero_le _⟩ rfl rfl hl.1 (Nat.le_of_ble_eq_true rfl) dX9_findBreaks_118 (st1 := []) rfl (fun H locs hI => ?_)
      refine lv_goto (tgt := 163) hx hb dX9_findBreaks_121 rfl ?_
      obtain rfl := Option.some.inj hf
      exact m_vret C hr hlk hI dX9_findBreaks_163
    replace hf := ie hf hn1
    by_cases hn2 : v37 = (2 : Int32)
    · replace hf := it hf hn2
      refine lv_tableIn (tgt := 124) (off := 76) hx hb dX9_findBreaks_48 (by rw [hn2]; decide) (by rw [hn2]; decide) (by rw [hn2]; rfl) rfl ?_
      refine lv_aload_n hx hb dX9_findBreaks_124 rfl (lv_at hl 2 rfl) ?_
      refine gf_9_7 C hI h0.1 fl_X9_53 dX9_findBreaks_125 ?_
      refine lv_aload_n hx hb dX9_findBreaks_128 rfl (lv_at hl 2 rfl) ?_
      refine gf_9_0 C hI h0.1 fl_X9_12 dX9_findBreaks_129 ?_
      refine lv_iload_n hx hb dX9_findBreaks_132 rfl (lv_at hl 1 rfl) ?_
      obtain ⟨q53, e54, hf⟩ := ob hf
      refine mcV (As := [.int v33]) (rest := [.ref (ad E 0 0)]) C hI (c_X7_homeLane l E h0.2.2.2.2.1 e54) ml_X9_149 kv_X7_homeLane (m_recv C hI h0.2.2.2.2.1.1 (ce_700 E _ _ _) rfl) rfl rfl ⟨Nat.le_of_ble_eq_true rfl, Nat.le_of_ble_eq_true rfl⟩ ⟨Nat.zero_le _, Nat.zero_le _⟩ rfl rfl hl.1 (Nat.le_of_ble_eq_true rfl) dX9_findBreaks_133 (st1 := [.ref (ad E 200 q53), .ref (ad E 0 0)]) rfl (fun H locs hI => ?_)
      refine lv_iload_n hx hb dX9_findBreaks_136 rfl (lv_at hl 1 rfl) ?_
      refine lv_iload_n hx hb dX9_findBreaks_137 rfl (lv_at hl 0 rfl) ?_
      obtain ⟨q55, e56, hf⟩ := ob hf
      refine mcV (As := [.ref (ad E 200 q53), .int v33, .int v35]) (rest := []) C hI (c_X0_judgeApart l E h0.2.2.2.2.2.2.2.2.1 (lr_X7_homeLane h0.2.2.2.2.1 e54) e56) ml_X9_293 kv_X0_judgeApart (m_recv C hI h0.2.2.2.2.2.2.2.2.1.1 (ce_0 E _ _ _) rfl) rfl rfl ⟨Nat.le_of_ble_eq_true rfl, Nat.le_of_ble_eq_true rfl⟩ ⟨Nat.zero_le _, Nat.zero_le _⟩ rfl rfl hl.1 (Nat.le_of_ble_eq_true rfl) dX9_findBreaks_138 (st1 := []) rfl (fun H locs hI => ?_)
      refine lv_goto (tgt := 163) hx hb dX9_findBreaks_141 rfl ?_
      obtain rfl := Option.some.inj hf
      exact m_vret C hr hlk hI dX9_findBreaks_163
    replace hf := ie hf hn2
    have a0_ := ts_ne (n := 0) hn0 (by decide)
    have a1_ := ts_ne (n := 1) hn1 (by decide)
    have a2_ := ts_ne (n := 2) hn2 (by decide)
    refine lv_tableOut (tgt := 144) hx hb dX9_findBreaks_48 (by omega) rfl ?_
    refine lv_aload_n hx hb dX9_findBreaks_144 rfl (lv_at hl 2 rfl) ?_
    refine gf_9_7 C hI h0.1 fl_X9_53 dX9_findBreaks_145 ?_
    refine lv_aload_n hx hb dX9_findBreaks_148 rfl (lv_at hl 2 rfl) ?_
    refine gf_9_0 C hI h0.1 fl_X9_12 dX9_findBreaks_149 ?_
    refine lv_iload_n hx hb dX9_findBreaks_152 rfl (lv_at hl 1 rfl) ?_
    obtain ⟨q39, e40, hf⟩ := ob hf
    refine mcV (As := [.int v33]) (rest := [.ref (ad E 0 0)]) C hI (c_X7_laneOf l E h0.2.2.2.2.1 e40) ml_X9_128 kv_X7_laneOf (m_recv C hI h0.2.2.2.2.1.1 (ce_700 E _ _ _) rfl) rfl rfl ⟨Nat.le_of_ble_eq_true rfl, Nat.le_of_ble_eq_true rfl⟩ ⟨Nat.zero_le _, Nat.zero_le _⟩ rfl rfl hl.1 (Nat.le_of_ble_eq_true rfl) dX9_findBreaks_153 (st1 := [.ref (ad E 200 q39), .ref (ad E 0 0)]) rfl (fun H locs hI => ?_)
    refine lv_aload_n hx hb dX9_findBreaks_156 rfl (lv_at hl 2 rfl) ?_
    refine gf_9_5 C hI h0.1 fl_X9_39 dX9_findBreaks_157 ?_
    obtain ⟨q41, e42, hf⟩ := ob hf
    refine mcV (As := [.ref (ad E 200 q39), .ref (ad E 800 0)]) (rest := []) C hI (c_X0_judgeIdle l E h0.2.2.2.2.2.2.2.2.1 (lr_X7_laneOf h0.2.2.2.2.1 e40) h0.2.2.2.2.2.2.1 e42) ml_X9_296 kv_X0_judgeIdle (m_recv C hI h0.2.2.2.2.2.2.2.2.1.1 (ce_0 E _ _ _) rfl) rfl rfl ⟨Nat.le_of_ble_eq_true rfl, Nat.le_of_ble_eq_true rfl⟩ ⟨Nat.zero_le _, Nat.zero_le _⟩ rfl rfl hl.1 (Nat.le_of_ble_eq_true rfl) dX9_findBreaks_160 (st1 := []) rfl (fun H locs hI => ?_)
    obtain rfl := Option.some.inj hf
    exact m_vret C hr hlk hI dX9_findBreaks_163
  · replace hf := it hf hc
    obtain rfl := Option.some.inj hf
    exact m_vret C hr hlk hI dX9_findBreaks_18

theorem dX9_agree_0 : decode cX9_agree 0 = .ok (.aload_n 0, 1) := by decide +kernel
theorem dX9_agree_1 : decode cX9_agree 1 = .ok (.getfield 60, 3) := by decide +kernel
theorem dX9_agree_4 : decode cX9_agree 4 = .ok (.aload_n 0, 1) := by decide +kernel
theorem dX9_agree_5 : decode cX9_agree 5 = .ok (.getfield 12, 3) := by decide +kernel
theorem dX9_agree_8 : decode cX9_agree 8 = .ok (.invokevirtual 299, 3) := by decide +kernel
theorem dX9_agree_11 : decode cX9_agree 11 = .ok (.aload_n 0, 1) := by decide +kernel
theorem dX9_agree_12 : decode cX9_agree 12 = .ok (.getfield 60, 3) := by decide +kernel
theorem dX9_agree_15 : decode cX9_agree 15 = .ok (.invokevirtual 303, 3) := by decide +kernel
theorem dX9_agree_18 : decode cX9_agree 18 = .ok (.ifCond .eq 7, 3) := by decide +kernel
theorem dX9_agree_21 : decode cX9_agree 21 = .ok (.iconst 1, 1) := by decide +kernel
theorem dX9_agree_22 : decode cX9_agree 22 = .ok (.goto 4, 3) := by decide +kernel
theorem dX9_agree_25 : decode cX9_agree 25 = .ok (.iconst 0, 1) := by decide +kernel
theorem dX9_agree_26 : decode cX9_agree 26 = .ok (.ireturn, 1) := by decide +kernel
def f_X9_agree (F : Nat) (μ : Mm) : Option (Int32 × Mm) :=
 (f_X5_join F μ 0).bind fun q5 =>
 (f_X5_agrees F q5).bind fun q7 =>
 if q7 = 0 then
 some ((0 : Int32), q5)
 else
 some ((1 : Int32), q5)
set_option maxHeartbeats 4000000 in
set_option maxRecDepth 100000 in
theorem c_X9_agree (l : Launch) (E : En) {F : Nat} {μ : Mm} (h0 : l9 E 0) {z : Int32 × Mm} (hf : f_X9_agree F μ = some z) : Met l yX9_agree (wt yX9_agree cX9_agree 1 (some .int)) { frames := 4, cells := 0, slots := 0, locals := 101 } (Pm E [.ref (ad E 900 0)] μ) (Qm E (some (.int z.1)) z.2) 0 0 (Ad E) := by
  unfold f_X9_agree at hf
  refine met_of (cc := cX9_agree) (nL := 1) (ret := (some .int)) (by decide) _ (Nat.le_of_ble_eq_true rfl) ?_
  intro p e s m below meth c C hr hlk hI ls hl
  have hx := C.1.1
  have hb := C.1.2.1
  have hl : lv_has ls 1 [(0, .ref (ad E 900 0))] := hl
  refine lv_aload_n hx hb dX9_agree_0 rfl (lv_at hl 0 rfl) ?_
  refine gf_9_8 C hI h0.1 fl_X9_60 dX9_agree_1 ?_
  refine lv_aload_n hx hb dX9_agree_4 rfl (lv_at hl 0 rfl) ?_
  refine gf_9_0 C hI h0.1 fl_X9_12 dX9_agree_5 ?_
  obtain ⟨q5, e6, hf⟩ := ob hf
  refine mcV (As := [.ref (ad E 700 0)]) (rest := []) C hI (c_X5_join l E h0.2.2.2.2.2.2.2.2.2.1 h0.2.2.2.2.1 e6) ml_X9_299 kv_X5_join (m_recv C hI h0.2.2.2.2.2.2.2.2.2.1.1 (ce_500 E _ _ _) rfl) rfl rfl ⟨Nat.le_of_ble_eq_true rfl, Nat.le_of_ble_eq_true rfl⟩ ⟨Nat.zero_le _, Nat.zero_le _⟩ rfl rfl hl.1 (Nat.le_of_ble_eq_true rfl) dX9_agree_8 (st1 := []) rfl (fun H locs hI => ?_)
  refine lv_aload_n hx hb dX9_agree_11 rfl (lv_at hl 0 rfl) ?_
  refine gf_9_8 C hI h0.1 fl_X9_60 dX9_agree_12 ?_
  obtain ⟨q7, e8, hf⟩ := ob hf
  refine mcV (As := []) (rest := []) C hI (c_X5_agrees l E h0.2.2.2.2.2.2.2.2.2.1 e8) ml_X9_303 kv_X5_agrees (m_recv C hI h0.2.2.2.2.2.2.2.2.2.1.1 (ce_500 E _ _ _) rfl) rfl rfl ⟨Nat.le_of_ble_eq_true rfl, Nat.le_of_ble_eq_true rfl⟩ ⟨Nat.zero_le _, Nat.zero_le _⟩ rfl rfl hl.1 (Nat.le_of_ble_eq_true rfl) dX9_agree_15 (st1 := [.int q7]) rfl (fun H locs hI => ?_)
  refine lv_if_eq (tgt := 25) hx hb dX9_agree_18 rfl (fun hc => ?_) (fun hc => ?_)
  · replace hf := it hf hc
    refine lv_iconst (v := (0 : Int32)) hx hb dX9_agree_25 kc_0 ?_
    obtain rfl := Option.some.inj hf
    exact m_iret C hr hlk hI dX9_agree_26
  · replace hf := ie hf hc
    refine lv_iconst (v := (1 : Int32)) hx hb dX9_agree_21 kc_1 ?_
    refine lv_goto (tgt := 26) hx hb dX9_agree_22 rfl ?_
    obtain rfl := Option.some.inj hf
    exact m_iret C hr hlk hI dX9_agree_26

theorem dX9_play_0 : decode cX9_play 0 = .ok (.iload_n 1, 1) := by decide +kernel
theorem dX9_play_1 : decode cX9_play 1 = .ok (.invokestatic 357, 3) := by decide +kernel
theorem dX9_play_4 : decode cX9_play 4 = .ok (.ifCond .eq 25, 3) := by decide +kernel
theorem dX9_play_7 : decode cX9_play 7 = .ok (.aload_n 0, 1) := by decide +kernel
theorem dX9_play_8 : decode cX9_play 8 = .ok (.getfield 12, 3) := by decide +kernel
theorem dX9_play_11 : decode cX9_play 11 = .ok (.iload 4, 2) := by decide +kernel
theorem dX9_play_13 : decode cX9_play 13 = .ok (.invokevirtual 89, 3) := by decide +kernel
theorem dX9_play_16 : decode cX9_play 16 = .ok (.ifCond .eq 13, 3) := by decide +kernel
theorem dX9_play_19 : decode cX9_play 19 = .ok (.iload_n 3, 1) := by decide +kernel
theorem dX9_play_20 : decode cX9_play 20 = .ok (.ifCond .lt 9, 3) := by decide +kernel
theorem dX9_play_23 : decode cX9_play 23 = .ok (.iload_n 3, 1) := by decide +kernel
theorem dX9_play_24 : decode cX9_play 24 = .ok (.bipush 20, 2) := by decide +kernel
theorem dX9_play_26 : decode cX9_play 26 = .ok (.if_icmp .le 5, 3) := by decide +kernel
theorem dX9_play_29 : decode cX9_play 29 = .ok (.iconst (-1), 1) := by decide +kernel
theorem dX9_play_30 : decode cX9_play 30 = .ok (.ireturn, 1) := by decide +kernel
theorem dX9_play_31 : decode cX9_play 31 = .ok (.aload_n 0, 1) := by decide +kernel
theorem dX9_play_32 : decode cX9_play 32 = .ok (.getfield 32, 3) := by decide +kernel
theorem dX9_play_35 : decode cX9_play 35 = .ok (.iload_n 1, 1) := by decide +kernel
theorem dX9_play_36 : decode cX9_play 36 = .ok (.aaload, 1) := by decide +kernel
theorem dX9_play_37 : decode cX9_play 37 = .ok (.astore 5, 2) := by decide +kernel
theorem dX9_play_39 : decode cX9_play 39 = .ok (.aload 5, 2) := by decide +kernel
theorem dX9_play_41 : decode cX9_play 41 = .ok (.getfield 381, 3) := by decide +kernel
theorem dX9_play_44 : decode cX9_play 44 = .ok (.ifCond .ne 10, 3) := by decide +kernel
theorem dX9_play_47 : decode cX9_play 47 = .ok (.aload_n 0, 1) := by decide +kernel
theorem dX9_play_48 : decode cX9_play 48 = .ok (.bipush (-11), 2) := by decide +kernel
theorem dX9_play_50 : decode cX9_play 50 = .ok (.invokevirtual 360, 3) := by decide +kernel
theorem dX9_play_53 : decode cX9_play 53 = .ok (.ireturn, 1) := by decide +kernel
theorem dX9_play_54 : decode cX9_play 54 = .ok (.aload 5, 2) := by decide +kernel
theorem dX9_play_56 : decode cX9_play 56 = .ok (.getfield 381, 3) := by decide +kernel
theorem dX9_play_59 : decode cX9_play 59 = .ok (.iconst 3, 1) := by decide +kernel
theorem dX9_play_60 : decode cX9_play 60 = .ok (.if_icmp .eq 10, 3) := by decide +kernel
theorem dX9_play_63 : decode cX9_play 63 = .ok (.aload_n 0, 1) := by decide +kernel
theorem dX9_play_64 : decode cX9_play 64 = .ok (.bipush (-12), 2) := by decide +kernel
theorem dX9_play_66 : decode cX9_play 66 = .ok (.invokevirtual 360, 3) := by decide +kernel
theorem dX9_play_69 : decode cX9_play 69 = .ok (.ireturn, 1) := by decide +kernel
theorem dX9_play_70 : decode cX9_play 70 = .ok (.iload_n 2, 1) := by decide +kernel
theorem dX9_play_71 : decode cX9_play 71 = .ok (.i2l, 1) := by decide +kernel
theorem dX9_play_72 : decode cX9_play 72 = .ok (.lstore 6, 2) := by decide +kernel
theorem dX9_play_74 : decode cX9_play 74 = .ok (.iconst 0, 1) := by decide +kernel
theorem dX9_play_75 : decode cX9_play 75 = .ok (.istore 8, 2) := by decide +kernel
theorem dX9_play_77 : decode cX9_play 77 = .ok (.iload 8, 2) := by decide +kernel
theorem dX9_play_79 : decode cX9_play 79 = .ok (.iload_n 3, 1) := by decide +kernel
theorem dX9_play_80 : decode cX9_play 80 = .ok (.if_icmp .ge 90, 3) := by decide +kernel
theorem dX9_play_83 : decode cX9_play 83 = .ok (.aload 5, 2) := by decide +kernel
theorem dX9_play_85 : decode cX9_play 85 = .ok (.lload 6, 2) := by decide +kernel
theorem dX9_play_87 : decode cX9_play 87 = .ok (.iconst 4, 1) := by decide +kernel
theorem dX9_play_88 : decode cX9_play 88 = .ok (.invokevirtual 388, 3) := by decide +kernel
theorem dX9_play_91 : decode cX9_play 91 = .ok (.ifCond .ne 10, 3) := by decide +kernel
theorem dX9_play_94 : decode cX9_play 94 = .ok (.aload_n 0, 1) := by decide +kernel
theorem dX9_play_95 : decode cX9_play 95 = .ok (.bipush (-13), 2) := by decide +kernel
theorem dX9_play_97 : decode cX9_play 97 = .ok (.invokevirtual 360, 3) := by decide +kernel
theorem dX9_play_100 : decode cX9_play 100 = .ok (.ireturn, 1) := by decide +kernel
theorem dX9_play_101 : decode cX9_play 101 = .ok (.lload 6, 2) := by decide +kernel
theorem dX9_play_103 : decode cX9_play 103 = .ok (.l2i, 1) := by decide +kernel
theorem dX9_play_104 : decode cX9_play 104 = .ok (.istore 9, 2) := by decide +kernel
theorem dX9_play_106 : decode cX9_play 106 = .ok (.aload_n 0, 1) := by decide +kernel
theorem dX9_play_107 : decode cX9_play 107 = .ok (.iload 4, 2) := by decide +kernel
theorem dX9_play_109 : decode cX9_play 109 = .ok (.aload 5, 2) := by decide +kernel
theorem dX9_play_111 : decode cX9_play 111 = .ok (.iload 9, 2) := by decide +kernel
theorem dX9_play_113 : decode cX9_play 113 = .ok (.invokevirtual 392, 3) := by decide +kernel
theorem dX9_play_116 : decode cX9_play 116 = .ok (.aload 5, 2) := by decide +kernel
theorem dX9_play_118 : decode cX9_play 118 = .ok (.iload 9, 2) := by decide +kernel
theorem dX9_play_120 : decode cX9_play 120 = .ok (.iconst 1, 1) := by decide +kernel
theorem dX9_play_121 : decode cX9_play 121 = .ok (.iadd, 1) := by decide +kernel
theorem dX9_play_122 : decode cX9_play 122 = .ok (.invokevirtual 392, 3) := by decide +kernel
theorem dX9_play_125 : decode cX9_play 125 = .ok (.aload 5, 2) := by decide +kernel
theorem dX9_play_127 : decode cX9_play 127 = .ok (.iload 9, 2) := by decide +kernel
theorem dX9_play_129 : decode cX9_play 129 = .ok (.iconst 2, 1) := by decide +kernel
theorem dX9_play_130 : decode cX9_play 130 = .ok (.iadd, 1) := by decide +kernel
theorem dX9_play_131 : decode cX9_play 131 = .ok (.invokevirtual 392, 3) := by decide +kernel
theorem dX9_play_134 : decode cX9_play 134 = .ok (.aload 5, 2) := by decide +kernel
theorem dX9_play_136 : decode cX9_play 136 = .ok (.iload 9, 2) := by decide +kernel
theorem dX9_play_138 : decode cX9_play 138 = .ok (.iconst 3, 1) := by decide +kernel
theorem dX9_play_139 : decode cX9_play 139 = .ok (.iadd, 1) := by decide +kernel
theorem dX9_play_140 : decode cX9_play 140 = .ok (.invokevirtual 392, 3) := by decide +kernel
theorem dX9_play_143 : decode cX9_play 143 = .ok (.invokevirtual 115, 3) := by decide +kernel
theorem dX9_play_146 : decode cX9_play 146 = .ok (.istore 10, 2) := by decide +kernel
theorem dX9_play_148 : decode cX9_play 148 = .ok (.iload 10, 2) := by decide +kernel
theorem dX9_play_150 : decode cX9_play 150 = .ok (.ifCond .ge 6, 3) := by decide +kernel
theorem dX9_play_153 : decode cX9_play 153 = .ok (.iload 8, 2) := by decide +kernel
theorem dX9_play_155 : decode cX9_play 155 = .ok (.ireturn, 1) := by decide +kernel
theorem dX9_play_156 : decode cX9_play 156 = .ok (.lload 6, 2) := by decide +kernel
theorem dX9_play_158 : decode cX9_play 158 = .ok (.ldc2_w 395, 3) := by decide +kernel
theorem dX9_play_161 : decode cX9_play 161 = .ok (.ladd, 1) := by decide +kernel
theorem dX9_play_162 : decode cX9_play 162 = .ok (.lstore 6, 2) := by decide +kernel
theorem dX9_play_164 : decode cX9_play 164 = .ok (.iinc 8 1, 3) := by decide +kernel
theorem dX9_play_167 : decode cX9_play 167 = .ok (.goto (-90), 3) := by decide +kernel
theorem dX9_play_170 : decode cX9_play 170 = .ok (.iload_n 3, 1) := by decide +kernel
theorem dX9_play_171 : decode cX9_play 171 = .ok (.ireturn, 1) := by decide +kernel
def f_X9_play_b77 (F : Nat) : Nat → Mm → Int32 → Int32 → Nat → Int64 → Int32 → Option (Int32 × Mm)
 | 0, _, _, _, _, _, _ => none
 | N + 1, μ, a3, a4, a5, a6, a8 =>
 if a3 ≤ a8 then
 some (a3, μ)
 else
 (f_X6_hasPlaces μ a5 a6 (4 : Int32)).bind fun q25 =>
 if q25 = 0 then
 (f_X9_refuse μ (-13 : Int32)).bind fun q37 =>
 some (q37.1, q37.2)
 else
 (f_X6_intAt μ a5 a6.toInt32).bind fun q27 =>
 (f_X6_intAt μ a5 (a6.toInt32 + (1 : Int32))).bind fun q29 =>
 (f_X6_intAt μ a5 (a6.toInt32 + (2 : Int32))).bind fun q31 =>
 (f_X6_intAt μ a5 (a6.toInt32 + (3 : Int32))).bind fun q33 =>
 (f_X9_tellMark μ a4 q27 q29 q31 q33).bind fun q35 =>
 if 0 ≤ q35.1 then
 f_X9_play_b77 F N q35.2 a3 a4 a5 (a6 + (5 : Int64)) (a8 + (1 : Int32))
 else
 some (a8, q35.2)
set_option maxHeartbeats 4000000 in
set_option maxRecDepth 100000 in
theorem cb_X9_play_77 {l : Launch} {E : En} {p : Program} {e : Env} {s : State} {m : MethodId} {av : Array Value} {below : List Frame} {meth : Method} {c : Code} (C : Cx E p s m av c cX9_play 11 yX9_play.cls) (hr : meth.sig.returnType = (some .int)) (hlk : meth.locks = false) {F : Nat} {z : Int32 × Mm} : ∀ (N : Nat) (μ : Mm) (a3 : Int32) (a4 : Int32) (a5 : Nat) (a6 : Int64) (a8 : Int32) (h_a0 : l9 E 0) (h_a5 : l6 E a5), f_X9_play_b77 F N μ a3 a4 a5 a6 a8 = some z → ∀ {H : Heap} {locs : List Loc} {ls : Array Slot}, Iv E s μ H locs → lv_has ls 11 [(0, .ref (ad E 900 0)), (3, .int a3), (4, .int a4), (5, .ref (ad E 600 a5)), (6, .long a6), (8, .int a8)] → W p l e { frames := 6, cells := 0, slots := 0, locals := 147 } s m av below meth c H locs 0 0 (MQ below (Qm E (some (.int z.1)) z.2) av s 0 0 (Ad E)) (F0 m 77 ls []) := by
  have hx := C.1.1
  have hb := C.1.2.1
  intro N
  induction N with
  | zero => intro μ a3 a4 a5 a6 a8 h_a0 h_a5 hf; cases hf
  | succ N ih =>
    intro μ a3 a4 a5 a6 a8 h_a0 h_a5 hf H locs ls hI hl
    rw [f_X9_play_b77] at hf
    refine lv_iload hx hb dX9_play_77 (lv_at hl 5 rfl) ?_
    refine lv_iload_n hx hb dX9_play_79 rfl (lv_at hl 1 rfl) ?_
    refine lv_icmp_ge (tgt := 170) hx hb dX9_play_80 rfl (fun hc => ?_) (fun hc => ?_)
    · replace hf := it hf hc
      refine lv_iload_n hx hb dX9_play_170 rfl (lv_at hl 1 rfl) ?_
      obtain rfl := Option.some.inj hf
      exact m_iret C hr hlk hI dX9_play_171
    · replace hf := ie hf hc
      refine lv_aload hx hb dX9_play_83 (lv_at hl 3 rfl) ?_
      refine lv_lload hx hb dX9_play_85 (lv_at hl 4 rfl) ?_
      refine lv_iconst (v := (4 : Int32)) hx hb dX9_play_87 kc_4 ?_
      obtain ⟨q25, e26, hf⟩ := ob hf
      refine mcV (As := [.long a6, .int (4 : Int32)]) (rest := []) C hI (c_X6_hasPlaces l E h_a5 e26) ml_X9_388 kv_X6_hasPlaces (m_recv C hI h_a5.1 (ce_600 E _ _ _) rfl) rfl rfl ⟨Nat.le_of_ble_eq_true rfl, Nat.le_of_ble_eq_true rfl⟩ ⟨Nat.zero_le _, Nat.zero_le _⟩ rfl rfl hl.1 (Nat.le_of_ble_eq_true rfl) dX9_play_88 (st1 := [.int q25]) rfl (fun H locs hI => ?_)
      refine lv_if_ne (tgt := 101) hx hb dX9_play_91 rfl (fun hc => ?_) (fun hc => ?_)
      · replace hf := ie hf hc
        refine lv_lload hx hb dX9_play_101 (lv_at hl 4 rfl) ?_
        refine lv_l2i (v := a6.toInt32) hx hb dX9_play_103 rfl ?_
        refine lv_istore hx hb dX9_play_104 hl (by decide) rfl (fun ls hl => ?_)
        have hl : lv_has ls 11 [(9, .int a6.toInt32), (0, .ref (ad E 900 0)), (3, .int a3), (4, .int a4), (5, .ref (ad E 600 a5)), (6, .long a6), (8, .int a8)] := hl
        refine lv_aload_n hx hb dX9_play_106 rfl (lv_at hl 1 rfl) ?_
        refine lv_iload hx hb dX9_play_107 (lv_at hl 3 rfl) ?_
        refine lv_aload hx hb dX9_play_109 (lv_at hl 4 rfl) ?_
        refine lv_iload hx hb dX9_play_111 (lv_at hl 0 rfl) ?_
        obtain ⟨q27, e28, hf⟩ := ob hf
        refine mcV (As := [.int a6.toInt32]) (rest := [.int a4, .ref (ad E 900 0)]) C hI (c_X6_intAt l E h_a5 e28) ml_X9_392 kv_X6_intAt (m_recv C hI h_a5.1 (ce_600 E _ _ _) rfl) rfl rfl ⟨Nat.le_of_ble_eq_true rfl, Nat.le_of_ble_eq_true rfl⟩ ⟨Nat.zero_le _, Nat.zero_le _⟩ rfl rfl hl.1 (Nat.le_of_ble_eq_true rfl) dX9_play_113 (st1 := [.int q27, .int a4, .ref (ad E 900 0)]) rfl (fun H locs hI => ?_)
        refine lv_aload hx hb dX9_play_116 (lv_at hl 4 rfl) ?_
        refine lv_iload hx hb dX9_play_118 (lv_at hl 0 rfl) ?_
        refine lv_iconst (v := (1 : Int32)) hx hb dX9_play_120 kc_1 ?_
        refine lv_iadd hx hb dX9_play_121 ?_
        obtain ⟨q29, e30, hf⟩ := ob hf
        refine mcV (As := [.int (a6.toInt32 + (1 : Int32))]) (rest := [.int q27, .int a4, .ref (ad E 900 0)]) C hI (c_X6_intAt l E h_a5 e30) ml_X9_392 kv_X6_intAt (m_recv C hI h_a5.1 (ce_600 E _ _ _) rfl) rfl rfl ⟨Nat.le_of_ble_eq_true rfl, Nat.le_of_ble_eq_true rfl⟩ ⟨Nat.zero_le _, Nat.zero_le _⟩ rfl rfl hl.1 (Nat.le_of_ble_eq_true rfl) dX9_play_122 (st1 := [.int q29, .int q27, .int a4, .ref (ad E 900 0)]) rfl (fun H locs hI => ?_)
        refine lv_aload hx hb dX9_play_125 (lv_at hl 4 rfl) ?_
        refine lv_iload hx hb dX9_play_127 (lv_at hl 0 rfl) ?_
        refine lv_iconst (v := (2 : Int32)) hx hb dX9_play_129 kc_2 ?_
        refine lv_iadd hx hb dX9_play_130 ?_
        obtain ⟨q31, e32, hf⟩ := ob hf
        refine mcV (As := [.int (a6.toInt32 + (2 : Int32))]) (rest := [.int q29, .int q27, .int a4, .ref (ad E 900 0)]) C hI (c_X6_intAt l E h_a5 e32) ml_X9_392 kv_X6_intAt (m_recv C hI h_a5.1 (ce_600 E _ _ _) rfl) rfl rfl ⟨Nat.le_of_ble_eq_true rfl, Nat.le_of_ble_eq_true rfl⟩ ⟨Nat.zero_le _, Nat.zero_le _⟩ rfl rfl hl.1 (Nat.le_of_ble_eq_true rfl) dX9_play_131 (st1 := [.int q31, .int q29, .int q27, .int a4, .ref (ad E 900 0)]) rfl (fun H locs hI => ?_)
        refine lv_aload hx hb dX9_play_134 (lv_at hl 4 rfl) ?_
        refine lv_iload hx hb dX9_play_136 (lv_at hl 0 rfl) ?_
        refine lv_iconst (v := (3 : Int32)) hx hb dX9_play_138 kc_3 ?_
        refine lv_iadd hx hb dX9_play_139 ?_
        obtain ⟨q33, e34, hf⟩ := ob hf
        refine mcV (As := [.int (a6.toInt32 + (3 : Int32))]) (rest := [.int q31, .int q29, .int q27, .int a4, .ref (ad E 900 0)]) C hI (c_X6_intAt l E h_a5 e34) ml_X9_392 kv_X6_intAt (m_recv C hI h_a5.1 (ce_600 E _ _ _) rfl) rfl rfl ⟨Nat.le_of_ble_eq_true rfl, Nat.le_of_ble_eq_true rfl⟩ ⟨Nat.zero_le _, Nat.zero_le _⟩ rfl rfl hl.1 (Nat.le_of_ble_eq_true rfl) dX9_play_140 (st1 := [.int q33, .int q31, .int q29, .int q27, .int a4, .ref (ad E 900 0)]) rfl (fun H locs hI => ?_)
        obtain ⟨q35, e36, hf⟩ := ob hf
        refine mcV (As := [.int a4, .int q27, .int q29, .int q31, .int q33]) (rest := []) C hI (c_X9_tellMark l E h_a0 e36) ml_X9_115 kv_X9_tellMark (m_recv C hI h_a0.1 (ce_900 E _ _ _) rfl) rfl rfl ⟨Nat.le_of_ble_eq_true rfl, Nat.le_of_ble_eq_true rfl⟩ ⟨Nat.zero_le _, Nat.zero_le _⟩ rfl rfl hl.1 (Nat.le_of_ble_eq_true rfl) dX9_play_143 (st1 := [.int q35.1]) rfl (fun H locs hI => ?_)
        refine lv_istore hx hb dX9_play_146 hl (by decide) rfl (fun ls hl => ?_)
        have hl : lv_has ls 11 [(10, .int q35.1), (9, .int a6.toInt32), (0, .ref (ad E 900 0)), (3, .int a3), (4, .int a4), (5, .ref (ad E 600 a5)), (6, .long a6), (8, .int a8)] := hl
        refine lv_iload hx hb dX9_play_148 (lv_at hl 0 rfl) ?_
        refine lv_if_ge (tgt := 156) hx hb dX9_play_150 rfl (fun hc => ?_) (fun hc => ?_)
        · replace hf := it hf hc
          refine lv_lload hx hb dX9_play_156 (lv_at hl 6 rfl) ?_
          refine lv_ldc2 (v := (5 : Int64)) hx hb C.1.2.2.2.1 (m_in C kl_X9_395) dX9_play_158 ?_
          refine lv_ladd hx hb dX9_play_161 ?_
          refine lv_lstore hx hb dX9_play_162 hl (by decide) rfl (fun ls hl => ?_)
          have hl : lv_has ls 11 [(6, .long (a6 + (5 : Int64))), (10, .int q35.1), (9, .int a6.toInt32), (0, .ref (ad E 900 0)), (3, .int a3), (4, .int a4), (5, .ref (ad E 600 a5)), (8, .int a8)] := hl
          refine lv_iinc (v := a8 + (1 : Int32)) hx hb dX9_play_164 hl (k := 7) rfl (ki_1 _) (by decide) rfl (fun ls hl => ?_)
          have hl : lv_has ls 11 [(8, .int (a8 + (1 : Int32))), (6, .long (a6 + (5 : Int64))), (10, .int q35.1), (9, .int a6.toInt32), (0, .ref (ad E 900 0)), (3, .int a3), (4, .int a4), (5, .ref (ad E 600 a5))] := hl
          refine lv_goto (tgt := 77) hx hb dX9_play_167 rfl ?_
          exact ih _ _ _ _ _ _ h_a0 h_a5 hf hI (lv_sub hl [4, 5, 6, 7, 1, 0] rfl)
        · replace hf := ie hf hc
          refine lv_iload hx hb dX9_play_153 (lv_at hl 7 rfl) ?_
          obtain rfl := Option.some.inj hf
          exact m_iret C hr hlk hI dX9_play_155
      · replace hf := it hf hc
        refine lv_aload_n hx hb dX9_play_94 rfl (lv_at hl 0 rfl) ?_
        refine lv_bipush (v := (-13 : Int32)) hx hb dX9_play_95 kb_m13 ?_
        obtain ⟨q37, e38, hf⟩ := ob hf
        refine mcV (As := [.int (-13 : Int32)]) (rest := []) C hI (c_X9_refuse l E h_a0 e38) ml_X9_360 kv_X9_refuse (m_recv C hI h_a0.1 (ce_900 E _ _ _) rfl) rfl rfl ⟨Nat.le_of_ble_eq_true rfl, Nat.le_of_ble_eq_true rfl⟩ ⟨Nat.zero_le _, Nat.zero_le _⟩ rfl rfl hl.1 (Nat.le_of_ble_eq_true rfl) dX9_play_97 (st1 := [.int q37.1]) rfl (fun H locs hI => ?_)
        obtain rfl := Option.some.inj hf
        exact m_iret C hr hlk hI dX9_play_100
def f_X9_play (F : Nat) (μ : Mm) (p1 : Int32) (p2 : Int32) (p3 : Int32) (p4 : Int32) : Option (Int32 × Mm) :=
 (f_X9_isTape μ p1).bind fun q39 =>
 if q39 = 0 then
 some ((-1 : Int32), μ)
 else
 (f_X7_hasProcessor μ 0 p4).bind fun q41 =>
 if q41 = 0 then
 some ((-1 : Int32), μ)
 else
 if p3 < 0 then
 some ((-1 : Int32), μ)
 else
 if p3 ≤ (20 : Int32) then
 (rq 6 p1).bind fun j43 =>
 if (μ.1 600 j43 1) = 0 then
 (f_X9_refuse μ (-11 : Int32)).bind fun q47 =>
 some (q47.1, q47.2)
 else
 if (μ.1 600 j43 1) = (3 : Int32) then
 f_X9_play_b77 F F μ p3 p4 j43 p2.toInt64 (0 : Int32)
 else
 (f_X9_refuse μ (-12 : Int32)).bind fun q45 =>
 some (q45.1, q45.2)
 else
 some ((-1 : Int32), μ)
set_option maxHeartbeats 4000000 in
set_option maxRecDepth 100000 in
theorem c_X9_play (l : Launch) (E : En) {F : Nat} {μ : Mm} {p1 : Int32} {p2 : Int32} {p3 : Int32} {p4 : Int32} (h0 : l9 E 0) {z : Int32 × Mm} (hf : f_X9_play F μ p1 p2 p3 p4 = some z) : Met l yX9_play (wt yX9_play cX9_play 11 (some .int)) { frames := 6, cells := 0, slots := 0, locals := 147 } (Pm E [.ref (ad E 900 0), .int p1, .int p2, .int p3, .int p4] μ) (Qm E (some (.int z.1)) z.2) 0 0 (Ad E) := by
  unfold f_X9_play at hf
  refine met_of (cc := cX9_play) (nL := 11) (ret := (some .int)) (by decide) _ (Nat.le_of_ble_eq_true rfl) ?_
  intro p e s m below meth c C hr hlk hI ls hl
  have hx := C.1.1
  have hb := C.1.2.1
  have hl : lv_has ls 11 [(0, .ref (ad E 900 0)), (1, .int p1), (2, .int p2), (3, .int p3), (4, .int p4)] := hl
  refine lv_iload_n hx hb dX9_play_0 rfl (lv_at hl 1 rfl) ?_
  obtain ⟨q39, e40, hf⟩ := ob hf
  refine mcS (As := [.int p1]) (rest := []) C hI (c_X9_isTape l E  e40) ml_X9_357 ks_X9_isTape rfl rfl ⟨Nat.le_of_ble_eq_true rfl, Nat.le_of_ble_eq_true rfl⟩ ⟨Nat.zero_le _, Nat.zero_le _⟩ rfl rfl hl.1 (Nat.le_of_ble_eq_true rfl) dX9_play_1 (st1 := [.int q39]) rfl (fun H locs hI => ?_)
  refine lv_if_eq (tgt := 29) hx hb dX9_play_4 rfl (fun hc => ?_) (fun hc => ?_)
  · replace hf := it hf hc
    refine lv_iconst (v := (-1 : Int32)) hx hb dX9_play_29 kc_m1 ?_
    obtain rfl := Option.some.inj hf
    exact m_iret C hr hlk hI dX9_play_30
  · replace hf := ie hf hc
    refine lv_aload_n hx hb dX9_play_7 rfl (lv_at hl 0 rfl) ?_
    refine gf_9_0 C hI h0.1 fl_X9_12 dX9_play_8 ?_
    refine lv_iload hx hb dX9_play_11 (lv_at hl 4 rfl) ?_
    obtain ⟨q41, e42, hf⟩ := ob hf
    refine mcV (As := [.int p4]) (rest := []) C hI (c_X7_hasProcessor l E h0.2.2.2.2.1 e42) ml_X9_89 kv_X7_hasProcessor (m_recv C hI h0.2.2.2.2.1.1 (ce_700 E _ _ _) rfl) rfl rfl ⟨Nat.le_of_ble_eq_true rfl, Nat.le_of_ble_eq_true rfl⟩ ⟨Nat.zero_le _, Nat.zero_le _⟩ rfl rfl hl.1 (Nat.le_of_ble_eq_true rfl) dX9_play_13 (st1 := [.int q41]) rfl (fun H locs hI => ?_)
    refine lv_if_eq (tgt := 29) hx hb dX9_play_16 rfl (fun hc => ?_) (fun hc => ?_)
    · replace hf := it hf hc
      refine lv_iconst (v := (-1 : Int32)) hx hb dX9_play_29 kc_m1 ?_
      obtain rfl := Option.some.inj hf
      exact m_iret C hr hlk hI dX9_play_30
    · replace hf := ie hf hc
      refine lv_iload_n hx hb dX9_play_19 rfl (lv_at hl 3 rfl) ?_
      refine lv_if_lt (tgt := 29) hx hb dX9_play_20 rfl (fun hc => ?_) (fun hc => ?_)
      · replace hf := it hf hc
        refine lv_iconst (v := (-1 : Int32)) hx hb dX9_play_29 kc_m1 ?_
        obtain rfl := Option.some.inj hf
        exact m_iret C hr hlk hI dX9_play_30
      · replace hf := ie hf hc
        refine lv_iload_n hx hb dX9_play_23 rfl (lv_at hl 3 rfl) ?_
        refine lv_bipush (v := (20 : Int32)) hx hb dX9_play_24 kb_20 ?_
        refine lv_icmp_le (tgt := 31) hx hb dX9_play_26 rfl (fun hc => ?_) (fun hc => ?_)
        · replace hf := it hf hc
          refine lv_aload_n hx hb dX9_play_31 rfl (lv_at hl 0 rfl) ?_
          refine gf_9_4 C hI h0.1 fl_X9_32 dX9_play_32 ?_
          refine lv_iload_n hx hb dX9_play_35 rfl (lv_at hl 1 rfl) ?_
          obtain ⟨j43, e44, hf⟩ := ob hf
          refine m_aald (t0 := 4) (Cn := RX6) (fun _ => rfl) C hI h0.2.2.2.1 (ce_905 E _ _ _) e44 dX9_play_36 ?_
          refine lv_astore hx hb dX9_play_37 hl (by decide) rfl (fun ls hl => ?_)
          have hl : lv_has ls 11 [(5, .ref (ad E 600 j43)), (0, .ref (ad E 900 0)), (1, .int p1), (2, .int p2), (3, .int p3), (4, .int p4)] := hl
          refine lv_aload hx hb dX9_play_39 (lv_at hl 0 rfl) ?_
          refine gf_6_1 C hI (l9_tape h0 e44).1 fl_X9_381 dX9_play_41 ?_
          refine lv_if_ne (tgt := 54) hx hb dX9_play_44 rfl (fun hc => ?_) (fun hc => ?_)
          · replace hf := ie hf hc
            refine lv_aload hx hb dX9_play_54 (lv_at hl 0 rfl) ?_
            refine gf_6_1 C hI (l9_tape h0 e44).1 fl_X9_381 dX9_play_56 ?_
            refine lv_iconst (v := (3 : Int32)) hx hb dX9_play_59 kc_3 ?_
            refine lv_icmp_eq (tgt := 70) hx hb dX9_play_60 rfl (fun hc => ?_) (fun hc => ?_)
            · replace hf := it hf hc
              refine lv_iload_n hx hb dX9_play_70 rfl (lv_at hl 3 rfl) ?_
              refine lv_i2l (v := p2.toInt64) hx hb dX9_play_71 rfl ?_
              refine lv_lstore hx hb dX9_play_72 hl (by decide) rfl (fun ls hl => ?_)
              have hl : lv_has ls 11 [(6, .long p2.toInt64), (5, .ref (ad E 600 j43)), (0, .ref (ad E 900 0)), (1, .int p1), (2, .int p2), (3, .int p3), (4, .int p4)] := hl
              refine lv_iconst (v := (0 : Int32)) hx hb dX9_play_74 kc_0 ?_
              refine lv_istore hx hb dX9_play_75 hl (by decide) rfl (fun ls hl => ?_)
              have hl : lv_has ls 11 [(8, .int (0 : Int32)), (6, .long p2.toInt64), (5, .ref (ad E 600 j43)), (0, .ref (ad E 900 0)), (1, .int p1), (2, .int p2), (3, .int p3), (4, .int p4)] := hl
              exact cb_X9_play_77 C hr hlk  _ _ _ _ _ _ _ h0 (l9_tape h0 e44) hf hI (lv_sub hl [3, 6, 7, 2, 1, 0] rfl)
            · replace hf := ie hf hc
              refine lv_aload_n hx hb dX9_play_63 rfl (lv_at hl 1 rfl) ?_
              refine lv_bipush (v := (-12 : Int32)) hx hb dX9_play_64 kb_m12 ?_
              obtain ⟨q45, e46, hf⟩ := ob hf
              refine mcV (As := [.int (-12 : Int32)]) (rest := []) C hI (c_X9_refuse l E h0 e46) ml_X9_360 kv_X9_refuse (m_recv C hI h0.1 (ce_900 E _ _ _) rfl) rfl rfl ⟨Nat.le_of_ble_eq_true rfl, Nat.le_of_ble_eq_true rfl⟩ ⟨Nat.zero_le _, Nat.zero_le _⟩ rfl rfl hl.1 (Nat.le_of_ble_eq_true rfl) dX9_play_66 (st1 := [.int q45.1]) rfl (fun H locs hI => ?_)
              obtain rfl := Option.some.inj hf
              exact m_iret C hr hlk hI dX9_play_69
          · replace hf := it hf hc
            refine lv_aload_n hx hb dX9_play_47 rfl (lv_at hl 1 rfl) ?_
            refine lv_bipush (v := (-11 : Int32)) hx hb dX9_play_48 kb_m11 ?_
            obtain ⟨q47, e48, hf⟩ := ob hf
            refine mcV (As := [.int (-11 : Int32)]) (rest := []) C hI (c_X9_refuse l E h0 e48) ml_X9_360 kv_X9_refuse (m_recv C hI h0.1 (ce_900 E _ _ _) rfl) rfl rfl ⟨Nat.le_of_ble_eq_true rfl, Nat.le_of_ble_eq_true rfl⟩ ⟨Nat.zero_le _, Nat.zero_le _⟩ rfl rfl hl.1 (Nat.le_of_ble_eq_true rfl) dX9_play_50 (st1 := [.int q47.1]) rfl (fun H locs hI => ?_)
            obtain rfl := Option.some.inj hf
            exact m_iret C hr hlk hI dX9_play_53
        · replace hf := ie hf hc
          refine lv_iconst (v := (-1 : Int32)) hx hb dX9_play_29 kc_m1 ?_
          obtain rfl := Option.some.inj hf
          exact m_iret C hr hlk hI dX9_play_30

theorem dX9_mark_0 : decode cX9_mark 0 = .ok (.aload_n 0, 1) := by decide +kernel
theorem dX9_mark_1 : decode cX9_mark 1 = .ok (.iload_n 1, 1) := by decide +kernel
theorem dX9_mark_2 : decode cX9_mark 2 = .ok (.iload_n 2, 1) := by decide +kernel
theorem dX9_mark_3 : decode cX9_mark 3 = .ok (.iload_n 3, 1) := by decide +kernel
theorem dX9_mark_4 : decode cX9_mark 4 = .ok (.iload 4, 2) := by decide +kernel
theorem dX9_mark_6 : decode cX9_mark 6 = .ok (.iload 5, 2) := by decide +kernel
theorem dX9_mark_8 : decode cX9_mark 8 = .ok (.invokevirtual 115, 3) := by decide +kernel
theorem dX9_mark_11 : decode cX9_mark 11 = .ok (.ireturn, 1) := by decide +kernel
def f_X9_mark (μ : Mm) (p1 : Int32) (p2 : Int32) (p3 : Int32) (p4 : Int32) (p5 : Int32) : Option (Int32 × Mm) :=
 (f_X9_tellMark μ p1 p2 p3 p4 p5).bind fun q3 =>
 some (q3.1, q3.2)
set_option maxHeartbeats 4000000 in
set_option maxRecDepth 100000 in
theorem c_X9_mark (l : Launch) (E : En) {μ : Mm} {p1 : Int32} {p2 : Int32} {p3 : Int32} {p4 : Int32} {p5 : Int32} (h0 : l9 E 0) {z : Int32 × Mm} (hf : f_X9_mark μ p1 p2 p3 p4 p5 = some z) : Met l yX9_mark (wt yX9_mark cX9_mark 6 (some .int)) { frames := 6, cells := 0, slots := 0, locals := 147 } (Pm E [.ref (ad E 900 0), .int p1, .int p2, .int p3, .int p4, .int p5] μ) (Qm E (some (.int z.1)) z.2) 0 0 (Ad E) := by
  unfold f_X9_mark at hf
  refine met_of (cc := cX9_mark) (nL := 6) (ret := (some .int)) (by decide) _ (Nat.le_of_ble_eq_true rfl) ?_
  intro p e s m below meth c C hr hlk hI ls hl
  have hx := C.1.1
  have hb := C.1.2.1
  have hl : lv_has ls 6 [(0, .ref (ad E 900 0)), (1, .int p1), (2, .int p2), (3, .int p3), (4, .int p4), (5, .int p5)] := hl
  refine lv_aload_n hx hb dX9_mark_0 rfl (lv_at hl 0 rfl) ?_
  refine lv_iload_n hx hb dX9_mark_1 rfl (lv_at hl 1 rfl) ?_
  refine lv_iload_n hx hb dX9_mark_2 rfl (lv_at hl 2 rfl) ?_
  refine lv_iload_n hx hb dX9_mark_3 rfl (lv_at hl 3 rfl) ?_
  refine lv_iload hx hb dX9_mark_4 (lv_at hl 4 rfl) ?_
  refine lv_iload hx hb dX9_mark_6 (lv_at hl 5 rfl) ?_
  obtain ⟨q3, e4, hf⟩ := ob hf
  refine mcV (As := [.int p1, .int p2, .int p3, .int p4, .int p5]) (rest := []) C hI (c_X9_tellMark l E h0 e4) ml_X9_115 kv_X9_tellMark (m_recv C hI h0.1 (ce_900 E _ _ _) rfl) rfl rfl ⟨Nat.le_of_ble_eq_true rfl, Nat.le_of_ble_eq_true rfl⟩ ⟨Nat.zero_le _, Nat.zero_le _⟩ rfl rfl hl.1 (Nat.le_of_ble_eq_true rfl) dX9_mark_8 (st1 := [.int q3.1]) rfl (fun H locs hI => ?_)
  obtain rfl := Option.some.inj hf
  exact m_iret C hr hlk hI dX9_mark_11

theorem dX9_gatherJobs_0 : decode cX9_gatherJobs 0 = .ok (.aload_n 0, 1) := by decide +kernel
theorem dX9_gatherJobs_1 : decode cX9_gatherJobs 1 = .ok (.getfield 46, 3) := by decide +kernel
theorem dX9_gatherJobs_4 : decode cX9_gatherJobs 4 = .ok (.aload_n 0, 1) := by decide +kernel
theorem dX9_gatherJobs_5 : decode cX9_gatherJobs 5 = .ok (.getfield 12, 3) := by decide +kernel
theorem dX9_gatherJobs_8 : decode cX9_gatherJobs 8 = .ok (.iload_n 1, 1) := by decide +kernel
theorem dX9_gatherJobs_9 : decode cX9_gatherJobs 9 = .ok (.invokevirtual 149, 3) := by decide +kernel
theorem dX9_gatherJobs_12 : decode cX9_gatherJobs 12 = .ok (.aload_n 0, 1) := by decide +kernel
theorem dX9_gatherJobs_13 : decode cX9_gatherJobs 13 = .ok (.getfield 39, 3) := by decide +kernel
theorem dX9_gatherJobs_16 : decode cX9_gatherJobs 16 = .ok (.invokevirtual 240, 3) := by decide +kernel
theorem dX9_gatherJobs_19 : decode cX9_gatherJobs 19 = .ok (.return_, 1) := by decide +kernel
def f_X9_gatherJobs (F : Nat) (μ : Mm) (p1 : Int32) : Option Mm :=
 (f_X7_homeLane μ 0 p1).bind fun q5 =>
 (f_X1_gather F μ q5).bind fun q7 =>
 some q7
set_option maxHeartbeats 4000000 in
set_option maxRecDepth 100000 in
theorem c_X9_gatherJobs (l : Launch) (E : En) {F : Nat} {μ : Mm} {p1 : Int32} (h0 : l9 E 0) {z : Mm} (hf : f_X9_gatherJobs F μ p1 = some z) : Met l yX9_gatherJobs (wt yX9_gatherJobs cX9_gatherJobs 2 (none : Option FieldType)) { frames := 5, cells := 0, slots := 0, locals := 112 } (Pm E [.ref (ad E 900 0), .int p1] μ) (Qm E none z) 0 0 (Ad E) := by
  unfold f_X9_gatherJobs at hf
  refine met_of (cc := cX9_gatherJobs) (nL := 2) (ret := (none : Option FieldType)) (by decide) _ (Nat.le_of_ble_eq_true rfl) ?_
  intro p e s m below meth c C hr hlk hI ls hl
  have hx := C.1.1
  have hb := C.1.2.1
  have hl : lv_has ls 2 [(0, .ref (ad E 900 0)), (1, .int p1)] := hl
  refine lv_aload_n hx hb dX9_gatherJobs_0 rfl (lv_at hl 0 rfl) ?_
  refine gf_9_6 C hI h0.1 fl_X9_46 dX9_gatherJobs_1 ?_
  refine lv_aload_n hx hb dX9_gatherJobs_4 rfl (lv_at hl 0 rfl) ?_
  refine gf_9_0 C hI h0.1 fl_X9_12 dX9_gatherJobs_5 ?_
  refine lv_iload_n hx hb dX9_gatherJobs_8 rfl (lv_at hl 1 rfl) ?_
  obtain ⟨q5, e6, hf⟩ := ob hf
  refine mcV (As := [.int p1]) (rest := [.ref (ad E 100 0)]) C hI (c_X7_homeLane l E h0.2.2.2.2.1 e6) ml_X9_149 kv_X7_homeLane (m_recv C hI h0.2.2.2.2.1.1 (ce_700 E _ _ _) rfl) rfl rfl ⟨Nat.le_of_ble_eq_true rfl, Nat.le_of_ble_eq_true rfl⟩ ⟨Nat.zero_le _, Nat.zero_le _⟩ rfl rfl hl.1 (Nat.le_of_ble_eq_true rfl) dX9_gatherJobs_9 (st1 := [.ref (ad E 200 q5), .ref (ad E 100 0)]) rfl (fun H locs hI => ?_)
  refine lv_aload_n hx hb dX9_gatherJobs_12 rfl (lv_at hl 0 rfl) ?_
  refine gf_9_5 C hI h0.1 fl_X9_39 dX9_gatherJobs_13 ?_
  obtain ⟨q7, e8, hf⟩ := ob hf
  refine mcV (As := [.ref (ad E 200 q5), .ref (ad E 800 0)]) (rest := []) C hI (c_X1_gather l E h0.2.2.2.2.2.2.2.1 (lr_X7_homeLane h0.2.2.2.2.1 e6) h0.2.2.2.2.2.2.1 e8) ml_X9_240 kv_X1_gather (m_recv C hI h0.2.2.2.2.2.2.2.1.1 (ce_100 E _ _ _) rfl) rfl rfl ⟨Nat.le_of_ble_eq_true rfl, Nat.le_of_ble_eq_true rfl⟩ ⟨Nat.zero_le _, Nat.zero_le _⟩ rfl rfl hl.1 (Nat.le_of_ble_eq_true rfl) dX9_gatherJobs_16 (st1 := []) rfl (fun H locs hI => ?_)
  obtain rfl := Option.some.inj hf
  exact m_vret C hr hlk hI dX9_gatherJobs_19

theorem dX9_jobRow_0 : decode cX9_jobRow 0 = .ok (.aload_n 0, 1) := by decide +kernel
theorem dX9_jobRow_1 : decode cX9_jobRow 1 = .ok (.getfield 12, 3) := by decide +kernel
theorem dX9_jobRow_4 : decode cX9_jobRow 4 = .ok (.iload_n 1, 1) := by decide +kernel
theorem dX9_jobRow_5 : decode cX9_jobRow 5 = .ok (.invokevirtual 85, 3) := by decide +kernel
theorem dX9_jobRow_8 : decode cX9_jobRow 8 = .ok (.ifCond .eq 7, 3) := by decide +kernel
theorem dX9_jobRow_11 : decode cX9_jobRow 11 = .ok (.iload_n 2, 1) := by decide +kernel
theorem dX9_jobRow_12 : decode cX9_jobRow 12 = .ok (.ifCond .ge 5, 3) := by decide +kernel
theorem dX9_jobRow_15 : decode cX9_jobRow 15 = .ok (.iconst (-1), 1) := by decide +kernel
theorem dX9_jobRow_16 : decode cX9_jobRow 16 = .ok (.ireturn, 1) := by decide +kernel
theorem dX9_jobRow_17 : decode cX9_jobRow 17 = .ok (.aload_n 0, 1) := by decide +kernel
theorem dX9_jobRow_18 : decode cX9_jobRow 18 = .ok (.iload_n 1, 1) := by decide +kernel
theorem dX9_jobRow_19 : decode cX9_jobRow 19 = .ok (.invokevirtual 210, 3) := by decide +kernel
theorem dX9_jobRow_22 : decode cX9_jobRow 22 = .ok (.aload_n 0, 1) := by decide +kernel
theorem dX9_jobRow_23 : decode cX9_jobRow 23 = .ok (.getfield 46, 3) := by decide +kernel
theorem dX9_jobRow_26 : decode cX9_jobRow 26 = .ok (.iload_n 1, 1) := by decide +kernel
theorem dX9_jobRow_27 : decode cX9_jobRow 27 = .ok (.iload_n 2, 1) := by decide +kernel
theorem dX9_jobRow_28 : decode cX9_jobRow 28 = .ok (.invokevirtual 244, 3) := by decide +kernel
theorem dX9_jobRow_31 : decode cX9_jobRow 31 = .ok (.ireturn, 1) := by decide +kernel
def f_X9_jobRow (F : Nat) (μ : Mm) (p1 : Int32) (p2 : Int32) : Option (Int32 × Mm) :=
 (f_X7_hasTask μ 0 p1).bind fun q7 =>
 if q7 = 0 then
 some ((-1 : Int32), μ)
 else
 if 0 ≤ p2 then
 (f_X9_gatherJobs F μ p1).bind fun q9 =>
 (f_X1_rowOf F q9 p1 p2).bind fun q11 =>
 some (q11, q9)
 else
 some ((-1 : Int32), μ)
set_option maxHeartbeats 4000000 in
set_option maxRecDepth 100000 in
theorem c_X9_jobRow (l : Launch) (E : En) {F : Nat} {μ : Mm} {p1 : Int32} {p2 : Int32} (h0 : l9 E 0) {z : Int32 × Mm} (hf : f_X9_jobRow F μ p1 p2 = some z) : Met l yX9_jobRow (wt yX9_jobRow cX9_jobRow 3 (some .int)) { frames := 6, cells := 0, slots := 0, locals := 133 } (Pm E [.ref (ad E 900 0), .int p1, .int p2] μ) (Qm E (some (.int z.1)) z.2) 0 0 (Ad E) := by
  unfold f_X9_jobRow at hf
  refine met_of (cc := cX9_jobRow) (nL := 3) (ret := (some .int)) (by decide) _ (Nat.le_of_ble_eq_true rfl) ?_
  intro p e s m below meth c C hr hlk hI ls hl
  have hx := C.1.1
  have hb := C.1.2.1
  have hl : lv_has ls 3 [(0, .ref (ad E 900 0)), (1, .int p1), (2, .int p2)] := hl
  refine lv_aload_n hx hb dX9_jobRow_0 rfl (lv_at hl 0 rfl) ?_
  refine gf_9_0 C hI h0.1 fl_X9_12 dX9_jobRow_1 ?_
  refine lv_iload_n hx hb dX9_jobRow_4 rfl (lv_at hl 1 rfl) ?_
  obtain ⟨q7, e8, hf⟩ := ob hf
  refine mcV (As := [.int p1]) (rest := []) C hI (c_X7_hasTask l E h0.2.2.2.2.1 e8) ml_X9_85 kv_X7_hasTask (m_recv C hI h0.2.2.2.2.1.1 (ce_700 E _ _ _) rfl) rfl rfl ⟨Nat.le_of_ble_eq_true rfl, Nat.le_of_ble_eq_true rfl⟩ ⟨Nat.zero_le _, Nat.zero_le _⟩ rfl rfl hl.1 (Nat.le_of_ble_eq_true rfl) dX9_jobRow_5 (st1 := [.int q7]) rfl (fun H locs hI => ?_)
  refine lv_if_eq (tgt := 15) hx hb dX9_jobRow_8 rfl (fun hc => ?_) (fun hc => ?_)
  · replace hf := it hf hc
    refine lv_iconst (v := (-1 : Int32)) hx hb dX9_jobRow_15 kc_m1 ?_
    obtain rfl := Option.some.inj hf
    exact m_iret C hr hlk hI dX9_jobRow_16
  · replace hf := ie hf hc
    refine lv_iload_n hx hb dX9_jobRow_11 rfl (lv_at hl 2 rfl) ?_
    refine lv_if_ge (tgt := 17) hx hb dX9_jobRow_12 rfl (fun hc => ?_) (fun hc => ?_)
    · replace hf := it hf hc
      refine lv_aload_n hx hb dX9_jobRow_17 rfl (lv_at hl 0 rfl) ?_
      refine lv_iload_n hx hb dX9_jobRow_18 rfl (lv_at hl 1 rfl) ?_
      obtain ⟨q9, e10, hf⟩ := ob hf
      refine mcV (As := [.int p1]) (rest := []) C hI (c_X9_gatherJobs l E h0 e10) ml_X9_210 kv_X9_gatherJobs (m_recv C hI h0.1 (ce_900 E _ _ _) rfl) rfl rfl ⟨Nat.le_of_ble_eq_true rfl, Nat.le_of_ble_eq_true rfl⟩ ⟨Nat.zero_le _, Nat.zero_le _⟩ rfl rfl hl.1 (Nat.le_of_ble_eq_true rfl) dX9_jobRow_19 (st1 := []) rfl (fun H locs hI => ?_)
      refine lv_aload_n hx hb dX9_jobRow_22 rfl (lv_at hl 0 rfl) ?_
      refine gf_9_6 C hI h0.1 fl_X9_46 dX9_jobRow_23 ?_
      refine lv_iload_n hx hb dX9_jobRow_26 rfl (lv_at hl 1 rfl) ?_
      refine lv_iload_n hx hb dX9_jobRow_27 rfl (lv_at hl 2 rfl) ?_
      obtain ⟨q11, e12, hf⟩ := ob hf
      refine mcV (As := [.int p1, .int p2]) (rest := []) C hI (c_X1_rowOf l E h0.2.2.2.2.2.2.2.1 e12) ml_X9_244 kv_X1_rowOf (m_recv C hI h0.2.2.2.2.2.2.2.1.1 (ce_100 E _ _ _) rfl) rfl rfl ⟨Nat.le_of_ble_eq_true rfl, Nat.le_of_ble_eq_true rfl⟩ ⟨Nat.zero_le _, Nat.zero_le _⟩ rfl rfl hl.1 (Nat.le_of_ble_eq_true rfl) dX9_jobRow_28 (st1 := [.int q11]) rfl (fun H locs hI => ?_)
      obtain rfl := Option.some.inj hf
      exact m_iret C hr hlk hI dX9_jobRow_31
    · replace hf := ie hf hc
      refine lv_iconst (v := (-1 : Int32)) hx hb dX9_jobRow_15 kc_m1 ?_
      obtain rfl := Option.some.inj hf
      exact m_iret C hr hlk hI dX9_jobRow_16

theorem dX9_breaks_0 : decode cX9_breaks 0 = .ok (.aload_n 0, 1) := by decide +kernel
theorem dX9_breaks_1 : decode cX9_breaks 1 = .ok (.getfield 26, 3) := by decide +kernel
theorem dX9_breaks_4 : decode cX9_breaks 4 = .ok (.iload_n 1, 1) := by decide +kernel
theorem dX9_breaks_5 : decode cX9_breaks 5 = .ok (.invokevirtual 255, 3) := by decide +kernel
theorem dX9_breaks_8 : decode cX9_breaks 8 = .ok (.ifCond .eq 12, 3) := by decide +kernel
theorem dX9_breaks_11 : decode cX9_breaks 11 = .ok (.iload_n 2, 1) := by decide +kernel
theorem dX9_breaks_12 : decode cX9_breaks 12 = .ok (.ifCond .lt 8, 3) := by decide +kernel
theorem dX9_breaks_15 : decode cX9_breaks 15 = .ok (.iload_n 2, 1) := by decide +kernel
theorem dX9_breaks_16 : decode cX9_breaks 16 = .ok (.iconst 1, 1) := by decide +kernel
theorem dX9_breaks_17 : decode cX9_breaks 17 = .ok (.if_icmp .le 5, 3) := by decide +kernel
theorem dX9_breaks_20 : decode cX9_breaks 20 = .ok (.iconst (-1), 1) := by decide +kernel
theorem dX9_breaks_21 : decode cX9_breaks 21 = .ok (.ireturn, 1) := by decide +kernel
theorem dX9_breaks_22 : decode cX9_breaks 22 = .ok (.aload_n 0, 1) := by decide +kernel
theorem dX9_breaks_23 : decode cX9_breaks 23 = .ok (.iload_n 1, 1) := by decide +kernel
theorem dX9_breaks_24 : decode cX9_breaks 24 = .ok (.invokevirtual 256, 3) := by decide +kernel
theorem dX9_breaks_27 : decode cX9_breaks 27 = .ok (.iload_n 2, 1) := by decide +kernel
theorem dX9_breaks_28 : decode cX9_breaks 28 = .ok (.ifCond .ne 13, 3) := by decide +kernel
theorem dX9_breaks_31 : decode cX9_breaks 31 = .ok (.aload_n 0, 1) := by decide +kernel
theorem dX9_breaks_32 : decode cX9_breaks 32 = .ok (.getfield 53, 3) := by decide +kernel
theorem dX9_breaks_35 : decode cX9_breaks 35 = .ok (.getfield 259, 3) := by decide +kernel
theorem dX9_breaks_38 : decode cX9_breaks 38 = .ok (.goto 10, 3) := by decide +kernel
theorem dX9_breaks_41 : decode cX9_breaks 41 = .ok (.aload_n 0, 1) := by decide +kernel
theorem dX9_breaks_42 : decode cX9_breaks 42 = .ok (.getfield 53, 3) := by decide +kernel
theorem dX9_breaks_45 : decode cX9_breaks 45 = .ok (.getfield 262, 3) := by decide +kernel
theorem dX9_breaks_48 : decode cX9_breaks 48 = .ok (.ireturn, 1) := by decide +kernel
def f_X9_breaks (F : Nat) (μ : Mm) (p1 : Int32) (p2 : Int32) : Option (Int32 × Mm) :=
 (f_X3_has μ p1).bind fun q5 =>
 if q5 = 0 then
 some ((-1 : Int32), μ)
 else
 if p2 < 0 then
 some ((-1 : Int32), μ)
 else
 if p2 ≤ (1 : Int32) then
 (f_X9_findBreaks F μ p1).bind fun q7 =>
 if p2 = 0 then
 some (q7.1 0 0 2, q7)
 else
 some (q7.1 0 0 3, q7)
 else
 some ((-1 : Int32), μ)
set_option maxHeartbeats 4000000 in
set_option maxRecDepth 100000 in
theorem c_X9_breaks (l : Launch) (E : En) {F : Nat} {μ : Mm} {p1 : Int32} {p2 : Int32} (h0 : l9 E 0) {z : Int32 × Mm} (hf : f_X9_breaks F μ p1 p2 = some z) : Met l yX9_breaks (wt yX9_breaks cX9_breaks 3 (some .int)) { frames := 6, cells := 0, slots := 0, locals := 136 } (Pm E [.ref (ad E 900 0), .int p1, .int p2] μ) (Qm E (some (.int z.1)) z.2) 0 0 (Ad E) := by
  unfold f_X9_breaks at hf
  refine met_of (cc := cX9_breaks) (nL := 3) (ret := (some .int)) (by decide) _ (Nat.le_of_ble_eq_true rfl) ?_
  intro p e s m below meth c C hr hlk hI ls hl
  have hx := C.1.1
  have hb := C.1.2.1
  have hl : lv_has ls 3 [(0, .ref (ad E 900 0)), (1, .int p1), (2, .int p2)] := hl
  refine lv_aload_n hx hb dX9_breaks_0 rfl (lv_at hl 0 rfl) ?_
  refine gf_9_3 C hI h0.1 fl_X9_26 dX9_breaks_1 ?_
  refine lv_iload_n hx hb dX9_breaks_4 rfl (lv_at hl 1 rfl) ?_
  obtain ⟨q5, e6, hf⟩ := ob hf
  refine mcV (As := [.int p1]) (rest := []) C hI (c_X3_has l E h0.2.2.2.2.2.1 e6) ml_X9_255 kv_X3_has (m_recv C hI h0.2.2.2.2.2.1.1 (ce_300 E _ _ _) rfl) rfl rfl ⟨Nat.le_of_ble_eq_true rfl, Nat.le_of_ble_eq_true rfl⟩ ⟨Nat.zero_le _, Nat.zero_le _⟩ rfl rfl hl.1 (Nat.le_of_ble_eq_true rfl) dX9_breaks_5 (st1 := [.int q5]) rfl (fun H locs hI => ?_)
  refine lv_if_eq (tgt := 20) hx hb dX9_breaks_8 rfl (fun hc => ?_) (fun hc => ?_)
  · replace hf := it hf hc
    refine lv_iconst (v := (-1 : Int32)) hx hb dX9_breaks_20 kc_m1 ?_
    obtain rfl := Option.some.inj hf
    exact m_iret C hr hlk hI dX9_breaks_21
  · replace hf := ie hf hc
    refine lv_iload_n hx hb dX9_breaks_11 rfl (lv_at hl 2 rfl) ?_
    refine lv_if_lt (tgt := 20) hx hb dX9_breaks_12 rfl (fun hc => ?_) (fun hc => ?_)
    · replace hf := it hf hc
      refine lv_iconst (v := (-1 : Int32)) hx hb dX9_breaks_20 kc_m1 ?_
      obtain rfl := Option.some.inj hf
      exact m_iret C hr hlk hI dX9_breaks_21
    · replace hf := ie hf hc
      refine lv_iload_n hx hb dX9_breaks_15 rfl (lv_at hl 2 rfl) ?_
      refine lv_iconst (v := (1 : Int32)) hx hb dX9_breaks_16 kc_1 ?_
      refine lv_icmp_le (tgt := 22) hx hb dX9_breaks_17 rfl (fun hc => ?_) (fun hc => ?_)
      · replace hf := it hf hc
        refine lv_aload_n hx hb dX9_breaks_22 rfl (lv_at hl 0 rfl) ?_
        refine lv_iload_n hx hb dX9_breaks_23 rfl (lv_at hl 1 rfl) ?_
        obtain ⟨q7, e8, hf⟩ := ob hf
        refine mcV (As := [.int p1]) (rest := []) C hI (c_X9_findBreaks l E h0 e8) ml_X9_256 kv_X9_findBreaks (m_recv C hI h0.1 (ce_900 E _ _ _) rfl) rfl rfl ⟨Nat.le_of_ble_eq_true rfl, Nat.le_of_ble_eq_true rfl⟩ ⟨Nat.zero_le _, Nat.zero_le _⟩ rfl rfl hl.1 (Nat.le_of_ble_eq_true rfl) dX9_breaks_24 (st1 := []) rfl (fun H locs hI => ?_)
        refine lv_iload_n hx hb dX9_breaks_27 rfl (lv_at hl 2 rfl) ?_
        refine lv_if_ne (tgt := 41) hx hb dX9_breaks_28 rfl (fun hc => ?_) (fun hc => ?_)
        · replace hf := ie hf hc
          refine lv_aload_n hx hb dX9_breaks_41 rfl (lv_at hl 0 rfl) ?_
          refine gf_9_7 C hI h0.1 fl_X9_53 dX9_breaks_42 ?_
          refine gf_0_3 C hI h0.2.2.2.2.2.2.2.2.1.1 fl_X9_262 dX9_breaks_45 ?_
          obtain rfl := Option.some.inj hf
          exact m_iret C hr hlk hI dX9_breaks_48
        · replace hf := it hf hc
          refine lv_aload_n hx hb dX9_breaks_31 rfl (lv_at hl 0 rfl) ?_
          refine gf_9_7 C hI h0.1 fl_X9_53 dX9_breaks_32 ?_
          refine gf_0_2 C hI h0.2.2.2.2.2.2.2.2.1.1 fl_X9_259 dX9_breaks_35 ?_
          refine lv_goto (tgt := 48) hx hb dX9_breaks_38 rfl ?_
          obtain rfl := Option.some.inj hf
          exact m_iret C hr hlk hI dX9_breaks_48
      · replace hf := ie hf hc
        refine lv_iconst (v := (-1 : Int32)) hx hb dX9_breaks_20 kc_m1 ?_
        obtain rfl := Option.some.inj hf
        exact m_iret C hr hlk hI dX9_breaks_21

theorem dX9_broken_0 : decode cX9_broken 0 = .ok (.aload_n 0, 1) := by decide +kernel
theorem dX9_broken_1 : decode cX9_broken 1 = .ok (.getfield 26, 3) := by decide +kernel
theorem dX9_broken_4 : decode cX9_broken 4 = .ok (.iload_n 1, 1) := by decide +kernel
theorem dX9_broken_5 : decode cX9_broken 5 = .ok (.invokevirtual 255, 3) := by decide +kernel
theorem dX9_broken_8 : decode cX9_broken 8 = .ok (.ifCond .eq 12, 3) := by decide +kernel
theorem dX9_broken_11 : decode cX9_broken 11 = .ok (.iload_n 2, 1) := by decide +kernel
theorem dX9_broken_12 : decode cX9_broken 12 = .ok (.ifCond .lt 8, 3) := by decide +kernel
theorem dX9_broken_15 : decode cX9_broken 15 = .ok (.iload_n 2, 1) := by decide +kernel
theorem dX9_broken_16 : decode cX9_broken 16 = .ok (.iconst 1, 1) := by decide +kernel
theorem dX9_broken_17 : decode cX9_broken 17 = .ok (.if_icmp .le 5, 3) := by decide +kernel
theorem dX9_broken_20 : decode cX9_broken 20 = .ok (.iconst (-1), 1) := by decide +kernel
theorem dX9_broken_21 : decode cX9_broken 21 = .ok (.ireturn, 1) := by decide +kernel
theorem dX9_broken_22 : decode cX9_broken 22 = .ok (.aload_n 0, 1) := by decide +kernel
theorem dX9_broken_23 : decode cX9_broken 23 = .ok (.iload_n 1, 1) := by decide +kernel
theorem dX9_broken_24 : decode cX9_broken 24 = .ok (.invokevirtual 256, 3) := by decide +kernel
theorem dX9_broken_27 : decode cX9_broken 27 = .ok (.iload_n 2, 1) := by decide +kernel
theorem dX9_broken_28 : decode cX9_broken 28 = .ok (.ifCond .ne 14, 3) := by decide +kernel
theorem dX9_broken_31 : decode cX9_broken 31 = .ok (.aload_n 0, 1) := by decide +kernel
theorem dX9_broken_32 : decode cX9_broken 32 = .ok (.getfield 53, 3) := by decide +kernel
theorem dX9_broken_35 : decode cX9_broken 35 = .ok (.iload_n 3, 1) := by decide +kernel
theorem dX9_broken_36 : decode cX9_broken 36 = .ok (.invokevirtual 265, 3) := by decide +kernel
theorem dX9_broken_39 : decode cX9_broken 39 = .ok (.goto 11, 3) := by decide +kernel
theorem dX9_broken_42 : decode cX9_broken 42 = .ok (.aload_n 0, 1) := by decide +kernel
theorem dX9_broken_43 : decode cX9_broken 43 = .ok (.getfield 53, 3) := by decide +kernel
theorem dX9_broken_46 : decode cX9_broken 46 = .ok (.iload_n 3, 1) := by decide +kernel
theorem dX9_broken_47 : decode cX9_broken 47 = .ok (.invokevirtual 268, 3) := by decide +kernel
theorem dX9_broken_50 : decode cX9_broken 50 = .ok (.ireturn, 1) := by decide +kernel
def f_X9_broken (F : Nat) (μ : Mm) (p1 : Int32) (p2 : Int32) (p3 : Int32) : Option (Int32 × Mm) :=
 (f_X3_has μ p1).bind fun q9 =>
 if q9 = 0 then
 some ((-1 : Int32), μ)
 else
 if p2 < 0 then
 some ((-1 : Int32), μ)
 else
 if p2 ≤ (1 : Int32) then
 (f_X9_findBreaks F μ p1).bind fun q11 =>
 if p2 = 0 then
 (f_X0_sureAt q11 p3).bind fun q15 =>
 some (q15, q11)
 else
 (f_X0_maybeAt q11 p3).bind fun q13 =>
 some (q13, q11)
 else
 some ((-1 : Int32), μ)
set_option maxHeartbeats 4000000 in
set_option maxRecDepth 100000 in
theorem c_X9_broken (l : Launch) (E : En) {F : Nat} {μ : Mm} {p1 : Int32} {p2 : Int32} {p3 : Int32} (h0 : l9 E 0) {z : Int32 × Mm} (hf : f_X9_broken F μ p1 p2 p3 = some z) : Met l yX9_broken (wt yX9_broken cX9_broken 4 (some .int)) { frames := 6, cells := 0, slots := 0, locals := 136 } (Pm E [.ref (ad E 900 0), .int p1, .int p2, .int p3] μ) (Qm E (some (.int z.1)) z.2) 0 0 (Ad E) := by
  unfold f_X9_broken at hf
  refine met_of (cc := cX9_broken) (nL := 4) (ret := (some .int)) (by decide) _ (Nat.le_of_ble_eq_true rfl) ?_
  intro p e s m below meth c C hr hlk hI ls hl
  have hx := C.1.1
  have hb := C.1.2.1
  have hl : lv_has ls 4 [(0, .ref (ad E 900 0)), (1, .int p1), (2, .int p2), (3, .int p3)] := hl
  refine lv_aload_n hx hb dX9_broken_0 rfl (lv_at hl 0 rfl) ?_
  refine gf_9_3 C hI h0.1 fl_X9_26 dX9_broken_1 ?_
  refine lv_iload_n hx hb dX9_broken_4 rfl (lv_at hl 1 rfl) ?_
  obtain ⟨q9, e10, hf⟩ := ob hf
  refine mcV (As := [.int p1]) (rest := []) C hI (c_X3_has l E h0.2.2.2.2.2.1 e10) ml_X9_255 kv_X3_has (m_recv C hI h0.2.2.2.2.2.1.1 (ce_300 E _ _ _) rfl) rfl rfl ⟨Nat.le_of_ble_eq_true rfl, Nat.le_of_ble_eq_true rfl⟩ ⟨Nat.zero_le _, Nat.zero_le _⟩ rfl rfl hl.1 (Nat.le_of_ble_eq_true rfl) dX9_broken_5 (st1 := [.int q9]) rfl (fun H locs hI => ?_)
  refine lv_if_eq (tgt := 20) hx hb dX9_broken_8 rfl (fun hc => ?_) (fun hc => ?_)
  · replace hf := it hf hc
    refine lv_iconst (v := (-1 : Int32)) hx hb dX9_broken_20 kc_m1 ?_
    obtain rfl := Option.some.inj hf
    exact m_iret C hr hlk hI dX9_broken_21
  · replace hf := ie hf hc
    refine lv_iload_n hx hb dX9_broken_11 rfl (lv_at hl 2 rfl) ?_
    refine lv_if_lt (tgt := 20) hx hb dX9_broken_12 rfl (fun hc => ?_) (fun hc => ?_)
    · replace hf := it hf hc
      refine lv_iconst (v := (-1 : Int32)) hx hb dX9_broken_20 kc_m1 ?_
      obtain rfl := Option.some.inj hf
      exact m_iret C hr hlk hI dX9_broken_21
    · replace hf := ie hf hc
      refine lv_iload_n hx hb dX9_broken_15 rfl (lv_at hl 2 rfl) ?_
      refine lv_iconst (v := (1 : Int32)) hx hb dX9_broken_16 kc_1 ?_
      refine lv_icmp_le (tgt := 22) hx hb dX9_broken_17 rfl (fun hc => ?_) (fun hc => ?_)
      · replace hf := it hf hc
        refine lv_aload_n hx hb dX9_broken_22 rfl (lv_at hl 0 rfl) ?_
        refine lv_iload_n hx hb dX9_broken_23 rfl (lv_at hl 1 rfl) ?_
        obtain ⟨q11, e12, hf⟩ := ob hf
        refine mcV (As := [.int p1]) (rest := []) C hI (c_X9_findBreaks l E h0 e12) ml_X9_256 kv_X9_findBreaks (m_recv C hI h0.1 (ce_900 E _ _ _) rfl) rfl rfl ⟨Nat.le_of_ble_eq_true rfl, Nat.le_of_ble_eq_true rfl⟩ ⟨Nat.zero_le _, Nat.zero_le _⟩ rfl rfl hl.1 (Nat.le_of_ble_eq_true rfl) dX9_broken_24 (st1 := []) rfl (fun H locs hI => ?_)
        refine lv_iload_n hx hb dX9_broken_27 rfl (lv_at hl 2 rfl) ?_
        refine lv_if_ne (tgt := 42) hx hb dX9_broken_28 rfl (fun hc => ?_) (fun hc => ?_)
        · replace hf := ie hf hc
          refine lv_aload_n hx hb dX9_broken_42 rfl (lv_at hl 0 rfl) ?_
          refine gf_9_7 C hI h0.1 fl_X9_53 dX9_broken_43 ?_
          refine lv_iload_n hx hb dX9_broken_46 rfl (lv_at hl 3 rfl) ?_
          obtain ⟨q13, e14, hf⟩ := ob hf
          refine mcV (As := [.int p3]) (rest := []) C hI (c_X0_maybeAt l E h0.2.2.2.2.2.2.2.2.1 e14) ml_X9_268 kv_X0_maybeAt (m_recv C hI h0.2.2.2.2.2.2.2.2.1.1 (ce_0 E _ _ _) rfl) rfl rfl ⟨Nat.le_of_ble_eq_true rfl, Nat.le_of_ble_eq_true rfl⟩ ⟨Nat.zero_le _, Nat.zero_le _⟩ rfl rfl hl.1 (Nat.le_of_ble_eq_true rfl) dX9_broken_47 (st1 := [.int q13]) rfl (fun H locs hI => ?_)
          obtain rfl := Option.some.inj hf
          exact m_iret C hr hlk hI dX9_broken_50
        · replace hf := it hf hc
          refine lv_aload_n hx hb dX9_broken_31 rfl (lv_at hl 0 rfl) ?_
          refine gf_9_7 C hI h0.1 fl_X9_53 dX9_broken_32 ?_
          refine lv_iload_n hx hb dX9_broken_35 rfl (lv_at hl 3 rfl) ?_
          obtain ⟨q15, e16, hf⟩ := ob hf
          refine mcV (As := [.int p3]) (rest := []) C hI (c_X0_sureAt l E h0.2.2.2.2.2.2.2.2.1 e16) ml_X9_265 kv_X0_sureAt (m_recv C hI h0.2.2.2.2.2.2.2.2.1.1 (ce_0 E _ _ _) rfl) rfl rfl ⟨Nat.le_of_ble_eq_true rfl, Nat.le_of_ble_eq_true rfl⟩ ⟨Nat.zero_le _, Nat.zero_le _⟩ rfl rfl hl.1 (Nat.le_of_ble_eq_true rfl) dX9_broken_36 (st1 := [.int q15]) rfl (fun H locs hI => ?_)
          refine lv_goto (tgt := 50) hx hb dX9_broken_39 rfl ?_
          obtain rfl := Option.some.inj hf
          exact m_iret C hr hlk hI dX9_broken_50
      · replace hf := ie hf hc
        refine lv_iconst (v := (-1 : Int32)) hx hb dX9_broken_20 kc_m1 ?_
        obtain rfl := Option.some.inj hf
        exact m_iret C hr hlk hI dX9_broken_21

theorem dX9_period_0 : decode cX9_period 0 = .ok (.aload_n 0, 1) := by decide +kernel
theorem dX9_period_1 : decode cX9_period 1 = .ok (.getfield 12, 3) := by decide +kernel
theorem dX9_period_4 : decode cX9_period 4 = .ok (.iload_n 1, 1) := by decide +kernel
theorem dX9_period_5 : decode cX9_period 5 = .ok (.invokevirtual 85, 3) := by decide +kernel
theorem dX9_period_8 : decode cX9_period 8 = .ok (.ifCond .eq 12, 3) := by decide +kernel
theorem dX9_period_11 : decode cX9_period 11 = .ok (.iload_n 2, 1) := by decide +kernel
theorem dX9_period_12 : decode cX9_period 12 = .ok (.ifCond .lt 8, 3) := by decide +kernel
theorem dX9_period_15 : decode cX9_period 15 = .ok (.iload_n 2, 1) := by decide +kernel
theorem dX9_period_16 : decode cX9_period 16 = .ok (.iconst 1, 1) := by decide +kernel
theorem dX9_period_17 : decode cX9_period 17 = .ok (.if_icmp .le 5, 3) := by decide +kernel
theorem dX9_period_20 : decode cX9_period 20 = .ok (.iconst (-1), 1) := by decide +kernel
theorem dX9_period_21 : decode cX9_period 21 = .ok (.ireturn, 1) := by decide +kernel
theorem dX9_period_22 : decode cX9_period 22 = .ok (.aload_n 0, 1) := by decide +kernel
theorem dX9_period_23 : decode cX9_period 23 = .ok (.iload_n 1, 1) := by decide +kernel
theorem dX9_period_24 : decode cX9_period 24 = .ok (.invokevirtual 210, 3) := by decide +kernel
theorem dX9_period_27 : decode cX9_period 27 = .ok (.aload_n 0, 1) := by decide +kernel
theorem dX9_period_28 : decode cX9_period 28 = .ok (.getfield 46, 3) := by decide +kernel
theorem dX9_period_31 : decode cX9_period 31 = .ok (.iload_n 1, 1) := by decide +kernel
theorem dX9_period_32 : decode cX9_period 32 = .ok (.invokevirtual 214, 3) := by decide +kernel
theorem dX9_period_35 : decode cX9_period 35 = .ok (.iconst 3, 1) := by decide +kernel
theorem dX9_period_36 : decode cX9_period 36 = .ok (.if_icmp .ge 5, 3) := by decide +kernel
theorem dX9_period_39 : decode cX9_period 39 = .ok (.iconst (-1), 1) := by decide +kernel
theorem dX9_period_40 : decode cX9_period 40 = .ok (.ireturn, 1) := by decide +kernel
theorem dX9_period_41 : decode cX9_period 41 = .ok (.aload_n 0, 1) := by decide +kernel
theorem dX9_period_42 : decode cX9_period 42 = .ok (.getfield 46, 3) := by decide +kernel
theorem dX9_period_45 : decode cX9_period 45 = .ok (.iload_n 1, 1) := by decide +kernel
theorem dX9_period_46 : decode cX9_period 46 = .ok (.invokevirtual 346, 3) := by decide +kernel
theorem dX9_period_49 : decode cX9_period 49 = .ok (.istore_n 3, 1) := by decide +kernel
theorem dX9_period_50 : decode cX9_period 50 = .ok (.iload_n 2, 1) := by decide +kernel
theorem dX9_period_51 : decode cX9_period 51 = .ok (.ifCond .ne 7, 3) := by decide +kernel
theorem dX9_period_54 : decode cX9_period 54 = .ok (.iload_n 3, 1) := by decide +kernel
theorem dX9_period_55 : decode cX9_period 55 = .ok (.goto 13, 3) := by decide +kernel
theorem dX9_period_58 : decode cX9_period 58 = .ok (.aload_n 0, 1) := by decide +kernel
theorem dX9_period_59 : decode cX9_period 59 = .ok (.getfield 46, 3) := by decide +kernel
theorem dX9_period_62 : decode cX9_period 62 = .ok (.iload_n 1, 1) := by decide +kernel
theorem dX9_period_63 : decode cX9_period 63 = .ok (.iload_n 3, 1) := by decide +kernel
theorem dX9_period_64 : decode cX9_period 64 = .ok (.invokevirtual 349, 3) := by decide +kernel
theorem dX9_period_67 : decode cX9_period 67 = .ok (.l2i, 1) := by decide +kernel
theorem dX9_period_68 : decode cX9_period 68 = .ok (.ireturn, 1) := by decide +kernel
def f_X9_period (F : Nat) (μ : Mm) (p1 : Int32) (p2 : Int32) : Option (Int32 × Mm) :=
 (f_X7_hasTask μ 0 p1).bind fun q11 =>
 if q11 = 0 then
 some ((-1 : Int32), μ)
 else
 if p2 < 0 then
 some ((-1 : Int32), μ)
 else
 if p2 ≤ (1 : Int32) then
 (f_X9_gatherJobs F μ p1).bind fun q13 =>
 (f_X1_manyOf F q13 p1).bind fun q15 =>
 if (3 : Int32) ≤ q15 then
 (f_X1_periodOf F q13 p1).bind fun q17 =>
 if p2 = 0 then
 some (q17, q13)
 else
 (f_X1_jitterOf F q13 p1 q17).bind fun q19 =>
 some (q19.toInt32, q13)
 else
 some ((-1 : Int32), q13)
 else
 some ((-1 : Int32), μ)
set_option maxHeartbeats 4000000 in
set_option maxRecDepth 100000 in
theorem c_X9_period (l : Launch) (E : En) {F : Nat} {μ : Mm} {p1 : Int32} {p2 : Int32} (h0 : l9 E 0) {z : Int32 × Mm} (hf : f_X9_period F μ p1 p2 = some z) : Met l yX9_period (wt yX9_period cX9_period 4 (some .int)) { frames := 6, cells := 0, slots := 0, locals := 145 } (Pm E [.ref (ad E 900 0), .int p1, .int p2] μ) (Qm E (some (.int z.1)) z.2) 0 0 (Ad E) := by
  unfold f_X9_period at hf
  refine met_of (cc := cX9_period) (nL := 4) (ret := (some .int)) (by decide) _ (Nat.le_of_ble_eq_true rfl) ?_
  intro p e s m below meth c C hr hlk hI ls hl
  have hx := C.1.1
  have hb := C.1.2.1
  have hl : lv_has ls 4 [(0, .ref (ad E 900 0)), (1, .int p1), (2, .int p2)] := hl
  refine lv_aload_n hx hb dX9_period_0 rfl (lv_at hl 0 rfl) ?_
  refine gf_9_0 C hI h0.1 fl_X9_12 dX9_period_1 ?_
  refine lv_iload_n hx hb dX9_period_4 rfl (lv_at hl 1 rfl) ?_
  obtain ⟨q11, e12, hf⟩ := ob hf
  refine mcV (As := [.int p1]) (rest := []) C hI (c_X7_hasTask l E h0.2.2.2.2.1 e12) ml_X9_85 kv_X7_hasTask (m_recv C hI h0.2.2.2.2.1.1 (ce_700 E _ _ _) rfl) rfl rfl ⟨Nat.le_of_ble_eq_true rfl, Nat.le_of_ble_eq_true rfl⟩ ⟨Nat.zero_le _, Nat.zero_le _⟩ rfl rfl hl.1 (Nat.le_of_ble_eq_true rfl) dX9_period_5 (st1 := [.int q11]) rfl (fun H locs hI => ?_)
  refine lv_if_eq (tgt := 20) hx hb dX9_period_8 rfl (fun hc => ?_) (fun hc => ?_)
  · replace hf := it hf hc
    refine lv_iconst (v := (-1 : Int32)) hx hb dX9_period_20 kc_m1 ?_
    obtain rfl := Option.some.inj hf
    exact m_iret C hr hlk hI dX9_period_21
  · replace hf := ie hf hc
    refine lv_iload_n hx hb dX9_period_11 rfl (lv_at hl 2 rfl) ?_
    refine lv_if_lt (tgt := 20) hx hb dX9_period_12 rfl (fun hc => ?_) (fun hc => ?_)
    · replace hf := it hf hc
      refine lv_iconst (v := (-1 : Int32)) hx hb dX9_period_20 kc_m1 ?_
      obtain rfl := Option.some.inj hf
      exact m_iret C hr hlk hI dX9_period_21
    · replace hf := ie hf hc
      refine lv_iload_n hx hb dX9_period_15 rfl (lv_at hl 2 rfl) ?_
      refine lv_iconst (v := (1 : Int32)) hx hb dX9_period_16 kc_1 ?_
      refine lv_icmp_le (tgt := 22) hx hb dX9_period_17 rfl (fun hc => ?_) (fun hc => ?_)
      · replace hf := it hf hc
        refine lv_aload_n hx hb dX9_period_22 rfl (lv_at hl 0 rfl) ?_
        refine lv_iload_n hx hb dX9_period_23 rfl (lv_at hl 1 rfl) ?_
        obtain ⟨q13, e14, hf⟩ := ob hf
        refine mcV (As := [.int p1]) (rest := []) C hI (c_X9_gatherJobs l E h0 e14) ml_X9_210 kv_X9_gatherJobs (m_recv C hI h0.1 (ce_900 E _ _ _) rfl) rfl rfl ⟨Nat.le_of_ble_eq_true rfl, Nat.le_of_ble_eq_true rfl⟩ ⟨Nat.zero_le _, Nat.zero_le _⟩ rfl rfl hl.1 (Nat.le_of_ble_eq_true rfl) dX9_period_24 (st1 := []) rfl (fun H locs hI => ?_)
        refine lv_aload_n hx hb dX9_period_27 rfl (lv_at hl 0 rfl) ?_
        refine gf_9_6 C hI h0.1 fl_X9_46 dX9_period_28 ?_
        refine lv_iload_n hx hb dX9_period_31 rfl (lv_at hl 1 rfl) ?_
        obtain ⟨q15, e16, hf⟩ := ob hf
        refine mcV (As := [.int p1]) (rest := []) C hI (c_X1_manyOf l E h0.2.2.2.2.2.2.2.1 e16) ml_X9_214 kv_X1_manyOf (m_recv C hI h0.2.2.2.2.2.2.2.1.1 (ce_100 E _ _ _) rfl) rfl rfl ⟨Nat.le_of_ble_eq_true rfl, Nat.le_of_ble_eq_true rfl⟩ ⟨Nat.zero_le _, Nat.zero_le _⟩ rfl rfl hl.1 (Nat.le_of_ble_eq_true rfl) dX9_period_32 (st1 := [.int q15]) rfl (fun H locs hI => ?_)
        refine lv_iconst (v := (3 : Int32)) hx hb dX9_period_35 kc_3 ?_
        refine lv_icmp_ge (tgt := 41) hx hb dX9_period_36 rfl (fun hc => ?_) (fun hc => ?_)
        · replace hf := it hf hc
          refine lv_aload_n hx hb dX9_period_41 rfl (lv_at hl 0 rfl) ?_
          refine gf_9_6 C hI h0.1 fl_X9_46 dX9_period_42 ?_
          refine lv_iload_n hx hb dX9_period_45 rfl (lv_at hl 1 rfl) ?_
          obtain ⟨q17, e18, hf⟩ := ob hf
          refine mcV (As := [.int p1]) (rest := []) C hI (c_X1_periodOf l E h0.2.2.2.2.2.2.2.1 e18) ml_X9_346 kv_X1_periodOf (m_recv C hI h0.2.2.2.2.2.2.2.1.1 (ce_100 E _ _ _) rfl) rfl rfl ⟨Nat.le_of_ble_eq_true rfl, Nat.le_of_ble_eq_true rfl⟩ ⟨Nat.zero_le _, Nat.zero_le _⟩ rfl rfl hl.1 (Nat.le_of_ble_eq_true rfl) dX9_period_46 (st1 := [.int q17]) rfl (fun H locs hI => ?_)
          refine lv_istore_n hx hb dX9_period_49 rfl hl (by decide) rfl (fun ls hl => ?_)
          have hl : lv_has ls 4 [(3, .int q17), (0, .ref (ad E 900 0)), (1, .int p1), (2, .int p2)] := hl
          refine lv_iload_n hx hb dX9_period_50 rfl (lv_at hl 3 rfl) ?_
          refine lv_if_ne (tgt := 58) hx hb dX9_period_51 rfl (fun hc => ?_) (fun hc => ?_)
          · replace hf := ie hf hc
            refine lv_aload_n hx hb dX9_period_58 rfl (lv_at hl 1 rfl) ?_
            refine gf_9_6 C hI h0.1 fl_X9_46 dX9_period_59 ?_
            refine lv_iload_n hx hb dX9_period_62 rfl (lv_at hl 2 rfl) ?_
            refine lv_iload_n hx hb dX9_period_63 rfl (lv_at hl 0 rfl) ?_
            obtain ⟨q19, e20, hf⟩ := ob hf
            refine mcV (As := [.int p1, .int q17]) (rest := []) C hI (c_X1_jitterOf l E h0.2.2.2.2.2.2.2.1 e20) ml_X9_349 kv_X1_jitterOf (m_recv C hI h0.2.2.2.2.2.2.2.1.1 (ce_100 E _ _ _) rfl) rfl rfl ⟨Nat.le_of_ble_eq_true rfl, Nat.le_of_ble_eq_true rfl⟩ ⟨Nat.zero_le _, Nat.zero_le _⟩ rfl rfl hl.1 (Nat.le_of_ble_eq_true rfl) dX9_period_64 (st1 := [.long q19]) rfl (fun H locs hI => ?_)
            refine lv_l2i (v := q19.toInt32) hx hb dX9_period_67 rfl ?_
            obtain rfl := Option.some.inj hf
            exact m_iret C hr hlk hI dX9_period_68
          · replace hf := it hf hc
            refine lv_iload_n hx hb dX9_period_54 rfl (lv_at hl 0 rfl) ?_
            refine lv_goto (tgt := 68) hx hb dX9_period_55 rfl ?_
            obtain rfl := Option.some.inj hf
            exact m_iret C hr hlk hI dX9_period_68
        · replace hf := ie hf hc
          refine lv_iconst (v := (-1 : Int32)) hx hb dX9_period_39 kc_m1 ?_
          obtain rfl := Option.some.inj hf
          exact m_iret C hr hlk hI dX9_period_40
      · replace hf := ie hf hc
        refine lv_iconst (v := (-1 : Int32)) hx hb dX9_period_20 kc_m1 ?_
        obtain rfl := Option.some.inj hf
        exact m_iret C hr hlk hI dX9_period_21

theorem dX9_runAgain_0 : decode cX9_runAgain 0 = .ok (.iconst 0, 1) := by decide +kernel
theorem dX9_runAgain_1 : decode cX9_runAgain 1 = .ok (.istore_n 2, 1) := by decide +kernel
theorem dX9_runAgain_2 : decode cX9_runAgain 2 = .ok (.iload_n 2, 1) := by decide +kernel
theorem dX9_runAgain_3 : decode cX9_runAgain 3 = .ok (.bipush 8, 2) := by decide +kernel
theorem dX9_runAgain_5 : decode cX9_runAgain 5 = .ok (.if_icmp .ge 20, 3) := by decide +kernel
theorem dX9_runAgain_8 : decode cX9_runAgain 8 = .ok (.aload_n 0, 1) := by decide +kernel
theorem dX9_runAgain_9 : decode cX9_runAgain 9 = .ok (.getfield 20, 3) := by decide +kernel
theorem dX9_runAgain_12 : decode cX9_runAgain 12 = .ok (.iload_n 2, 1) := by decide +kernel
theorem dX9_runAgain_13 : decode cX9_runAgain 13 = .ok (.aload_n 0, 1) := by decide +kernel
theorem dX9_runAgain_14 : decode cX9_runAgain 14 = .ok (.iload_n 2, 1) := by decide +kernel
theorem dX9_runAgain_15 : decode cX9_runAgain 15 = .ok (.invokevirtual 112, 3) := by decide +kernel
theorem dX9_runAgain_18 : decode cX9_runAgain 18 = .ok (.iastore, 1) := by decide +kernel
theorem dX9_runAgain_19 : decode cX9_runAgain 19 = .ok (.iinc 2 1, 3) := by decide +kernel
theorem dX9_runAgain_22 : decode cX9_runAgain 22 = .ok (.goto (-20), 3) := by decide +kernel
theorem dX9_runAgain_25 : decode cX9_runAgain 25 = .ok (.aload_n 0, 1) := by decide +kernel
theorem dX9_runAgain_26 : decode cX9_runAgain 26 = .ok (.getfield 46, 3) := by decide +kernel
theorem dX9_runAgain_29 : decode cX9_runAgain 29 = .ok (.aload_n 0, 1) := by decide +kernel
theorem dX9_runAgain_30 : decode cX9_runAgain 30 = .ok (.getfield 12, 3) := by decide +kernel
theorem dX9_runAgain_33 : decode cX9_runAgain 33 = .ok (.iload_n 1, 1) := by decide +kernel
theorem dX9_runAgain_34 : decode cX9_runAgain 34 = .ok (.invokevirtual 149, 3) := by decide +kernel
theorem dX9_runAgain_37 : decode cX9_runAgain 37 = .ok (.aload_n 0, 1) := by decide +kernel
theorem dX9_runAgain_38 : decode cX9_runAgain 38 = .ok (.getfield 20, 3) := by decide +kernel
theorem dX9_runAgain_41 : decode cX9_runAgain 41 = .ok (.aload_n 0, 1) := by decide +kernel
theorem dX9_runAgain_42 : decode cX9_runAgain 42 = .ok (.getfield 39, 3) := by decide +kernel
theorem dX9_runAgain_45 : decode cX9_runAgain 45 = .ok (.invokevirtual 353, 3) := by decide +kernel
theorem dX9_runAgain_48 : decode cX9_runAgain 48 = .ok (.return_, 1) := by decide +kernel
def f_X9_runAgain_b2 (F : Nat) : Nat → Mm → Int32 → Int32 → Option Mm
 | 0, _, _, _ => none
 | N + 1, μ, a1, a2 =>
 if (8 : Int32) ≤ a2 then
 (f_X7_homeLane μ 0 a1).bind fun q9 =>
 (f_X1_rerun F μ q9).bind fun q11 =>
 some q11
 else
 (f_X9_otherRankOf μ a2).bind fun q13 =>
 (wa μ 903 0 8 a2 q13).bind fun m15 =>
 f_X9_runAgain_b2 F N m15 a1 (a2 + (1 : Int32))
set_option maxHeartbeats 4000000 in
set_option maxRecDepth 100000 in
theorem cb_X9_runAgain_2 {l : Launch} {E : En} {p : Program} {e : Env} {s : State} {m : MethodId} {av : Array Value} {below : List Frame} {meth : Method} {c : Code} (C : Cx E p s m av c cX9_runAgain 3 yX9_runAgain.cls) (hr : meth.sig.returnType = (none : Option FieldType)) (hlk : meth.locks = false) {F : Nat} {z : Mm} : ∀ (N : Nat) (μ : Mm) (a1 : Int32) (a2 : Int32) (h_a0 : l9 E 0), f_X9_runAgain_b2 F N μ a1 a2 = some z → ∀ {H : Heap} {locs : List Loc} {ls : Array Slot}, Iv E s μ H locs → lv_has ls 3 [(0, .ref (ad E 900 0)), (1, .int a1), (2, .int a2)] → W p l e { frames := 5, cells := 0, slots := 0, locals := 113 } s m av below meth c H locs 0 0 (MQ below (Qm E none z) av s 0 0 (Ad E)) (F0 m 2 ls []) := by
  have hx := C.1.1
  have hb := C.1.2.1
  intro N
  induction N with
  | zero => intro μ a1 a2 h_a0 hf; cases hf
  | succ N ih =>
    intro μ a1 a2 h_a0 hf H locs ls hI hl
    rw [f_X9_runAgain_b2] at hf
    refine lv_iload_n hx hb dX9_runAgain_2 rfl (lv_at hl 2 rfl) ?_
    refine lv_bipush (v := (8 : Int32)) hx hb dX9_runAgain_3 kb_8 ?_
    refine lv_icmp_ge (tgt := 25) hx hb dX9_runAgain_5 rfl (fun hc => ?_) (fun hc => ?_)
    · replace hf := it hf hc
      refine lv_aload_n hx hb dX9_runAgain_25 rfl (lv_at hl 0 rfl) ?_
      refine gf_9_6 C hI h_a0.1 fl_X9_46 dX9_runAgain_26 ?_
      refine lv_aload_n hx hb dX9_runAgain_29 rfl (lv_at hl 0 rfl) ?_
      refine gf_9_0 C hI h_a0.1 fl_X9_12 dX9_runAgain_30 ?_
      refine lv_iload_n hx hb dX9_runAgain_33 rfl (lv_at hl 1 rfl) ?_
      obtain ⟨q9, e10, hf⟩ := ob hf
      refine mcV (As := [.int a1]) (rest := [.ref (ad E 100 0)]) C hI (c_X7_homeLane l E h_a0.2.2.2.2.1 e10) ml_X9_149 kv_X7_homeLane (m_recv C hI h_a0.2.2.2.2.1.1 (ce_700 E _ _ _) rfl) rfl rfl ⟨Nat.le_of_ble_eq_true rfl, Nat.le_of_ble_eq_true rfl⟩ ⟨Nat.zero_le _, Nat.zero_le _⟩ rfl rfl hl.1 (Nat.le_of_ble_eq_true rfl) dX9_runAgain_34 (st1 := [.ref (ad E 200 q9), .ref (ad E 100 0)]) rfl (fun H locs hI => ?_)
      refine lv_aload_n hx hb dX9_runAgain_37 rfl (lv_at hl 0 rfl) ?_
      refine gf_9_2 C hI h_a0.1 fl_X9_20 dX9_runAgain_38 ?_
      refine lv_aload_n hx hb dX9_runAgain_41 rfl (lv_at hl 0 rfl) ?_
      refine gf_9_5 C hI h_a0.1 fl_X9_39 dX9_runAgain_42 ?_
      obtain ⟨q11, e12, hf⟩ := ob hf
      refine mcV (As := [.ref (ad E 200 q9), .ref (ad E 903 0), .ref (ad E 800 0)]) (rest := []) C hI (c_X1_rerun l E h_a0.2.2.2.2.2.2.2.1 (lr_X7_homeLane h_a0.2.2.2.2.1 e10) h_a0.2.2.1 h_a0.2.2.2.2.2.2.1 e12) ml_X9_353 kv_X1_rerun (m_recv C hI h_a0.2.2.2.2.2.2.2.1.1 (ce_100 E _ _ _) rfl) rfl rfl ⟨Nat.le_of_ble_eq_true rfl, Nat.le_of_ble_eq_true rfl⟩ ⟨Nat.zero_le _, Nat.zero_le _⟩ rfl rfl hl.1 (Nat.le_of_ble_eq_true rfl) dX9_runAgain_45 (st1 := []) rfl (fun H locs hI => ?_)
      obtain rfl := Option.some.inj hf
      exact m_vret C hr hlk hI dX9_runAgain_48
    · replace hf := ie hf hc
      refine lv_aload_n hx hb dX9_runAgain_8 rfl (lv_at hl 0 rfl) ?_
      refine gf_9_2 C hI h_a0.1 fl_X9_20 dX9_runAgain_9 ?_
      refine lv_iload_n hx hb dX9_runAgain_12 rfl (lv_at hl 2 rfl) ?_
      refine lv_aload_n hx hb dX9_runAgain_13 rfl (lv_at hl 0 rfl) ?_
      refine lv_iload_n hx hb dX9_runAgain_14 rfl (lv_at hl 2 rfl) ?_
      obtain ⟨q13, e14, hf⟩ := ob hf
      refine mcV (As := [.int a2]) (rest := [.int a2, .ref (ad E 903 0)]) C hI (c_X9_otherRankOf l E h_a0 e14) ml_X9_112 kv_X9_otherRankOf (m_recv C hI h_a0.1 (ce_900 E _ _ _) rfl) rfl rfl ⟨Nat.le_of_ble_eq_true rfl, Nat.le_of_ble_eq_true rfl⟩ ⟨Nat.zero_le _, Nat.zero_le _⟩ rfl rfl hl.1 (Nat.le_of_ble_eq_true rfl) dX9_runAgain_15 (st1 := [.int q13, .int a2, .ref (ad E 903 0)]) rfl (fun H locs hI => ?_)
      obtain ⟨m15, e16, hf⟩ := ob hf
      refine m_iast C hI h_a0.2.2.1 (ce_903 E _) e16 dX9_runAgain_18 (fun H locs hI => ?_)
      refine lv_iinc (v := a2 + (1 : Int32)) hx hb dX9_runAgain_19 hl (k := 2) rfl (ki_1 _) (by decide) rfl (fun ls hl => ?_)
      have hl : lv_has ls 3 [(2, .int (a2 + (1 : Int32))), (0, .ref (ad E 900 0)), (1, .int a1)] := hl
      refine lv_goto (tgt := 2) hx hb dX9_runAgain_22 rfl ?_
      exact ih _ _ _ h_a0 hf hI (lv_sub hl [1, 2, 0] rfl)
def f_X9_runAgain (F : Nat) (μ : Mm) (p1 : Int32) : Option Mm :=
 f_X9_runAgain_b2 F F μ p1 (0 : Int32)
set_option maxHeartbeats 4000000 in
set_option maxRecDepth 100000 in
theorem c_X9_runAgain (l : Launch) (E : En) {F : Nat} {μ : Mm} {p1 : Int32} (h0 : l9 E 0) {z : Mm} (hf : f_X9_runAgain F μ p1 = some z) : Met l yX9_runAgain (wt yX9_runAgain cX9_runAgain 3 (none : Option FieldType)) { frames := 5, cells := 0, slots := 0, locals := 113 } (Pm E [.ref (ad E 900 0), .int p1] μ) (Qm E none z) 0 0 (Ad E) := by
  unfold f_X9_runAgain at hf
  refine met_of (cc := cX9_runAgain) (nL := 3) (ret := (none : Option FieldType)) (by decide) _ (Nat.le_of_ble_eq_true rfl) ?_
  intro p e s m below meth c C hr hlk hI ls hl
  have hx := C.1.1
  have hb := C.1.2.1
  have hl : lv_has ls 3 [(0, .ref (ad E 900 0)), (1, .int p1)] := hl
  refine lv_iconst (v := (0 : Int32)) hx hb dX9_runAgain_0 kc_0 ?_
  refine lv_istore_n hx hb dX9_runAgain_1 rfl hl (by decide) rfl (fun ls hl => ?_)
  have hl : lv_has ls 3 [(2, .int (0 : Int32)), (0, .ref (ad E 900 0)), (1, .int p1)] := hl
  exact cb_X9_runAgain_2 C hr hlk  _ _ _ _ h0 hf hI (lv_sub hl [1, 2, 0] rfl)

theorem dX9_jobs_0 : decode cX9_jobs 0 = .ok (.aload_n 0, 1) := by decide +kernel
theorem dX9_jobs_1 : decode cX9_jobs 1 = .ok (.getfield 12, 3) := by decide +kernel
theorem dX9_jobs_4 : decode cX9_jobs 4 = .ok (.iload_n 1, 1) := by decide +kernel
theorem dX9_jobs_5 : decode cX9_jobs 5 = .ok (.invokevirtual 85, 3) := by decide +kernel
theorem dX9_jobs_8 : decode cX9_jobs 8 = .ok (.ifCond .ne 5, 3) := by decide +kernel
theorem dX9_jobs_11 : decode cX9_jobs 11 = .ok (.iconst (-1), 1) := by decide +kernel
theorem dX9_jobs_12 : decode cX9_jobs 12 = .ok (.ireturn, 1) := by decide +kernel
theorem dX9_jobs_13 : decode cX9_jobs 13 = .ok (.aload_n 0, 1) := by decide +kernel
theorem dX9_jobs_14 : decode cX9_jobs 14 = .ok (.iload_n 1, 1) := by decide +kernel
theorem dX9_jobs_15 : decode cX9_jobs 15 = .ok (.invokevirtual 210, 3) := by decide +kernel
theorem dX9_jobs_18 : decode cX9_jobs 18 = .ok (.aload_n 0, 1) := by decide +kernel
theorem dX9_jobs_19 : decode cX9_jobs 19 = .ok (.getfield 46, 3) := by decide +kernel
theorem dX9_jobs_22 : decode cX9_jobs 22 = .ok (.iload_n 1, 1) := by decide +kernel
theorem dX9_jobs_23 : decode cX9_jobs 23 = .ok (.invokevirtual 214, 3) := by decide +kernel
theorem dX9_jobs_26 : decode cX9_jobs 26 = .ok (.ireturn, 1) := by decide +kernel
def f_X9_jobs (F : Nat) (μ : Mm) (p1 : Int32) : Option (Int32 × Mm) :=
 (f_X7_hasTask μ 0 p1).bind fun q7 =>
 if q7 = 0 then
 some ((-1 : Int32), μ)
 else
 (f_X9_gatherJobs F μ p1).bind fun q9 =>
 (f_X1_manyOf F q9 p1).bind fun q11 =>
 some (q11, q9)
set_option maxHeartbeats 4000000 in
set_option maxRecDepth 100000 in
theorem c_X9_jobs (l : Launch) (E : En) {F : Nat} {μ : Mm} {p1 : Int32} (h0 : l9 E 0) {z : Int32 × Mm} (hf : f_X9_jobs F μ p1 = some z) : Met l yX9_jobs (wt yX9_jobs cX9_jobs 2 (some .int)) { frames := 6, cells := 0, slots := 0, locals := 133 } (Pm E [.ref (ad E 900 0), .int p1] μ) (Qm E (some (.int z.1)) z.2) 0 0 (Ad E) := by
  unfold f_X9_jobs at hf
  refine met_of (cc := cX9_jobs) (nL := 2) (ret := (some .int)) (by decide) _ (Nat.le_of_ble_eq_true rfl) ?_
  intro p e s m below meth c C hr hlk hI ls hl
  have hx := C.1.1
  have hb := C.1.2.1
  have hl : lv_has ls 2 [(0, .ref (ad E 900 0)), (1, .int p1)] := hl
  refine lv_aload_n hx hb dX9_jobs_0 rfl (lv_at hl 0 rfl) ?_
  refine gf_9_0 C hI h0.1 fl_X9_12 dX9_jobs_1 ?_
  refine lv_iload_n hx hb dX9_jobs_4 rfl (lv_at hl 1 rfl) ?_
  obtain ⟨q7, e8, hf⟩ := ob hf
  refine mcV (As := [.int p1]) (rest := []) C hI (c_X7_hasTask l E h0.2.2.2.2.1 e8) ml_X9_85 kv_X7_hasTask (m_recv C hI h0.2.2.2.2.1.1 (ce_700 E _ _ _) rfl) rfl rfl ⟨Nat.le_of_ble_eq_true rfl, Nat.le_of_ble_eq_true rfl⟩ ⟨Nat.zero_le _, Nat.zero_le _⟩ rfl rfl hl.1 (Nat.le_of_ble_eq_true rfl) dX9_jobs_5 (st1 := [.int q7]) rfl (fun H locs hI => ?_)
  refine lv_if_ne (tgt := 13) hx hb dX9_jobs_8 rfl (fun hc => ?_) (fun hc => ?_)
  · replace hf := ie hf hc
    refine lv_aload_n hx hb dX9_jobs_13 rfl (lv_at hl 0 rfl) ?_
    refine lv_iload_n hx hb dX9_jobs_14 rfl (lv_at hl 1 rfl) ?_
    obtain ⟨q9, e10, hf⟩ := ob hf
    refine mcV (As := [.int p1]) (rest := []) C hI (c_X9_gatherJobs l E h0 e10) ml_X9_210 kv_X9_gatherJobs (m_recv C hI h0.1 (ce_900 E _ _ _) rfl) rfl rfl ⟨Nat.le_of_ble_eq_true rfl, Nat.le_of_ble_eq_true rfl⟩ ⟨Nat.zero_le _, Nat.zero_le _⟩ rfl rfl hl.1 (Nat.le_of_ble_eq_true rfl) dX9_jobs_15 (st1 := []) rfl (fun H locs hI => ?_)
    refine lv_aload_n hx hb dX9_jobs_18 rfl (lv_at hl 0 rfl) ?_
    refine gf_9_6 C hI h0.1 fl_X9_46 dX9_jobs_19 ?_
    refine lv_iload_n hx hb dX9_jobs_22 rfl (lv_at hl 1 rfl) ?_
    obtain ⟨q11, e12, hf⟩ := ob hf
    refine mcV (As := [.int p1]) (rest := []) C hI (c_X1_manyOf l E h0.2.2.2.2.2.2.2.1 e12) ml_X9_214 kv_X1_manyOf (m_recv C hI h0.2.2.2.2.2.2.2.1.1 (ce_100 E _ _ _) rfl) rfl rfl ⟨Nat.le_of_ble_eq_true rfl, Nat.le_of_ble_eq_true rfl⟩ ⟨Nat.zero_le _, Nat.zero_le _⟩ rfl rfl hl.1 (Nat.le_of_ble_eq_true rfl) dX9_jobs_23 (st1 := [.int q11]) rfl (fun H locs hI => ?_)
    obtain rfl := Option.some.inj hf
    exact m_iret C hr hlk hI dX9_jobs_26
  · replace hf := it hf hc
    refine lv_iconst (v := (-1 : Int32)) hx hb dX9_jobs_11 kc_m1 ?_
    obtain rfl := Option.some.inj hf
    exact m_iret C hr hlk hI dX9_jobs_12

theorem dX9_job_0 : decode cX9_job 0 = .ok (.aload_n 0, 1) := by decide +kernel
theorem dX9_job_1 : decode cX9_job 1 = .ok (.iload_n 1, 1) := by decide +kernel
theorem dX9_job_2 : decode cX9_job 2 = .ok (.iload_n 2, 1) := by decide +kernel
theorem dX9_job_3 : decode cX9_job 3 = .ok (.invokevirtual 217, 3) := by decide +kernel
theorem dX9_job_6 : decode cX9_job 6 = .ok (.istore 4, 2) := by decide +kernel
theorem dX9_job_8 : decode cX9_job 8 = .ok (.iload 4, 2) := by decide +kernel
theorem dX9_job_10 : decode cX9_job 10 = .ok (.iconst (-1), 1) := by decide +kernel
theorem dX9_job_11 : decode cX9_job 11 = .ok (.if_icmp .ne 5, 3) := by decide +kernel
theorem dX9_job_14 : decode cX9_job 14 = .ok (.iconst (-1), 1) := by decide +kernel
theorem dX9_job_15 : decode cX9_job 15 = .ok (.ireturn, 1) := by decide +kernel
theorem dX9_job_16 : decode cX9_job 16 = .ok (.iload_n 3, 1) := by decide +kernel
theorem dX9_job_17 : decode cX9_job 17 = .ok (.tableswitch 89 0 4 #[35, 46, 57, 67, 78], 35) := by decide +kernel
theorem dX9_job_52 : decode cX9_job 52 = .ok (.aload_n 0, 1) := by decide +kernel
theorem dX9_job_53 : decode cX9_job 53 = .ok (.getfield 46, 3) := by decide +kernel
theorem dX9_job_56 : decode cX9_job 56 = .ok (.getfield 220, 3) := by decide +kernel
theorem dX9_job_59 : decode cX9_job 59 = .ok (.iload 4, 2) := by decide +kernel
theorem dX9_job_61 : decode cX9_job 61 = .ok (.iaload, 1) := by decide +kernel
theorem dX9_job_62 : decode cX9_job 62 = .ok (.ireturn, 1) := by decide +kernel
theorem dX9_job_63 : decode cX9_job 63 = .ok (.aload_n 0, 1) := by decide +kernel
theorem dX9_job_64 : decode cX9_job 64 = .ok (.getfield 46, 3) := by decide +kernel
theorem dX9_job_67 : decode cX9_job 67 = .ok (.getfield 223, 3) := by decide +kernel
theorem dX9_job_70 : decode cX9_job 70 = .ok (.iload 4, 2) := by decide +kernel
theorem dX9_job_72 : decode cX9_job 72 = .ok (.iaload, 1) := by decide +kernel
theorem dX9_job_73 : decode cX9_job 73 = .ok (.ireturn, 1) := by decide +kernel
theorem dX9_job_74 : decode cX9_job 74 = .ok (.aload_n 0, 1) := by decide +kernel
theorem dX9_job_75 : decode cX9_job 75 = .ok (.getfield 46, 3) := by decide +kernel
theorem dX9_job_78 : decode cX9_job 78 = .ok (.iload 4, 2) := by decide +kernel
theorem dX9_job_80 : decode cX9_job 80 = .ok (.invokevirtual 226, 3) := by decide +kernel
theorem dX9_job_83 : decode cX9_job 83 = .ok (.ireturn, 1) := by decide +kernel
theorem dX9_job_84 : decode cX9_job 84 = .ok (.aload_n 0, 1) := by decide +kernel
theorem dX9_job_85 : decode cX9_job 85 = .ok (.getfield 46, 3) := by decide +kernel
theorem dX9_job_88 : decode cX9_job 88 = .ok (.getfield 229, 3) := by decide +kernel
theorem dX9_job_91 : decode cX9_job 91 = .ok (.iload 4, 2) := by decide +kernel
theorem dX9_job_93 : decode cX9_job 93 = .ok (.iaload, 1) := by decide +kernel
theorem dX9_job_94 : decode cX9_job 94 = .ok (.ireturn, 1) := by decide +kernel
theorem dX9_job_95 : decode cX9_job 95 = .ok (.aload_n 0, 1) := by decide +kernel
theorem dX9_job_96 : decode cX9_job 96 = .ok (.getfield 46, 3) := by decide +kernel
theorem dX9_job_99 : decode cX9_job 99 = .ok (.getfield 232, 3) := by decide +kernel
theorem dX9_job_102 : decode cX9_job 102 = .ok (.iload 4, 2) := by decide +kernel
theorem dX9_job_104 : decode cX9_job 104 = .ok (.iaload, 1) := by decide +kernel
theorem dX9_job_105 : decode cX9_job 105 = .ok (.ireturn, 1) := by decide +kernel
theorem dX9_job_106 : decode cX9_job 106 = .ok (.iconst (-1), 1) := by decide +kernel
theorem dX9_job_107 : decode cX9_job 107 = .ok (.ireturn, 1) := by decide +kernel
def f_X9_job (F : Nat) (μ : Mm) (p1 : Int32) (p2 : Int32) (p3 : Int32) : Option (Int32 × Mm) :=
 (f_X9_jobRow F μ p1 p2).bind fun q13 =>
 if q13.1 = (-1 : Int32) then
 some ((-1 : Int32), q13.2)
 else
 if p3 = (0 : Int32) then
 (ra q13.2 103 0 67 q13.1).bind fun v15 =>
 some (v15, q13.2)
 else
 if p3 = (1 : Int32) then
 (ra q13.2 104 0 67 q13.1).bind fun v17 =>
 some (v17, q13.2)
 else
 if p3 = (2 : Int32) then
 (f_X1_responseOf q13.2 q13.1).bind fun q19 =>
 some (q19, q13.2)
 else
 if p3 = (3 : Int32) then
 (ra q13.2 105 0 67 q13.1).bind fun v21 =>
 some (v21, q13.2)
 else
 if p3 = (4 : Int32) then
 (ra q13.2 106 0 67 q13.1).bind fun v23 =>
 some (v23, q13.2)
 else
 some ((-1 : Int32), q13.2)
set_option maxHeartbeats 4000000 in
set_option maxRecDepth 100000 in
theorem c_X9_job (l : Launch) (E : En) {F : Nat} {μ : Mm} {p1 : Int32} {p2 : Int32} {p3 : Int32} (h0 : l9 E 0) {z : Int32 × Mm} (hf : f_X9_job F μ p1 p2 p3 = some z) : Met l yX9_job (wt yX9_job cX9_job 5 (some .int)) { frames := 7, cells := 0, slots := 0, locals := 155 } (Pm E [.ref (ad E 900 0), .int p1, .int p2, .int p3] μ) (Qm E (some (.int z.1)) z.2) 0 0 (Ad E) := by
  unfold f_X9_job at hf
  refine met_of (cc := cX9_job) (nL := 5) (ret := (some .int)) (by decide) _ (Nat.le_of_ble_eq_true rfl) ?_
  intro p e s m below meth c C hr hlk hI ls hl
  have hx := C.1.1
  have hb := C.1.2.1
  have hl : lv_has ls 5 [(0, .ref (ad E 900 0)), (1, .int p1), (2, .int p2), (3, .int p3)] := hl
  refine lv_aload_n hx hb dX9_job_0 rfl (lv_at hl 0 rfl) ?_
  refine lv_iload_n hx hb dX9_job_1 rfl (lv_at hl 1 rfl) ?_
  refine lv_iload_n hx hb dX9_job_2 rfl (lv_at hl 2 rfl) ?_
  obtain ⟨q13, e14, hf⟩ := ob hf
  refine mcV (As := [.int p1, .int p2]) (rest := []) C hI (c_X9_jobRow l E h0 e14) ml_X9_217 kv_X9_jobRow (m_recv C hI h0.1 (ce_900 E _ _ _) rfl) rfl rfl ⟨Nat.le_of_ble_eq_true rfl, Nat.le_of_ble_eq_true rfl⟩ ⟨Nat.zero_le _, Nat.zero_le _⟩ rfl rfl hl.1 (Nat.le_of_ble_eq_true rfl) dX9_job_3 (st1 := [.int q13.1]) rfl (fun H locs hI => ?_)
  refine lv_istore hx hb dX9_job_6 hl (by decide) rfl (fun ls hl => ?_)
  have hl : lv_has ls 5 [(4, .int q13.1), (0, .ref (ad E 900 0)), (1, .int p1), (2, .int p2), (3, .int p3)] := hl
  refine lv_iload hx hb dX9_job_8 (lv_at hl 0 rfl) ?_
  refine lv_iconst (v := (-1 : Int32)) hx hb dX9_job_10 kc_m1 ?_
  refine lv_icmp_ne (tgt := 16) hx hb dX9_job_11 rfl (fun hc => ?_) (fun hc => ?_)
  · replace hf := ie hf hc
    refine lv_iload_n hx hb dX9_job_16 rfl (lv_at hl 4 rfl) ?_
    by_cases hn0 : p3 = (0 : Int32)
    · replace hf := it hf hn0
      refine lv_tableIn (tgt := 52) (off := 35) hx hb dX9_job_17 (by rw [hn0]; decide) (by rw [hn0]; decide) (by rw [hn0]; rfl) rfl ?_
      refine lv_aload_n hx hb dX9_job_52 rfl (lv_at hl 1 rfl) ?_
      refine gf_9_6 C hI h0.1 fl_X9_46 dX9_job_53 ?_
      refine gf_1_2 C hI h0.2.2.2.2.2.2.2.1.1 fl_X9_220 dX9_job_56 ?_
      refine lv_iload hx hb dX9_job_59 (lv_at hl 0 rfl) ?_
      obtain ⟨v15, e16, hf⟩ := ob hf
      refine m_iald C hI h0.2.2.2.2.2.2.2.1.2.2.2.1 (ce_103 E _ _ _) e16 dX9_job_61 ?_
      obtain rfl := Option.some.inj hf
      exact m_iret C hr hlk hI dX9_job_62
    replace hf := ie hf hn0
    by_cases hn1 : p3 = (1 : Int32)
    · replace hf := it hf hn1
      refine lv_tableIn (tgt := 63) (off := 46) hx hb dX9_job_17 (by rw [hn1]; decide) (by rw [hn1]; decide) (by rw [hn1]; rfl) rfl ?_
      refine lv_aload_n hx hb dX9_job_63 rfl (lv_at hl 1 rfl) ?_
      refine gf_9_6 C hI h0.1 fl_X9_46 dX9_job_64 ?_
      refine gf_1_3 C hI h0.2.2.2.2.2.2.2.1.1 fl_X9_223 dX9_job_67 ?_
      refine lv_iload hx hb dX9_job_70 (lv_at hl 0 rfl) ?_
      obtain ⟨v17, e18, hf⟩ := ob hf
      refine m_iald C hI h0.2.2.2.2.2.2.2.1.2.2.2.2.1 (ce_104 E _ _ _) e18 dX9_job_72 ?_
      obtain rfl := Option.some.inj hf
      exact m_iret C hr hlk hI dX9_job_73
    replace hf := ie hf hn1
    by_cases hn2 : p3 = (2 : Int32)
    · replace hf := it hf hn2
      refine lv_tableIn (tgt := 74) (off := 57) hx hb dX9_job_17 (by rw [hn2]; decide) (by rw [hn2]; decide) (by rw [hn2]; rfl) rfl ?_
      refine lv_aload_n hx hb dX9_job_74 rfl (lv_at hl 1 rfl) ?_
      refine gf_9_6 C hI h0.1 fl_X9_46 dX9_job_75 ?_
      refine lv_iload hx hb dX9_job_78 (lv_at hl 0 rfl) ?_
      obtain ⟨q19, e20, hf⟩ := ob hf
      refine mcV (As := [.int q13.1]) (rest := []) C hI (c_X1_responseOf l E h0.2.2.2.2.2.2.2.1 e20) ml_X9_226 kv_X1_responseOf (m_recv C hI h0.2.2.2.2.2.2.2.1.1 (ce_100 E _ _ _) rfl) rfl rfl ⟨Nat.le_of_ble_eq_true rfl, Nat.le_of_ble_eq_true rfl⟩ ⟨Nat.zero_le _, Nat.zero_le _⟩ rfl rfl hl.1 (Nat.le_of_ble_eq_true rfl) dX9_job_80 (st1 := [.int q19]) rfl (fun H locs hI => ?_)
      obtain rfl := Option.some.inj hf
      exact m_iret C hr hlk hI dX9_job_83
    replace hf := ie hf hn2
    by_cases hn3 : p3 = (3 : Int32)
    · replace hf := it hf hn3
      refine lv_tableIn (tgt := 84) (off := 67) hx hb dX9_job_17 (by rw [hn3]; decide) (by rw [hn3]; decide) (by rw [hn3]; rfl) rfl ?_
      refine lv_aload_n hx hb dX9_job_84 rfl (lv_at hl 1 rfl) ?_
      refine gf_9_6 C hI h0.1 fl_X9_46 dX9_job_85 ?_
      refine gf_1_4 C hI h0.2.2.2.2.2.2.2.1.1 fl_X9_229 dX9_job_88 ?_
      refine lv_iload hx hb dX9_job_91 (lv_at hl 0 rfl) ?_
      obtain ⟨v21, e22, hf⟩ := ob hf
      refine m_iald C hI h0.2.2.2.2.2.2.2.1.2.2.2.2.2.1 (ce_105 E _ _ _) e22 dX9_job_93 ?_
      obtain rfl := Option.some.inj hf
      exact m_iret C hr hlk hI dX9_job_94
    replace hf := ie hf hn3
    by_cases hn4 : p3 = (4 : Int32)
    · replace hf := it hf hn4
      refine lv_tableIn (tgt := 95) (off := 78) hx hb dX9_job_17 (by rw [hn4]; decide) (by rw [hn4]; decide) (by rw [hn4]; rfl) rfl ?_
      refine lv_aload_n hx hb dX9_job_95 rfl (lv_at hl 1 rfl) ?_
      refine gf_9_6 C hI h0.1 fl_X9_46 dX9_job_96 ?_
      refine gf_1_5 C hI h0.2.2.2.2.2.2.2.1.1 fl_X9_232 dX9_job_99 ?_
      refine lv_iload hx hb dX9_job_102 (lv_at hl 0 rfl) ?_
      obtain ⟨v23, e24, hf⟩ := ob hf
      refine m_iald C hI h0.2.2.2.2.2.2.2.1.2.2.2.2.2.2.1 (ce_106 E _ _ _) e24 dX9_job_104 ?_
      obtain rfl := Option.some.inj hf
      exact m_iret C hr hlk hI dX9_job_105
    replace hf := ie hf hn4
    have a0_ := ts_ne (n := 0) hn0 (by decide)
    have a1_ := ts_ne (n := 1) hn1 (by decide)
    have a2_ := ts_ne (n := 2) hn2 (by decide)
    have a3_ := ts_ne (n := 3) hn3 (by decide)
    have a4_ := ts_ne (n := 4) hn4 (by decide)
    refine lv_tableOut (tgt := 106) hx hb dX9_job_17 (by omega) rfl ?_
    refine lv_iconst (v := (-1 : Int32)) hx hb dX9_job_106 kc_m1 ?_
    obtain rfl := Option.some.inj hf
    exact m_iret C hr hlk hI dX9_job_107
  · replace hf := it hf hc
    refine lv_iconst (v := (-1 : Int32)) hx hb dX9_job_14 kc_m1 ?_
    obtain rfl := Option.some.inj hf
    exact m_iret C hr hlk hI dX9_job_15

theorem dX9_worst_0 : decode cX9_worst 0 = .ok (.aload_n 0, 1) := by decide +kernel
theorem dX9_worst_1 : decode cX9_worst 1 = .ok (.getfield 12, 3) := by decide +kernel
theorem dX9_worst_4 : decode cX9_worst 4 = .ok (.iload_n 1, 1) := by decide +kernel
theorem dX9_worst_5 : decode cX9_worst 5 = .ok (.invokevirtual 85, 3) := by decide +kernel
theorem dX9_worst_8 : decode cX9_worst 8 = .ok (.ifCond .ne 5, 3) := by decide +kernel
theorem dX9_worst_11 : decode cX9_worst 11 = .ok (.iconst (-1), 1) := by decide +kernel
theorem dX9_worst_12 : decode cX9_worst 12 = .ok (.ireturn, 1) := by decide +kernel
theorem dX9_worst_13 : decode cX9_worst 13 = .ok (.aload_n 0, 1) := by decide +kernel
theorem dX9_worst_14 : decode cX9_worst 14 = .ok (.iload_n 1, 1) := by decide +kernel
theorem dX9_worst_15 : decode cX9_worst 15 = .ok (.invokevirtual 210, 3) := by decide +kernel
theorem dX9_worst_18 : decode cX9_worst 18 = .ok (.iconst (-1), 1) := by decide +kernel
theorem dX9_worst_19 : decode cX9_worst 19 = .ok (.istore_n 2, 1) := by decide +kernel
theorem dX9_worst_20 : decode cX9_worst 20 = .ok (.iconst (-1), 1) := by decide +kernel
theorem dX9_worst_21 : decode cX9_worst 21 = .ok (.istore_n 3, 1) := by decide +kernel
theorem dX9_worst_22 : decode cX9_worst 22 = .ok (.iconst 0, 1) := by decide +kernel
theorem dX9_worst_23 : decode cX9_worst 23 = .ok (.istore 4, 2) := by decide +kernel
theorem dX9_worst_25 : decode cX9_worst 25 = .ok (.iconst 0, 1) := by decide +kernel
theorem dX9_worst_26 : decode cX9_worst 26 = .ok (.istore 5, 2) := by decide +kernel
theorem dX9_worst_28 : decode cX9_worst 28 = .ok (.iload 5, 2) := by decide +kernel
theorem dX9_worst_30 : decode cX9_worst 30 = .ok (.aload_n 0, 1) := by decide +kernel
theorem dX9_worst_31 : decode cX9_worst 31 = .ok (.getfield 46, 3) := by decide +kernel
theorem dX9_worst_34 : decode cX9_worst 34 = .ok (.getfield 235, 3) := by decide +kernel
theorem dX9_worst_37 : decode cX9_worst 37 = .ok (.if_icmp .ge 51, 3) := by decide +kernel
theorem dX9_worst_40 : decode cX9_worst 40 = .ok (.aload_n 0, 1) := by decide +kernel
theorem dX9_worst_41 : decode cX9_worst 41 = .ok (.getfield 46, 3) := by decide +kernel
theorem dX9_worst_44 : decode cX9_worst 44 = .ok (.iload 5, 2) := by decide +kernel
theorem dX9_worst_46 : decode cX9_worst 46 = .ok (.iload_n 1, 1) := by decide +kernel
theorem dX9_worst_47 : decode cX9_worst 47 = .ok (.invokevirtual 236, 3) := by decide +kernel
theorem dX9_worst_50 : decode cX9_worst 50 = .ok (.ifCond .eq 32, 3) := by decide +kernel
theorem dX9_worst_53 : decode cX9_worst 53 = .ok (.aload_n 0, 1) := by decide +kernel
theorem dX9_worst_54 : decode cX9_worst 54 = .ok (.getfield 46, 3) := by decide +kernel
theorem dX9_worst_57 : decode cX9_worst 57 = .ok (.iload 5, 2) := by decide +kernel
theorem dX9_worst_59 : decode cX9_worst 59 = .ok (.invokevirtual 226, 3) := by decide +kernel
theorem dX9_worst_62 : decode cX9_worst 62 = .ok (.iload_n 3, 1) := by decide +kernel
theorem dX9_worst_63 : decode cX9_worst 63 = .ok (.if_icmp .le 16, 3) := by decide +kernel
theorem dX9_worst_66 : decode cX9_worst 66 = .ok (.aload_n 0, 1) := by decide +kernel
theorem dX9_worst_67 : decode cX9_worst 67 = .ok (.getfield 46, 3) := by decide +kernel
theorem dX9_worst_70 : decode cX9_worst 70 = .ok (.iload 5, 2) := by decide +kernel
theorem dX9_worst_72 : decode cX9_worst 72 = .ok (.invokevirtual 226, 3) := by decide +kernel
theorem dX9_worst_75 : decode cX9_worst 75 = .ok (.istore_n 3, 1) := by decide +kernel
theorem dX9_worst_76 : decode cX9_worst 76 = .ok (.iload 4, 2) := by decide +kernel
theorem dX9_worst_78 : decode cX9_worst 78 = .ok (.istore_n 2, 1) := by decide +kernel
theorem dX9_worst_79 : decode cX9_worst 79 = .ok (.iinc 4 1, 3) := by decide +kernel
theorem dX9_worst_82 : decode cX9_worst 82 = .ok (.iinc 5 1, 3) := by decide +kernel
theorem dX9_worst_85 : decode cX9_worst 85 = .ok (.goto (-57), 3) := by decide +kernel
theorem dX9_worst_88 : decode cX9_worst 88 = .ok (.iload_n 2, 1) := by decide +kernel
theorem dX9_worst_89 : decode cX9_worst 89 = .ok (.ireturn, 1) := by decide +kernel
def f_X9_worst_b28 (F : Nat) : Nat → Mm → Int32 → Int32 → Int32 → Int32 → Int32 → Option (Int32 × Mm)
 | 0, _, _, _, _, _, _ => none
 | N + 1, μ, a1, a2, a3, a4, a5 =>
 if (μ.1 100 0 11) ≤ a5 then
 some (a2, μ)
 else
 (f_X1_isOf μ a5 a1).bind fun q11 =>
 if q11 = 0 then
 f_X9_worst_b28 F N μ a1 a2 a3 a4 (a5 + (1 : Int32))
 else
 (f_X1_responseOf μ a5).bind fun q13 =>
 if q13 ≤ a3 then
 f_X9_worst_b28 F N μ a1 a2 a3 (a4 + (1 : Int32)) (a5 + (1 : Int32))
 else
 (f_X1_responseOf μ a5).bind fun q15 =>
 f_X9_worst_b28 F N μ a1 a4 q15 (a4 + (1 : Int32)) (a5 + (1 : Int32))
set_option maxHeartbeats 4000000 in
set_option maxRecDepth 100000 in
theorem cb_X9_worst_28 {l : Launch} {E : En} {p : Program} {e : Env} {s : State} {m : MethodId} {av : Array Value} {below : List Frame} {meth : Method} {c : Code} (C : Cx E p s m av c cX9_worst 6 yX9_worst.cls) (hr : meth.sig.returnType = (some .int)) (hlk : meth.locks = false) {F : Nat} {z : Int32 × Mm} : ∀ (N : Nat) (μ : Mm) (a1 : Int32) (a2 : Int32) (a3 : Int32) (a4 : Int32) (a5 : Int32) (h_a0 : l9 E 0), f_X9_worst_b28 F N μ a1 a2 a3 a4 a5 = some z → ∀ {H : Heap} {locs : List Loc} {ls : Array Slot}, Iv E s μ H locs → lv_has ls 6 [(0, .ref (ad E 900 0)), (1, .int a1), (2, .int a2), (3, .int a3), (4, .int a4), (5, .int a5)] → W p l e { frames := 6, cells := 0, slots := 0, locals := 133 } s m av below meth c H locs 0 0 (MQ below (Qm E (some (.int z.1)) z.2) av s 0 0 (Ad E)) (F0 m 28 ls []) := by
  have hx := C.1.1
  have hb := C.1.2.1
  intro N
  induction N with
  | zero => intro μ a1 a2 a3 a4 a5 h_a0 hf; cases hf
  | succ N ih =>
    intro μ a1 a2 a3 a4 a5 h_a0 hf H locs ls hI hl
    rw [f_X9_worst_b28] at hf
    refine lv_iload hx hb dX9_worst_28 (lv_at hl 5 rfl) ?_
    refine lv_aload_n hx hb dX9_worst_30 rfl (lv_at hl 0 rfl) ?_
    refine gf_9_6 C hI h_a0.1 fl_X9_46 dX9_worst_31 ?_
    refine gf_1_11 C hI h_a0.2.2.2.2.2.2.2.1.1 fl_X9_235 dX9_worst_34 ?_
    refine lv_icmp_ge (tgt := 88) hx hb dX9_worst_37 rfl (fun hc => ?_) (fun hc => ?_)
    · replace hf := it hf hc
      refine lv_iload_n hx hb dX9_worst_88 rfl (lv_at hl 2 rfl) ?_
      obtain rfl := Option.some.inj hf
      exact m_iret C hr hlk hI dX9_worst_89
    · replace hf := ie hf hc
      refine lv_aload_n hx hb dX9_worst_40 rfl (lv_at hl 0 rfl) ?_
      refine gf_9_6 C hI h_a0.1 fl_X9_46 dX9_worst_41 ?_
      refine lv_iload hx hb dX9_worst_44 (lv_at hl 5 rfl) ?_
      refine lv_iload_n hx hb dX9_worst_46 rfl (lv_at hl 1 rfl) ?_
      obtain ⟨q11, e12, hf⟩ := ob hf
      refine mcV (As := [.int a5, .int a1]) (rest := []) C hI (c_X1_isOf l E h_a0.2.2.2.2.2.2.2.1 e12) ml_X9_236 kv_X1_isOf (m_recv C hI h_a0.2.2.2.2.2.2.2.1.1 (ce_100 E _ _ _) rfl) rfl rfl ⟨Nat.le_of_ble_eq_true rfl, Nat.le_of_ble_eq_true rfl⟩ ⟨Nat.zero_le _, Nat.zero_le _⟩ rfl rfl hl.1 (Nat.le_of_ble_eq_true rfl) dX9_worst_47 (st1 := [.int q11]) rfl (fun H locs hI => ?_)
      refine lv_if_eq (tgt := 82) hx hb dX9_worst_50 rfl (fun hc => ?_) (fun hc => ?_)
      · replace hf := it hf hc
        refine lv_iinc (v := a5 + (1 : Int32)) hx hb dX9_worst_82 hl (k := 5) rfl (ki_1 _) (by decide) rfl (fun ls hl => ?_)
        have hl : lv_has ls 6 [(5, .int (a5 + (1 : Int32))), (0, .ref (ad E 900 0)), (1, .int a1), (2, .int a2), (3, .int a3), (4, .int a4)] := hl
        refine lv_goto (tgt := 28) hx hb dX9_worst_85 rfl ?_
        exact ih _ _ _ _ _ _ h_a0 hf hI (lv_sub hl [1, 2, 3, 4, 5, 0] rfl)
      · replace hf := ie hf hc
        refine lv_aload_n hx hb dX9_worst_53 rfl (lv_at hl 0 rfl) ?_
        refine gf_9_6 C hI h_a0.1 fl_X9_46 dX9_worst_54 ?_
        refine lv_iload hx hb dX9_worst_57 (lv_at hl 5 rfl) ?_
        obtain ⟨q13, e14, hf⟩ := ob hf
        refine mcV (As := [.int a5]) (rest := []) C hI (c_X1_responseOf l E h_a0.2.2.2.2.2.2.2.1 e14) ml_X9_226 kv_X1_responseOf (m_recv C hI h_a0.2.2.2.2.2.2.2.1.1 (ce_100 E _ _ _) rfl) rfl rfl ⟨Nat.le_of_ble_eq_true rfl, Nat.le_of_ble_eq_true rfl⟩ ⟨Nat.zero_le _, Nat.zero_le _⟩ rfl rfl hl.1 (Nat.le_of_ble_eq_true rfl) dX9_worst_59 (st1 := [.int q13]) rfl (fun H locs hI => ?_)
        refine lv_iload_n hx hb dX9_worst_62 rfl (lv_at hl 3 rfl) ?_
        refine lv_icmp_le (tgt := 79) hx hb dX9_worst_63 rfl (fun hc => ?_) (fun hc => ?_)
        · replace hf := it hf hc
          refine lv_iinc (v := a4 + (1 : Int32)) hx hb dX9_worst_79 hl (k := 4) rfl (ki_1 _) (by decide) rfl (fun ls hl => ?_)
          have hl : lv_has ls 6 [(4, .int (a4 + (1 : Int32))), (0, .ref (ad E 900 0)), (1, .int a1), (2, .int a2), (3, .int a3), (5, .int a5)] := hl
          refine lv_iinc (v := a5 + (1 : Int32)) hx hb dX9_worst_82 hl (k := 5) rfl (ki_1 _) (by decide) rfl (fun ls hl => ?_)
          have hl : lv_has ls 6 [(5, .int (a5 + (1 : Int32))), (4, .int (a4 + (1 : Int32))), (0, .ref (ad E 900 0)), (1, .int a1), (2, .int a2), (3, .int a3)] := hl
          refine lv_goto (tgt := 28) hx hb dX9_worst_85 rfl ?_
          exact ih _ _ _ _ _ _ h_a0 hf hI (lv_sub hl [2, 3, 4, 5, 1, 0] rfl)
        · replace hf := ie hf hc
          refine lv_aload_n hx hb dX9_worst_66 rfl (lv_at hl 0 rfl) ?_
          refine gf_9_6 C hI h_a0.1 fl_X9_46 dX9_worst_67 ?_
          refine lv_iload hx hb dX9_worst_70 (lv_at hl 5 rfl) ?_
          obtain ⟨q15, e16, hf⟩ := ob hf
          refine mcV (As := [.int a5]) (rest := []) C hI (c_X1_responseOf l E h_a0.2.2.2.2.2.2.2.1 e16) ml_X9_226 kv_X1_responseOf (m_recv C hI h_a0.2.2.2.2.2.2.2.1.1 (ce_100 E _ _ _) rfl) rfl rfl ⟨Nat.le_of_ble_eq_true rfl, Nat.le_of_ble_eq_true rfl⟩ ⟨Nat.zero_le _, Nat.zero_le _⟩ rfl rfl hl.1 (Nat.le_of_ble_eq_true rfl) dX9_worst_72 (st1 := [.int q15]) rfl (fun H locs hI => ?_)
          refine lv_istore_n hx hb dX9_worst_75 rfl hl (by decide) rfl (fun ls hl => ?_)
          have hl : lv_has ls 6 [(3, .int q15), (0, .ref (ad E 900 0)), (1, .int a1), (2, .int a2), (4, .int a4), (5, .int a5)] := hl
          refine lv_iload hx hb dX9_worst_76 (lv_at hl 4 rfl) ?_
          refine lv_istore_n hx hb dX9_worst_78 rfl hl (by decide) rfl (fun ls hl => ?_)
          have hl : lv_has ls 6 [(2, .int a4), (3, .int q15), (0, .ref (ad E 900 0)), (1, .int a1), (4, .int a4), (5, .int a5)] := hl
          refine lv_iinc (v := a4 + (1 : Int32)) hx hb dX9_worst_79 hl (k := 4) rfl (ki_1 _) (by decide) rfl (fun ls hl => ?_)
          have hl : lv_has ls 6 [(4, .int (a4 + (1 : Int32))), (2, .int a4), (3, .int q15), (0, .ref (ad E 900 0)), (1, .int a1), (5, .int a5)] := hl
          refine lv_iinc (v := a5 + (1 : Int32)) hx hb dX9_worst_82 hl (k := 5) rfl (ki_1 _) (by decide) rfl (fun ls hl => ?_)
          have hl : lv_has ls 6 [(5, .int (a5 + (1 : Int32))), (4, .int (a4 + (1 : Int32))), (2, .int a4), (3, .int q15), (0, .ref (ad E 900 0)), (1, .int a1)] := hl
          refine lv_goto (tgt := 28) hx hb dX9_worst_85 rfl ?_
          exact ih _ _ _ _ _ _ h_a0 hf hI (lv_sub hl [4, 5, 2, 3, 1, 0] rfl)
def f_X9_worst (F : Nat) (μ : Mm) (p1 : Int32) : Option (Int32 × Mm) :=
 (f_X7_hasTask μ 0 p1).bind fun q17 =>
 if q17 = 0 then
 some ((-1 : Int32), μ)
 else
 (f_X9_gatherJobs F μ p1).bind fun q19 =>
 f_X9_worst_b28 F F q19 p1 (-1 : Int32) (-1 : Int32) (0 : Int32) (0 : Int32)
set_option maxHeartbeats 4000000 in
set_option maxRecDepth 100000 in
theorem c_X9_worst (l : Launch) (E : En) {F : Nat} {μ : Mm} {p1 : Int32} (h0 : l9 E 0) {z : Int32 × Mm} (hf : f_X9_worst F μ p1 = some z) : Met l yX9_worst (wt yX9_worst cX9_worst 6 (some .int)) { frames := 6, cells := 0, slots := 0, locals := 133 } (Pm E [.ref (ad E 900 0), .int p1] μ) (Qm E (some (.int z.1)) z.2) 0 0 (Ad E) := by
  unfold f_X9_worst at hf
  refine met_of (cc := cX9_worst) (nL := 6) (ret := (some .int)) (by decide) _ (Nat.le_of_ble_eq_true rfl) ?_
  intro p e s m below meth c C hr hlk hI ls hl
  have hx := C.1.1
  have hb := C.1.2.1
  have hl : lv_has ls 6 [(0, .ref (ad E 900 0)), (1, .int p1)] := hl
  refine lv_aload_n hx hb dX9_worst_0 rfl (lv_at hl 0 rfl) ?_
  refine gf_9_0 C hI h0.1 fl_X9_12 dX9_worst_1 ?_
  refine lv_iload_n hx hb dX9_worst_4 rfl (lv_at hl 1 rfl) ?_
  obtain ⟨q17, e18, hf⟩ := ob hf
  refine mcV (As := [.int p1]) (rest := []) C hI (c_X7_hasTask l E h0.2.2.2.2.1 e18) ml_X9_85 kv_X7_hasTask (m_recv C hI h0.2.2.2.2.1.1 (ce_700 E _ _ _) rfl) rfl rfl ⟨Nat.le_of_ble_eq_true rfl, Nat.le_of_ble_eq_true rfl⟩ ⟨Nat.zero_le _, Nat.zero_le _⟩ rfl rfl hl.1 (Nat.le_of_ble_eq_true rfl) dX9_worst_5 (st1 := [.int q17]) rfl (fun H locs hI => ?_)
  refine lv_if_ne (tgt := 13) hx hb dX9_worst_8 rfl (fun hc => ?_) (fun hc => ?_)
  · replace hf := ie hf hc
    refine lv_aload_n hx hb dX9_worst_13 rfl (lv_at hl 0 rfl) ?_
    refine lv_iload_n hx hb dX9_worst_14 rfl (lv_at hl 1 rfl) ?_
    obtain ⟨q19, e20, hf⟩ := ob hf
    refine mcV (As := [.int p1]) (rest := []) C hI (c_X9_gatherJobs l E h0 e20) ml_X9_210 kv_X9_gatherJobs (m_recv C hI h0.1 (ce_900 E _ _ _) rfl) rfl rfl ⟨Nat.le_of_ble_eq_true rfl, Nat.le_of_ble_eq_true rfl⟩ ⟨Nat.zero_le _, Nat.zero_le _⟩ rfl rfl hl.1 (Nat.le_of_ble_eq_true rfl) dX9_worst_15 (st1 := []) rfl (fun H locs hI => ?_)
    refine lv_iconst (v := (-1 : Int32)) hx hb dX9_worst_18 kc_m1 ?_
    refine lv_istore_n hx hb dX9_worst_19 rfl hl (by decide) rfl (fun ls hl => ?_)
    have hl : lv_has ls 6 [(2, .int (-1 : Int32)), (0, .ref (ad E 900 0)), (1, .int p1)] := hl
    refine lv_iconst (v := (-1 : Int32)) hx hb dX9_worst_20 kc_m1 ?_
    refine lv_istore_n hx hb dX9_worst_21 rfl hl (by decide) rfl (fun ls hl => ?_)
    have hl : lv_has ls 6 [(3, .int (-1 : Int32)), (2, .int (-1 : Int32)), (0, .ref (ad E 900 0)), (1, .int p1)] := hl
    refine lv_iconst (v := (0 : Int32)) hx hb dX9_worst_22 kc_0 ?_
    refine lv_istore hx hb dX9_worst_23 hl (by decide) rfl (fun ls hl => ?_)
    have hl : lv_has ls 6 [(4, .int (0 : Int32)), (3, .int (-1 : Int32)), (2, .int (-1 : Int32)), (0, .ref (ad E 900 0)), (1, .int p1)] := hl
    refine lv_iconst (v := (0 : Int32)) hx hb dX9_worst_25 kc_0 ?_
    refine lv_istore hx hb dX9_worst_26 hl (by decide) rfl (fun ls hl => ?_)
    have hl : lv_has ls 6 [(5, .int (0 : Int32)), (4, .int (0 : Int32)), (3, .int (-1 : Int32)), (2, .int (-1 : Int32)), (0, .ref (ad E 900 0)), (1, .int p1)] := hl
    exact cb_X9_worst_28 C hr hlk  _ _ _ _ _ _ _ h0 hf hI (lv_sub hl [4, 5, 3, 2, 1, 0] rfl)
  · replace hf := it hf hc
    refine lv_iconst (v := (-1 : Int32)) hx hb dX9_worst_11 kc_m1 ?_
    obtain rfl := Option.some.inj hf
    exact m_iret C hr hlk hI dX9_worst_12

theorem dX9_late_0 : decode cX9_late 0 = .ok (.aload_n 0, 1) := by decide +kernel
theorem dX9_late_1 : decode cX9_late 1 = .ok (.getfield 12, 3) := by decide +kernel
theorem dX9_late_4 : decode cX9_late 4 = .ok (.iload_n 1, 1) := by decide +kernel
theorem dX9_late_5 : decode cX9_late 5 = .ok (.invokevirtual 85, 3) := by decide +kernel
theorem dX9_late_8 : decode cX9_late 8 = .ok (.ifCond .eq 7, 3) := by decide +kernel
theorem dX9_late_11 : decode cX9_late 11 = .ok (.iload_n 2, 1) := by decide +kernel
theorem dX9_late_12 : decode cX9_late 12 = .ok (.ifCond .ge 5, 3) := by decide +kernel
theorem dX9_late_15 : decode cX9_late 15 = .ok (.iconst (-1), 1) := by decide +kernel
theorem dX9_late_16 : decode cX9_late 16 = .ok (.ireturn, 1) := by decide +kernel
theorem dX9_late_17 : decode cX9_late 17 = .ok (.aload_n 0, 1) := by decide +kernel
theorem dX9_late_18 : decode cX9_late 18 = .ok (.iload_n 1, 1) := by decide +kernel
theorem dX9_late_19 : decode cX9_late 19 = .ok (.invokevirtual 210, 3) := by decide +kernel
theorem dX9_late_22 : decode cX9_late 22 = .ok (.iconst 0, 1) := by decide +kernel
theorem dX9_late_23 : decode cX9_late 23 = .ok (.istore_n 3, 1) := by decide +kernel
theorem dX9_late_24 : decode cX9_late 24 = .ok (.iconst 0, 1) := by decide +kernel
theorem dX9_late_25 : decode cX9_late 25 = .ok (.istore 4, 2) := by decide +kernel
theorem dX9_late_27 : decode cX9_late 27 = .ok (.iload 4, 2) := by decide +kernel
theorem dX9_late_29 : decode cX9_late 29 = .ok (.aload_n 0, 1) := by decide +kernel
theorem dX9_late_30 : decode cX9_late 30 = .ok (.getfield 46, 3) := by decide +kernel
theorem dX9_late_33 : decode cX9_late 33 = .ok (.getfield 235, 3) := by decide +kernel
theorem dX9_late_36 : decode cX9_late 36 = .ok (.if_icmp .ge 38, 3) := by decide +kernel
theorem dX9_late_39 : decode cX9_late 39 = .ok (.aload_n 0, 1) := by decide +kernel
theorem dX9_late_40 : decode cX9_late 40 = .ok (.getfield 46, 3) := by decide +kernel
theorem dX9_late_43 : decode cX9_late 43 = .ok (.iload 4, 2) := by decide +kernel
theorem dX9_late_45 : decode cX9_late 45 = .ok (.iload_n 1, 1) := by decide +kernel
theorem dX9_late_46 : decode cX9_late 46 = .ok (.invokevirtual 236, 3) := by decide +kernel
theorem dX9_late_49 : decode cX9_late 49 = .ok (.ifCond .eq 19, 3) := by decide +kernel
theorem dX9_late_52 : decode cX9_late 52 = .ok (.aload_n 0, 1) := by decide +kernel
theorem dX9_late_53 : decode cX9_late 53 = .ok (.getfield 46, 3) := by decide +kernel
theorem dX9_late_56 : decode cX9_late 56 = .ok (.iload 4, 2) := by decide +kernel
theorem dX9_late_58 : decode cX9_late 58 = .ok (.invokevirtual 226, 3) := by decide +kernel
theorem dX9_late_61 : decode cX9_late 61 = .ok (.iload_n 2, 1) := by decide +kernel
theorem dX9_late_62 : decode cX9_late 62 = .ok (.if_icmp .le 6, 3) := by decide +kernel
theorem dX9_late_65 : decode cX9_late 65 = .ok (.iinc 3 1, 3) := by decide +kernel
theorem dX9_late_68 : decode cX9_late 68 = .ok (.iinc 4 1, 3) := by decide +kernel
theorem dX9_late_71 : decode cX9_late 71 = .ok (.goto (-44), 3) := by decide +kernel
theorem dX9_late_74 : decode cX9_late 74 = .ok (.iload_n 3, 1) := by decide +kernel
theorem dX9_late_75 : decode cX9_late 75 = .ok (.ireturn, 1) := by decide +kernel
def f_X9_late_b27 (F : Nat) : Nat → Mm → Int32 → Int32 → Int32 → Int32 → Option (Int32 × Mm)
 | 0, _, _, _, _, _ => none
 | N + 1, μ, a1, a2, a3, a4 =>
 if (μ.1 100 0 11) ≤ a4 then
 some (a3, μ)
 else
 (f_X1_isOf μ a4 a1).bind fun q9 =>
 if q9 = 0 then
 f_X9_late_b27 F N μ a1 a2 a3 (a4 + (1 : Int32))
 else
 (f_X1_responseOf μ a4).bind fun q11 =>
 if q11 ≤ a2 then
 f_X9_late_b27 F N μ a1 a2 a3 (a4 + (1 : Int32))
 else
 f_X9_late_b27 F N μ a1 a2 (a3 + (1 : Int32)) (a4 + (1 : Int32))
set_option maxHeartbeats 4000000 in
set_option maxRecDepth 100000 in
theorem cb_X9_late_27 {l : Launch} {E : En} {p : Program} {e : Env} {s : State} {m : MethodId} {av : Array Value} {below : List Frame} {meth : Method} {c : Code} (C : Cx E p s m av c cX9_late 5 yX9_late.cls) (hr : meth.sig.returnType = (some .int)) (hlk : meth.locks = false) {F : Nat} {z : Int32 × Mm} : ∀ (N : Nat) (μ : Mm) (a1 : Int32) (a2 : Int32) (a3 : Int32) (a4 : Int32) (h_a0 : l9 E 0), f_X9_late_b27 F N μ a1 a2 a3 a4 = some z → ∀ {H : Heap} {locs : List Loc} {ls : Array Slot}, Iv E s μ H locs → lv_has ls 5 [(0, .ref (ad E 900 0)), (1, .int a1), (2, .int a2), (3, .int a3), (4, .int a4)] → W p l e { frames := 6, cells := 0, slots := 0, locals := 133 } s m av below meth c H locs 0 0 (MQ below (Qm E (some (.int z.1)) z.2) av s 0 0 (Ad E)) (F0 m 27 ls []) := by
  have hx := C.1.1
  have hb := C.1.2.1
  intro N
  induction N with
  | zero => intro μ a1 a2 a3 a4 h_a0 hf; cases hf
  | succ N ih =>
    intro μ a1 a2 a3 a4 h_a0 hf H locs ls hI hl
    rw [f_X9_late_b27] at hf
    refine lv_iload hx hb dX9_late_27 (lv_at hl 4 rfl) ?_
    refine lv_aload_n hx hb dX9_late_29 rfl (lv_at hl 0 rfl) ?_
    refine gf_9_6 C hI h_a0.1 fl_X9_46 dX9_late_30 ?_
    refine gf_1_11 C hI h_a0.2.2.2.2.2.2.2.1.1 fl_X9_235 dX9_late_33 ?_
    refine lv_icmp_ge (tgt := 74) hx hb dX9_late_36 rfl (fun hc => ?_) (fun hc => ?_)
    · replace hf := it hf hc
      refine lv_iload_n hx hb dX9_late_74 rfl (lv_at hl 3 rfl) ?_
      obtain rfl := Option.some.inj hf
      exact m_iret C hr hlk hI dX9_late_75
    · replace hf := ie hf hc
      refine lv_aload_n hx hb dX9_late_39 rfl (lv_at hl 0 rfl) ?_
      refine gf_9_6 C hI h_a0.1 fl_X9_46 dX9_late_40 ?_
      refine lv_iload hx hb dX9_late_43 (lv_at hl 4 rfl) ?_
      refine lv_iload_n hx hb dX9_late_45 rfl (lv_at hl 1 rfl) ?_
      obtain ⟨q9, e10, hf⟩ := ob hf
      refine mcV (As := [.int a4, .int a1]) (rest := []) C hI (c_X1_isOf l E h_a0.2.2.2.2.2.2.2.1 e10) ml_X9_236 kv_X1_isOf (m_recv C hI h_a0.2.2.2.2.2.2.2.1.1 (ce_100 E _ _ _) rfl) rfl rfl ⟨Nat.le_of_ble_eq_true rfl, Nat.le_of_ble_eq_true rfl⟩ ⟨Nat.zero_le _, Nat.zero_le _⟩ rfl rfl hl.1 (Nat.le_of_ble_eq_true rfl) dX9_late_46 (st1 := [.int q9]) rfl (fun H locs hI => ?_)
      refine lv_if_eq (tgt := 68) hx hb dX9_late_49 rfl (fun hc => ?_) (fun hc => ?_)
      · replace hf := it hf hc
        refine lv_iinc (v := a4 + (1 : Int32)) hx hb dX9_late_68 hl (k := 4) rfl (ki_1 _) (by decide) rfl (fun ls hl => ?_)
        have hl : lv_has ls 5 [(4, .int (a4 + (1 : Int32))), (0, .ref (ad E 900 0)), (1, .int a1), (2, .int a2), (3, .int a3)] := hl
        refine lv_goto (tgt := 27) hx hb dX9_late_71 rfl ?_
        exact ih _ _ _ _ _ h_a0 hf hI (lv_sub hl [1, 2, 3, 4, 0] rfl)
      · replace hf := ie hf hc
        refine lv_aload_n hx hb dX9_late_52 rfl (lv_at hl 0 rfl) ?_
        refine gf_9_6 C hI h_a0.1 fl_X9_46 dX9_late_53 ?_
        refine lv_iload hx hb dX9_late_56 (lv_at hl 4 rfl) ?_
        obtain ⟨q11, e12, hf⟩ := ob hf
        refine mcV (As := [.int a4]) (rest := []) C hI (c_X1_responseOf l E h_a0.2.2.2.2.2.2.2.1 e12) ml_X9_226 kv_X1_responseOf (m_recv C hI h_a0.2.2.2.2.2.2.2.1.1 (ce_100 E _ _ _) rfl) rfl rfl ⟨Nat.le_of_ble_eq_true rfl, Nat.le_of_ble_eq_true rfl⟩ ⟨Nat.zero_le _, Nat.zero_le _⟩ rfl rfl hl.1 (Nat.le_of_ble_eq_true rfl) dX9_late_58 (st1 := [.int q11]) rfl (fun H locs hI => ?_)
        refine lv_iload_n hx hb dX9_late_61 rfl (lv_at hl 2 rfl) ?_
        refine lv_icmp_le (tgt := 68) hx hb dX9_late_62 rfl (fun hc => ?_) (fun hc => ?_)
        · replace hf := it hf hc
          refine lv_iinc (v := a4 + (1 : Int32)) hx hb dX9_late_68 hl (k := 4) rfl (ki_1 _) (by decide) rfl (fun ls hl => ?_)
          have hl : lv_has ls 5 [(4, .int (a4 + (1 : Int32))), (0, .ref (ad E 900 0)), (1, .int a1), (2, .int a2), (3, .int a3)] := hl
          refine lv_goto (tgt := 27) hx hb dX9_late_71 rfl ?_
          exact ih _ _ _ _ _ h_a0 hf hI (lv_sub hl [1, 2, 3, 4, 0] rfl)
        · replace hf := ie hf hc
          refine lv_iinc (v := a3 + (1 : Int32)) hx hb dX9_late_65 hl (k := 3) rfl (ki_1 _) (by decide) rfl (fun ls hl => ?_)
          have hl : lv_has ls 5 [(3, .int (a3 + (1 : Int32))), (0, .ref (ad E 900 0)), (1, .int a1), (2, .int a2), (4, .int a4)] := hl
          refine lv_iinc (v := a4 + (1 : Int32)) hx hb dX9_late_68 hl (k := 4) rfl (ki_1 _) (by decide) rfl (fun ls hl => ?_)
          have hl : lv_has ls 5 [(4, .int (a4 + (1 : Int32))), (3, .int (a3 + (1 : Int32))), (0, .ref (ad E 900 0)), (1, .int a1), (2, .int a2)] := hl
          refine lv_goto (tgt := 27) hx hb dX9_late_71 rfl ?_
          exact ih _ _ _ _ _ h_a0 hf hI (lv_sub hl [2, 3, 4, 1, 0] rfl)
def f_X9_late (F : Nat) (μ : Mm) (p1 : Int32) (p2 : Int32) : Option (Int32 × Mm) :=
 (f_X7_hasTask μ 0 p1).bind fun q13 =>
 if q13 = 0 then
 some ((-1 : Int32), μ)
 else
 if 0 ≤ p2 then
 (f_X9_gatherJobs F μ p1).bind fun q15 =>
 f_X9_late_b27 F F q15 p1 p2 (0 : Int32) (0 : Int32)
 else
 some ((-1 : Int32), μ)
set_option maxHeartbeats 4000000 in
set_option maxRecDepth 100000 in
theorem c_X9_late (l : Launch) (E : En) {F : Nat} {μ : Mm} {p1 : Int32} {p2 : Int32} (h0 : l9 E 0) {z : Int32 × Mm} (hf : f_X9_late F μ p1 p2 = some z) : Met l yX9_late (wt yX9_late cX9_late 5 (some .int)) { frames := 6, cells := 0, slots := 0, locals := 133 } (Pm E [.ref (ad E 900 0), .int p1, .int p2] μ) (Qm E (some (.int z.1)) z.2) 0 0 (Ad E) := by
  unfold f_X9_late at hf
  refine met_of (cc := cX9_late) (nL := 5) (ret := (some .int)) (by decide) _ (Nat.le_of_ble_eq_true rfl) ?_
  intro p e s m below meth c C hr hlk hI ls hl
  have hx := C.1.1
  have hb := C.1.2.1
  have hl : lv_has ls 5 [(0, .ref (ad E 900 0)), (1, .int p1), (2, .int p2)] := hl
  refine lv_aload_n hx hb dX9_late_0 rfl (lv_at hl 0 rfl) ?_
  refine gf_9_0 C hI h0.1 fl_X9_12 dX9_late_1 ?_
  refine lv_iload_n hx hb dX9_late_4 rfl (lv_at hl 1 rfl) ?_
  obtain ⟨q13, e14, hf⟩ := ob hf
  refine mcV (As := [.int p1]) (rest := []) C hI (c_X7_hasTask l E h0.2.2.2.2.1 e14) ml_X9_85 kv_X7_hasTask (m_recv C hI h0.2.2.2.2.1.1 (ce_700 E _ _ _) rfl) rfl rfl ⟨Nat.le_of_ble_eq_true rfl, Nat.le_of_ble_eq_true rfl⟩ ⟨Nat.zero_le _, Nat.zero_le _⟩ rfl rfl hl.1 (Nat.le_of_ble_eq_true rfl) dX9_late_5 (st1 := [.int q13]) rfl (fun H locs hI => ?_)
  refine lv_if_eq (tgt := 15) hx hb dX9_late_8 rfl (fun hc => ?_) (fun hc => ?_)
  · replace hf := it hf hc
    refine lv_iconst (v := (-1 : Int32)) hx hb dX9_late_15 kc_m1 ?_
    obtain rfl := Option.some.inj hf
    exact m_iret C hr hlk hI dX9_late_16
  · replace hf := ie hf hc
    refine lv_iload_n hx hb dX9_late_11 rfl (lv_at hl 2 rfl) ?_
    refine lv_if_ge (tgt := 17) hx hb dX9_late_12 rfl (fun hc => ?_) (fun hc => ?_)
    · replace hf := it hf hc
      refine lv_aload_n hx hb dX9_late_17 rfl (lv_at hl 0 rfl) ?_
      refine lv_iload_n hx hb dX9_late_18 rfl (lv_at hl 1 rfl) ?_
      obtain ⟨q15, e16, hf⟩ := ob hf
      refine mcV (As := [.int p1]) (rest := []) C hI (c_X9_gatherJobs l E h0 e16) ml_X9_210 kv_X9_gatherJobs (m_recv C hI h0.1 (ce_900 E _ _ _) rfl) rfl rfl ⟨Nat.le_of_ble_eq_true rfl, Nat.le_of_ble_eq_true rfl⟩ ⟨Nat.zero_le _, Nat.zero_le _⟩ rfl rfl hl.1 (Nat.le_of_ble_eq_true rfl) dX9_late_19 (st1 := []) rfl (fun H locs hI => ?_)
      refine lv_iconst (v := (0 : Int32)) hx hb dX9_late_22 kc_0 ?_
      refine lv_istore_n hx hb dX9_late_23 rfl hl (by decide) rfl (fun ls hl => ?_)
      have hl : lv_has ls 5 [(3, .int (0 : Int32)), (0, .ref (ad E 900 0)), (1, .int p1), (2, .int p2)] := hl
      refine lv_iconst (v := (0 : Int32)) hx hb dX9_late_24 kc_0 ?_
      refine lv_istore hx hb dX9_late_25 hl (by decide) rfl (fun ls hl => ?_)
      have hl : lv_has ls 5 [(4, .int (0 : Int32)), (3, .int (0 : Int32)), (0, .ref (ad E 900 0)), (1, .int p1), (2, .int p2)] := hl
      exact cb_X9_late_27 C hr hlk  _ _ _ _ _ _ h0 hf hI (lv_sub hl [2, 3, 4, 1, 0] rfl)
    · replace hf := ie hf hc
      refine lv_iconst (v := (-1 : Int32)) hx hb dX9_late_15 kc_m1 ?_
      obtain rfl := Option.some.inj hf
      exact m_iret C hr hlk hI dX9_late_16

theorem dX9_again_0 : decode cX9_again 0 = .ok (.aload_n 0, 1) := by decide +kernel
theorem dX9_again_1 : decode cX9_again 1 = .ok (.iload_n 1, 1) := by decide +kernel
theorem dX9_again_2 : decode cX9_again 2 = .ok (.iload_n 2, 1) := by decide +kernel
theorem dX9_again_3 : decode cX9_again 3 = .ok (.invokevirtual 217, 3) := by decide +kernel
theorem dX9_again_6 : decode cX9_again 6 = .ok (.istore_n 3, 1) := by decide +kernel
theorem dX9_again_7 : decode cX9_again 7 = .ok (.iload_n 3, 1) := by decide +kernel
theorem dX9_again_8 : decode cX9_again 8 = .ok (.iconst (-1), 1) := by decide +kernel
theorem dX9_again_9 : decode cX9_again 9 = .ok (.if_icmp .ne 5, 3) := by decide +kernel
theorem dX9_again_12 : decode cX9_again 12 = .ok (.iconst (-1), 1) := by decide +kernel
theorem dX9_again_13 : decode cX9_again 13 = .ok (.ireturn, 1) := by decide +kernel
theorem dX9_again_14 : decode cX9_again 14 = .ok (.aload_n 0, 1) := by decide +kernel
theorem dX9_again_15 : decode cX9_again 15 = .ok (.iload_n 1, 1) := by decide +kernel
theorem dX9_again_16 : decode cX9_again 16 = .ok (.invokevirtual 340, 3) := by decide +kernel
theorem dX9_again_19 : decode cX9_again 19 = .ok (.aload_n 0, 1) := by decide +kernel
theorem dX9_again_20 : decode cX9_again 20 = .ok (.getfield 46, 3) := by decide +kernel
theorem dX9_again_23 : decode cX9_again 23 = .ok (.getfield 343, 3) := by decide +kernel
theorem dX9_again_26 : decode cX9_again 26 = .ok (.iload_n 3, 1) := by decide +kernel
theorem dX9_again_27 : decode cX9_again 27 = .ok (.iaload, 1) := by decide +kernel
theorem dX9_again_28 : decode cX9_again 28 = .ok (.ireturn, 1) := by decide +kernel
def f_X9_again (F : Nat) (μ : Mm) (p1 : Int32) (p2 : Int32) : Option (Int32 × Mm) :=
 (f_X9_jobRow F μ p1 p2).bind fun q7 =>
 if q7.1 = (-1 : Int32) then
 some ((-1 : Int32), q7.2)
 else
 (f_X9_runAgain F q7.2 p1).bind fun q9 =>
 (ra q9 108 0 67 q7.1).bind fun v11 =>
 some (v11, q9)
set_option maxHeartbeats 4000000 in
set_option maxRecDepth 100000 in
theorem c_X9_again (l : Launch) (E : En) {F : Nat} {μ : Mm} {p1 : Int32} {p2 : Int32} (h0 : l9 E 0) {z : Int32 × Mm} (hf : f_X9_again F μ p1 p2 = some z) : Met l yX9_again (wt yX9_again cX9_again 4 (some .int)) { frames := 7, cells := 0, slots := 0, locals := 155 } (Pm E [.ref (ad E 900 0), .int p1, .int p2] μ) (Qm E (some (.int z.1)) z.2) 0 0 (Ad E) := by
  unfold f_X9_again at hf
  refine met_of (cc := cX9_again) (nL := 4) (ret := (some .int)) (by decide) _ (Nat.le_of_ble_eq_true rfl) ?_
  intro p e s m below meth c C hr hlk hI ls hl
  have hx := C.1.1
  have hb := C.1.2.1
  have hl : lv_has ls 4 [(0, .ref (ad E 900 0)), (1, .int p1), (2, .int p2)] := hl
  refine lv_aload_n hx hb dX9_again_0 rfl (lv_at hl 0 rfl) ?_
  refine lv_iload_n hx hb dX9_again_1 rfl (lv_at hl 1 rfl) ?_
  refine lv_iload_n hx hb dX9_again_2 rfl (lv_at hl 2 rfl) ?_
  obtain ⟨q7, e8, hf⟩ := ob hf
  refine mcV (As := [.int p1, .int p2]) (rest := []) C hI (c_X9_jobRow l E h0 e8) ml_X9_217 kv_X9_jobRow (m_recv C hI h0.1 (ce_900 E _ _ _) rfl) rfl rfl ⟨Nat.le_of_ble_eq_true rfl, Nat.le_of_ble_eq_true rfl⟩ ⟨Nat.zero_le _, Nat.zero_le _⟩ rfl rfl hl.1 (Nat.le_of_ble_eq_true rfl) dX9_again_3 (st1 := [.int q7.1]) rfl (fun H locs hI => ?_)
  refine lv_istore_n hx hb dX9_again_6 rfl hl (by decide) rfl (fun ls hl => ?_)
  have hl : lv_has ls 4 [(3, .int q7.1), (0, .ref (ad E 900 0)), (1, .int p1), (2, .int p2)] := hl
  refine lv_iload_n hx hb dX9_again_7 rfl (lv_at hl 0 rfl) ?_
  refine lv_iconst (v := (-1 : Int32)) hx hb dX9_again_8 kc_m1 ?_
  refine lv_icmp_ne (tgt := 14) hx hb dX9_again_9 rfl (fun hc => ?_) (fun hc => ?_)
  · replace hf := ie hf hc
    refine lv_aload_n hx hb dX9_again_14 rfl (lv_at hl 1 rfl) ?_
    refine lv_iload_n hx hb dX9_again_15 rfl (lv_at hl 2 rfl) ?_
    obtain ⟨q9, e10, hf⟩ := ob hf
    refine mcV (As := [.int p1]) (rest := []) C hI (c_X9_runAgain l E h0 e10) ml_X9_340 kv_X9_runAgain (m_recv C hI h0.1 (ce_900 E _ _ _) rfl) rfl rfl ⟨Nat.le_of_ble_eq_true rfl, Nat.le_of_ble_eq_true rfl⟩ ⟨Nat.zero_le _, Nat.zero_le _⟩ rfl rfl hl.1 (Nat.le_of_ble_eq_true rfl) dX9_again_16 (st1 := []) rfl (fun H locs hI => ?_)
    refine lv_aload_n hx hb dX9_again_19 rfl (lv_at hl 1 rfl) ?_
    refine gf_9_6 C hI h0.1 fl_X9_46 dX9_again_20 ?_
    refine gf_1_7 C hI h0.2.2.2.2.2.2.2.1.1 fl_X9_343 dX9_again_23 ?_
    refine lv_iload_n hx hb dX9_again_26 rfl (lv_at hl 0 rfl) ?_
    obtain ⟨v11, e12, hf⟩ := ob hf
    refine m_iald C hI h0.2.2.2.2.2.2.2.1.2.2.2.2.2.2.2.2.1 (ce_108 E _ _ _) e12 dX9_again_27 ?_
    obtain rfl := Option.some.inj hf
    exact m_iret C hr hlk hI dX9_again_28
  · replace hf := it hf hc
    refine lv_iconst (v := (-1 : Int32)) hx hb dX9_again_12 kc_m1 ?_
    obtain rfl := Option.some.inj hf
    exact m_iret C hr hlk hI dX9_again_13

theorem dX9_slowest_0 : decode cX9_slowest 0 = .ok (.aload_n 0, 1) := by decide +kernel
theorem dX9_slowest_1 : decode cX9_slowest 1 = .ok (.getfield 12, 3) := by decide +kernel
theorem dX9_slowest_4 : decode cX9_slowest 4 = .ok (.iload_n 1, 1) := by decide +kernel
theorem dX9_slowest_5 : decode cX9_slowest 5 = .ok (.invokevirtual 85, 3) := by decide +kernel
theorem dX9_slowest_8 : decode cX9_slowest 8 = .ok (.ifCond .ne 5, 3) := by decide +kernel
theorem dX9_slowest_11 : decode cX9_slowest 11 = .ok (.iconst (-1), 1) := by decide +kernel
theorem dX9_slowest_12 : decode cX9_slowest 12 = .ok (.ireturn, 1) := by decide +kernel
theorem dX9_slowest_13 : decode cX9_slowest 13 = .ok (.aload_n 0, 1) := by decide +kernel
theorem dX9_slowest_14 : decode cX9_slowest 14 = .ok (.iload_n 1, 1) := by decide +kernel
theorem dX9_slowest_15 : decode cX9_slowest 15 = .ok (.invokevirtual 210, 3) := by decide +kernel
theorem dX9_slowest_18 : decode cX9_slowest 18 = .ok (.aload_n 0, 1) := by decide +kernel
theorem dX9_slowest_19 : decode cX9_slowest 19 = .ok (.iload_n 1, 1) := by decide +kernel
theorem dX9_slowest_20 : decode cX9_slowest 20 = .ok (.invokevirtual 340, 3) := by decide +kernel
theorem dX9_slowest_23 : decode cX9_slowest 23 = .ok (.iconst (-1), 1) := by decide +kernel
theorem dX9_slowest_24 : decode cX9_slowest 24 = .ok (.istore_n 2, 1) := by decide +kernel
theorem dX9_slowest_25 : decode cX9_slowest 25 = .ok (.iconst 0, 1) := by decide +kernel
theorem dX9_slowest_26 : decode cX9_slowest 26 = .ok (.istore_n 3, 1) := by decide +kernel
theorem dX9_slowest_27 : decode cX9_slowest 27 = .ok (.iload_n 3, 1) := by decide +kernel
theorem dX9_slowest_28 : decode cX9_slowest 28 = .ok (.aload_n 0, 1) := by decide +kernel
theorem dX9_slowest_29 : decode cX9_slowest 29 = .ok (.getfield 46, 3) := by decide +kernel
theorem dX9_slowest_32 : decode cX9_slowest 32 = .ok (.getfield 235, 3) := by decide +kernel
theorem dX9_slowest_35 : decode cX9_slowest 35 = .ok (.if_icmp .ge 45, 3) := by decide +kernel
theorem dX9_slowest_38 : decode cX9_slowest 38 = .ok (.aload_n 0, 1) := by decide +kernel
theorem dX9_slowest_39 : decode cX9_slowest 39 = .ok (.getfield 46, 3) := by decide +kernel
theorem dX9_slowest_42 : decode cX9_slowest 42 = .ok (.iload_n 3, 1) := by decide +kernel
theorem dX9_slowest_43 : decode cX9_slowest 43 = .ok (.iload_n 1, 1) := by decide +kernel
theorem dX9_slowest_44 : decode cX9_slowest 44 = .ok (.invokevirtual 236, 3) := by decide +kernel
theorem dX9_slowest_47 : decode cX9_slowest 47 = .ok (.ifCond .eq 27, 3) := by decide +kernel
theorem dX9_slowest_50 : decode cX9_slowest 50 = .ok (.iload_n 2, 1) := by decide +kernel
theorem dX9_slowest_51 : decode cX9_slowest 51 = .ok (.aload_n 0, 1) := by decide +kernel
theorem dX9_slowest_52 : decode cX9_slowest 52 = .ok (.getfield 46, 3) := by decide +kernel
theorem dX9_slowest_55 : decode cX9_slowest 55 = .ok (.getfield 343, 3) := by decide +kernel
theorem dX9_slowest_58 : decode cX9_slowest 58 = .ok (.iload_n 3, 1) := by decide +kernel
theorem dX9_slowest_59 : decode cX9_slowest 59 = .ok (.iaload, 1) := by decide +kernel
theorem dX9_slowest_60 : decode cX9_slowest 60 = .ok (.aload_n 0, 1) := by decide +kernel
theorem dX9_slowest_61 : decode cX9_slowest 61 = .ok (.getfield 46, 3) := by decide +kernel
theorem dX9_slowest_64 : decode cX9_slowest 64 = .ok (.getfield 220, 3) := by decide +kernel
theorem dX9_slowest_67 : decode cX9_slowest 67 = .ok (.iload_n 3, 1) := by decide +kernel
theorem dX9_slowest_68 : decode cX9_slowest 68 = .ok (.iaload, 1) := by decide +kernel
theorem dX9_slowest_69 : decode cX9_slowest 69 = .ok (.isub, 1) := by decide +kernel
theorem dX9_slowest_70 : decode cX9_slowest 70 = .ok (.invokestatic 201, 3) := by decide +kernel
theorem dX9_slowest_73 : decode cX9_slowest 73 = .ok (.istore_n 2, 1) := by decide +kernel
theorem dX9_slowest_74 : decode cX9_slowest 74 = .ok (.iinc 3 1, 3) := by decide +kernel
theorem dX9_slowest_77 : decode cX9_slowest 77 = .ok (.goto (-50), 3) := by decide +kernel
theorem dX9_slowest_80 : decode cX9_slowest 80 = .ok (.iload_n 2, 1) := by decide +kernel
theorem dX9_slowest_81 : decode cX9_slowest 81 = .ok (.ireturn, 1) := by decide +kernel
def f_X9_slowest_b27 (F : Nat) : Nat → Mm → Int32 → Int32 → Int32 → Option (Int32 × Mm)
 | 0, _, _, _, _ => none
 | N + 1, μ, a1, a2, a3 =>
 if (μ.1 100 0 11) ≤ a3 then
 some (a2, μ)
 else
 (f_X1_isOf μ a3 a1).bind fun q13 =>
 if q13 = 0 then
 f_X9_slowest_b27 F N μ a1 a2 (a3 + (1 : Int32))
 else
 (ra μ 108 0 67 a3).bind fun v15 =>
 (ra μ 103 0 67 a3).bind fun v17 =>
 f_X9_slowest_b27 F N μ a1 (if a2 < (v15 - v17) then (v15 - v17) else a2) (a3 + (1 : Int32))
set_option maxHeartbeats 4000000 in
set_option maxRecDepth 100000 in
theorem cb_X9_slowest_27 {l : Launch} {E : En} {p : Program} {e : Env} {s : State} {m : MethodId} {av : Array Value} {below : List Frame} {meth : Method} {c : Code} (C : Cx E p s m av c cX9_slowest 4 yX9_slowest.cls) (hr : meth.sig.returnType = (some .int)) (hlk : meth.locks = false) {F : Nat} {z : Int32 × Mm} : ∀ (N : Nat) (μ : Mm) (a1 : Int32) (a2 : Int32) (a3 : Int32) (h_a0 : l9 E 0), f_X9_slowest_b27 F N μ a1 a2 a3 = some z → ∀ {H : Heap} {locs : List Loc} {ls : Array Slot}, Iv E s μ H locs → lv_has ls 4 [(0, .ref (ad E 900 0)), (1, .int a1), (2, .int a2), (3, .int a3)] → W p l e { frames := 6, cells := 0, slots := 0, locals := 135 } s m av below meth c H locs 0 0 (MQ below (Qm E (some (.int z.1)) z.2) av s 0 0 (Ad E)) (F0 m 27 ls []) := by
  have hx := C.1.1
  have hb := C.1.2.1
  intro N
  induction N with
  | zero => intro μ a1 a2 a3 h_a0 hf; cases hf
  | succ N ih =>
    intro μ a1 a2 a3 h_a0 hf H locs ls hI hl
    rw [f_X9_slowest_b27] at hf
    refine lv_iload_n hx hb dX9_slowest_27 rfl (lv_at hl 3 rfl) ?_
    refine lv_aload_n hx hb dX9_slowest_28 rfl (lv_at hl 0 rfl) ?_
    refine gf_9_6 C hI h_a0.1 fl_X9_46 dX9_slowest_29 ?_
    refine gf_1_11 C hI h_a0.2.2.2.2.2.2.2.1.1 fl_X9_235 dX9_slowest_32 ?_
    refine lv_icmp_ge (tgt := 80) hx hb dX9_slowest_35 rfl (fun hc => ?_) (fun hc => ?_)
    · replace hf := it hf hc
      refine lv_iload_n hx hb dX9_slowest_80 rfl (lv_at hl 2 rfl) ?_
      obtain rfl := Option.some.inj hf
      exact m_iret C hr hlk hI dX9_slowest_81
    · replace hf := ie hf hc
      refine lv_aload_n hx hb dX9_slowest_38 rfl (lv_at hl 0 rfl) ?_
      refine gf_9_6 C hI h_a0.1 fl_X9_46 dX9_slowest_39 ?_
      refine lv_iload_n hx hb dX9_slowest_42 rfl (lv_at hl 3 rfl) ?_
      refine lv_iload_n hx hb dX9_slowest_43 rfl (lv_at hl 1 rfl) ?_
      obtain ⟨q13, e14, hf⟩ := ob hf
      refine mcV (As := [.int a3, .int a1]) (rest := []) C hI (c_X1_isOf l E h_a0.2.2.2.2.2.2.2.1 e14) ml_X9_236 kv_X1_isOf (m_recv C hI h_a0.2.2.2.2.2.2.2.1.1 (ce_100 E _ _ _) rfl) rfl rfl ⟨Nat.le_of_ble_eq_true rfl, Nat.le_of_ble_eq_true rfl⟩ ⟨Nat.zero_le _, Nat.zero_le _⟩ rfl rfl hl.1 (Nat.le_of_ble_eq_true rfl) dX9_slowest_44 (st1 := [.int q13]) rfl (fun H locs hI => ?_)
      refine lv_if_eq (tgt := 74) hx hb dX9_slowest_47 rfl (fun hc => ?_) (fun hc => ?_)
      · replace hf := it hf hc
        refine lv_iinc (v := a3 + (1 : Int32)) hx hb dX9_slowest_74 hl (k := 3) rfl (ki_1 _) (by decide) rfl (fun ls hl => ?_)
        have hl : lv_has ls 4 [(3, .int (a3 + (1 : Int32))), (0, .ref (ad E 900 0)), (1, .int a1), (2, .int a2)] := hl
        refine lv_goto (tgt := 27) hx hb dX9_slowest_77 rfl ?_
        exact ih _ _ _ _ h_a0 hf hI (lv_sub hl [1, 2, 3, 0] rfl)
      · replace hf := ie hf hc
        refine lv_iload_n hx hb dX9_slowest_50 rfl (lv_at hl 2 rfl) ?_
        refine lv_aload_n hx hb dX9_slowest_51 rfl (lv_at hl 0 rfl) ?_
        refine gf_9_6 C hI h_a0.1 fl_X9_46 dX9_slowest_52 ?_
        refine gf_1_7 C hI h_a0.2.2.2.2.2.2.2.1.1 fl_X9_343 dX9_slowest_55 ?_
        refine lv_iload_n hx hb dX9_slowest_58 rfl (lv_at hl 3 rfl) ?_
        obtain ⟨v15, e16, hf⟩ := ob hf
        refine m_iald C hI h_a0.2.2.2.2.2.2.2.1.2.2.2.2.2.2.2.2.1 (ce_108 E _ _ _) e16 dX9_slowest_59 ?_
        refine lv_aload_n hx hb dX9_slowest_60 rfl (lv_at hl 0 rfl) ?_
        refine gf_9_6 C hI h_a0.1 fl_X9_46 dX9_slowest_61 ?_
        refine gf_1_2 C hI h_a0.2.2.2.2.2.2.2.1.1 fl_X9_220 dX9_slowest_64 ?_
        refine lv_iload_n hx hb dX9_slowest_67 rfl (lv_at hl 3 rfl) ?_
        obtain ⟨v17, e18, hf⟩ := ob hf
        refine m_iald C hI h_a0.2.2.2.2.2.2.2.1.2.2.2.1 (ce_103 E _ _ _) e18 dX9_slowest_68 ?_
        refine lv_isub hx hb dX9_slowest_69 ?_
        refine mmaxI C hl.1 ml_X9_201 (Nat.le_of_ble_eq_true rfl) (Nat.le_of_ble_eq_true rfl) (Nat.zero_le _) (Nat.zero_le _) dX9_slowest_70 ?_
        refine lv_istore_n hx hb dX9_slowest_73 rfl hl (by decide) rfl (fun ls hl => ?_)
        have hl : lv_has ls 4 [(2, .int (if a2 < (v15 - v17) then (v15 - v17) else a2)), (0, .ref (ad E 900 0)), (1, .int a1), (3, .int a3)] := hl
        refine lv_iinc (v := a3 + (1 : Int32)) hx hb dX9_slowest_74 hl (k := 3) rfl (ki_1 _) (by decide) rfl (fun ls hl => ?_)
        have hl : lv_has ls 4 [(3, .int (a3 + (1 : Int32))), (2, .int (if a2 < (v15 - v17) then (v15 - v17) else a2)), (0, .ref (ad E 900 0)), (1, .int a1)] := hl
        refine lv_goto (tgt := 27) hx hb dX9_slowest_77 rfl ?_
        exact ih _ _ _ _ h_a0 hf hI (lv_sub hl [2, 3, 1, 0] rfl)
def f_X9_slowest (F : Nat) (μ : Mm) (p1 : Int32) : Option (Int32 × Mm) :=
 (f_X7_hasTask μ 0 p1).bind fun q19 =>
 if q19 = 0 then
 some ((-1 : Int32), μ)
 else
 (f_X9_gatherJobs F μ p1).bind fun q21 =>
 (f_X9_runAgain F q21 p1).bind fun q23 =>
 f_X9_slowest_b27 F F q23 p1 (-1 : Int32) (0 : Int32)
set_option maxHeartbeats 4000000 in
set_option maxRecDepth 100000 in
theorem c_X9_slowest (l : Launch) (E : En) {F : Nat} {μ : Mm} {p1 : Int32} (h0 : l9 E 0) {z : Int32 × Mm} (hf : f_X9_slowest F μ p1 = some z) : Met l yX9_slowest (wt yX9_slowest cX9_slowest 4 (some .int)) { frames := 6, cells := 0, slots := 0, locals := 135 } (Pm E [.ref (ad E 900 0), .int p1] μ) (Qm E (some (.int z.1)) z.2) 0 0 (Ad E) := by
  unfold f_X9_slowest at hf
  refine met_of (cc := cX9_slowest) (nL := 4) (ret := (some .int)) (by decide) _ (Nat.le_of_ble_eq_true rfl) ?_
  intro p e s m below meth c C hr hlk hI ls hl
  have hx := C.1.1
  have hb := C.1.2.1
  have hl : lv_has ls 4 [(0, .ref (ad E 900 0)), (1, .int p1)] := hl
  refine lv_aload_n hx hb dX9_slowest_0 rfl (lv_at hl 0 rfl) ?_
  refine gf_9_0 C hI h0.1 fl_X9_12 dX9_slowest_1 ?_
  refine lv_iload_n hx hb dX9_slowest_4 rfl (lv_at hl 1 rfl) ?_
  obtain ⟨q19, e20, hf⟩ := ob hf
  refine mcV (As := [.int p1]) (rest := []) C hI (c_X7_hasTask l E h0.2.2.2.2.1 e20) ml_X9_85 kv_X7_hasTask (m_recv C hI h0.2.2.2.2.1.1 (ce_700 E _ _ _) rfl) rfl rfl ⟨Nat.le_of_ble_eq_true rfl, Nat.le_of_ble_eq_true rfl⟩ ⟨Nat.zero_le _, Nat.zero_le _⟩ rfl rfl hl.1 (Nat.le_of_ble_eq_true rfl) dX9_slowest_5 (st1 := [.int q19]) rfl (fun H locs hI => ?_)
  refine lv_if_ne (tgt := 13) hx hb dX9_slowest_8 rfl (fun hc => ?_) (fun hc => ?_)
  · replace hf := ie hf hc
    refine lv_aload_n hx hb dX9_slowest_13 rfl (lv_at hl 0 rfl) ?_
    refine lv_iload_n hx hb dX9_slowest_14 rfl (lv_at hl 1 rfl) ?_
    obtain ⟨q21, e22, hf⟩ := ob hf
    refine mcV (As := [.int p1]) (rest := []) C hI (c_X9_gatherJobs l E h0 e22) ml_X9_210 kv_X9_gatherJobs (m_recv C hI h0.1 (ce_900 E _ _ _) rfl) rfl rfl ⟨Nat.le_of_ble_eq_true rfl, Nat.le_of_ble_eq_true rfl⟩ ⟨Nat.zero_le _, Nat.zero_le _⟩ rfl rfl hl.1 (Nat.le_of_ble_eq_true rfl) dX9_slowest_15 (st1 := []) rfl (fun H locs hI => ?_)
    refine lv_aload_n hx hb dX9_slowest_18 rfl (lv_at hl 0 rfl) ?_
    refine lv_iload_n hx hb dX9_slowest_19 rfl (lv_at hl 1 rfl) ?_
    obtain ⟨q23, e24, hf⟩ := ob hf
    refine mcV (As := [.int p1]) (rest := []) C hI (c_X9_runAgain l E h0 e24) ml_X9_340 kv_X9_runAgain (m_recv C hI h0.1 (ce_900 E _ _ _) rfl) rfl rfl ⟨Nat.le_of_ble_eq_true rfl, Nat.le_of_ble_eq_true rfl⟩ ⟨Nat.zero_le _, Nat.zero_le _⟩ rfl rfl hl.1 (Nat.le_of_ble_eq_true rfl) dX9_slowest_20 (st1 := []) rfl (fun H locs hI => ?_)
    refine lv_iconst (v := (-1 : Int32)) hx hb dX9_slowest_23 kc_m1 ?_
    refine lv_istore_n hx hb dX9_slowest_24 rfl hl (by decide) rfl (fun ls hl => ?_)
    have hl : lv_has ls 4 [(2, .int (-1 : Int32)), (0, .ref (ad E 900 0)), (1, .int p1)] := hl
    refine lv_iconst (v := (0 : Int32)) hx hb dX9_slowest_25 kc_0 ?_
    refine lv_istore_n hx hb dX9_slowest_26 rfl hl (by decide) rfl (fun ls hl => ?_)
    have hl : lv_has ls 4 [(3, .int (0 : Int32)), (2, .int (-1 : Int32)), (0, .ref (ad E 900 0)), (1, .int p1)] := hl
    exact cb_X9_slowest_27 C hr hlk  _ _ _ _ _ h0 hf hI (lv_sub hl [2, 3, 1, 0] rfl)
  · replace hf := it hf hc
    refine lv_iconst (v := (-1 : Int32)) hx hb dX9_slowest_11 kc_m1 ?_
    obtain rfl := Option.some.inj hf
    exact m_iret C hr hlk hI dX9_slowest_12
