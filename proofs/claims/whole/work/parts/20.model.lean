theorem dX10_thrown_0 : decode cX10_thrown 0 = .ok (.aload_n 0, 1) := by decide +kernel
theorem dX10_thrown_1 : decode cX10_thrown 1 = .ok (.getfield 133, 3) := by decide +kernel
theorem dX10_thrown_4 : decode cX10_thrown 4 = .ok (.ireturn, 1) := by decide +kernel
def f_X10_thrown (μ : Mm) : Option Int32 :=
 some (μ.1 1000 0 0)
set_option maxHeartbeats 4000000 in
set_option maxRecDepth 100000 in
theorem c_X10_thrown (l : Launch) (E : En) {μ : Mm} (h0 : l10 E 0) {z : Int32} (hf : f_X10_thrown μ = some z) : Met l yX10_thrown (wt yX10_thrown cX10_thrown 1 (some .int)) { frames := 0, cells := 0, slots := 0, locals := 0 } (Pm E [.ref (ad E 1000 0)] μ) (Qm E (some (.int z)) μ) 0 0 (Ad E) := by
  unfold f_X10_thrown at hf
  refine met_of (cc := cX10_thrown) (nL := 1) (ret := (some .int)) (by decide) _ (Nat.le_of_ble_eq_true rfl) ?_
  intro p e s m below meth c C hr hlk hI ls hl
  have hx := C.1.1
  have hb := C.1.2.1
  have hl : lv_has ls 1 [(0, .ref (ad E 1000 0))] := hl
  refine lv_aload_n hx hb dX10_thrown_0 rfl (lv_at hl 0 rfl) ?_
  refine gf_10_0 C hI h0.1 fl_X10_133 dX10_thrown_1 ?_
  obtain rfl := Option.some.inj hf
  exact m_iret C hr hlk hI dX10_thrown_4

theorem dX10_in_0 : decode cX10_in 0 = .ok (.iload_n 0, 1) := by decide +kernel
theorem dX10_in_1 : decode cX10_in 1 = .ok (.iload_n 1, 1) := by decide +kernel
theorem dX10_in_2 : decode cX10_in 2 = .ok (.if_icmp .lt 12, 3) := by decide +kernel
theorem dX10_in_5 : decode cX10_in 5 = .ok (.iload_n 0, 1) := by decide +kernel
theorem dX10_in_6 : decode cX10_in 6 = .ok (.iload_n 2, 1) := by decide +kernel
theorem dX10_in_7 : decode cX10_in 7 = .ok (.if_icmp .gt 7, 3) := by decide +kernel
theorem dX10_in_10 : decode cX10_in 10 = .ok (.iconst 1, 1) := by decide +kernel
theorem dX10_in_11 : decode cX10_in 11 = .ok (.goto 4, 3) := by decide +kernel
theorem dX10_in_14 : decode cX10_in 14 = .ok (.iconst 0, 1) := by decide +kernel
theorem dX10_in_15 : decode cX10_in 15 = .ok (.ireturn, 1) := by decide +kernel
def f_X10_in (μ : Mm) (p0 : Int32) (p1 : Int32) (p2 : Int32) : Option Int32 :=
 if p0 < p1 then
 some (0 : Int32)
 else
 if p2 < p0 then
 some (0 : Int32)
 else
 some (1 : Int32)
set_option maxHeartbeats 4000000 in
set_option maxRecDepth 100000 in
theorem c_X10_in (l : Launch) (E : En) {μ : Mm} {p0 : Int32} {p1 : Int32} {p2 : Int32} {z : Int32} (hf : f_X10_in μ p0 p1 p2 = some z) : Met l yX10_in (wt yX10_in cX10_in 3 (some .boolean)) { frames := 0, cells := 0, slots := 0, locals := 0 } (Pm E [.int p0, .int p1, .int p2] μ) (Qm E (some (.int z)) μ) 0 0 (Ad E) := by
  unfold f_X10_in at hf
  refine met_of (cc := cX10_in) (nL := 3) (ret := (some .boolean)) (by decide) _ (Nat.le_of_ble_eq_true rfl) ?_
  intro p e s m below meth c C hr hlk hI ls hl
  have hx := C.1.1
  have hb := C.1.2.1
  have hl : lv_has ls 3 [(0, .int p0), (1, .int p1), (2, .int p2)] := hl
  refine lv_iload_n hx hb dX10_in_0 rfl (lv_at hl 0 rfl) ?_
  refine lv_iload_n hx hb dX10_in_1 rfl (lv_at hl 1 rfl) ?_
  refine lv_icmp_lt (tgt := 14) hx hb dX10_in_2 rfl (fun hc => ?_) (fun hc => ?_)
  · replace hf := it hf hc
    refine lv_iconst (v := (0 : Int32)) hx hb dX10_in_14 kc_0 ?_
    obtain rfl := Option.some.inj hf
    exact m_zret C hr hlk hI (by decide) dX10_in_15
  · replace hf := ie hf hc
    refine lv_iload_n hx hb dX10_in_5 rfl (lv_at hl 0 rfl) ?_
    refine lv_iload_n hx hb dX10_in_6 rfl (lv_at hl 2 rfl) ?_
    refine lv_icmp_gt (tgt := 14) hx hb dX10_in_7 rfl (fun hc => ?_) (fun hc => ?_)
    · replace hf := it hf hc
      refine lv_iconst (v := (0 : Int32)) hx hb dX10_in_14 kc_0 ?_
      obtain rfl := Option.some.inj hf
      exact m_zret C hr hlk hI (by decide) dX10_in_15
    · replace hf := ie hf hc
      refine lv_iconst (v := (1 : Int32)) hx hb dX10_in_10 kc_1 ?_
      refine lv_goto (tgt := 15) hx hb dX10_in_11 rfl ?_
      obtain rfl := Option.some.inj hf
      exact m_zret C hr hlk hI (by decide) dX10_in_15

theorem dX10_isTask_0 : decode cX10_isTask 0 = .ok (.iload_n 1, 1) := by decide +kernel
theorem dX10_isTask_1 : decode cX10_isTask 1 = .ok (.iconst 0, 1) := by decide +kernel
theorem dX10_isTask_2 : decode cX10_isTask 2 = .ok (.aload_n 0, 1) := by decide +kernel
theorem dX10_isTask_3 : decode cX10_isTask 3 = .ok (.getfield 13, 3) := by decide +kernel
theorem dX10_isTask_6 : decode cX10_isTask 6 = .ok (.iconst 1, 1) := by decide +kernel
theorem dX10_isTask_7 : decode cX10_isTask 7 = .ok (.isub, 1) := by decide +kernel
theorem dX10_isTask_8 : decode cX10_isTask 8 = .ok (.invokestatic 136, 3) := by decide +kernel
theorem dX10_isTask_11 : decode cX10_isTask 11 = .ok (.ireturn, 1) := by decide +kernel
def f_X10_isTask (μ : Mm) (p1 : Int32) : Option Int32 :=
 (f_X10_in μ p1 (0 : Int32) ((μ.1 1000 0 2) - (1 : Int32))).bind fun q3 =>
 gz q3
set_option maxHeartbeats 4000000 in
set_option maxRecDepth 100000 in
theorem c_X10_isTask (l : Launch) (E : En) {μ : Mm} {p1 : Int32} (h0 : l10 E 0) {z : Int32} (hf : f_X10_isTask μ p1 = some z) : Met l yX10_isTask (wt yX10_isTask cX10_isTask 2 (some .boolean)) { frames := 1, cells := 0, slots := 0, locals := 22 } (Pm E [.ref (ad E 1000 0), .int p1] μ) (Qm E (some (.int z)) μ) 0 0 (Ad E) := by
  unfold f_X10_isTask at hf
  refine met_of (cc := cX10_isTask) (nL := 2) (ret := (some .boolean)) (by decide) _ (Nat.le_of_ble_eq_true rfl) ?_
  intro p e s m below meth c C hr hlk hI ls hl
  have hx := C.1.1
  have hb := C.1.2.1
  have hl : lv_has ls 2 [(0, .ref (ad E 1000 0)), (1, .int p1)] := hl
  refine lv_iload_n hx hb dX10_isTask_0 rfl (lv_at hl 1 rfl) ?_
  refine lv_iconst (v := (0 : Int32)) hx hb dX10_isTask_1 kc_0 ?_
  refine lv_aload_n hx hb dX10_isTask_2 rfl (lv_at hl 0 rfl) ?_
  refine gf_10_2 C hI h0.1 fl_X10_13 dX10_isTask_3 ?_
  refine lv_iconst (v := (1 : Int32)) hx hb dX10_isTask_6 kc_1 ?_
  refine lv_isub hx hb dX10_isTask_7 ?_
  obtain ⟨q3, e4, hf⟩ := ob hf
  refine mcS (As := [.int p1, .int (0 : Int32), .int ((μ.1 1000 0 2) - (1 : Int32))]) (rest := []) C hI (c_X10_in l E  e4) ml_X10_136 ks_X10_in rfl rfl ⟨Nat.le_of_ble_eq_true rfl, Nat.le_of_ble_eq_true rfl⟩ ⟨Nat.zero_le _, Nat.zero_le _⟩ rfl rfl hl.1 (Nat.le_of_ble_eq_true rfl) dX10_isTask_8 (st1 := [.int q3]) rfl (fun H locs hI => ?_)
  obtain ⟨rfl, hn, -⟩ := gz_ok hf
  exact m_zret C hr hlk hI hn dX10_isTask_11

theorem dX10_isProcessor_0 : decode cX10_isProcessor 0 = .ok (.iload_n 1, 1) := by decide +kernel
theorem dX10_isProcessor_1 : decode cX10_isProcessor 1 = .ok (.iconst 0, 1) := by decide +kernel
theorem dX10_isProcessor_2 : decode cX10_isProcessor 2 = .ok (.aload_n 0, 1) := by decide +kernel
theorem dX10_isProcessor_3 : decode cX10_isProcessor 3 = .ok (.getfield 7, 3) := by decide +kernel
theorem dX10_isProcessor_6 : decode cX10_isProcessor 6 = .ok (.iconst 1, 1) := by decide +kernel
theorem dX10_isProcessor_7 : decode cX10_isProcessor 7 = .ok (.isub, 1) := by decide +kernel
theorem dX10_isProcessor_8 : decode cX10_isProcessor 8 = .ok (.invokestatic 136, 3) := by decide +kernel
theorem dX10_isProcessor_11 : decode cX10_isProcessor 11 = .ok (.ireturn, 1) := by decide +kernel
def f_X10_isProcessor (μ : Mm) (p1 : Int32) : Option Int32 :=
 (f_X10_in μ p1 (0 : Int32) ((μ.1 1000 0 1) - (1 : Int32))).bind fun q3 =>
 gz q3
set_option maxHeartbeats 4000000 in
set_option maxRecDepth 100000 in
theorem c_X10_isProcessor (l : Launch) (E : En) {μ : Mm} {p1 : Int32} (h0 : l10 E 0) {z : Int32} (hf : f_X10_isProcessor μ p1 = some z) : Met l yX10_isProcessor (wt yX10_isProcessor cX10_isProcessor 2 (some .boolean)) { frames := 1, cells := 0, slots := 0, locals := 22 } (Pm E [.ref (ad E 1000 0), .int p1] μ) (Qm E (some (.int z)) μ) 0 0 (Ad E) := by
  unfold f_X10_isProcessor at hf
  refine met_of (cc := cX10_isProcessor) (nL := 2) (ret := (some .boolean)) (by decide) _ (Nat.le_of_ble_eq_true rfl) ?_
  intro p e s m below meth c C hr hlk hI ls hl
  have hx := C.1.1
  have hb := C.1.2.1
  have hl : lv_has ls 2 [(0, .ref (ad E 1000 0)), (1, .int p1)] := hl
  refine lv_iload_n hx hb dX10_isProcessor_0 rfl (lv_at hl 1 rfl) ?_
  refine lv_iconst (v := (0 : Int32)) hx hb dX10_isProcessor_1 kc_0 ?_
  refine lv_aload_n hx hb dX10_isProcessor_2 rfl (lv_at hl 0 rfl) ?_
  refine gf_10_1 C hI h0.1 fl_X10_7 dX10_isProcessor_3 ?_
  refine lv_iconst (v := (1 : Int32)) hx hb dX10_isProcessor_6 kc_1 ?_
  refine lv_isub hx hb dX10_isProcessor_7 ?_
  obtain ⟨q3, e4, hf⟩ := ob hf
  refine mcS (As := [.int p1, .int (0 : Int32), .int ((μ.1 1000 0 1) - (1 : Int32))]) (rest := []) C hI (c_X10_in l E  e4) ml_X10_136 ks_X10_in rfl rfl ⟨Nat.le_of_ble_eq_true rfl, Nat.le_of_ble_eq_true rfl⟩ ⟨Nat.zero_le _, Nat.zero_le _⟩ rfl rfl hl.1 (Nat.le_of_ble_eq_true rfl) dX10_isProcessor_8 (st1 := [.int q3]) rfl (fun H locs hI => ?_)
  obtain ⟨rfl, hn, -⟩ := gz_ok hf
  exact m_zret C hr hlk hI hn dX10_isProcessor_11

theorem dX10_refuse_0 : decode cX10_refuse 0 = .ok (.aload_n 0, 1) := by decide +kernel
theorem dX10_refuse_1 : decode cX10_refuse 1 = .ok (.dup, 1) := by decide +kernel
theorem dX10_refuse_2 : decode cX10_refuse 2 = .ok (.getfield 140, 3) := by decide +kernel
theorem dX10_refuse_5 : decode cX10_refuse 5 = .ok (.iconst 1, 1) := by decide +kernel
theorem dX10_refuse_6 : decode cX10_refuse 6 = .ok (.iadd, 1) := by decide +kernel
theorem dX10_refuse_7 : decode cX10_refuse 7 = .ok (.putfield 140, 3) := by decide +kernel
theorem dX10_refuse_10 : decode cX10_refuse 10 = .ok (.iload_n 1, 1) := by decide +kernel
theorem dX10_refuse_11 : decode cX10_refuse 11 = .ok (.ireturn, 1) := by decide +kernel
def f_X10_refuse (μ : Mm) (p1 : Int32) : Option (Int32 × Mm) :=
 (wf μ 1000 0 18 ((μ.1 1000 0 18) + (1 : Int32))).bind fun m3 =>
 some (p1, m3)
set_option maxHeartbeats 4000000 in
set_option maxRecDepth 100000 in
theorem c_X10_refuse (l : Launch) (E : En) {μ : Mm} {p1 : Int32} (h0 : l10 E 0) {z : Int32 × Mm} (hf : f_X10_refuse μ p1 = some z) : Met l yX10_refuse (wt yX10_refuse cX10_refuse 2 (some .int)) { frames := 0, cells := 0, slots := 0, locals := 0 } (Pm E [.ref (ad E 1000 0), .int p1] μ) (Qm E (some (.int z.1)) z.2) 0 0 (Ad E) := by
  unfold f_X10_refuse at hf
  refine met_of (cc := cX10_refuse) (nL := 2) (ret := (some .int)) (by decide) _ (Nat.le_of_ble_eq_true rfl) ?_
  intro p e s m below meth c C hr hlk hI ls hl
  have hx := C.1.1
  have hb := C.1.2.1
  have hl : lv_has ls 2 [(0, .ref (ad E 1000 0)), (1, .int p1)] := hl
  refine lv_aload_n hx hb dX10_refuse_0 rfl (lv_at hl 0 rfl) ?_
  refine lv_dup hx hb dX10_refuse_1 rfl ?_
  refine gf_10_18 C hI h0.1 fl_X10_140 dX10_refuse_2 ?_
  refine lv_iconst (v := (1 : Int32)) hx hb dX10_refuse_5 kc_1 ?_
  refine lv_iadd hx hb dX10_refuse_6 ?_
  obtain ⟨m3, e4, hf⟩ := ob hf
  refine pf_10_18 C hI h0.1 fl_X10_140 e4 dX10_refuse_7 (fun H locs hI => ?_)
  refine lv_iload_n hx hb dX10_refuse_10 rfl (lv_at hl 1 rfl) ?_
  obtain rfl := Option.some.inj hf
  exact m_iret C hr hlk hI dX10_refuse_11

theorem dX10_begin_0 : decode cX10_begin 0 = .ok (.iload_n 1, 1) := by decide +kernel
theorem dX10_begin_1 : decode cX10_begin 1 = .ok (.iconst 1, 1) := by decide +kernel
theorem dX10_begin_2 : decode cX10_begin 2 = .ok (.iconst 3, 1) := by decide +kernel
theorem dX10_begin_3 : decode cX10_begin 3 = .ok (.invokestatic 136, 3) := by decide +kernel
theorem dX10_begin_6 : decode cX10_begin 6 = .ok (.ifCond .eq 23, 3) := by decide +kernel
theorem dX10_begin_9 : decode cX10_begin 9 = .ok (.iload_n 2, 1) := by decide +kernel
theorem dX10_begin_10 : decode cX10_begin 10 = .ok (.iconst 1, 1) := by decide +kernel
theorem dX10_begin_11 : decode cX10_begin 11 = .ok (.bipush 8, 2) := by decide +kernel
theorem dX10_begin_13 : decode cX10_begin 13 = .ok (.invokestatic 136, 3) := by decide +kernel
theorem dX10_begin_16 : decode cX10_begin 16 = .ok (.ifCond .eq 13, 3) := by decide +kernel
theorem dX10_begin_19 : decode cX10_begin 19 = .ok (.iload_n 3, 1) := by decide +kernel
theorem dX10_begin_20 : decode cX10_begin 20 = .ok (.iconst 4, 1) := by decide +kernel
theorem dX10_begin_21 : decode cX10_begin 21 = .ok (.bipush 16, 2) := by decide +kernel
theorem dX10_begin_23 : decode cX10_begin 23 = .ok (.invokestatic 136, 3) := by decide +kernel
theorem dX10_begin_26 : decode cX10_begin 26 = .ok (.ifCond .ne 5, 3) := by decide +kernel
theorem dX10_begin_29 : decode cX10_begin 29 = .ok (.iconst (-1), 1) := by decide +kernel
theorem dX10_begin_30 : decode cX10_begin 30 = .ok (.ireturn, 1) := by decide +kernel
theorem dX10_begin_31 : decode cX10_begin 31 = .ok (.aload_n 0, 1) := by decide +kernel
theorem dX10_begin_32 : decode cX10_begin 32 = .ok (.iload_n 1, 1) := by decide +kernel
theorem dX10_begin_33 : decode cX10_begin 33 = .ok (.putfield 7, 3) := by decide +kernel
theorem dX10_begin_36 : decode cX10_begin 36 = .ok (.aload_n 0, 1) := by decide +kernel
theorem dX10_begin_37 : decode cX10_begin 37 = .ok (.iload_n 2, 1) := by decide +kernel
theorem dX10_begin_38 : decode cX10_begin 38 = .ok (.putfield 13, 3) := by decide +kernel
theorem dX10_begin_41 : decode cX10_begin 41 = .ok (.aload_n 0, 1) := by decide +kernel
theorem dX10_begin_42 : decode cX10_begin 42 = .ok (.iload_n 3, 1) := by decide +kernel
theorem dX10_begin_43 : decode cX10_begin 43 = .ok (.putfield 16, 3) := by decide +kernel
theorem dX10_begin_46 : decode cX10_begin 46 = .ok (.iconst 0, 1) := by decide +kernel
theorem dX10_begin_47 : decode cX10_begin 47 = .ok (.istore 4, 2) := by decide +kernel
theorem dX10_begin_49 : decode cX10_begin 49 = .ok (.iload 4, 2) := by decide +kernel
theorem dX10_begin_51 : decode cX10_begin 51 = .ok (.bipush 8, 2) := by decide +kernel
theorem dX10_begin_53 : decode cX10_begin 53 = .ok (.if_icmp .ge 33, 3) := by decide +kernel
theorem dX10_begin_56 : decode cX10_begin 56 = .ok (.aload_n 0, 1) := by decide +kernel
theorem dX10_begin_57 : decode cX10_begin 57 = .ok (.getfield 19, 3) := by decide +kernel
theorem dX10_begin_60 : decode cX10_begin 60 = .ok (.iload 4, 2) := by decide +kernel
theorem dX10_begin_62 : decode cX10_begin 62 = .ok (.iconst 0, 1) := by decide +kernel
theorem dX10_begin_63 : decode cX10_begin 63 = .ok (.iastore, 1) := by decide +kernel
theorem dX10_begin_64 : decode cX10_begin 64 = .ok (.aload_n 0, 1) := by decide +kernel
theorem dX10_begin_65 : decode cX10_begin 65 = .ok (.getfield 23, 3) := by decide +kernel
theorem dX10_begin_68 : decode cX10_begin 68 = .ok (.iload 4, 2) := by decide +kernel
theorem dX10_begin_70 : decode cX10_begin 70 = .ok (.iconst 0, 1) := by decide +kernel
theorem dX10_begin_71 : decode cX10_begin 71 = .ok (.iastore, 1) := by decide +kernel
theorem dX10_begin_72 : decode cX10_begin 72 = .ok (.aload_n 0, 1) := by decide +kernel
theorem dX10_begin_73 : decode cX10_begin 73 = .ok (.getfield 26, 3) := by decide +kernel
theorem dX10_begin_76 : decode cX10_begin 76 = .ok (.iload 4, 2) := by decide +kernel
theorem dX10_begin_78 : decode cX10_begin 78 = .ok (.iconst (-1), 1) := by decide +kernel
theorem dX10_begin_79 : decode cX10_begin 79 = .ok (.iastore, 1) := by decide +kernel
theorem dX10_begin_80 : decode cX10_begin 80 = .ok (.iinc 4 1, 3) := by decide +kernel
theorem dX10_begin_83 : decode cX10_begin 83 = .ok (.goto (-34), 3) := by decide +kernel
theorem dX10_begin_86 : decode cX10_begin 86 = .ok (.iconst 0, 1) := by decide +kernel
theorem dX10_begin_87 : decode cX10_begin 87 = .ok (.istore 4, 2) := by decide +kernel
theorem dX10_begin_89 : decode cX10_begin 89 = .ok (.iload 4, 2) := by decide +kernel
theorem dX10_begin_91 : decode cX10_begin 91 = .ok (.iconst 3, 1) := by decide +kernel
theorem dX10_begin_92 : decode cX10_begin 92 = .ok (.if_icmp .ge 17, 3) := by decide +kernel
theorem dX10_begin_95 : decode cX10_begin 95 = .ok (.aload_n 0, 1) := by decide +kernel
theorem dX10_begin_96 : decode cX10_begin 96 = .ok (.getfield 29, 3) := by decide +kernel
theorem dX10_begin_99 : decode cX10_begin 99 = .ok (.iload 4, 2) := by decide +kernel
theorem dX10_begin_101 : decode cX10_begin 101 = .ok (.iconst 0, 1) := by decide +kernel
theorem dX10_begin_102 : decode cX10_begin 102 = .ok (.iastore, 1) := by decide +kernel
theorem dX10_begin_103 : decode cX10_begin 103 = .ok (.iinc 4 1, 3) := by decide +kernel
theorem dX10_begin_106 : decode cX10_begin 106 = .ok (.goto (-17), 3) := by decide +kernel
theorem dX10_begin_109 : decode cX10_begin 109 = .ok (.aload_n 0, 1) := by decide +kernel
theorem dX10_begin_110 : decode cX10_begin 110 = .ok (.iconst 0, 1) := by decide +kernel
theorem dX10_begin_111 : decode cX10_begin 111 = .ok (.putfield 143, 3) := by decide +kernel
theorem dX10_begin_114 : decode cX10_begin 114 = .ok (.aload_n 0, 1) := by decide +kernel
theorem dX10_begin_115 : decode cX10_begin 115 = .ok (.iconst 0, 1) := by decide +kernel
theorem dX10_begin_116 : decode cX10_begin 116 = .ok (.putfield 146, 3) := by decide +kernel
theorem dX10_begin_119 : decode cX10_begin 119 = .ok (.aload_n 0, 1) := by decide +kernel
theorem dX10_begin_120 : decode cX10_begin 120 = .ok (.iconst 0, 1) := by decide +kernel
theorem dX10_begin_121 : decode cX10_begin 121 = .ok (.putfield 140, 3) := by decide +kernel
theorem dX10_begin_124 : decode cX10_begin 124 = .ok (.iload_n 1, 1) := by decide +kernel
theorem dX10_begin_125 : decode cX10_begin 125 = .ok (.ireturn, 1) := by decide +kernel
def f_X10_begin_b89 (F : Nat) : Nat → Mm → Int32 → Int32 → Option (Int32 × Mm)
 | 0, _, _, _ => none
 | N + 1, μ, a1, a4 =>
 if (3 : Int32) ≤ a4 then
 (wf μ 1000 0 12 (0 : Int32)).bind fun m27 =>
 (wf m27 1000 0 17 (0 : Int32)).bind fun m29 =>
 (wf m29 1000 0 18 (0 : Int32)).bind fun m31 =>
 some (a1, m31)
 else
 (wa μ 1008 0 21 a4 (0 : Int32)).bind fun m33 =>
 f_X10_begin_b89 F N m33 a1 (a4 + (1 : Int32))
set_option maxHeartbeats 4000000 in
set_option maxRecDepth 100000 in
theorem cb_X10_begin_89 {l : Launch} {E : En} {p : Program} {e : Env} {s : State} {m : MethodId} {av : Array Value} {below : List Frame} {meth : Method} {c : Code} (C : Cx E p s m av c cX10_begin 5 yX10_begin.cls) (hr : meth.sig.returnType = (some .int)) (hlk : meth.locks = false) {F : Nat} {z : Int32 × Mm} : ∀ (N : Nat) (μ : Mm) (a1 : Int32) (a4 : Int32) (h_a0 : l10 E 0), f_X10_begin_b89 F N μ a1 a4 = some z → ∀ {H : Heap} {locs : List Loc} {ls : Array Slot}, Iv E s μ H locs → lv_has ls 5 [(0, .ref (ad E 1000 0)), (1, .int a1), (4, .int a4)] → W p l e { frames := 1, cells := 0, slots := 0, locals := 22 } s m av below meth c H locs 0 0 (MQ below (Qm E (some (.int z.1)) z.2) av s 0 0 (Ad E)) (F0 m 89 ls []) := by
  have hx := C.1.1
  have hb := C.1.2.1
  intro N
  induction N with
  | zero => intro μ a1 a4 h_a0 hf; cases hf
  | succ N ih =>
    intro μ a1 a4 h_a0 hf H locs ls hI hl
    rw [f_X10_begin_b89] at hf
    refine lv_iload hx hb dX10_begin_89 (lv_at hl 2 rfl) ?_
    refine lv_iconst (v := (3 : Int32)) hx hb dX10_begin_91 kc_3 ?_
    refine lv_icmp_ge (tgt := 109) hx hb dX10_begin_92 rfl (fun hc => ?_) (fun hc => ?_)
    · replace hf := it hf hc
      refine lv_aload_n hx hb dX10_begin_109 rfl (lv_at hl 0 rfl) ?_
      refine lv_iconst (v := (0 : Int32)) hx hb dX10_begin_110 kc_0 ?_
      obtain ⟨m27, e28, hf⟩ := ob hf
      refine pf_10_12 C hI h_a0.1 fl_X10_143 e28 dX10_begin_111 (fun H locs hI => ?_)
      refine lv_aload_n hx hb dX10_begin_114 rfl (lv_at hl 0 rfl) ?_
      refine lv_iconst (v := (0 : Int32)) hx hb dX10_begin_115 kc_0 ?_
      obtain ⟨m29, e30, hf⟩ := ob hf
      refine pf_10_17 C hI h_a0.1 fl_X10_146 e30 dX10_begin_116 (fun H locs hI => ?_)
      refine lv_aload_n hx hb dX10_begin_119 rfl (lv_at hl 0 rfl) ?_
      refine lv_iconst (v := (0 : Int32)) hx hb dX10_begin_120 kc_0 ?_
      obtain ⟨m31, e32, hf⟩ := ob hf
      refine pf_10_18 C hI h_a0.1 fl_X10_140 e32 dX10_begin_121 (fun H locs hI => ?_)
      refine lv_iload_n hx hb dX10_begin_124 rfl (lv_at hl 1 rfl) ?_
      obtain rfl := Option.some.inj hf
      exact m_iret C hr hlk hI dX10_begin_125
    · replace hf := ie hf hc
      refine lv_aload_n hx hb dX10_begin_95 rfl (lv_at hl 0 rfl) ?_
      refine gf_10_7 C hI h_a0.1 fl_X10_29 dX10_begin_96 ?_
      refine lv_iload hx hb dX10_begin_99 (lv_at hl 2 rfl) ?_
      refine lv_iconst (v := (0 : Int32)) hx hb dX10_begin_101 kc_0 ?_
      obtain ⟨m33, e34, hf⟩ := ob hf
      refine m_iast C hI h_a0.2.2.2.2.1 (ce_1008 E _) e34 dX10_begin_102 (fun H locs hI => ?_)
      refine lv_iinc (v := a4 + (1 : Int32)) hx hb dX10_begin_103 hl (k := 2) rfl (ki_1 _) (by decide) rfl (fun ls hl => ?_)
      have hl : lv_has ls 5 [(4, .int (a4 + (1 : Int32))), (0, .ref (ad E 1000 0)), (1, .int a1)] := hl
      refine lv_goto (tgt := 89) hx hb dX10_begin_106 rfl ?_
      exact ih _ _ _ h_a0 hf hI (lv_sub hl [1, 2, 0] rfl)
def f_X10_begin_b49 (F : Nat) : Nat → Mm → Int32 → Int32 → Option (Int32 × Mm)
 | 0, _, _, _ => none
 | N + 1, μ, a1, a4 =>
 if (8 : Int32) ≤ a4 then
 f_X10_begin_b89 F F μ a1 (0 : Int32)
 else
 (wa μ 1005 0 8 a4 (0 : Int32)).bind fun m35 =>
 (wa m35 1006 0 8 a4 (0 : Int32)).bind fun m37 =>
 (wa m37 1007 0 8 a4 (-1 : Int32)).bind fun m39 =>
 f_X10_begin_b49 F N m39 a1 (a4 + (1 : Int32))
set_option maxHeartbeats 4000000 in
set_option maxRecDepth 100000 in
theorem cb_X10_begin_49 {l : Launch} {E : En} {p : Program} {e : Env} {s : State} {m : MethodId} {av : Array Value} {below : List Frame} {meth : Method} {c : Code} (C : Cx E p s m av c cX10_begin 5 yX10_begin.cls) (hr : meth.sig.returnType = (some .int)) (hlk : meth.locks = false) {F : Nat} {z : Int32 × Mm} : ∀ (N : Nat) (μ : Mm) (a1 : Int32) (a4 : Int32) (h_a0 : l10 E 0), f_X10_begin_b49 F N μ a1 a4 = some z → ∀ {H : Heap} {locs : List Loc} {ls : Array Slot}, Iv E s μ H locs → lv_has ls 5 [(0, .ref (ad E 1000 0)), (1, .int a1), (4, .int a4)] → W p l e { frames := 1, cells := 0, slots := 0, locals := 22 } s m av below meth c H locs 0 0 (MQ below (Qm E (some (.int z.1)) z.2) av s 0 0 (Ad E)) (F0 m 49 ls []) := by
  have hx := C.1.1
  have hb := C.1.2.1
  intro N
  induction N with
  | zero => intro μ a1 a4 h_a0 hf; cases hf
  | succ N ih =>
    intro μ a1 a4 h_a0 hf H locs ls hI hl
    rw [f_X10_begin_b49] at hf
    refine lv_iload hx hb dX10_begin_49 (lv_at hl 2 rfl) ?_
    refine lv_bipush (v := (8 : Int32)) hx hb dX10_begin_51 kb_8 ?_
    refine lv_icmp_ge (tgt := 86) hx hb dX10_begin_53 rfl (fun hc => ?_) (fun hc => ?_)
    · replace hf := it hf hc
      refine lv_iconst (v := (0 : Int32)) hx hb dX10_begin_86 kc_0 ?_
      refine lv_istore hx hb dX10_begin_87 hl (by decide) rfl (fun ls hl => ?_)
      have hl : lv_has ls 5 [(4, .int (0 : Int32)), (0, .ref (ad E 1000 0)), (1, .int a1)] := hl
      exact cb_X10_begin_89 C hr hlk  _ _ _ _ h_a0 hf hI (lv_sub hl [1, 2, 0] rfl)
    · replace hf := ie hf hc
      refine lv_aload_n hx hb dX10_begin_56 rfl (lv_at hl 0 rfl) ?_
      refine gf_10_4 C hI h_a0.1 fl_X10_19 dX10_begin_57 ?_
      refine lv_iload hx hb dX10_begin_60 (lv_at hl 2 rfl) ?_
      refine lv_iconst (v := (0 : Int32)) hx hb dX10_begin_62 kc_0 ?_
      obtain ⟨m35, e36, hf⟩ := ob hf
      refine m_iast C hI h_a0.2.1 (ce_1005 E _) e36 dX10_begin_63 (fun H locs hI => ?_)
      refine lv_aload_n hx hb dX10_begin_64 rfl (lv_at hl 0 rfl) ?_
      refine gf_10_5 C hI h_a0.1 fl_X10_23 dX10_begin_65 ?_
      refine lv_iload hx hb dX10_begin_68 (lv_at hl 2 rfl) ?_
      refine lv_iconst (v := (0 : Int32)) hx hb dX10_begin_70 kc_0 ?_
      obtain ⟨m37, e38, hf⟩ := ob hf
      refine m_iast C hI h_a0.2.2.1 (ce_1006 E _) e38 dX10_begin_71 (fun H locs hI => ?_)
      refine lv_aload_n hx hb dX10_begin_72 rfl (lv_at hl 0 rfl) ?_
      refine gf_10_6 C hI h_a0.1 fl_X10_26 dX10_begin_73 ?_
      refine lv_iload hx hb dX10_begin_76 (lv_at hl 2 rfl) ?_
      refine lv_iconst (v := (-1 : Int32)) hx hb dX10_begin_78 kc_m1 ?_
      obtain ⟨m39, e40, hf⟩ := ob hf
      refine m_iast C hI h_a0.2.2.2.1 (ce_1007 E _) e40 dX10_begin_79 (fun H locs hI => ?_)
      refine lv_iinc (v := a4 + (1 : Int32)) hx hb dX10_begin_80 hl (k := 2) rfl (ki_1 _) (by decide) rfl (fun ls hl => ?_)
      have hl : lv_has ls 5 [(4, .int (a4 + (1 : Int32))), (0, .ref (ad E 1000 0)), (1, .int a1)] := hl
      refine lv_goto (tgt := 49) hx hb dX10_begin_83 rfl ?_
      exact ih _ _ _ h_a0 hf hI (lv_sub hl [1, 2, 0] rfl)
def f_X10_begin (F : Nat) (μ : Mm) (p1 : Int32) (p2 : Int32) (p3 : Int32) : Option (Int32 × Mm) :=
 (f_X10_in μ p1 (1 : Int32) (3 : Int32)).bind fun q41 =>
 if q41 = 0 then
 some ((-1 : Int32), μ)
 else
 (f_X10_in μ p2 (1 : Int32) (8 : Int32)).bind fun q43 =>
 if q43 = 0 then
 some ((-1 : Int32), μ)
 else
 (f_X10_in μ p3 (4 : Int32) (16 : Int32)).bind fun q45 =>
 if q45 = 0 then
 some ((-1 : Int32), μ)
 else
 (wf μ 1000 0 1 p1).bind fun m47 =>
 (wf m47 1000 0 2 p2).bind fun m49 =>
 (wf m49 1000 0 3 p3).bind fun m51 =>
 f_X10_begin_b49 F F m51 p1 (0 : Int32)
set_option maxHeartbeats 4000000 in
set_option maxRecDepth 100000 in
theorem c_X10_begin (l : Launch) (E : En) {F : Nat} {μ : Mm} {p1 : Int32} {p2 : Int32} {p3 : Int32} (h0 : l10 E 0) {z : Int32 × Mm} (hf : f_X10_begin F μ p1 p2 p3 = some z) : Met l yX10_begin (wt yX10_begin cX10_begin 5 (some .int)) { frames := 1, cells := 0, slots := 0, locals := 22 } (Pm E [.ref (ad E 1000 0), .int p1, .int p2, .int p3] μ) (Qm E (some (.int z.1)) z.2) 0 0 (Ad E) := by
  unfold f_X10_begin at hf
  refine met_of (cc := cX10_begin) (nL := 5) (ret := (some .int)) (by decide) _ (Nat.le_of_ble_eq_true rfl) ?_
  intro p e s m below meth c C hr hlk hI ls hl
  have hx := C.1.1
  have hb := C.1.2.1
  have hl : lv_has ls 5 [(0, .ref (ad E 1000 0)), (1, .int p1), (2, .int p2), (3, .int p3)] := hl
  refine lv_iload_n hx hb dX10_begin_0 rfl (lv_at hl 1 rfl) ?_
  refine lv_iconst (v := (1 : Int32)) hx hb dX10_begin_1 kc_1 ?_
  refine lv_iconst (v := (3 : Int32)) hx hb dX10_begin_2 kc_3 ?_
  obtain ⟨q41, e42, hf⟩ := ob hf
  refine mcS (As := [.int p1, .int (1 : Int32), .int (3 : Int32)]) (rest := []) C hI (c_X10_in l E  e42) ml_X10_136 ks_X10_in rfl rfl ⟨Nat.le_of_ble_eq_true rfl, Nat.le_of_ble_eq_true rfl⟩ ⟨Nat.zero_le _, Nat.zero_le _⟩ rfl rfl hl.1 (Nat.le_of_ble_eq_true rfl) dX10_begin_3 (st1 := [.int q41]) rfl (fun H locs hI => ?_)
  refine lv_if_eq (tgt := 29) hx hb dX10_begin_6 rfl (fun hc => ?_) (fun hc => ?_)
  · replace hf := it hf hc
    refine lv_iconst (v := (-1 : Int32)) hx hb dX10_begin_29 kc_m1 ?_
    obtain rfl := Option.some.inj hf
    exact m_iret C hr hlk hI dX10_begin_30
  · replace hf := ie hf hc
    refine lv_iload_n hx hb dX10_begin_9 rfl (lv_at hl 2 rfl) ?_
    refine lv_iconst (v := (1 : Int32)) hx hb dX10_begin_10 kc_1 ?_
    refine lv_bipush (v := (8 : Int32)) hx hb dX10_begin_11 kb_8 ?_
    obtain ⟨q43, e44, hf⟩ := ob hf
    refine mcS (As := [.int p2, .int (1 : Int32), .int (8 : Int32)]) (rest := []) C hI (c_X10_in l E  e44) ml_X10_136 ks_X10_in rfl rfl ⟨Nat.le_of_ble_eq_true rfl, Nat.le_of_ble_eq_true rfl⟩ ⟨Nat.zero_le _, Nat.zero_le _⟩ rfl rfl hl.1 (Nat.le_of_ble_eq_true rfl) dX10_begin_13 (st1 := [.int q43]) rfl (fun H locs hI => ?_)
    refine lv_if_eq (tgt := 29) hx hb dX10_begin_16 rfl (fun hc => ?_) (fun hc => ?_)
    · replace hf := it hf hc
      refine lv_iconst (v := (-1 : Int32)) hx hb dX10_begin_29 kc_m1 ?_
      obtain rfl := Option.some.inj hf
      exact m_iret C hr hlk hI dX10_begin_30
    · replace hf := ie hf hc
      refine lv_iload_n hx hb dX10_begin_19 rfl (lv_at hl 3 rfl) ?_
      refine lv_iconst (v := (4 : Int32)) hx hb dX10_begin_20 kc_4 ?_
      refine lv_bipush (v := (16 : Int32)) hx hb dX10_begin_21 kb_16 ?_
      obtain ⟨q45, e46, hf⟩ := ob hf
      refine mcS (As := [.int p3, .int (4 : Int32), .int (16 : Int32)]) (rest := []) C hI (c_X10_in l E  e46) ml_X10_136 ks_X10_in rfl rfl ⟨Nat.le_of_ble_eq_true rfl, Nat.le_of_ble_eq_true rfl⟩ ⟨Nat.zero_le _, Nat.zero_le _⟩ rfl rfl hl.1 (Nat.le_of_ble_eq_true rfl) dX10_begin_23 (st1 := [.int q45]) rfl (fun H locs hI => ?_)
      refine lv_if_ne (tgt := 31) hx hb dX10_begin_26 rfl (fun hc => ?_) (fun hc => ?_)
      · replace hf := ie hf hc
        refine lv_aload_n hx hb dX10_begin_31 rfl (lv_at hl 0 rfl) ?_
        refine lv_iload_n hx hb dX10_begin_32 rfl (lv_at hl 1 rfl) ?_
        obtain ⟨m47, e48, hf⟩ := ob hf
        refine pf_10_1 C hI h0.1 fl_X10_7 e48 dX10_begin_33 (fun H locs hI => ?_)
        refine lv_aload_n hx hb dX10_begin_36 rfl (lv_at hl 0 rfl) ?_
        refine lv_iload_n hx hb dX10_begin_37 rfl (lv_at hl 2 rfl) ?_
        obtain ⟨m49, e50, hf⟩ := ob hf
        refine pf_10_2 C hI h0.1 fl_X10_13 e50 dX10_begin_38 (fun H locs hI => ?_)
        refine lv_aload_n hx hb dX10_begin_41 rfl (lv_at hl 0 rfl) ?_
        refine lv_iload_n hx hb dX10_begin_42 rfl (lv_at hl 3 rfl) ?_
        obtain ⟨m51, e52, hf⟩ := ob hf
        refine pf_10_3 C hI h0.1 fl_X10_16 e52 dX10_begin_43 (fun H locs hI => ?_)
        refine lv_iconst (v := (0 : Int32)) hx hb dX10_begin_46 kc_0 ?_
        refine lv_istore hx hb dX10_begin_47 hl (by decide) rfl (fun ls hl => ?_)
        have hl : lv_has ls 5 [(4, .int (0 : Int32)), (0, .ref (ad E 1000 0)), (1, .int p1), (2, .int p2), (3, .int p3)] := hl
        exact cb_X10_begin_49 C hr hlk  _ _ _ _ h0 hf hI (lv_sub hl [1, 2, 0] rfl)
      · replace hf := it hf hc
        refine lv_iconst (v := (-1 : Int32)) hx hb dX10_begin_29 kc_m1 ?_
        obtain rfl := Option.some.inj hf
        exact m_iret C hr hlk hI dX10_begin_30

theorem dX10_all_0 : decode cX10_all 0 = .ok (.aload_n 0, 1) := by decide +kernel
theorem dX10_all_1 : decode cX10_all 1 = .ok (.getfield 29, 3) := by decide +kernel
theorem dX10_all_4 : decode cX10_all 4 = .ok (.iconst 0, 1) := by decide +kernel
theorem dX10_all_5 : decode cX10_all 5 = .ok (.iaload, 1) := by decide +kernel
theorem dX10_all_6 : decode cX10_all 6 = .ok (.aload_n 0, 1) := by decide +kernel
theorem dX10_all_7 : decode cX10_all 7 = .ok (.getfield 29, 3) := by decide +kernel
theorem dX10_all_10 : decode cX10_all 10 = .ok (.iconst 1, 1) := by decide +kernel
theorem dX10_all_11 : decode cX10_all 11 = .ok (.iaload, 1) := by decide +kernel
theorem dX10_all_12 : decode cX10_all 12 = .ok (.iadd, 1) := by decide +kernel
theorem dX10_all_13 : decode cX10_all 13 = .ok (.aload_n 0, 1) := by decide +kernel
theorem dX10_all_14 : decode cX10_all 14 = .ok (.getfield 29, 3) := by decide +kernel
theorem dX10_all_17 : decode cX10_all 17 = .ok (.iconst 2, 1) := by decide +kernel
theorem dX10_all_18 : decode cX10_all 18 = .ok (.iaload, 1) := by decide +kernel
theorem dX10_all_19 : decode cX10_all 19 = .ok (.iadd, 1) := by decide +kernel
theorem dX10_all_20 : decode cX10_all 20 = .ok (.ireturn, 1) := by decide +kernel
def f_X10_all (μ : Mm) : Option Int32 :=
 (ra μ 1008 0 21 (0 : Int32)).bind fun v7 =>
 (ra μ 1008 0 21 (1 : Int32)).bind fun v9 =>
 (ra μ 1008 0 21 (2 : Int32)).bind fun v11 =>
 some ((v7 + v9) + v11)
set_option maxHeartbeats 4000000 in
set_option maxRecDepth 100000 in
theorem c_X10_all (l : Launch) (E : En) {μ : Mm} (h0 : l10 E 0) {z : Int32} (hf : f_X10_all μ = some z) : Met l yX10_all (wt yX10_all cX10_all 1 (some .int)) { frames := 0, cells := 0, slots := 0, locals := 0 } (Pm E [.ref (ad E 1000 0)] μ) (Qm E (some (.int z)) μ) 0 0 (Ad E) := by
  unfold f_X10_all at hf
  refine met_of (cc := cX10_all) (nL := 1) (ret := (some .int)) (by decide) _ (Nat.le_of_ble_eq_true rfl) ?_
  intro p e s m below meth c C hr hlk hI ls hl
  have hx := C.1.1
  have hb := C.1.2.1
  have hl : lv_has ls 1 [(0, .ref (ad E 1000 0))] := hl
  refine lv_aload_n hx hb dX10_all_0 rfl (lv_at hl 0 rfl) ?_
  refine gf_10_7 C hI h0.1 fl_X10_29 dX10_all_1 ?_
  refine lv_iconst (v := (0 : Int32)) hx hb dX10_all_4 kc_0 ?_
  obtain ⟨v7, e8, hf⟩ := ob hf
  refine m_iald C hI h0.2.2.2.2.1 (ce_1008 E _ _ _) e8 dX10_all_5 ?_
  refine lv_aload_n hx hb dX10_all_6 rfl (lv_at hl 0 rfl) ?_
  refine gf_10_7 C hI h0.1 fl_X10_29 dX10_all_7 ?_
  refine lv_iconst (v := (1 : Int32)) hx hb dX10_all_10 kc_1 ?_
  obtain ⟨v9, e10, hf⟩ := ob hf
  refine m_iald C hI h0.2.2.2.2.1 (ce_1008 E _ _ _) e10 dX10_all_11 ?_
  refine lv_iadd hx hb dX10_all_12 ?_
  refine lv_aload_n hx hb dX10_all_13 rfl (lv_at hl 0 rfl) ?_
  refine gf_10_7 C hI h0.1 fl_X10_29 dX10_all_14 ?_
  refine lv_iconst (v := (2 : Int32)) hx hb dX10_all_17 kc_2 ?_
  obtain ⟨v11, e12, hf⟩ := ob hf
  refine m_iald C hI h0.2.2.2.2.1 (ce_1008 E _ _ _) e12 dX10_all_18 ?_
  refine lv_iadd hx hb dX10_all_19 ?_
  obtain rfl := Option.some.inj hf
  exact m_iret C hr hlk hI dX10_all_20

theorem dX10_home_0 : decode cX10_home 0 = .ok (.aload_n 0, 1) := by decide +kernel
theorem dX10_home_1 : decode cX10_home 1 = .ok (.iload_n 1, 1) := by decide +kernel
theorem dX10_home_2 : decode cX10_home 2 = .ok (.invokevirtual 149, 3) := by decide +kernel
theorem dX10_home_5 : decode cX10_home 5 = .ok (.ifCond .eq 11, 3) := by decide +kernel
theorem dX10_home_8 : decode cX10_home 8 = .ok (.aload_n 0, 1) := by decide +kernel
theorem dX10_home_9 : decode cX10_home 9 = .ok (.iload_n 2, 1) := by decide +kernel
theorem dX10_home_10 : decode cX10_home 10 = .ok (.invokevirtual 153, 3) := by decide +kernel
theorem dX10_home_13 : decode cX10_home 13 = .ok (.ifCond .ne 5, 3) := by decide +kernel
theorem dX10_home_16 : decode cX10_home 16 = .ok (.iconst (-1), 1) := by decide +kernel
theorem dX10_home_17 : decode cX10_home 17 = .ok (.ireturn, 1) := by decide +kernel
theorem dX10_home_18 : decode cX10_home 18 = .ok (.aload_n 0, 1) := by decide +kernel
theorem dX10_home_19 : decode cX10_home 19 = .ok (.invokevirtual 156, 3) := by decide +kernel
theorem dX10_home_22 : decode cX10_home 22 = .ok (.ifCond .le 6, 3) := by decide +kernel
theorem dX10_home_25 : decode cX10_home 25 = .ok (.bipush (-2), 2) := by decide +kernel
theorem dX10_home_27 : decode cX10_home 27 = .ok (.ireturn, 1) := by decide +kernel
theorem dX10_home_28 : decode cX10_home 28 = .ok (.aload_n 0, 1) := by decide +kernel
theorem dX10_home_29 : decode cX10_home 29 = .ok (.getfield 19, 3) := by decide +kernel
theorem dX10_home_32 : decode cX10_home 32 = .ok (.iload_n 1, 1) := by decide +kernel
theorem dX10_home_33 : decode cX10_home 33 = .ok (.iaload, 1) := by decide +kernel
theorem dX10_home_34 : decode cX10_home 34 = .ok (.istore_n 3, 1) := by decide +kernel
theorem dX10_home_35 : decode cX10_home 35 = .ok (.aload_n 0, 1) := by decide +kernel
theorem dX10_home_36 : decode cX10_home 36 = .ok (.getfield 19, 3) := by decide +kernel
theorem dX10_home_39 : decode cX10_home 39 = .ok (.iload_n 1, 1) := by decide +kernel
theorem dX10_home_40 : decode cX10_home 40 = .ok (.iload_n 2, 1) := by decide +kernel
theorem dX10_home_41 : decode cX10_home 41 = .ok (.iastore, 1) := by decide +kernel
theorem dX10_home_42 : decode cX10_home 42 = .ok (.iload_n 3, 1) := by decide +kernel
theorem dX10_home_43 : decode cX10_home 43 = .ok (.ireturn, 1) := by decide +kernel
def f_X10_home (μ : Mm) (p1 : Int32) (p2 : Int32) : Option (Int32 × Mm) :=
 (f_X10_isTask μ p1).bind fun q11 =>
 if q11 = 0 then
 some ((-1 : Int32), μ)
 else
 (f_X10_isProcessor μ p2).bind fun q13 =>
 if q13 = 0 then
 some ((-1 : Int32), μ)
 else
 (f_X10_all μ).bind fun q15 =>
 if q15 ≤ 0 then
 (ra μ 1005 0 8 p1).bind fun v17 =>
 (wa μ 1005 0 8 p1 p2).bind fun m19 =>
 some (v17, m19)
 else
 some ((-2 : Int32), μ)
set_option maxHeartbeats 4000000 in
set_option maxRecDepth 100000 in
theorem c_X10_home (l : Launch) (E : En) {μ : Mm} {p1 : Int32} {p2 : Int32} (h0 : l10 E 0) {z : Int32 × Mm} (hf : f_X10_home μ p1 p2 = some z) : Met l yX10_home (wt yX10_home cX10_home 4 (some .int)) { frames := 2, cells := 0, slots := 0, locals := 43 } (Pm E [.ref (ad E 1000 0), .int p1, .int p2] μ) (Qm E (some (.int z.1)) z.2) 0 0 (Ad E) := by
  unfold f_X10_home at hf
  refine met_of (cc := cX10_home) (nL := 4) (ret := (some .int)) (by decide) _ (Nat.le_of_ble_eq_true rfl) ?_
  intro p e s m below meth c C hr hlk hI ls hl
  have hx := C.1.1
  have hb := C.1.2.1
  have hl : lv_has ls 4 [(0, .ref (ad E 1000 0)), (1, .int p1), (2, .int p2)] := hl
  refine lv_aload_n hx hb dX10_home_0 rfl (lv_at hl 0 rfl) ?_
  refine lv_iload_n hx hb dX10_home_1 rfl (lv_at hl 1 rfl) ?_
  obtain ⟨q11, e12, hf⟩ := ob hf
  refine mcV (As := [.int p1]) (rest := []) C hI (c_X10_isTask l E h0 e12) ml_X10_149 kv_X10_isTask (m_recv C hI h0.1 (ce_1000 E _ _ _) rfl) rfl rfl ⟨Nat.le_of_ble_eq_true rfl, Nat.le_of_ble_eq_true rfl⟩ ⟨Nat.zero_le _, Nat.zero_le _⟩ rfl rfl hl.1 (Nat.le_of_ble_eq_true rfl) dX10_home_2 (st1 := [.int q11]) rfl (fun H locs hI => ?_)
  refine lv_if_eq (tgt := 16) hx hb dX10_home_5 rfl (fun hc => ?_) (fun hc => ?_)
  · replace hf := it hf hc
    refine lv_iconst (v := (-1 : Int32)) hx hb dX10_home_16 kc_m1 ?_
    obtain rfl := Option.some.inj hf
    exact m_iret C hr hlk hI dX10_home_17
  · replace hf := ie hf hc
    refine lv_aload_n hx hb dX10_home_8 rfl (lv_at hl 0 rfl) ?_
    refine lv_iload_n hx hb dX10_home_9 rfl (lv_at hl 2 rfl) ?_
    obtain ⟨q13, e14, hf⟩ := ob hf
    refine mcV (As := [.int p2]) (rest := []) C hI (c_X10_isProcessor l E h0 e14) ml_X10_153 kv_X10_isProcessor (m_recv C hI h0.1 (ce_1000 E _ _ _) rfl) rfl rfl ⟨Nat.le_of_ble_eq_true rfl, Nat.le_of_ble_eq_true rfl⟩ ⟨Nat.zero_le _, Nat.zero_le _⟩ rfl rfl hl.1 (Nat.le_of_ble_eq_true rfl) dX10_home_10 (st1 := [.int q13]) rfl (fun H locs hI => ?_)
    refine lv_if_ne (tgt := 18) hx hb dX10_home_13 rfl (fun hc => ?_) (fun hc => ?_)
    · replace hf := ie hf hc
      refine lv_aload_n hx hb dX10_home_18 rfl (lv_at hl 0 rfl) ?_
      obtain ⟨q15, e16, hf⟩ := ob hf
      refine mcV (As := []) (rest := []) C hI (c_X10_all l E h0 e16) ml_X10_156 kv_X10_all (m_recv C hI h0.1 (ce_1000 E _ _ _) rfl) rfl rfl ⟨Nat.le_of_ble_eq_true rfl, Nat.le_of_ble_eq_true rfl⟩ ⟨Nat.zero_le _, Nat.zero_le _⟩ rfl rfl hl.1 (Nat.le_of_ble_eq_true rfl) dX10_home_19 (st1 := [.int q15]) rfl (fun H locs hI => ?_)
      refine lv_if_le (tgt := 28) hx hb dX10_home_22 rfl (fun hc => ?_) (fun hc => ?_)
      · replace hf := it hf hc
        refine lv_aload_n hx hb dX10_home_28 rfl (lv_at hl 0 rfl) ?_
        refine gf_10_4 C hI h0.1 fl_X10_19 dX10_home_29 ?_
        refine lv_iload_n hx hb dX10_home_32 rfl (lv_at hl 1 rfl) ?_
        obtain ⟨v17, e18, hf⟩ := ob hf
        refine m_iald C hI h0.2.1 (ce_1005 E _ _ _) e18 dX10_home_33 ?_
        refine lv_istore_n hx hb dX10_home_34 rfl hl (by decide) rfl (fun ls hl => ?_)
        have hl : lv_has ls 4 [(3, .int v17), (0, .ref (ad E 1000 0)), (1, .int p1), (2, .int p2)] := hl
        refine lv_aload_n hx hb dX10_home_35 rfl (lv_at hl 1 rfl) ?_
        refine gf_10_4 C hI h0.1 fl_X10_19 dX10_home_36 ?_
        refine lv_iload_n hx hb dX10_home_39 rfl (lv_at hl 2 rfl) ?_
        refine lv_iload_n hx hb dX10_home_40 rfl (lv_at hl 3 rfl) ?_
        obtain ⟨m19, e20, hf⟩ := ob hf
        refine m_iast C hI h0.2.1 (ce_1005 E _) e20 dX10_home_41 (fun H locs hI => ?_)
        refine lv_iload_n hx hb dX10_home_42 rfl (lv_at hl 0 rfl) ?_
        obtain rfl := Option.some.inj hf
        exact m_iret C hr hlk hI dX10_home_43
      · replace hf := ie hf hc
        refine lv_bipush (v := (-2 : Int32)) hx hb dX10_home_25 kb_m2 ?_
        obtain rfl := Option.some.inj hf
        exact m_iret C hr hlk hI dX10_home_27
    · replace hf := it hf hc
      refine lv_iconst (v := (-1 : Int32)) hx hb dX10_home_16 kc_m1 ?_
      obtain rfl := Option.some.inj hf
      exact m_iret C hr hlk hI dX10_home_17

theorem dX10_rank_0 : decode cX10_rank 0 = .ok (.aload_n 0, 1) := by decide +kernel
theorem dX10_rank_1 : decode cX10_rank 1 = .ok (.iload_n 1, 1) := by decide +kernel
theorem dX10_rank_2 : decode cX10_rank 2 = .ok (.invokevirtual 149, 3) := by decide +kernel
theorem dX10_rank_5 : decode cX10_rank 5 = .ok (.ifCond .eq 13, 3) := by decide +kernel
theorem dX10_rank_8 : decode cX10_rank 8 = .ok (.iload_n 2, 1) := by decide +kernel
theorem dX10_rank_9 : decode cX10_rank 9 = .ok (.iconst 0, 1) := by decide +kernel
theorem dX10_rank_10 : decode cX10_rank 10 = .ok (.bipush 15, 2) := by decide +kernel
theorem dX10_rank_12 : decode cX10_rank 12 = .ok (.invokestatic 136, 3) := by decide +kernel
theorem dX10_rank_15 : decode cX10_rank 15 = .ok (.ifCond .ne 5, 3) := by decide +kernel
theorem dX10_rank_18 : decode cX10_rank 18 = .ok (.iconst (-1), 1) := by decide +kernel
theorem dX10_rank_19 : decode cX10_rank 19 = .ok (.ireturn, 1) := by decide +kernel
theorem dX10_rank_20 : decode cX10_rank 20 = .ok (.aload_n 0, 1) := by decide +kernel
theorem dX10_rank_21 : decode cX10_rank 21 = .ok (.getfield 23, 3) := by decide +kernel
theorem dX10_rank_24 : decode cX10_rank 24 = .ok (.iload_n 1, 1) := by decide +kernel
theorem dX10_rank_25 : decode cX10_rank 25 = .ok (.iaload, 1) := by decide +kernel
theorem dX10_rank_26 : decode cX10_rank 26 = .ok (.istore_n 3, 1) := by decide +kernel
theorem dX10_rank_27 : decode cX10_rank 27 = .ok (.aload_n 0, 1) := by decide +kernel
theorem dX10_rank_28 : decode cX10_rank 28 = .ok (.getfield 23, 3) := by decide +kernel
theorem dX10_rank_31 : decode cX10_rank 31 = .ok (.iload_n 1, 1) := by decide +kernel
theorem dX10_rank_32 : decode cX10_rank 32 = .ok (.iload_n 2, 1) := by decide +kernel
theorem dX10_rank_33 : decode cX10_rank 33 = .ok (.iastore, 1) := by decide +kernel
theorem dX10_rank_34 : decode cX10_rank 34 = .ok (.iload_n 3, 1) := by decide +kernel
theorem dX10_rank_35 : decode cX10_rank 35 = .ok (.ireturn, 1) := by decide +kernel
def f_X10_rank (μ : Mm) (p1 : Int32) (p2 : Int32) : Option (Int32 × Mm) :=
 (f_X10_isTask μ p1).bind fun q9 =>
 if q9 = 0 then
 some ((-1 : Int32), μ)
 else
 (f_X10_in μ p2 (0 : Int32) (15 : Int32)).bind fun q11 =>
 if q11 = 0 then
 some ((-1 : Int32), μ)
 else
 (ra μ 1006 0 8 p1).bind fun v13 =>
 (wa μ 1006 0 8 p1 p2).bind fun m15 =>
 some (v13, m15)
set_option maxHeartbeats 4000000 in
set_option maxRecDepth 100000 in
theorem c_X10_rank (l : Launch) (E : En) {μ : Mm} {p1 : Int32} {p2 : Int32} (h0 : l10 E 0) {z : Int32 × Mm} (hf : f_X10_rank μ p1 p2 = some z) : Met l yX10_rank (wt yX10_rank cX10_rank 4 (some .int)) { frames := 2, cells := 0, slots := 0, locals := 43 } (Pm E [.ref (ad E 1000 0), .int p1, .int p2] μ) (Qm E (some (.int z.1)) z.2) 0 0 (Ad E) := by
  unfold f_X10_rank at hf
  refine met_of (cc := cX10_rank) (nL := 4) (ret := (some .int)) (by decide) _ (Nat.le_of_ble_eq_true rfl) ?_
  intro p e s m below meth c C hr hlk hI ls hl
  have hx := C.1.1
  have hb := C.1.2.1
  have hl : lv_has ls 4 [(0, .ref (ad E 1000 0)), (1, .int p1), (2, .int p2)] := hl
  refine lv_aload_n hx hb dX10_rank_0 rfl (lv_at hl 0 rfl) ?_
  refine lv_iload_n hx hb dX10_rank_1 rfl (lv_at hl 1 rfl) ?_
  obtain ⟨q9, e10, hf⟩ := ob hf
  refine mcV (As := [.int p1]) (rest := []) C hI (c_X10_isTask l E h0 e10) ml_X10_149 kv_X10_isTask (m_recv C hI h0.1 (ce_1000 E _ _ _) rfl) rfl rfl ⟨Nat.le_of_ble_eq_true rfl, Nat.le_of_ble_eq_true rfl⟩ ⟨Nat.zero_le _, Nat.zero_le _⟩ rfl rfl hl.1 (Nat.le_of_ble_eq_true rfl) dX10_rank_2 (st1 := [.int q9]) rfl (fun H locs hI => ?_)
  refine lv_if_eq (tgt := 18) hx hb dX10_rank_5 rfl (fun hc => ?_) (fun hc => ?_)
  · replace hf := it hf hc
    refine lv_iconst (v := (-1 : Int32)) hx hb dX10_rank_18 kc_m1 ?_
    obtain rfl := Option.some.inj hf
    exact m_iret C hr hlk hI dX10_rank_19
  · replace hf := ie hf hc
    refine lv_iload_n hx hb dX10_rank_8 rfl (lv_at hl 2 rfl) ?_
    refine lv_iconst (v := (0 : Int32)) hx hb dX10_rank_9 kc_0 ?_
    refine lv_bipush (v := (15 : Int32)) hx hb dX10_rank_10 kb_15 ?_
    obtain ⟨q11, e12, hf⟩ := ob hf
    refine mcS (As := [.int p2, .int (0 : Int32), .int (15 : Int32)]) (rest := []) C hI (c_X10_in l E  e12) ml_X10_136 ks_X10_in rfl rfl ⟨Nat.le_of_ble_eq_true rfl, Nat.le_of_ble_eq_true rfl⟩ ⟨Nat.zero_le _, Nat.zero_le _⟩ rfl rfl hl.1 (Nat.le_of_ble_eq_true rfl) dX10_rank_12 (st1 := [.int q11]) rfl (fun H locs hI => ?_)
    refine lv_if_ne (tgt := 20) hx hb dX10_rank_15 rfl (fun hc => ?_) (fun hc => ?_)
    · replace hf := ie hf hc
      refine lv_aload_n hx hb dX10_rank_20 rfl (lv_at hl 0 rfl) ?_
      refine gf_10_5 C hI h0.1 fl_X10_23 dX10_rank_21 ?_
      refine lv_iload_n hx hb dX10_rank_24 rfl (lv_at hl 1 rfl) ?_
      obtain ⟨v13, e14, hf⟩ := ob hf
      refine m_iald C hI h0.2.2.1 (ce_1006 E _ _ _) e14 dX10_rank_25 ?_
      refine lv_istore_n hx hb dX10_rank_26 rfl hl (by decide) rfl (fun ls hl => ?_)
      have hl : lv_has ls 4 [(3, .int v13), (0, .ref (ad E 1000 0)), (1, .int p1), (2, .int p2)] := hl
      refine lv_aload_n hx hb dX10_rank_27 rfl (lv_at hl 1 rfl) ?_
      refine gf_10_5 C hI h0.1 fl_X10_23 dX10_rank_28 ?_
      refine lv_iload_n hx hb dX10_rank_31 rfl (lv_at hl 2 rfl) ?_
      refine lv_iload_n hx hb dX10_rank_32 rfl (lv_at hl 3 rfl) ?_
      obtain ⟨m15, e16, hf⟩ := ob hf
      refine m_iast C hI h0.2.2.1 (ce_1006 E _) e16 dX10_rank_33 (fun H locs hI => ?_)
      refine lv_iload_n hx hb dX10_rank_34 rfl (lv_at hl 0 rfl) ?_
      obtain rfl := Option.some.inj hf
      exact m_iret C hr hlk hI dX10_rank_35
    · replace hf := it hf hc
      refine lv_iconst (v := (-1 : Int32)) hx hb dX10_rank_18 kc_m1 ?_
      obtain rfl := Option.some.inj hf
      exact m_iret C hr hlk hI dX10_rank_19

theorem dX10_otherOf_0 : decode cX10_otherOf 0 = .ok (.aload_n 0, 1) := by decide +kernel
theorem dX10_otherOf_1 : decode cX10_otherOf 1 = .ok (.getfield 26, 3) := by decide +kernel
theorem dX10_otherOf_4 : decode cX10_otherOf 4 = .ok (.iload_n 1, 1) := by decide +kernel
theorem dX10_otherOf_5 : decode cX10_otherOf 5 = .ok (.iaload, 1) := by decide +kernel
theorem dX10_otherOf_6 : decode cX10_otherOf 6 = .ok (.iconst (-1), 1) := by decide +kernel
theorem dX10_otherOf_7 : decode cX10_otherOf 7 = .ok (.if_icmp .ne 12, 3) := by decide +kernel
theorem dX10_otherOf_10 : decode cX10_otherOf 10 = .ok (.aload_n 0, 1) := by decide +kernel
theorem dX10_otherOf_11 : decode cX10_otherOf 11 = .ok (.getfield 23, 3) := by decide +kernel
theorem dX10_otherOf_14 : decode cX10_otherOf 14 = .ok (.iload_n 1, 1) := by decide +kernel
theorem dX10_otherOf_15 : decode cX10_otherOf 15 = .ok (.iaload, 1) := by decide +kernel
theorem dX10_otherOf_16 : decode cX10_otherOf 16 = .ok (.goto 9, 3) := by decide +kernel
theorem dX10_otherOf_19 : decode cX10_otherOf 19 = .ok (.aload_n 0, 1) := by decide +kernel
theorem dX10_otherOf_20 : decode cX10_otherOf 20 = .ok (.getfield 26, 3) := by decide +kernel
theorem dX10_otherOf_23 : decode cX10_otherOf 23 = .ok (.iload_n 1, 1) := by decide +kernel
theorem dX10_otherOf_24 : decode cX10_otherOf 24 = .ok (.iaload, 1) := by decide +kernel
theorem dX10_otherOf_25 : decode cX10_otherOf 25 = .ok (.ireturn, 1) := by decide +kernel
def f_X10_otherOf (μ : Mm) (p1 : Int32) : Option Int32 :=
 (ra μ 1007 0 8 p1).bind fun v7 =>
 if v7 = (-1 : Int32) then
 (ra μ 1006 0 8 p1).bind fun v11 =>
 some v11
 else
 (ra μ 1007 0 8 p1).bind fun v9 =>
 some v9
set_option maxHeartbeats 4000000 in
set_option maxRecDepth 100000 in
theorem c_X10_otherOf (l : Launch) (E : En) {μ : Mm} {p1 : Int32} (h0 : l10 E 0) {z : Int32} (hf : f_X10_otherOf μ p1 = some z) : Met l yX10_otherOf (wt yX10_otherOf cX10_otherOf 2 (some .int)) { frames := 0, cells := 0, slots := 0, locals := 0 } (Pm E [.ref (ad E 1000 0), .int p1] μ) (Qm E (some (.int z)) μ) 0 0 (Ad E) := by
  unfold f_X10_otherOf at hf
  refine met_of (cc := cX10_otherOf) (nL := 2) (ret := (some .int)) (by decide) _ (Nat.le_of_ble_eq_true rfl) ?_
  intro p e s m below meth c C hr hlk hI ls hl
  have hx := C.1.1
  have hb := C.1.2.1
  have hl : lv_has ls 2 [(0, .ref (ad E 1000 0)), (1, .int p1)] := hl
  refine lv_aload_n hx hb dX10_otherOf_0 rfl (lv_at hl 0 rfl) ?_
  refine gf_10_6 C hI h0.1 fl_X10_26 dX10_otherOf_1 ?_
  refine lv_iload_n hx hb dX10_otherOf_4 rfl (lv_at hl 1 rfl) ?_
  obtain ⟨v7, e8, hf⟩ := ob hf
  refine m_iald C hI h0.2.2.2.1 (ce_1007 E _ _ _) e8 dX10_otherOf_5 ?_
  refine lv_iconst (v := (-1 : Int32)) hx hb dX10_otherOf_6 kc_m1 ?_
  refine lv_icmp_ne (tgt := 19) hx hb dX10_otherOf_7 rfl (fun hc => ?_) (fun hc => ?_)
  · replace hf := ie hf hc
    refine lv_aload_n hx hb dX10_otherOf_19 rfl (lv_at hl 0 rfl) ?_
    refine gf_10_6 C hI h0.1 fl_X10_26 dX10_otherOf_20 ?_
    refine lv_iload_n hx hb dX10_otherOf_23 rfl (lv_at hl 1 rfl) ?_
    obtain ⟨v9, e10, hf⟩ := ob hf
    refine m_iald C hI h0.2.2.2.1 (ce_1007 E _ _ _) e10 dX10_otherOf_24 ?_
    obtain rfl := Option.some.inj hf
    exact m_iret C hr hlk hI dX10_otherOf_25
  · replace hf := it hf hc
    refine lv_aload_n hx hb dX10_otherOf_10 rfl (lv_at hl 0 rfl) ?_
    refine gf_10_5 C hI h0.1 fl_X10_23 dX10_otherOf_11 ?_
    refine lv_iload_n hx hb dX10_otherOf_14 rfl (lv_at hl 1 rfl) ?_
    obtain ⟨v11, e12, hf⟩ := ob hf
    refine m_iald C hI h0.2.2.1 (ce_1006 E _ _ _) e12 dX10_otherOf_15 ?_
    refine lv_goto (tgt := 25) hx hb dX10_otherOf_16 rfl ?_
    obtain rfl := Option.some.inj hf
    exact m_iret C hr hlk hI dX10_otherOf_25

theorem dX10_other_0 : decode cX10_other 0 = .ok (.aload_n 0, 1) := by decide +kernel
theorem dX10_other_1 : decode cX10_other 1 = .ok (.iload_n 1, 1) := by decide +kernel
theorem dX10_other_2 : decode cX10_other 2 = .ok (.invokevirtual 149, 3) := by decide +kernel
theorem dX10_other_5 : decode cX10_other 5 = .ok (.ifCond .eq 13, 3) := by decide +kernel
theorem dX10_other_8 : decode cX10_other 8 = .ok (.iload_n 2, 1) := by decide +kernel
theorem dX10_other_9 : decode cX10_other 9 = .ok (.iconst 0, 1) := by decide +kernel
theorem dX10_other_10 : decode cX10_other 10 = .ok (.bipush 15, 2) := by decide +kernel
theorem dX10_other_12 : decode cX10_other 12 = .ok (.invokestatic 136, 3) := by decide +kernel
theorem dX10_other_15 : decode cX10_other 15 = .ok (.ifCond .ne 5, 3) := by decide +kernel
theorem dX10_other_18 : decode cX10_other 18 = .ok (.iconst (-1), 1) := by decide +kernel
theorem dX10_other_19 : decode cX10_other 19 = .ok (.ireturn, 1) := by decide +kernel
theorem dX10_other_20 : decode cX10_other 20 = .ok (.aload_n 0, 1) := by decide +kernel
theorem dX10_other_21 : decode cX10_other 21 = .ok (.iload_n 1, 1) := by decide +kernel
theorem dX10_other_22 : decode cX10_other 22 = .ok (.invokevirtual 160, 3) := by decide +kernel
theorem dX10_other_25 : decode cX10_other 25 = .ok (.istore_n 3, 1) := by decide +kernel
theorem dX10_other_26 : decode cX10_other 26 = .ok (.aload_n 0, 1) := by decide +kernel
theorem dX10_other_27 : decode cX10_other 27 = .ok (.getfield 26, 3) := by decide +kernel
theorem dX10_other_30 : decode cX10_other 30 = .ok (.iload_n 1, 1) := by decide +kernel
theorem dX10_other_31 : decode cX10_other 31 = .ok (.iload_n 2, 1) := by decide +kernel
theorem dX10_other_32 : decode cX10_other 32 = .ok (.iastore, 1) := by decide +kernel
theorem dX10_other_33 : decode cX10_other 33 = .ok (.iload_n 3, 1) := by decide +kernel
theorem dX10_other_34 : decode cX10_other 34 = .ok (.ireturn, 1) := by decide +kernel
def f_X10_other (μ : Mm) (p1 : Int32) (p2 : Int32) : Option (Int32 × Mm) :=
 (f_X10_isTask μ p1).bind fun q9 =>
 if q9 = 0 then
 some ((-1 : Int32), μ)
 else
 (f_X10_in μ p2 (0 : Int32) (15 : Int32)).bind fun q11 =>
 if q11 = 0 then
 some ((-1 : Int32), μ)
 else
 (f_X10_otherOf μ p1).bind fun q13 =>
 (wa μ 1007 0 8 p1 p2).bind fun m15 =>
 some (q13, m15)
set_option maxHeartbeats 4000000 in
set_option maxRecDepth 100000 in
theorem c_X10_other (l : Launch) (E : En) {μ : Mm} {p1 : Int32} {p2 : Int32} (h0 : l10 E 0) {z : Int32 × Mm} (hf : f_X10_other μ p1 p2 = some z) : Met l yX10_other (wt yX10_other cX10_other 4 (some .int)) { frames := 2, cells := 0, slots := 0, locals := 43 } (Pm E [.ref (ad E 1000 0), .int p1, .int p2] μ) (Qm E (some (.int z.1)) z.2) 0 0 (Ad E) := by
  unfold f_X10_other at hf
  refine met_of (cc := cX10_other) (nL := 4) (ret := (some .int)) (by decide) _ (Nat.le_of_ble_eq_true rfl) ?_
  intro p e s m below meth c C hr hlk hI ls hl
  have hx := C.1.1
  have hb := C.1.2.1
  have hl : lv_has ls 4 [(0, .ref (ad E 1000 0)), (1, .int p1), (2, .int p2)] := hl
  refine lv_aload_n hx hb dX10_other_0 rfl (lv_at hl 0 rfl) ?_
  refine lv_iload_n hx hb dX10_other_1 rfl (lv_at hl 1 rfl) ?_
  obtain ⟨q9, e10, hf⟩ := ob hf
  refine mcV (As := [.int p1]) (rest := []) C hI (c_X10_isTask l E h0 e10) ml_X10_149 kv_X10_isTask (m_recv C hI h0.1 (ce_1000 E _ _ _) rfl) rfl rfl ⟨Nat.le_of_ble_eq_true rfl, Nat.le_of_ble_eq_true rfl⟩ ⟨Nat.zero_le _, Nat.zero_le _⟩ rfl rfl hl.1 (Nat.le_of_ble_eq_true rfl) dX10_other_2 (st1 := [.int q9]) rfl (fun H locs hI => ?_)
  refine lv_if_eq (tgt := 18) hx hb dX10_other_5 rfl (fun hc => ?_) (fun hc => ?_)
  · replace hf := it hf hc
    refine lv_iconst (v := (-1 : Int32)) hx hb dX10_other_18 kc_m1 ?_
    obtain rfl := Option.some.inj hf
    exact m_iret C hr hlk hI dX10_other_19
  · replace hf := ie hf hc
    refine lv_iload_n hx hb dX10_other_8 rfl (lv_at hl 2 rfl) ?_
    refine lv_iconst (v := (0 : Int32)) hx hb dX10_other_9 kc_0 ?_
    refine lv_bipush (v := (15 : Int32)) hx hb dX10_other_10 kb_15 ?_
    obtain ⟨q11, e12, hf⟩ := ob hf
    refine mcS (As := [.int p2, .int (0 : Int32), .int (15 : Int32)]) (rest := []) C hI (c_X10_in l E  e12) ml_X10_136 ks_X10_in rfl rfl ⟨Nat.le_of_ble_eq_true rfl, Nat.le_of_ble_eq_true rfl⟩ ⟨Nat.zero_le _, Nat.zero_le _⟩ rfl rfl hl.1 (Nat.le_of_ble_eq_true rfl) dX10_other_12 (st1 := [.int q11]) rfl (fun H locs hI => ?_)
    refine lv_if_ne (tgt := 20) hx hb dX10_other_15 rfl (fun hc => ?_) (fun hc => ?_)
    · replace hf := ie hf hc
      refine lv_aload_n hx hb dX10_other_20 rfl (lv_at hl 0 rfl) ?_
      refine lv_iload_n hx hb dX10_other_21 rfl (lv_at hl 1 rfl) ?_
      obtain ⟨q13, e14, hf⟩ := ob hf
      refine mcV (As := [.int p1]) (rest := []) C hI (c_X10_otherOf l E h0 e14) ml_X10_160 kv_X10_otherOf (m_recv C hI h0.1 (ce_1000 E _ _ _) rfl) rfl rfl ⟨Nat.le_of_ble_eq_true rfl, Nat.le_of_ble_eq_true rfl⟩ ⟨Nat.zero_le _, Nat.zero_le _⟩ rfl rfl hl.1 (Nat.le_of_ble_eq_true rfl) dX10_other_22 (st1 := [.int q13]) rfl (fun H locs hI => ?_)
      refine lv_istore_n hx hb dX10_other_25 rfl hl (by decide) rfl (fun ls hl => ?_)
      have hl : lv_has ls 4 [(3, .int q13), (0, .ref (ad E 1000 0)), (1, .int p1), (2, .int p2)] := hl
      refine lv_aload_n hx hb dX10_other_26 rfl (lv_at hl 1 rfl) ?_
      refine gf_10_6 C hI h0.1 fl_X10_26 dX10_other_27 ?_
      refine lv_iload_n hx hb dX10_other_30 rfl (lv_at hl 2 rfl) ?_
      refine lv_iload_n hx hb dX10_other_31 rfl (lv_at hl 3 rfl) ?_
      obtain ⟨m15, e16, hf⟩ := ob hf
      refine m_iast C hI h0.2.2.2.1 (ce_1007 E _) e16 dX10_other_32 (fun H locs hI => ?_)
      refine lv_iload_n hx hb dX10_other_33 rfl (lv_at hl 0 rfl) ?_
      obtain rfl := Option.some.inj hf
      exact m_iret C hr hlk hI dX10_other_34
    · replace hf := it hf hc
      refine lv_iconst (v := (-1 : Int32)) hx hb dX10_other_18 kc_m1 ?_
      obtain rfl := Option.some.inj hf
      exact m_iret C hr hlk hI dX10_other_19

theorem dX10_starts_0 : decode cX10_starts 0 = .ok (.aload_n 0, 1) := by decide +kernel
theorem dX10_starts_1 : decode cX10_starts 1 = .ok (.iload_n 1, 1) := by decide +kernel
theorem dX10_starts_2 : decode cX10_starts 2 = .ok (.putfield 164, 3) := by decide +kernel
theorem dX10_starts_5 : decode cX10_starts 5 = .ok (.aload_n 0, 1) := by decide +kernel
theorem dX10_starts_6 : decode cX10_starts 6 = .ok (.iload_n 2, 1) := by decide +kernel
theorem dX10_starts_7 : decode cX10_starts 7 = .ok (.putfield 167, 3) := by decide +kernel
theorem dX10_starts_10 : decode cX10_starts 10 = .ok (.aload_n 0, 1) := by decide +kernel
theorem dX10_starts_11 : decode cX10_starts 11 = .ok (.iload_n 3, 1) := by decide +kernel
theorem dX10_starts_12 : decode cX10_starts 12 = .ok (.putfield 170, 3) := by decide +kernel
theorem dX10_starts_15 : decode cX10_starts 15 = .ok (.aload_n 0, 1) := by decide +kernel
theorem dX10_starts_16 : decode cX10_starts 16 = .ok (.iconst (-1), 1) := by decide +kernel
theorem dX10_starts_17 : decode cX10_starts 17 = .ok (.putfield 173, 3) := by decide +kernel
theorem dX10_starts_20 : decode cX10_starts 20 = .ok (.aload_n 0, 1) := by decide +kernel
theorem dX10_starts_21 : decode cX10_starts 21 = .ok (.iconst 0, 1) := by decide +kernel
theorem dX10_starts_22 : decode cX10_starts 22 = .ok (.putfield 176, 3) := by decide +kernel
theorem dX10_starts_25 : decode cX10_starts 25 = .ok (.iconst 0, 1) := by decide +kernel
theorem dX10_starts_26 : decode cX10_starts 26 = .ok (.istore 4, 2) := by decide +kernel
theorem dX10_starts_28 : decode cX10_starts 28 = .ok (.iload 4, 2) := by decide +kernel
theorem dX10_starts_30 : decode cX10_starts 30 = .ok (.bipush 8, 2) := by decide +kernel
theorem dX10_starts_32 : decode cX10_starts 32 = .ok (.if_icmp .ge 25, 3) := by decide +kernel
theorem dX10_starts_35 : decode cX10_starts 35 = .ok (.aload_n 0, 1) := by decide +kernel
theorem dX10_starts_36 : decode cX10_starts 36 = .ok (.getfield 82, 3) := by decide +kernel
theorem dX10_starts_39 : decode cX10_starts 39 = .ok (.iload 4, 2) := by decide +kernel
theorem dX10_starts_41 : decode cX10_starts 41 = .ok (.iconst 0, 1) := by decide +kernel
theorem dX10_starts_42 : decode cX10_starts 42 = .ok (.iastore, 1) := by decide +kernel
theorem dX10_starts_43 : decode cX10_starts 43 = .ok (.aload_n 0, 1) := by decide +kernel
theorem dX10_starts_44 : decode cX10_starts 44 = .ok (.getfield 85, 3) := by decide +kernel
theorem dX10_starts_47 : decode cX10_starts 47 = .ok (.iload 4, 2) := by decide +kernel
theorem dX10_starts_49 : decode cX10_starts 49 = .ok (.iconst (-1), 1) := by decide +kernel
theorem dX10_starts_50 : decode cX10_starts 50 = .ok (.iastore, 1) := by decide +kernel
theorem dX10_starts_51 : decode cX10_starts 51 = .ok (.iinc 4 1, 3) := by decide +kernel
theorem dX10_starts_54 : decode cX10_starts 54 = .ok (.goto (-26), 3) := by decide +kernel
theorem dX10_starts_57 : decode cX10_starts 57 = .ok (.iconst 0, 1) := by decide +kernel
theorem dX10_starts_58 : decode cX10_starts 58 = .ok (.istore 4, 2) := by decide +kernel
theorem dX10_starts_60 : decode cX10_starts 60 = .ok (.iload 4, 2) := by decide +kernel
theorem dX10_starts_62 : decode cX10_starts 62 = .ok (.iconst 4, 1) := by decide +kernel
theorem dX10_starts_63 : decode cX10_starts 63 = .ok (.if_icmp .ge 17, 3) := by decide +kernel
theorem dX10_starts_66 : decode cX10_starts 66 = .ok (.aload_n 0, 1) := by decide +kernel
theorem dX10_starts_67 : decode cX10_starts 67 = .ok (.getfield 88, 3) := by decide +kernel
theorem dX10_starts_70 : decode cX10_starts 70 = .ok (.iload 4, 2) := by decide +kernel
theorem dX10_starts_72 : decode cX10_starts 72 = .ok (.iconst (-1), 1) := by decide +kernel
theorem dX10_starts_73 : decode cX10_starts 73 = .ok (.iastore, 1) := by decide +kernel
theorem dX10_starts_74 : decode cX10_starts 74 = .ok (.iinc 4 1, 3) := by decide +kernel
theorem dX10_starts_77 : decode cX10_starts 77 = .ok (.goto (-17), 3) := by decide +kernel
theorem dX10_starts_80 : decode cX10_starts 80 = .ok (.return_, 1) := by decide +kernel
def f_X10_starts_b60 (F : Nat) : Nat → Mm → Int32 → Option Mm
 | 0, _, _ => none
 | N + 1, μ, a4 =>
 if (4 : Int32) ≤ a4 then
 some μ
 else
 (wa μ 1030 0 4 a4 (-1 : Int32)).bind fun m17 =>
 f_X10_starts_b60 F N m17 (a4 + (1 : Int32))
set_option maxHeartbeats 4000000 in
set_option maxRecDepth 100000 in
theorem cb_X10_starts_60 {l : Launch} {E : En} {p : Program} {e : Env} {s : State} {m : MethodId} {av : Array Value} {below : List Frame} {meth : Method} {c : Code} (C : Cx E p s m av c cX10_starts 5 yX10_starts.cls) (hr : meth.sig.returnType = (none : Option FieldType)) (hlk : meth.locks = false) {F : Nat} {z : Mm} : ∀ (N : Nat) (μ : Mm) (a4 : Int32) (h_a0 : l10 E 0), f_X10_starts_b60 F N μ a4 = some z → ∀ {H : Heap} {locs : List Loc} {ls : Array Slot}, Iv E s μ H locs → lv_has ls 5 [(0, .ref (ad E 1000 0)), (4, .int a4)] → W p l e { frames := 0, cells := 0, slots := 0, locals := 0 } s m av below meth c H locs 0 0 (MQ below (Qm E none z) av s 0 0 (Ad E)) (F0 m 60 ls []) := by
  have hx := C.1.1
  have hb := C.1.2.1
  intro N
  induction N with
  | zero => intro μ a4 h_a0 hf; cases hf
  | succ N ih =>
    intro μ a4 h_a0 hf H locs ls hI hl
    rw [f_X10_starts_b60] at hf
    refine lv_iload hx hb dX10_starts_60 (lv_at hl 1 rfl) ?_
    refine lv_iconst (v := (4 : Int32)) hx hb dX10_starts_62 kc_4 ?_
    refine lv_icmp_ge (tgt := 80) hx hb dX10_starts_63 rfl (fun hc => ?_) (fun hc => ?_)
    · replace hf := it hf hc
      obtain rfl := Option.some.inj hf
      exact m_vret C hr hlk hI dX10_starts_80
    · replace hf := ie hf hc
      refine lv_aload_n hx hb dX10_starts_66 rfl (lv_at hl 0 rfl) ?_
      refine gf_10_29 C hI h_a0.1 fl_X10_88 dX10_starts_67 ?_
      refine lv_iload hx hb dX10_starts_70 (lv_at hl 1 rfl) ?_
      refine lv_iconst (v := (-1 : Int32)) hx hb dX10_starts_72 kc_m1 ?_
      obtain ⟨m17, e18, hf⟩ := ob hf
      refine m_iast C hI h_a0.2.2.2.2.2.2.2.2.2.2.2.2.2.2.2.2.2.2.2.2.2.2.2.1 (ce_1030 E _) e18 dX10_starts_73 (fun H locs hI => ?_)
      refine lv_iinc (v := a4 + (1 : Int32)) hx hb dX10_starts_74 hl (k := 1) rfl (ki_1 _) (by decide) rfl (fun ls hl => ?_)
      have hl : lv_has ls 5 [(4, .int (a4 + (1 : Int32))), (0, .ref (ad E 1000 0))] := hl
      refine lv_goto (tgt := 60) hx hb dX10_starts_77 rfl ?_
      exact ih _ _ h_a0 hf hI (lv_sub hl [1, 0] rfl)
def f_X10_starts_b28 (F : Nat) : Nat → Mm → Int32 → Option Mm
 | 0, _, _ => none
 | N + 1, μ, a4 =>
 if (8 : Int32) ≤ a4 then
 f_X10_starts_b60 F F μ (0 : Int32)
 else
 (wa μ 1028 0 8 a4 (0 : Int32)).bind fun m19 =>
 (wa m19 1029 0 8 a4 (-1 : Int32)).bind fun m21 =>
 f_X10_starts_b28 F N m21 (a4 + (1 : Int32))
set_option maxHeartbeats 4000000 in
set_option maxRecDepth 100000 in
theorem cb_X10_starts_28 {l : Launch} {E : En} {p : Program} {e : Env} {s : State} {m : MethodId} {av : Array Value} {below : List Frame} {meth : Method} {c : Code} (C : Cx E p s m av c cX10_starts 5 yX10_starts.cls) (hr : meth.sig.returnType = (none : Option FieldType)) (hlk : meth.locks = false) {F : Nat} {z : Mm} : ∀ (N : Nat) (μ : Mm) (a4 : Int32) (h_a0 : l10 E 0), f_X10_starts_b28 F N μ a4 = some z → ∀ {H : Heap} {locs : List Loc} {ls : Array Slot}, Iv E s μ H locs → lv_has ls 5 [(0, .ref (ad E 1000 0)), (4, .int a4)] → W p l e { frames := 0, cells := 0, slots := 0, locals := 0 } s m av below meth c H locs 0 0 (MQ below (Qm E none z) av s 0 0 (Ad E)) (F0 m 28 ls []) := by
  have hx := C.1.1
  have hb := C.1.2.1
  intro N
  induction N with
  | zero => intro μ a4 h_a0 hf; cases hf
  | succ N ih =>
    intro μ a4 h_a0 hf H locs ls hI hl
    rw [f_X10_starts_b28] at hf
    refine lv_iload hx hb dX10_starts_28 (lv_at hl 1 rfl) ?_
    refine lv_bipush (v := (8 : Int32)) hx hb dX10_starts_30 kb_8 ?_
    refine lv_icmp_ge (tgt := 57) hx hb dX10_starts_32 rfl (fun hc => ?_) (fun hc => ?_)
    · replace hf := it hf hc
      refine lv_iconst (v := (0 : Int32)) hx hb dX10_starts_57 kc_0 ?_
      refine lv_istore hx hb dX10_starts_58 hl (by decide) rfl (fun ls hl => ?_)
      have hl : lv_has ls 5 [(4, .int (0 : Int32)), (0, .ref (ad E 1000 0))] := hl
      exact cb_X10_starts_60 C hr hlk  _ _ _ h_a0 hf hI (lv_sub hl [1, 0] rfl)
    · replace hf := ie hf hc
      refine lv_aload_n hx hb dX10_starts_35 rfl (lv_at hl 0 rfl) ?_
      refine gf_10_27 C hI h_a0.1 fl_X10_82 dX10_starts_36 ?_
      refine lv_iload hx hb dX10_starts_39 (lv_at hl 1 rfl) ?_
      refine lv_iconst (v := (0 : Int32)) hx hb dX10_starts_41 kc_0 ?_
      obtain ⟨m19, e20, hf⟩ := ob hf
      refine m_iast C hI h_a0.2.2.2.2.2.2.2.2.2.2.2.2.2.2.2.2.2.2.2.2.2.1 (ce_1028 E _) e20 dX10_starts_42 (fun H locs hI => ?_)
      refine lv_aload_n hx hb dX10_starts_43 rfl (lv_at hl 0 rfl) ?_
      refine gf_10_28 C hI h_a0.1 fl_X10_85 dX10_starts_44 ?_
      refine lv_iload hx hb dX10_starts_47 (lv_at hl 1 rfl) ?_
      refine lv_iconst (v := (-1 : Int32)) hx hb dX10_starts_49 kc_m1 ?_
      obtain ⟨m21, e22, hf⟩ := ob hf
      refine m_iast C hI h_a0.2.2.2.2.2.2.2.2.2.2.2.2.2.2.2.2.2.2.2.2.2.2.1 (ce_1029 E _) e22 dX10_starts_50 (fun H locs hI => ?_)
      refine lv_iinc (v := a4 + (1 : Int32)) hx hb dX10_starts_51 hl (k := 1) rfl (ki_1 _) (by decide) rfl (fun ls hl => ?_)
      have hl : lv_has ls 5 [(4, .int (a4 + (1 : Int32))), (0, .ref (ad E 1000 0))] := hl
      refine lv_goto (tgt := 28) hx hb dX10_starts_54 rfl ?_
      exact ih _ _ h_a0 hf hI (lv_sub hl [1, 0] rfl)
def f_X10_starts (F : Nat) (μ : Mm) (p1 : Int32) (p2 : Int32) (p3 : Int32) : Option Mm :=
 (wf μ 1000 0 33 p1).bind fun m23 =>
 (wf m23 1000 0 34 p2).bind fun m25 =>
 (wf m25 1000 0 35 p3).bind fun m27 =>
 (wf m27 1000 0 31 (-1 : Int32)).bind fun m29 =>
 (wf m29 1000 0 32 (0 : Int32)).bind fun m31 =>
 f_X10_starts_b28 F F m31 (0 : Int32)
set_option maxHeartbeats 4000000 in
set_option maxRecDepth 100000 in
theorem c_X10_starts (l : Launch) (E : En) {F : Nat} {μ : Mm} {p1 : Int32} {p2 : Int32} {p3 : Int32} (h0 : l10 E 0) {z : Mm} (hf : f_X10_starts F μ p1 p2 p3 = some z) : Met l yX10_starts (wt yX10_starts cX10_starts 5 (none : Option FieldType)) { frames := 0, cells := 0, slots := 0, locals := 0 } (Pm E [.ref (ad E 1000 0), .int p1, .int p2, .int p3] μ) (Qm E none z) 0 0 (Ad E) := by
  unfold f_X10_starts at hf
  refine met_of (cc := cX10_starts) (nL := 5) (ret := (none : Option FieldType)) (by decide) _ (Nat.le_of_ble_eq_true rfl) ?_
  intro p e s m below meth c C hr hlk hI ls hl
  have hx := C.1.1
  have hb := C.1.2.1
  have hl : lv_has ls 5 [(0, .ref (ad E 1000 0)), (1, .int p1), (2, .int p2), (3, .int p3)] := hl
  refine lv_aload_n hx hb dX10_starts_0 rfl (lv_at hl 0 rfl) ?_
  refine lv_iload_n hx hb dX10_starts_1 rfl (lv_at hl 1 rfl) ?_
  obtain ⟨m23, e24, hf⟩ := ob hf
  refine pf_10_33 C hI h0.1 fl_X10_164 e24 dX10_starts_2 (fun H locs hI => ?_)
  refine lv_aload_n hx hb dX10_starts_5 rfl (lv_at hl 0 rfl) ?_
  refine lv_iload_n hx hb dX10_starts_6 rfl (lv_at hl 2 rfl) ?_
  obtain ⟨m25, e26, hf⟩ := ob hf
  refine pf_10_34 C hI h0.1 fl_X10_167 e26 dX10_starts_7 (fun H locs hI => ?_)
  refine lv_aload_n hx hb dX10_starts_10 rfl (lv_at hl 0 rfl) ?_
  refine lv_iload_n hx hb dX10_starts_11 rfl (lv_at hl 3 rfl) ?_
  obtain ⟨m27, e28, hf⟩ := ob hf
  refine pf_10_35 C hI h0.1 fl_X10_170 e28 dX10_starts_12 (fun H locs hI => ?_)
  refine lv_aload_n hx hb dX10_starts_15 rfl (lv_at hl 0 rfl) ?_
  refine lv_iconst (v := (-1 : Int32)) hx hb dX10_starts_16 kc_m1 ?_
  obtain ⟨m29, e30, hf⟩ := ob hf
  refine pf_10_31 C hI h0.1 fl_X10_173 e30 dX10_starts_17 (fun H locs hI => ?_)
  refine lv_aload_n hx hb dX10_starts_20 rfl (lv_at hl 0 rfl) ?_
  refine lv_iconst (v := (0 : Int32)) hx hb dX10_starts_21 kc_0 ?_
  obtain ⟨m31, e32, hf⟩ := ob hf
  refine pf_10_32 C hI h0.1 (by decide) (by decide) fl_X10_176 e32 dX10_starts_22 (fun H locs hI => ?_)
  refine lv_iconst (v := (0 : Int32)) hx hb dX10_starts_25 kc_0 ?_
  refine lv_istore hx hb dX10_starts_26 hl (by decide) rfl (fun ls hl => ?_)
  have hl : lv_has ls 5 [(4, .int (0 : Int32)), (0, .ref (ad E 1000 0)), (1, .int p1), (2, .int p2), (3, .int p3)] := hl
  exact cb_X10_starts_28 C hr hlk  _ _ _ h0 hf hI (lv_sub hl [1, 0] rfl)

theorem dX10_startsNow_0 : decode cX10_startsNow 0 = .ok (.iconst 0, 1) := by decide +kernel
theorem dX10_startsNow_1 : decode cX10_startsNow 1 = .ok (.istore_n 2, 1) := by decide +kernel
theorem dX10_startsNow_2 : decode cX10_startsNow 2 = .ok (.iload_n 2, 1) := by decide +kernel
theorem dX10_startsNow_3 : decode cX10_startsNow 3 = .ok (.bipush 8, 2) := by decide +kernel
theorem dX10_startsNow_5 : decode cX10_startsNow 5 = .ok (.if_icmp .ge 21, 3) := by decide +kernel
theorem dX10_startsNow_8 : decode cX10_startsNow 8 = .ok (.aload_n 0, 1) := by decide +kernel
theorem dX10_startsNow_9 : decode cX10_startsNow 9 = .ok (.getfield 91, 3) := by decide +kernel
theorem dX10_startsNow_12 : decode cX10_startsNow 12 = .ok (.iload_n 2, 1) := by decide +kernel
theorem dX10_startsNow_13 : decode cX10_startsNow 13 = .ok (.aload_n 0, 1) := by decide +kernel
theorem dX10_startsNow_14 : decode cX10_startsNow 14 = .ok (.getfield 19, 3) := by decide +kernel
theorem dX10_startsNow_17 : decode cX10_startsNow 17 = .ok (.iload_n 2, 1) := by decide +kernel
theorem dX10_startsNow_18 : decode cX10_startsNow 18 = .ok (.iaload, 1) := by decide +kernel
theorem dX10_startsNow_19 : decode cX10_startsNow 19 = .ok (.iastore, 1) := by decide +kernel
theorem dX10_startsNow_20 : decode cX10_startsNow 20 = .ok (.iinc 2 1, 3) := by decide +kernel
theorem dX10_startsNow_23 : decode cX10_startsNow 23 = .ok (.goto (-21), 3) := by decide +kernel
theorem dX10_startsNow_26 : decode cX10_startsNow 26 = .ok (.aload_n 0, 1) := by decide +kernel
theorem dX10_startsNow_27 : decode cX10_startsNow 27 = .ok (.iload_n 1, 1) := by decide +kernel
theorem dX10_startsNow_28 : decode cX10_startsNow 28 = .ok (.iload_n 1, 1) := by decide +kernel
theorem dX10_startsNow_29 : decode cX10_startsNow 29 = .ok (.aload_n 0, 1) := by decide +kernel
theorem dX10_startsNow_30 : decode cX10_startsNow 30 = .ok (.getfield 13, 3) := by decide +kernel
theorem dX10_startsNow_33 : decode cX10_startsNow 33 = .ok (.invokevirtual 180, 3) := by decide +kernel
theorem dX10_startsNow_36 : decode cX10_startsNow 36 = .ok (.return_, 1) := by decide +kernel
def f_X10_startsNow_b2 (F : Nat) : Nat → Mm → Int32 → Int32 → Option Mm
 | 0, _, _, _ => none
 | N + 1, μ, a1, a2 =>
 if (8 : Int32) ≤ a2 then
 (f_X10_starts F μ a1 a1 (μ.1 1000 0 2)).bind fun q7 =>
 some q7
 else
 (ra μ 1005 0 8 a2).bind fun v9 =>
 (wa μ 1031 0 8 a2 v9).bind fun m11 =>
 f_X10_startsNow_b2 F N m11 a1 (a2 + (1 : Int32))
set_option maxHeartbeats 4000000 in
set_option maxRecDepth 100000 in
theorem cb_X10_startsNow_2 {l : Launch} {E : En} {p : Program} {e : Env} {s : State} {m : MethodId} {av : Array Value} {below : List Frame} {meth : Method} {c : Code} (C : Cx E p s m av c cX10_startsNow 3 yX10_startsNow.cls) (hr : meth.sig.returnType = (none : Option FieldType)) (hlk : meth.locks = false) {F : Nat} {z : Mm} : ∀ (N : Nat) (μ : Mm) (a1 : Int32) (a2 : Int32) (h_a0 : l10 E 0), f_X10_startsNow_b2 F N μ a1 a2 = some z → ∀ {H : Heap} {locs : List Loc} {ls : Array Slot}, Iv E s μ H locs → lv_has ls 3 [(0, .ref (ad E 1000 0)), (1, .int a1), (2, .int a2)] → W p l e { frames := 1, cells := 0, slots := 0, locals := 24 } s m av below meth c H locs 0 0 (MQ below (Qm E none z) av s 0 0 (Ad E)) (F0 m 2 ls []) := by
  have hx := C.1.1
  have hb := C.1.2.1
  intro N
  induction N with
  | zero => intro μ a1 a2 h_a0 hf; cases hf
  | succ N ih =>
    intro μ a1 a2 h_a0 hf H locs ls hI hl
    rw [f_X10_startsNow_b2] at hf
    refine lv_iload_n hx hb dX10_startsNow_2 rfl (lv_at hl 2 rfl) ?_
    refine lv_bipush (v := (8 : Int32)) hx hb dX10_startsNow_3 kb_8 ?_
    refine lv_icmp_ge (tgt := 26) hx hb dX10_startsNow_5 rfl (fun hc => ?_) (fun hc => ?_)
    · replace hf := it hf hc
      refine lv_aload_n hx hb dX10_startsNow_26 rfl (lv_at hl 0 rfl) ?_
      refine lv_iload_n hx hb dX10_startsNow_27 rfl (lv_at hl 1 rfl) ?_
      refine lv_iload_n hx hb dX10_startsNow_28 rfl (lv_at hl 1 rfl) ?_
      refine lv_aload_n hx hb dX10_startsNow_29 rfl (lv_at hl 0 rfl) ?_
      refine gf_10_2 C hI h_a0.1 fl_X10_13 dX10_startsNow_30 ?_
      obtain ⟨q7, e8, hf⟩ := ob hf
      refine mcV (As := [.int a1, .int a1, .int (μ.1 1000 0 2)]) (rest := []) C hI (c_X10_starts l E h_a0 e8) ml_X10_180 kv_X10_starts (m_recv C hI h_a0.1 (ce_1000 E _ _ _) rfl) rfl rfl ⟨Nat.le_of_ble_eq_true rfl, Nat.le_of_ble_eq_true rfl⟩ ⟨Nat.zero_le _, Nat.zero_le _⟩ rfl rfl hl.1 (Nat.le_of_ble_eq_true rfl) dX10_startsNow_33 (st1 := []) rfl (fun H locs hI => ?_)
      obtain rfl := Option.some.inj hf
      exact m_vret C hr hlk hI dX10_startsNow_36
    · replace hf := ie hf hc
      refine lv_aload_n hx hb dX10_startsNow_8 rfl (lv_at hl 0 rfl) ?_
      refine gf_10_30 C hI h_a0.1 fl_X10_91 dX10_startsNow_9 ?_
      refine lv_iload_n hx hb dX10_startsNow_12 rfl (lv_at hl 2 rfl) ?_
      refine lv_aload_n hx hb dX10_startsNow_13 rfl (lv_at hl 0 rfl) ?_
      refine gf_10_4 C hI h_a0.1 fl_X10_19 dX10_startsNow_14 ?_
      refine lv_iload_n hx hb dX10_startsNow_17 rfl (lv_at hl 2 rfl) ?_
      obtain ⟨v9, e10, hf⟩ := ob hf
      refine m_iald C hI h_a0.2.1 (ce_1005 E _ _ _) e10 dX10_startsNow_18 ?_
      obtain ⟨m11, e12, hf⟩ := ob hf
      refine m_iast C hI h_a0.2.2.2.2.2.2.2.2.2.2.2.2.2.2.2.2.2.2.2.2.2.2.2.2.1 (ce_1031 E _) e12 dX10_startsNow_19 (fun H locs hI => ?_)
      refine lv_iinc (v := a2 + (1 : Int32)) hx hb dX10_startsNow_20 hl (k := 2) rfl (ki_1 _) (by decide) rfl (fun ls hl => ?_)
      have hl : lv_has ls 3 [(2, .int (a2 + (1 : Int32))), (0, .ref (ad E 1000 0)), (1, .int a1)] := hl
      refine lv_goto (tgt := 2) hx hb dX10_startsNow_23 rfl ?_
      exact ih _ _ _ h_a0 hf hI (lv_sub hl [1, 2, 0] rfl)
def f_X10_startsNow (F : Nat) (μ : Mm) (p1 : Int32) : Option Mm :=
 f_X10_startsNow_b2 F F μ p1 (0 : Int32)
set_option maxHeartbeats 4000000 in
set_option maxRecDepth 100000 in
theorem c_X10_startsNow (l : Launch) (E : En) {F : Nat} {μ : Mm} {p1 : Int32} (h0 : l10 E 0) {z : Mm} (hf : f_X10_startsNow F μ p1 = some z) : Met l yX10_startsNow (wt yX10_startsNow cX10_startsNow 3 (none : Option FieldType)) { frames := 1, cells := 0, slots := 0, locals := 24 } (Pm E [.ref (ad E 1000 0), .int p1] μ) (Qm E none z) 0 0 (Ad E) := by
  unfold f_X10_startsNow at hf
  refine met_of (cc := cX10_startsNow) (nL := 3) (ret := (none : Option FieldType)) (by decide) _ (Nat.le_of_ble_eq_true rfl) ?_
  intro p e s m below meth c C hr hlk hI ls hl
  have hx := C.1.1
  have hb := C.1.2.1
  have hl : lv_has ls 3 [(0, .ref (ad E 1000 0)), (1, .int p1)] := hl
  refine lv_iconst (v := (0 : Int32)) hx hb dX10_startsNow_0 kc_0 ?_
  refine lv_istore_n hx hb dX10_startsNow_1 rfl hl (by decide) rfl (fun ls hl => ?_)
  have hl : lv_has ls 3 [(2, .int (0 : Int32)), (0, .ref (ad E 1000 0)), (1, .int p1)] := hl
  exact cb_X10_startsNow_2 C hr hlk  _ _ _ _ h0 hf hI (lv_sub hl [1, 2, 0] rfl)

theorem dX10_runsNow_0 : decode cX10_runsNow 0 = .ok (.aload_n 0, 1) := by decide +kernel
theorem dX10_runsNow_1 : decode cX10_runsNow 1 = .ok (.getfield 173, 3) := by decide +kernel
theorem dX10_runsNow_4 : decode cX10_runsNow 4 = .ok (.iload_n 1, 1) := by decide +kernel
theorem dX10_runsNow_5 : decode cX10_runsNow 5 = .ok (.if_icmp .ne 24, 3) := by decide +kernel
theorem dX10_runsNow_8 : decode cX10_runsNow 8 = .ok (.aload_n 0, 1) := by decide +kernel
theorem dX10_runsNow_9 : decode cX10_runsNow 9 = .ok (.getfield 82, 3) := by decide +kernel
theorem dX10_runsNow_12 : decode cX10_runsNow 12 = .ok (.iload_n 1, 1) := by decide +kernel
theorem dX10_runsNow_13 : decode cX10_runsNow 13 = .ok (.iaload, 1) := by decide +kernel
theorem dX10_runsNow_14 : decode cX10_runsNow 14 = .ok (.iconst 2, 1) := by decide +kernel
theorem dX10_runsNow_15 : decode cX10_runsNow 15 = .ok (.if_icmp .ne 14, 3) := by decide +kernel
theorem dX10_runsNow_18 : decode cX10_runsNow 18 = .ok (.aload_n 0, 1) := by decide +kernel
theorem dX10_runsNow_19 : decode cX10_runsNow 19 = .ok (.getfield 176, 3) := by decide +kernel
theorem dX10_runsNow_22 : decode cX10_runsNow 22 = .ok (.ifCond .ne 7, 3) := by decide +kernel
theorem dX10_runsNow_25 : decode cX10_runsNow 25 = .ok (.iconst 1, 1) := by decide +kernel
theorem dX10_runsNow_26 : decode cX10_runsNow 26 = .ok (.goto 4, 3) := by decide +kernel
theorem dX10_runsNow_29 : decode cX10_runsNow 29 = .ok (.iconst 0, 1) := by decide +kernel
theorem dX10_runsNow_30 : decode cX10_runsNow 30 = .ok (.ireturn, 1) := by decide +kernel
def f_X10_runsNow (μ : Mm) (p1 : Int32) : Option Int32 :=
 if (μ.1 1000 0 31) = p1 then
 (ra μ 1028 0 8 p1).bind fun v3 =>
 if v3 = (2 : Int32) then
 if (μ.1 1000 0 32) = 0 then
 some (1 : Int32)
 else
 some (0 : Int32)
 else
 some (0 : Int32)
 else
 some (0 : Int32)
set_option maxHeartbeats 4000000 in
set_option maxRecDepth 100000 in
theorem c_X10_runsNow (l : Launch) (E : En) {μ : Mm} {p1 : Int32} (h0 : l10 E 0) {z : Int32} (hf : f_X10_runsNow μ p1 = some z) : Met l yX10_runsNow (wt yX10_runsNow cX10_runsNow 2 (some .boolean)) { frames := 0, cells := 0, slots := 0, locals := 0 } (Pm E [.ref (ad E 1000 0), .int p1] μ) (Qm E (some (.int z)) μ) 0 0 (Ad E) := by
  unfold f_X10_runsNow at hf
  refine met_of (cc := cX10_runsNow) (nL := 2) (ret := (some .boolean)) (by decide) _ (Nat.le_of_ble_eq_true rfl) ?_
  intro p e s m below meth c C hr hlk hI ls hl
  have hx := C.1.1
  have hb := C.1.2.1
  have hl : lv_has ls 2 [(0, .ref (ad E 1000 0)), (1, .int p1)] := hl
  refine lv_aload_n hx hb dX10_runsNow_0 rfl (lv_at hl 0 rfl) ?_
  refine gf_10_31 C hI h0.1 fl_X10_173 dX10_runsNow_1 ?_
  refine lv_iload_n hx hb dX10_runsNow_4 rfl (lv_at hl 1 rfl) ?_
  refine lv_icmp_ne (tgt := 29) hx hb dX10_runsNow_5 rfl (fun hc => ?_) (fun hc => ?_)
  · replace hf := ie hf hc
    refine lv_iconst (v := (0 : Int32)) hx hb dX10_runsNow_29 kc_0 ?_
    obtain rfl := Option.some.inj hf
    exact m_zret C hr hlk hI (by decide) dX10_runsNow_30
  · replace hf := it hf hc
    refine lv_aload_n hx hb dX10_runsNow_8 rfl (lv_at hl 0 rfl) ?_
    refine gf_10_27 C hI h0.1 fl_X10_82 dX10_runsNow_9 ?_
    refine lv_iload_n hx hb dX10_runsNow_12 rfl (lv_at hl 1 rfl) ?_
    obtain ⟨v3, e4, hf⟩ := ob hf
    refine m_iald C hI h0.2.2.2.2.2.2.2.2.2.2.2.2.2.2.2.2.2.2.2.2.2.1 (ce_1028 E _ _ _) e4 dX10_runsNow_13 ?_
    refine lv_iconst (v := (2 : Int32)) hx hb dX10_runsNow_14 kc_2 ?_
    refine lv_icmp_ne (tgt := 29) hx hb dX10_runsNow_15 rfl (fun hc => ?_) (fun hc => ?_)
    · replace hf := ie hf hc
      refine lv_iconst (v := (0 : Int32)) hx hb dX10_runsNow_29 kc_0 ?_
      obtain rfl := Option.some.inj hf
      exact m_zret C hr hlk hI (by decide) dX10_runsNow_30
    · replace hf := it hf hc
      refine lv_aload_n hx hb dX10_runsNow_18 rfl (lv_at hl 0 rfl) ?_
      refine gf_10_32 C hI h0.1 fl_X10_176 dX10_runsNow_19 ?_
      refine lv_if_ne (tgt := 29) hx hb dX10_runsNow_22 rfl (fun hc => ?_) (fun hc => ?_)
      · replace hf := ie hf hc
        refine lv_iconst (v := (0 : Int32)) hx hb dX10_runsNow_29 kc_0 ?_
        obtain rfl := Option.some.inj hf
        exact m_zret C hr hlk hI (by decide) dX10_runsNow_30
      · replace hf := it hf hc
        refine lv_iconst (v := (1 : Int32)) hx hb dX10_runsNow_25 kc_1 ?_
        refine lv_goto (tgt := 30) hx hb dX10_runsNow_26 rfl ?_
        obtain rfl := Option.some.inj hf
        exact m_zret C hr hlk hI (by decide) dX10_runsNow_30

theorem dX10_fits_0 : decode cX10_fits 0 = .ok (.iload_n 1, 1) := by decide +kernel
theorem dX10_fits_1 : decode cX10_fits 1 = .ok (.tableswitch 231 0 7 #[47, 72, 105, 111, 145, 189, 213, 226], 47) := by decide +kernel
theorem dX10_fits_48 : decode cX10_fits 48 = .ok (.aload_n 0, 1) := by decide +kernel
theorem dX10_fits_49 : decode cX10_fits 49 = .ok (.getfield 82, 3) := by decide +kernel
theorem dX10_fits_52 : decode cX10_fits 52 = .ok (.iload_n 2, 1) := by decide +kernel
theorem dX10_fits_53 : decode cX10_fits 53 = .ok (.iaload, 1) := by decide +kernel
theorem dX10_fits_54 : decode cX10_fits 54 = .ok (.ifCond .eq 13, 3) := by decide +kernel
theorem dX10_fits_57 : decode cX10_fits 57 = .ok (.aload_n 0, 1) := by decide +kernel
theorem dX10_fits_58 : decode cX10_fits 58 = .ok (.getfield 82, 3) := by decide +kernel
theorem dX10_fits_61 : decode cX10_fits 61 = .ok (.iload_n 2, 1) := by decide +kernel
theorem dX10_fits_62 : decode cX10_fits 62 = .ok (.iaload, 1) := by decide +kernel
theorem dX10_fits_63 : decode cX10_fits 63 = .ok (.iconst 4, 1) := by decide +kernel
theorem dX10_fits_64 : decode cX10_fits 64 = .ok (.if_icmp .ne 7, 3) := by decide +kernel
theorem dX10_fits_67 : decode cX10_fits 67 = .ok (.iconst 1, 1) := by decide +kernel
theorem dX10_fits_68 : decode cX10_fits 68 = .ok (.goto 4, 3) := by decide +kernel
theorem dX10_fits_71 : decode cX10_fits 71 = .ok (.iconst 0, 1) := by decide +kernel
theorem dX10_fits_72 : decode cX10_fits 72 = .ok (.ireturn, 1) := by decide +kernel
theorem dX10_fits_73 : decode cX10_fits 73 = .ok (.aload_n 0, 1) := by decide +kernel
theorem dX10_fits_74 : decode cX10_fits 74 = .ok (.getfield 176, 3) := by decide +kernel
theorem dX10_fits_77 : decode cX10_fits 77 = .ok (.ifCond .ne 27, 3) := by decide +kernel
theorem dX10_fits_80 : decode cX10_fits 80 = .ok (.aload_n 0, 1) := by decide +kernel
theorem dX10_fits_81 : decode cX10_fits 81 = .ok (.getfield 82, 3) := by decide +kernel
theorem dX10_fits_84 : decode cX10_fits 84 = .ok (.iload_n 2, 1) := by decide +kernel
theorem dX10_fits_85 : decode cX10_fits 85 = .ok (.iaload, 1) := by decide +kernel
theorem dX10_fits_86 : decode cX10_fits 86 = .ok (.iconst 1, 1) := by decide +kernel
theorem dX10_fits_87 : decode cX10_fits 87 = .ok (.if_icmp .eq 13, 3) := by decide +kernel
theorem dX10_fits_90 : decode cX10_fits 90 = .ok (.aload_n 0, 1) := by decide +kernel
theorem dX10_fits_91 : decode cX10_fits 91 = .ok (.getfield 82, 3) := by decide +kernel
theorem dX10_fits_94 : decode cX10_fits 94 = .ok (.iload_n 2, 1) := by decide +kernel
theorem dX10_fits_95 : decode cX10_fits 95 = .ok (.iaload, 1) := by decide +kernel
theorem dX10_fits_96 : decode cX10_fits 96 = .ok (.iconst 4, 1) := by decide +kernel
theorem dX10_fits_97 : decode cX10_fits 97 = .ok (.if_icmp .ne 7, 3) := by decide +kernel
theorem dX10_fits_100 : decode cX10_fits 100 = .ok (.iconst 1, 1) := by decide +kernel
theorem dX10_fits_101 : decode cX10_fits 101 = .ok (.goto 4, 3) := by decide +kernel
theorem dX10_fits_104 : decode cX10_fits 104 = .ok (.iconst 0, 1) := by decide +kernel
theorem dX10_fits_105 : decode cX10_fits 105 = .ok (.ireturn, 1) := by decide +kernel
theorem dX10_fits_106 : decode cX10_fits 106 = .ok (.aload_n 0, 1) := by decide +kernel
theorem dX10_fits_107 : decode cX10_fits 107 = .ok (.iload_n 2, 1) := by decide +kernel
theorem dX10_fits_108 : decode cX10_fits 108 = .ok (.invokevirtual 184, 3) := by decide +kernel
theorem dX10_fits_111 : decode cX10_fits 111 = .ok (.ireturn, 1) := by decide +kernel
theorem dX10_fits_112 : decode cX10_fits 112 = .ok (.aload_n 0, 1) := by decide +kernel
theorem dX10_fits_113 : decode cX10_fits 113 = .ok (.iload_n 2, 1) := by decide +kernel
theorem dX10_fits_114 : decode cX10_fits 114 = .ok (.invokevirtual 184, 3) := by decide +kernel
theorem dX10_fits_117 : decode cX10_fits 117 = .ok (.ifCond .eq 27, 3) := by decide +kernel
theorem dX10_fits_120 : decode cX10_fits 120 = .ok (.aload_n 0, 1) := by decide +kernel
theorem dX10_fits_121 : decode cX10_fits 121 = .ok (.getfield 88, 3) := by decide +kernel
theorem dX10_fits_124 : decode cX10_fits 124 = .ok (.iload_n 3, 1) := by decide +kernel
theorem dX10_fits_125 : decode cX10_fits 125 = .ok (.iaload, 1) := by decide +kernel
theorem dX10_fits_126 : decode cX10_fits 126 = .ok (.iconst (-1), 1) := by decide +kernel
theorem dX10_fits_127 : decode cX10_fits 127 = .ok (.if_icmp .eq 17, 3) := by decide +kernel
theorem dX10_fits_130 : decode cX10_fits 130 = .ok (.aload_n 0, 1) := by decide +kernel
theorem dX10_fits_131 : decode cX10_fits 131 = .ok (.getfield 88, 3) := by decide +kernel
theorem dX10_fits_134 : decode cX10_fits 134 = .ok (.iload_n 3, 1) := by decide +kernel
theorem dX10_fits_135 : decode cX10_fits 135 = .ok (.iaload, 1) := by decide +kernel
theorem dX10_fits_136 : decode cX10_fits 136 = .ok (.iload_n 2, 1) := by decide +kernel
theorem dX10_fits_137 : decode cX10_fits 137 = .ok (.if_icmp .eq 7, 3) := by decide +kernel
theorem dX10_fits_140 : decode cX10_fits 140 = .ok (.iconst 1, 1) := by decide +kernel
theorem dX10_fits_141 : decode cX10_fits 141 = .ok (.goto 4, 3) := by decide +kernel
theorem dX10_fits_144 : decode cX10_fits 144 = .ok (.iconst 0, 1) := by decide +kernel
theorem dX10_fits_145 : decode cX10_fits 145 = .ok (.ireturn, 1) := by decide +kernel
theorem dX10_fits_146 : decode cX10_fits 146 = .ok (.aload_n 0, 1) := by decide +kernel
theorem dX10_fits_147 : decode cX10_fits 147 = .ok (.getfield 88, 3) := by decide +kernel
theorem dX10_fits_150 : decode cX10_fits 150 = .ok (.iload_n 3, 1) := by decide +kernel
theorem dX10_fits_151 : decode cX10_fits 151 = .ok (.iaload, 1) := by decide +kernel
theorem dX10_fits_152 : decode cX10_fits 152 = .ok (.iconst (-1), 1) := by decide +kernel
theorem dX10_fits_153 : decode cX10_fits 153 = .ok (.if_icmp .ne 35, 3) := by decide +kernel
theorem dX10_fits_156 : decode cX10_fits 156 = .ok (.aload_n 0, 1) := by decide +kernel
theorem dX10_fits_157 : decode cX10_fits 157 = .ok (.iload_n 2, 1) := by decide +kernel
theorem dX10_fits_158 : decode cX10_fits 158 = .ok (.invokevirtual 184, 3) := by decide +kernel
theorem dX10_fits_161 : decode cX10_fits 161 = .ok (.ifCond .ne 23, 3) := by decide +kernel
theorem dX10_fits_164 : decode cX10_fits 164 = .ok (.aload_n 0, 1) := by decide +kernel
theorem dX10_fits_165 : decode cX10_fits 165 = .ok (.getfield 82, 3) := by decide +kernel
theorem dX10_fits_168 : decode cX10_fits 168 = .ok (.iload_n 2, 1) := by decide +kernel
theorem dX10_fits_169 : decode cX10_fits 169 = .ok (.iaload, 1) := by decide +kernel
theorem dX10_fits_170 : decode cX10_fits 170 = .ok (.iconst 3, 1) := by decide +kernel
theorem dX10_fits_171 : decode cX10_fits 171 = .ok (.if_icmp .ne 17, 3) := by decide +kernel
theorem dX10_fits_174 : decode cX10_fits 174 = .ok (.aload_n 0, 1) := by decide +kernel
theorem dX10_fits_175 : decode cX10_fits 175 = .ok (.getfield 85, 3) := by decide +kernel
theorem dX10_fits_178 : decode cX10_fits 178 = .ok (.iload_n 2, 1) := by decide +kernel
theorem dX10_fits_179 : decode cX10_fits 179 = .ok (.iaload, 1) := by decide +kernel
theorem dX10_fits_180 : decode cX10_fits 180 = .ok (.iload_n 3, 1) := by decide +kernel
theorem dX10_fits_181 : decode cX10_fits 181 = .ok (.if_icmp .ne 7, 3) := by decide +kernel
theorem dX10_fits_184 : decode cX10_fits 184 = .ok (.iconst 1, 1) := by decide +kernel
theorem dX10_fits_185 : decode cX10_fits 185 = .ok (.goto 4, 3) := by decide +kernel
theorem dX10_fits_188 : decode cX10_fits 188 = .ok (.iconst 0, 1) := by decide +kernel
theorem dX10_fits_189 : decode cX10_fits 189 = .ok (.ireturn, 1) := by decide +kernel
theorem dX10_fits_190 : decode cX10_fits 190 = .ok (.aload_n 0, 1) := by decide +kernel
theorem dX10_fits_191 : decode cX10_fits 191 = .ok (.iload_n 2, 1) := by decide +kernel
theorem dX10_fits_192 : decode cX10_fits 192 = .ok (.invokevirtual 184, 3) := by decide +kernel
theorem dX10_fits_195 : decode cX10_fits 195 = .ok (.ifCond .eq 17, 3) := by decide +kernel
theorem dX10_fits_198 : decode cX10_fits 198 = .ok (.aload_n 0, 1) := by decide +kernel
theorem dX10_fits_199 : decode cX10_fits 199 = .ok (.getfield 88, 3) := by decide +kernel
theorem dX10_fits_202 : decode cX10_fits 202 = .ok (.iload_n 3, 1) := by decide +kernel
theorem dX10_fits_203 : decode cX10_fits 203 = .ok (.iaload, 1) := by decide +kernel
theorem dX10_fits_204 : decode cX10_fits 204 = .ok (.iload_n 2, 1) := by decide +kernel
theorem dX10_fits_205 : decode cX10_fits 205 = .ok (.if_icmp .ne 7, 3) := by decide +kernel
theorem dX10_fits_208 : decode cX10_fits 208 = .ok (.iconst 1, 1) := by decide +kernel
theorem dX10_fits_209 : decode cX10_fits 209 = .ok (.goto 4, 3) := by decide +kernel
theorem dX10_fits_212 : decode cX10_fits 212 = .ok (.iconst 0, 1) := by decide +kernel
theorem dX10_fits_213 : decode cX10_fits 213 = .ok (.ireturn, 1) := by decide +kernel
theorem dX10_fits_214 : decode cX10_fits 214 = .ok (.aload_n 0, 1) := by decide +kernel
theorem dX10_fits_215 : decode cX10_fits 215 = .ok (.getfield 176, 3) := by decide +kernel
theorem dX10_fits_218 : decode cX10_fits 218 = .ok (.ifCond .ne 7, 3) := by decide +kernel
theorem dX10_fits_221 : decode cX10_fits 221 = .ok (.iconst 1, 1) := by decide +kernel
theorem dX10_fits_222 : decode cX10_fits 222 = .ok (.goto 4, 3) := by decide +kernel
theorem dX10_fits_225 : decode cX10_fits 225 = .ok (.iconst 0, 1) := by decide +kernel
theorem dX10_fits_226 : decode cX10_fits 226 = .ok (.ireturn, 1) := by decide +kernel
theorem dX10_fits_227 : decode cX10_fits 227 = .ok (.aload_n 0, 1) := by decide +kernel
theorem dX10_fits_228 : decode cX10_fits 228 = .ok (.getfield 176, 3) := by decide +kernel
theorem dX10_fits_231 : decode cX10_fits 231 = .ok (.ireturn, 1) := by decide +kernel
theorem dX10_fits_232 : decode cX10_fits 232 = .ok (.iconst 1, 1) := by decide +kernel
theorem dX10_fits_233 : decode cX10_fits 233 = .ok (.ireturn, 1) := by decide +kernel
def f_X10_fits (μ : Mm) (p1 : Int32) (p2 : Int32) (p3 : Int32) : Option Int32 :=
 if p1 = (0 : Int32) then
 (ra μ 1028 0 8 p2).bind fun v29 =>
 if v29 = 0 then
 some (1 : Int32)
 else
 (ra μ 1028 0 8 p2).bind fun v31 =>
 if v31 = (4 : Int32) then
 some (1 : Int32)
 else
 some (0 : Int32)
 else
 if p1 = (1 : Int32) then
 if (μ.1 1000 0 32) = 0 then
 (ra μ 1028 0 8 p2).bind fun v33 =>
 if v33 = (1 : Int32) then
 some (1 : Int32)
 else
 (ra μ 1028 0 8 p2).bind fun v35 =>
 if v35 = (4 : Int32) then
 some (1 : Int32)
 else
 some (0 : Int32)
 else
 some (0 : Int32)
 else
 if p1 = (2 : Int32) then
 (f_X10_runsNow μ p2).bind fun q37 =>
 gz q37
 else
 if p1 = (3 : Int32) then
 (f_X10_runsNow μ p2).bind fun q39 =>
 if q39 = 0 then
 some (0 : Int32)
 else
 (ra μ 1030 0 4 p3).bind fun v41 =>
 if v41 = (-1 : Int32) then
 some (0 : Int32)
 else
 (ra μ 1030 0 4 p3).bind fun v43 =>
 if v43 = p2 then
 some (0 : Int32)
 else
 some (1 : Int32)
 else
 if p1 = (4 : Int32) then
 (ra μ 1030 0 4 p3).bind fun v45 =>
 if v45 = (-1 : Int32) then
 (f_X10_runsNow μ p2).bind fun q47 =>
 if q47 = 0 then
 (ra μ 1028 0 8 p2).bind fun v49 =>
 if v49 = (3 : Int32) then
 (ra μ 1029 0 8 p2).bind fun v51 =>
 if v51 = p3 then
 some (1 : Int32)
 else
 some (0 : Int32)
 else
 some (0 : Int32)
 else
 some (1 : Int32)
 else
 some (0 : Int32)
 else
 if p1 = (5 : Int32) then
 (f_X10_runsNow μ p2).bind fun q53 =>
 if q53 = 0 then
 some (0 : Int32)
 else
 (ra μ 1030 0 4 p3).bind fun v55 =>
 if v55 = p2 then
 some (1 : Int32)
 else
 some (0 : Int32)
 else
 if p1 = (6 : Int32) then
 if (μ.1 1000 0 32) = 0 then
 some (1 : Int32)
 else
 some (0 : Int32)
 else
 if p1 = (7 : Int32) then
 gz (μ.1 1000 0 32)
 else
 some (1 : Int32)
set_option maxHeartbeats 4000000 in
set_option maxRecDepth 100000 in
theorem c_X10_fits (l : Launch) (E : En) {μ : Mm} {p1 : Int32} {p2 : Int32} {p3 : Int32} (h0 : l10 E 0) {z : Int32} (hf : f_X10_fits μ p1 p2 p3 = some z) : Met l yX10_fits (wt yX10_fits cX10_fits 4 (some .boolean)) { frames := 1, cells := 0, slots := 0, locals := 21 } (Pm E [.ref (ad E 1000 0), .int p1, .int p2, .int p3] μ) (Qm E (some (.int z)) μ) 0 0 (Ad E) := by
  unfold f_X10_fits at hf
  refine met_of (cc := cX10_fits) (nL := 4) (ret := (some .boolean)) (by decide) _ (Nat.le_of_ble_eq_true rfl) ?_
  intro p e s m below meth c C hr hlk hI ls hl
  have hx := C.1.1
  have hb := C.1.2.1
  have hl : lv_has ls 4 [(0, .ref (ad E 1000 0)), (1, .int p1), (2, .int p2), (3, .int p3)] := hl
  refine lv_iload_n hx hb dX10_fits_0 rfl (lv_at hl 1 rfl) ?_
  by_cases hn0 : p1 = (0 : Int32)
  · replace hf := it hf hn0
    refine lv_tableIn (tgt := 48) (off := 47) hx hb dX10_fits_1 (by rw [hn0]; decide) (by rw [hn0]; decide) (by rw [hn0]; rfl) rfl ?_
    refine lv_aload_n hx hb dX10_fits_48 rfl (lv_at hl 0 rfl) ?_
    refine gf_10_27 C hI h0.1 fl_X10_82 dX10_fits_49 ?_
    refine lv_iload_n hx hb dX10_fits_52 rfl (lv_at hl 2 rfl) ?_
    obtain ⟨v29, e30, hf⟩ := ob hf
    refine m_iald C hI h0.2.2.2.2.2.2.2.2.2.2.2.2.2.2.2.2.2.2.2.2.2.1 (ce_1028 E _ _ _) e30 dX10_fits_53 ?_
    refine lv_if_eq (tgt := 67) hx hb dX10_fits_54 rfl (fun hc => ?_) (fun hc => ?_)
    · replace hf := it hf hc
      refine lv_iconst (v := (1 : Int32)) hx hb dX10_fits_67 kc_1 ?_
      refine lv_goto (tgt := 72) hx hb dX10_fits_68 rfl ?_
      obtain rfl := Option.some.inj hf
      exact m_zret C hr hlk hI (by decide) dX10_fits_72
    · replace hf := ie hf hc
      refine lv_aload_n hx hb dX10_fits_57 rfl (lv_at hl 0 rfl) ?_
      refine gf_10_27 C hI h0.1 fl_X10_82 dX10_fits_58 ?_
      refine lv_iload_n hx hb dX10_fits_61 rfl (lv_at hl 2 rfl) ?_
      obtain ⟨v31, e32, hf⟩ := ob hf
      refine m_iald C hI h0.2.2.2.2.2.2.2.2.2.2.2.2.2.2.2.2.2.2.2.2.2.1 (ce_1028 E _ _ _) e32 dX10_fits_62 ?_
      refine lv_iconst (v := (4 : Int32)) hx hb dX10_fits_63 kc_4 ?_
      refine lv_icmp_ne (tgt := 71) hx hb dX10_fits_64 rfl (fun hc => ?_) (fun hc => ?_)
      · replace hf := ie hf hc
        refine lv_iconst (v := (0 : Int32)) hx hb dX10_fits_71 kc_0 ?_
        obtain rfl := Option.some.inj hf
        exact m_zret C hr hlk hI (by decide) dX10_fits_72
      · replace hf := it hf hc
        refine lv_iconst (v := (1 : Int32)) hx hb dX10_fits_67 kc_1 ?_
        refine lv_goto (tgt := 72) hx hb dX10_fits_68 rfl ?_
        obtain rfl := Option.some.inj hf
        exact m_zret C hr hlk hI (by decide) dX10_fits_72
  replace hf := ie hf hn0
  by_cases hn1 : p1 = (1 : Int32)
  · replace hf := it hf hn1
    refine lv_tableIn (tgt := 73) (off := 72) hx hb dX10_fits_1 (by rw [hn1]; decide) (by rw [hn1]; decide) (by rw [hn1]; rfl) rfl ?_
    refine lv_aload_n hx hb dX10_fits_73 rfl (lv_at hl 0 rfl) ?_
    refine gf_10_32 C hI h0.1 fl_X10_176 dX10_fits_74 ?_
    refine lv_if_ne (tgt := 104) hx hb dX10_fits_77 rfl (fun hc => ?_) (fun hc => ?_)
    · replace hf := ie hf hc
      refine lv_iconst (v := (0 : Int32)) hx hb dX10_fits_104 kc_0 ?_
      obtain rfl := Option.some.inj hf
      exact m_zret C hr hlk hI (by decide) dX10_fits_105
    · replace hf := it hf hc
      refine lv_aload_n hx hb dX10_fits_80 rfl (lv_at hl 0 rfl) ?_
      refine gf_10_27 C hI h0.1 fl_X10_82 dX10_fits_81 ?_
      refine lv_iload_n hx hb dX10_fits_84 rfl (lv_at hl 2 rfl) ?_
      obtain ⟨v33, e34, hf⟩ := ob hf
      refine m_iald C hI h0.2.2.2.2.2.2.2.2.2.2.2.2.2.2.2.2.2.2.2.2.2.1 (ce_1028 E _ _ _) e34 dX10_fits_85 ?_
      refine lv_iconst (v := (1 : Int32)) hx hb dX10_fits_86 kc_1 ?_
      refine lv_icmp_eq (tgt := 100) hx hb dX10_fits_87 rfl (fun hc => ?_) (fun hc => ?_)
      · replace hf := it hf hc
        refine lv_iconst (v := (1 : Int32)) hx hb dX10_fits_100 kc_1 ?_
        refine lv_goto (tgt := 105) hx hb dX10_fits_101 rfl ?_
        obtain rfl := Option.some.inj hf
        exact m_zret C hr hlk hI (by decide) dX10_fits_105
      · replace hf := ie hf hc
        refine lv_aload_n hx hb dX10_fits_90 rfl (lv_at hl 0 rfl) ?_
        refine gf_10_27 C hI h0.1 fl_X10_82 dX10_fits_91 ?_
        refine lv_iload_n hx hb dX10_fits_94 rfl (lv_at hl 2 rfl) ?_
        obtain ⟨v35, e36, hf⟩ := ob hf
        refine m_iald C hI h0.2.2.2.2.2.2.2.2.2.2.2.2.2.2.2.2.2.2.2.2.2.1 (ce_1028 E _ _ _) e36 dX10_fits_95 ?_
        refine lv_iconst (v := (4 : Int32)) hx hb dX10_fits_96 kc_4 ?_
        refine lv_icmp_ne (tgt := 104) hx hb dX10_fits_97 rfl (fun hc => ?_) (fun hc => ?_)
        · replace hf := ie hf hc
          refine lv_iconst (v := (0 : Int32)) hx hb dX10_fits_104 kc_0 ?_
          obtain rfl := Option.some.inj hf
          exact m_zret C hr hlk hI (by decide) dX10_fits_105
        · replace hf := it hf hc
          refine lv_iconst (v := (1 : Int32)) hx hb dX10_fits_100 kc_1 ?_
          refine lv_goto (tgt := 105) hx hb dX10_fits_101 rfl ?_
          obtain rfl := Option.some.inj hf
          exact m_zret C hr hlk hI (by decide) dX10_fits_105
  replace hf := ie hf hn1
  by_cases hn2 : p1 = (2 : Int32)
  · replace hf := it hf hn2
    refine lv_tableIn (tgt := 106) (off := 105) hx hb dX10_fits_1 (by rw [hn2]; decide) (by rw [hn2]; decide) (by rw [hn2]; rfl) rfl ?_
    refine lv_aload_n hx hb dX10_fits_106 rfl (lv_at hl 0 rfl) ?_
    refine lv_iload_n hx hb dX10_fits_107 rfl (lv_at hl 2 rfl) ?_
    obtain ⟨q37, e38, hf⟩ := ob hf
    refine mcV (As := [.int p2]) (rest := []) C hI (c_X10_runsNow l E h0 e38) ml_X10_184 kv_X10_runsNow (m_recv C hI h0.1 (ce_1000 E _ _ _) rfl) rfl rfl ⟨Nat.le_of_ble_eq_true rfl, Nat.le_of_ble_eq_true rfl⟩ ⟨Nat.zero_le _, Nat.zero_le _⟩ rfl rfl hl.1 (Nat.le_of_ble_eq_true rfl) dX10_fits_108 (st1 := [.int q37]) rfl (fun H locs hI => ?_)
    obtain ⟨rfl, hn, -⟩ := gz_ok hf
    exact m_zret C hr hlk hI hn dX10_fits_111
  replace hf := ie hf hn2
  by_cases hn3 : p1 = (3 : Int32)
  · replace hf := it hf hn3
    refine lv_tableIn (tgt := 112) (off := 111) hx hb dX10_fits_1 (by rw [hn3]; decide) (by rw [hn3]; decide) (by rw [hn3]; rfl) rfl ?_
    refine lv_aload_n hx hb dX10_fits_112 rfl (lv_at hl 0 rfl) ?_
    refine lv_iload_n hx hb dX10_fits_113 rfl (lv_at hl 2 rfl) ?_
    obtain ⟨q39, e40, hf⟩ := ob hf
    refine mcV (As := [.int p2]) (rest := []) C hI (c_X10_runsNow l E h0 e40) ml_X10_184 kv_X10_runsNow (m_recv C hI h0.1 (ce_1000 E _ _ _) rfl) rfl rfl ⟨Nat.le_of_ble_eq_true rfl, Nat.le_of_ble_eq_true rfl⟩ ⟨Nat.zero_le _, Nat.zero_le _⟩ rfl rfl hl.1 (Nat.le_of_ble_eq_true rfl) dX10_fits_114 (st1 := [.int q39]) rfl (fun H locs hI => ?_)
    refine lv_if_eq (tgt := 144) hx hb dX10_fits_117 rfl (fun hc => ?_) (fun hc => ?_)
    · replace hf := it hf hc
      refine lv_iconst (v := (0 : Int32)) hx hb dX10_fits_144 kc_0 ?_
      obtain rfl := Option.some.inj hf
      exact m_zret C hr hlk hI (by decide) dX10_fits_145
    · replace hf := ie hf hc
      refine lv_aload_n hx hb dX10_fits_120 rfl (lv_at hl 0 rfl) ?_
      refine gf_10_29 C hI h0.1 fl_X10_88 dX10_fits_121 ?_
      refine lv_iload_n hx hb dX10_fits_124 rfl (lv_at hl 3 rfl) ?_
      obtain ⟨v41, e42, hf⟩ := ob hf
      refine m_iald C hI h0.2.2.2.2.2.2.2.2.2.2.2.2.2.2.2.2.2.2.2.2.2.2.2.1 (ce_1030 E _ _ _) e42 dX10_fits_125 ?_
      refine lv_iconst (v := (-1 : Int32)) hx hb dX10_fits_126 kc_m1 ?_
      refine lv_icmp_eq (tgt := 144) hx hb dX10_fits_127 rfl (fun hc => ?_) (fun hc => ?_)
      · replace hf := it hf hc
        refine lv_iconst (v := (0 : Int32)) hx hb dX10_fits_144 kc_0 ?_
        obtain rfl := Option.some.inj hf
        exact m_zret C hr hlk hI (by decide) dX10_fits_145
      · replace hf := ie hf hc
        refine lv_aload_n hx hb dX10_fits_130 rfl (lv_at hl 0 rfl) ?_
        refine gf_10_29 C hI h0.1 fl_X10_88 dX10_fits_131 ?_
        refine lv_iload_n hx hb dX10_fits_134 rfl (lv_at hl 3 rfl) ?_
        obtain ⟨v43, e44, hf⟩ := ob hf
        refine m_iald C hI h0.2.2.2.2.2.2.2.2.2.2.2.2.2.2.2.2.2.2.2.2.2.2.2.1 (ce_1030 E _ _ _) e44 dX10_fits_135 ?_
        refine lv_iload_n hx hb dX10_fits_136 rfl (lv_at hl 2 rfl) ?_
        refine lv_icmp_eq (tgt := 144) hx hb dX10_fits_137 rfl (fun hc => ?_) (fun hc => ?_)
        · replace hf := it hf hc
          refine lv_iconst (v := (0 : Int32)) hx hb dX10_fits_144 kc_0 ?_
          obtain rfl := Option.some.inj hf
          exact m_zret C hr hlk hI (by decide) dX10_fits_145
        · replace hf := ie hf hc
          refine lv_iconst (v := (1 : Int32)) hx hb dX10_fits_140 kc_1 ?_
          refine lv_goto (tgt := 145) hx hb dX10_fits_141 rfl ?_
          obtain rfl := Option.some.inj hf
          exact m_zret C hr hlk hI (by decide) dX10_fits_145
  replace hf := ie hf hn3
  by_cases hn4 : p1 = (4 : Int32)
  · replace hf := it hf hn4
    refine lv_tableIn (tgt := 146) (off := 145) hx hb dX10_fits_1 (by rw [hn4]; decide) (by rw [hn4]; decide) (by rw [hn4]; rfl) rfl ?_
    refine lv_aload_n hx hb dX10_fits_146 rfl (lv_at hl 0 rfl) ?_
    refine gf_10_29 C hI h0.1 fl_X10_88 dX10_fits_147 ?_
    refine lv_iload_n hx hb dX10_fits_150 rfl (lv_at hl 3 rfl) ?_
    obtain ⟨v45, e46, hf⟩ := ob hf
    refine m_iald C hI h0.2.2.2.2.2.2.2.2.2.2.2.2.2.2.2.2.2.2.2.2.2.2.2.1 (ce_1030 E _ _ _) e46 dX10_fits_151 ?_
    refine lv_iconst (v := (-1 : Int32)) hx hb dX10_fits_152 kc_m1 ?_
    refine lv_icmp_ne (tgt := 188) hx hb dX10_fits_153 rfl (fun hc => ?_) (fun hc => ?_)
    · replace hf := ie hf hc
      refine lv_iconst (v := (0 : Int32)) hx hb dX10_fits_188 kc_0 ?_
      obtain rfl := Option.some.inj hf
      exact m_zret C hr hlk hI (by decide) dX10_fits_189
    · replace hf := it hf hc
      refine lv_aload_n hx hb dX10_fits_156 rfl (lv_at hl 0 rfl) ?_
      refine lv_iload_n hx hb dX10_fits_157 rfl (lv_at hl 2 rfl) ?_
      obtain ⟨q47, e48, hf⟩ := ob hf
      refine mcV (As := [.int p2]) (rest := []) C hI (c_X10_runsNow l E h0 e48) ml_X10_184 kv_X10_runsNow (m_recv C hI h0.1 (ce_1000 E _ _ _) rfl) rfl rfl ⟨Nat.le_of_ble_eq_true rfl, Nat.le_of_ble_eq_true rfl⟩ ⟨Nat.zero_le _, Nat.zero_le _⟩ rfl rfl hl.1 (Nat.le_of_ble_eq_true rfl) dX10_fits_158 (st1 := [.int q47]) rfl (fun H locs hI => ?_)
      refine lv_if_ne (tgt := 184) hx hb dX10_fits_161 rfl (fun hc => ?_) (fun hc => ?_)
      · replace hf := ie hf hc
        refine lv_iconst (v := (1 : Int32)) hx hb dX10_fits_184 kc_1 ?_
        refine lv_goto (tgt := 189) hx hb dX10_fits_185 rfl ?_
        obtain rfl := Option.some.inj hf
        exact m_zret C hr hlk hI (by decide) dX10_fits_189
      · replace hf := it hf hc
        refine lv_aload_n hx hb dX10_fits_164 rfl (lv_at hl 0 rfl) ?_
        refine gf_10_27 C hI h0.1 fl_X10_82 dX10_fits_165 ?_
        refine lv_iload_n hx hb dX10_fits_168 rfl (lv_at hl 2 rfl) ?_
        obtain ⟨v49, e50, hf⟩ := ob hf
        refine m_iald C hI h0.2.2.2.2.2.2.2.2.2.2.2.2.2.2.2.2.2.2.2.2.2.1 (ce_1028 E _ _ _) e50 dX10_fits_169 ?_
        refine lv_iconst (v := (3 : Int32)) hx hb dX10_fits_170 kc_3 ?_
        refine lv_icmp_ne (tgt := 188) hx hb dX10_fits_171 rfl (fun hc => ?_) (fun hc => ?_)
        · replace hf := ie hf hc
          refine lv_iconst (v := (0 : Int32)) hx hb dX10_fits_188 kc_0 ?_
          obtain rfl := Option.some.inj hf
          exact m_zret C hr hlk hI (by decide) dX10_fits_189
        · replace hf := it hf hc
          refine lv_aload_n hx hb dX10_fits_174 rfl (lv_at hl 0 rfl) ?_
          refine gf_10_28 C hI h0.1 fl_X10_85 dX10_fits_175 ?_
          refine lv_iload_n hx hb dX10_fits_178 rfl (lv_at hl 2 rfl) ?_
          obtain ⟨v51, e52, hf⟩ := ob hf
          refine m_iald C hI h0.2.2.2.2.2.2.2.2.2.2.2.2.2.2.2.2.2.2.2.2.2.2.1 (ce_1029 E _ _ _) e52 dX10_fits_179 ?_
          refine lv_iload_n hx hb dX10_fits_180 rfl (lv_at hl 3 rfl) ?_
          refine lv_icmp_ne (tgt := 188) hx hb dX10_fits_181 rfl (fun hc => ?_) (fun hc => ?_)
          · replace hf := ie hf hc
            refine lv_iconst (v := (0 : Int32)) hx hb dX10_fits_188 kc_0 ?_
            obtain rfl := Option.some.inj hf
            exact m_zret C hr hlk hI (by decide) dX10_fits_189
          · replace hf := it hf hc
            refine lv_iconst (v := (1 : Int32)) hx hb dX10_fits_184 kc_1 ?_
            refine lv_goto (tgt := 189) hx hb dX10_fits_185 rfl ?_
            obtain rfl := Option.some.inj hf
            exact m_zret C hr hlk hI (by decide) dX10_fits_189
  replace hf := ie hf hn4
  by_cases hn5 : p1 = (5 : Int32)
  · replace hf := it hf hn5
    refine lv_tableIn (tgt := 190) (off := 189) hx hb dX10_fits_1 (by rw [hn5]; decide) (by rw [hn5]; decide) (by rw [hn5]; rfl) rfl ?_
    refine lv_aload_n hx hb dX10_fits_190 rfl (lv_at hl 0 rfl) ?_
    refine lv_iload_n hx hb dX10_fits_191 rfl (lv_at hl 2 rfl) ?_
    obtain ⟨q53, e54, hf⟩ := ob hf
    refine mcV (As := [.int p2]) (rest := []) C hI (c_X10_runsNow l E h0 e54) ml_X10_184 kv_X10_runsNow (m_recv C hI h0.1 (ce_1000 E _ _ _) rfl) rfl rfl ⟨Nat.le_of_ble_eq_true rfl, Nat.le_of_ble_eq_true rfl⟩ ⟨Nat.zero_le _, Nat.zero_le _⟩ rfl rfl hl.1 (Nat.le_of_ble_eq_true rfl) dX10_fits_192 (st1 := [.int q53]) rfl (fun H locs hI => ?_)
    refine lv_if_eq (tgt := 212) hx hb dX10_fits_195 rfl (fun hc => ?_) (fun hc => ?_)
    · replace hf := it hf hc
      refine lv_iconst (v := (0 : Int32)) hx hb dX10_fits_212 kc_0 ?_
      obtain rfl := Option.some.inj hf
      exact m_zret C hr hlk hI (by decide) dX10_fits_213
    · replace hf := ie hf hc
      refine lv_aload_n hx hb dX10_fits_198 rfl (lv_at hl 0 rfl) ?_
      refine gf_10_29 C hI h0.1 fl_X10_88 dX10_fits_199 ?_
      refine lv_iload_n hx hb dX10_fits_202 rfl (lv_at hl 3 rfl) ?_
      obtain ⟨v55, e56, hf⟩ := ob hf
      refine m_iald C hI h0.2.2.2.2.2.2.2.2.2.2.2.2.2.2.2.2.2.2.2.2.2.2.2.1 (ce_1030 E _ _ _) e56 dX10_fits_203 ?_
      refine lv_iload_n hx hb dX10_fits_204 rfl (lv_at hl 2 rfl) ?_
      refine lv_icmp_ne (tgt := 212) hx hb dX10_fits_205 rfl (fun hc => ?_) (fun hc => ?_)
      · replace hf := ie hf hc
        refine lv_iconst (v := (0 : Int32)) hx hb dX10_fits_212 kc_0 ?_
        obtain rfl := Option.some.inj hf
        exact m_zret C hr hlk hI (by decide) dX10_fits_213
      · replace hf := it hf hc
        refine lv_iconst (v := (1 : Int32)) hx hb dX10_fits_208 kc_1 ?_
        refine lv_goto (tgt := 213) hx hb dX10_fits_209 rfl ?_
        obtain rfl := Option.some.inj hf
        exact m_zret C hr hlk hI (by decide) dX10_fits_213
  replace hf := ie hf hn5
  by_cases hn6 : p1 = (6 : Int32)
  · replace hf := it hf hn6
    refine lv_tableIn (tgt := 214) (off := 213) hx hb dX10_fits_1 (by rw [hn6]; decide) (by rw [hn6]; decide) (by rw [hn6]; rfl) rfl ?_
    refine lv_aload_n hx hb dX10_fits_214 rfl (lv_at hl 0 rfl) ?_
    refine gf_10_32 C hI h0.1 fl_X10_176 dX10_fits_215 ?_
    refine lv_if_ne (tgt := 225) hx hb dX10_fits_218 rfl (fun hc => ?_) (fun hc => ?_)
    · replace hf := ie hf hc
      refine lv_iconst (v := (0 : Int32)) hx hb dX10_fits_225 kc_0 ?_
      obtain rfl := Option.some.inj hf
      exact m_zret C hr hlk hI (by decide) dX10_fits_226
    · replace hf := it hf hc
      refine lv_iconst (v := (1 : Int32)) hx hb dX10_fits_221 kc_1 ?_
      refine lv_goto (tgt := 226) hx hb dX10_fits_222 rfl ?_
      obtain rfl := Option.some.inj hf
      exact m_zret C hr hlk hI (by decide) dX10_fits_226
  replace hf := ie hf hn6
  by_cases hn7 : p1 = (7 : Int32)
  · replace hf := it hf hn7
    refine lv_tableIn (tgt := 227) (off := 226) hx hb dX10_fits_1 (by rw [hn7]; decide) (by rw [hn7]; decide) (by rw [hn7]; rfl) rfl ?_
    refine lv_aload_n hx hb dX10_fits_227 rfl (lv_at hl 0 rfl) ?_
    refine gf_10_32 C hI h0.1 fl_X10_176 dX10_fits_228 ?_
    obtain ⟨rfl, hn, -⟩ := gz_ok hf
    exact m_zret C hr hlk hI hn dX10_fits_231
  replace hf := ie hf hn7
  have a0_ := ts_ne (n := 0) hn0 (by decide)
  have a1_ := ts_ne (n := 1) hn1 (by decide)
  have a2_ := ts_ne (n := 2) hn2 (by decide)
  have a3_ := ts_ne (n := 3) hn3 (by decide)
  have a4_ := ts_ne (n := 4) hn4 (by decide)
  have a5_ := ts_ne (n := 5) hn5 (by decide)
  have a6_ := ts_ne (n := 6) hn6 (by decide)
  have a7_ := ts_ne (n := 7) hn7 (by decide)
  refine lv_tableOut (tgt := 232) hx hb dX10_fits_1 (by omega) rfl ?_
  refine lv_iconst (v := (1 : Int32)) hx hb dX10_fits_232 kc_1 ?_
  obtain rfl := Option.some.inj hf
  exact m_zret C hr hlk hI (by decide) dX10_fits_233

theorem dX10_loses_0 : decode cX10_loses 0 = .ok (.iconst 0, 1) := by decide +kernel
theorem dX10_loses_1 : decode cX10_loses 1 = .ok (.istore_n 1, 1) := by decide +kernel
theorem dX10_loses_2 : decode cX10_loses 2 = .ok (.iload_n 1, 1) := by decide +kernel
theorem dX10_loses_3 : decode cX10_loses 3 = .ok (.aload_n 0, 1) := by decide +kernel
theorem dX10_loses_4 : decode cX10_loses 4 = .ok (.getfield 170, 3) := by decide +kernel
theorem dX10_loses_7 : decode cX10_loses 7 = .ok (.if_icmp .ge 38, 3) := by decide +kernel
theorem dX10_loses_10 : decode cX10_loses 10 = .ok (.aload_n 0, 1) := by decide +kernel
theorem dX10_loses_11 : decode cX10_loses 11 = .ok (.getfield 82, 3) := by decide +kernel
theorem dX10_loses_14 : decode cX10_loses 14 = .ok (.iload_n 1, 1) := by decide +kernel
theorem dX10_loses_15 : decode cX10_loses 15 = .ok (.aload_n 0, 1) := by decide +kernel
theorem dX10_loses_16 : decode cX10_loses 16 = .ok (.getfield 91, 3) := by decide +kernel
theorem dX10_loses_19 : decode cX10_loses 19 = .ok (.iload_n 1, 1) := by decide +kernel
theorem dX10_loses_20 : decode cX10_loses 20 = .ok (.iaload, 1) := by decide +kernel
theorem dX10_loses_21 : decode cX10_loses 21 = .ok (.aload_n 0, 1) := by decide +kernel
theorem dX10_loses_22 : decode cX10_loses 22 = .ok (.getfield 167, 3) := by decide +kernel
theorem dX10_loses_25 : decode cX10_loses 25 = .ok (.if_icmp .ne 7, 3) := by decide +kernel
theorem dX10_loses_28 : decode cX10_loses 28 = .ok (.iconst 4, 1) := by decide +kernel
theorem dX10_loses_29 : decode cX10_loses 29 = .ok (.goto 9, 3) := by decide +kernel
theorem dX10_loses_32 : decode cX10_loses 32 = .ok (.aload_n 0, 1) := by decide +kernel
theorem dX10_loses_33 : decode cX10_loses 33 = .ok (.getfield 82, 3) := by decide +kernel
theorem dX10_loses_36 : decode cX10_loses 36 = .ok (.iload_n 1, 1) := by decide +kernel
theorem dX10_loses_37 : decode cX10_loses 37 = .ok (.iaload, 1) := by decide +kernel
theorem dX10_loses_38 : decode cX10_loses 38 = .ok (.iastore, 1) := by decide +kernel
theorem dX10_loses_39 : decode cX10_loses 39 = .ok (.iinc 1 1, 3) := by decide +kernel
theorem dX10_loses_42 : decode cX10_loses 42 = .ok (.goto (-40), 3) := by decide +kernel
theorem dX10_loses_45 : decode cX10_loses 45 = .ok (.aload_n 0, 1) := by decide +kernel
theorem dX10_loses_46 : decode cX10_loses 46 = .ok (.bipush (-2), 2) := by decide +kernel
theorem dX10_loses_48 : decode cX10_loses 48 = .ok (.putfield 173, 3) := by decide +kernel
theorem dX10_loses_51 : decode cX10_loses 51 = .ok (.aload_n 0, 1) := by decide +kernel
theorem dX10_loses_52 : decode cX10_loses 52 = .ok (.iconst 0, 1) := by decide +kernel
theorem dX10_loses_53 : decode cX10_loses 53 = .ok (.putfield 176, 3) := by decide +kernel
theorem dX10_loses_56 : decode cX10_loses 56 = .ok (.iconst 0, 1) := by decide +kernel
theorem dX10_loses_57 : decode cX10_loses 57 = .ok (.istore_n 1, 1) := by decide +kernel
theorem dX10_loses_58 : decode cX10_loses 58 = .ok (.iload_n 1, 1) := by decide +kernel
theorem dX10_loses_59 : decode cX10_loses 59 = .ok (.iconst 4, 1) := by decide +kernel
theorem dX10_loses_60 : decode cX10_loses 60 = .ok (.if_icmp .ge 16, 3) := by decide +kernel
theorem dX10_loses_63 : decode cX10_loses 63 = .ok (.aload_n 0, 1) := by decide +kernel
theorem dX10_loses_64 : decode cX10_loses 64 = .ok (.getfield 88, 3) := by decide +kernel
theorem dX10_loses_67 : decode cX10_loses 67 = .ok (.iload_n 1, 1) := by decide +kernel
theorem dX10_loses_68 : decode cX10_loses 68 = .ok (.iconst (-1), 1) := by decide +kernel
theorem dX10_loses_69 : decode cX10_loses 69 = .ok (.iastore, 1) := by decide +kernel
theorem dX10_loses_70 : decode cX10_loses 70 = .ok (.iinc 1 1, 3) := by decide +kernel
theorem dX10_loses_73 : decode cX10_loses 73 = .ok (.goto (-15), 3) := by decide +kernel
theorem dX10_loses_76 : decode cX10_loses 76 = .ok (.return_, 1) := by decide +kernel
def f_X10_loses_b58 (F : Nat) : Nat → Mm → Int32 → Option Mm
 | 0, _, _ => none
 | N + 1, μ, a1 =>
 if (4 : Int32) ≤ a1 then
 some μ
 else
 (wa μ 1030 0 4 a1 (-1 : Int32)).bind fun m13 =>
 f_X10_loses_b58 F N m13 (a1 + (1 : Int32))
set_option maxHeartbeats 4000000 in
set_option maxRecDepth 100000 in
theorem cb_X10_loses_58 {l : Launch} {E : En} {p : Program} {e : Env} {s : State} {m : MethodId} {av : Array Value} {below : List Frame} {meth : Method} {c : Code} (C : Cx E p s m av c cX10_loses 2 yX10_loses.cls) (hr : meth.sig.returnType = (none : Option FieldType)) (hlk : meth.locks = false) {F : Nat} {z : Mm} : ∀ (N : Nat) (μ : Mm) (a1 : Int32) (h_a0 : l10 E 0), f_X10_loses_b58 F N μ a1 = some z → ∀ {H : Heap} {locs : List Loc} {ls : Array Slot}, Iv E s μ H locs → lv_has ls 2 [(0, .ref (ad E 1000 0)), (1, .int a1)] → W p l e { frames := 0, cells := 0, slots := 0, locals := 0 } s m av below meth c H locs 0 0 (MQ below (Qm E none z) av s 0 0 (Ad E)) (F0 m 58 ls []) := by
  have hx := C.1.1
  have hb := C.1.2.1
  intro N
  induction N with
  | zero => intro μ a1 h_a0 hf; cases hf
  | succ N ih =>
    intro μ a1 h_a0 hf H locs ls hI hl
    rw [f_X10_loses_b58] at hf
    refine lv_iload_n hx hb dX10_loses_58 rfl (lv_at hl 1 rfl) ?_
    refine lv_iconst (v := (4 : Int32)) hx hb dX10_loses_59 kc_4 ?_
    refine lv_icmp_ge (tgt := 76) hx hb dX10_loses_60 rfl (fun hc => ?_) (fun hc => ?_)
    · replace hf := it hf hc
      obtain rfl := Option.some.inj hf
      exact m_vret C hr hlk hI dX10_loses_76
    · replace hf := ie hf hc
      refine lv_aload_n hx hb dX10_loses_63 rfl (lv_at hl 0 rfl) ?_
      refine gf_10_29 C hI h_a0.1 fl_X10_88 dX10_loses_64 ?_
      refine lv_iload_n hx hb dX10_loses_67 rfl (lv_at hl 1 rfl) ?_
      refine lv_iconst (v := (-1 : Int32)) hx hb dX10_loses_68 kc_m1 ?_
      obtain ⟨m13, e14, hf⟩ := ob hf
      refine m_iast C hI h_a0.2.2.2.2.2.2.2.2.2.2.2.2.2.2.2.2.2.2.2.2.2.2.2.1 (ce_1030 E _) e14 dX10_loses_69 (fun H locs hI => ?_)
      refine lv_iinc (v := a1 + (1 : Int32)) hx hb dX10_loses_70 hl (k := 1) rfl (ki_1 _) (by decide) rfl (fun ls hl => ?_)
      have hl : lv_has ls 2 [(1, .int (a1 + (1 : Int32))), (0, .ref (ad E 1000 0))] := hl
      refine lv_goto (tgt := 58) hx hb dX10_loses_73 rfl ?_
      exact ih _ _ h_a0 hf hI (lv_sub hl [1, 0] rfl)
def f_X10_loses_b2 (F : Nat) : Nat → Mm → Int32 → Option Mm
 | 0, _, _ => none
 | N + 1, μ, a1 =>
 if (μ.1 1000 0 35) ≤ a1 then
 (wf μ 1000 0 31 (-2 : Int32)).bind fun m15 =>
 (wf m15 1000 0 32 (0 : Int32)).bind fun m17 =>
 f_X10_loses_b58 F F m17 (0 : Int32)
 else
 (ra μ 1031 0 8 a1).bind fun v19 =>
 if v19 = (μ.1 1000 0 34) then
 (wa μ 1028 0 8 a1 (4 : Int32)).bind fun m25 =>
 f_X10_loses_b2 F N m25 (a1 + (1 : Int32))
 else
 (ra μ 1028 0 8 a1).bind fun v21 =>
 (wa μ 1028 0 8 a1 v21).bind fun m23 =>
 f_X10_loses_b2 F N m23 (a1 + (1 : Int32))
set_option maxHeartbeats 4000000 in
set_option maxRecDepth 100000 in
theorem cb_X10_loses_2 {l : Launch} {E : En} {p : Program} {e : Env} {s : State} {m : MethodId} {av : Array Value} {below : List Frame} {meth : Method} {c : Code} (C : Cx E p s m av c cX10_loses 2 yX10_loses.cls) (hr : meth.sig.returnType = (none : Option FieldType)) (hlk : meth.locks = false) {F : Nat} {z : Mm} : ∀ (N : Nat) (μ : Mm) (a1 : Int32) (h_a0 : l10 E 0), f_X10_loses_b2 F N μ a1 = some z → ∀ {H : Heap} {locs : List Loc} {ls : Array Slot}, Iv E s μ H locs → lv_has ls 2 [(0, .ref (ad E 1000 0)), (1, .int a1)] → W p l e { frames := 0, cells := 0, slots := 0, locals := 0 } s m av below meth c H locs 0 0 (MQ below (Qm E none z) av s 0 0 (Ad E)) (F0 m 2 ls []) := by
  have hx := C.1.1
  have hb := C.1.2.1
  intro N
  induction N with
  | zero => intro μ a1 h_a0 hf; cases hf
  | succ N ih =>
    intro μ a1 h_a0 hf H locs ls hI hl
    rw [f_X10_loses_b2] at hf
    refine lv_iload_n hx hb dX10_loses_2 rfl (lv_at hl 1 rfl) ?_
    refine lv_aload_n hx hb dX10_loses_3 rfl (lv_at hl 0 rfl) ?_
    refine gf_10_35 C hI h_a0.1 fl_X10_170 dX10_loses_4 ?_
    refine lv_icmp_ge (tgt := 45) hx hb dX10_loses_7 rfl (fun hc => ?_) (fun hc => ?_)
    · replace hf := it hf hc
      refine lv_aload_n hx hb dX10_loses_45 rfl (lv_at hl 0 rfl) ?_
      refine lv_bipush (v := (-2 : Int32)) hx hb dX10_loses_46 kb_m2 ?_
      obtain ⟨m15, e16, hf⟩ := ob hf
      refine pf_10_31 C hI h_a0.1 fl_X10_173 e16 dX10_loses_48 (fun H locs hI => ?_)
      refine lv_aload_n hx hb dX10_loses_51 rfl (lv_at hl 0 rfl) ?_
      refine lv_iconst (v := (0 : Int32)) hx hb dX10_loses_52 kc_0 ?_
      obtain ⟨m17, e18, hf⟩ := ob hf
      refine pf_10_32 C hI h_a0.1 (by decide) (by decide) fl_X10_176 e18 dX10_loses_53 (fun H locs hI => ?_)
      refine lv_iconst (v := (0 : Int32)) hx hb dX10_loses_56 kc_0 ?_
      refine lv_istore_n hx hb dX10_loses_57 rfl hl (by decide) rfl (fun ls hl => ?_)
      have hl : lv_has ls 2 [(1, .int (0 : Int32)), (0, .ref (ad E 1000 0))] := hl
      exact cb_X10_loses_58 C hr hlk  _ _ _ h_a0 hf hI (lv_sub hl [1, 0] rfl)
    · replace hf := ie hf hc
      refine lv_aload_n hx hb dX10_loses_10 rfl (lv_at hl 0 rfl) ?_
      refine gf_10_27 C hI h_a0.1 fl_X10_82 dX10_loses_11 ?_
      refine lv_iload_n hx hb dX10_loses_14 rfl (lv_at hl 1 rfl) ?_
      refine lv_aload_n hx hb dX10_loses_15 rfl (lv_at hl 0 rfl) ?_
      refine gf_10_30 C hI h_a0.1 fl_X10_91 dX10_loses_16 ?_
      refine lv_iload_n hx hb dX10_loses_19 rfl (lv_at hl 1 rfl) ?_
      obtain ⟨v19, e20, hf⟩ := ob hf
      refine m_iald C hI h_a0.2.2.2.2.2.2.2.2.2.2.2.2.2.2.2.2.2.2.2.2.2.2.2.2.1 (ce_1031 E _ _ _) e20 dX10_loses_20 ?_
      refine lv_aload_n hx hb dX10_loses_21 rfl (lv_at hl 0 rfl) ?_
      refine gf_10_34 C hI h_a0.1 fl_X10_167 dX10_loses_22 ?_
      refine lv_icmp_ne (tgt := 32) hx hb dX10_loses_25 rfl (fun hc => ?_) (fun hc => ?_)
      · replace hf := ie hf hc
        refine lv_aload_n hx hb dX10_loses_32 rfl (lv_at hl 0 rfl) ?_
        refine gf_10_27 C hI h_a0.1 fl_X10_82 dX10_loses_33 ?_
        refine lv_iload_n hx hb dX10_loses_36 rfl (lv_at hl 1 rfl) ?_
        obtain ⟨v21, e22, hf⟩ := ob hf
        refine m_iald C hI h_a0.2.2.2.2.2.2.2.2.2.2.2.2.2.2.2.2.2.2.2.2.2.1 (ce_1028 E _ _ _) e22 dX10_loses_37 ?_
        obtain ⟨m23, e24, hf⟩ := ob hf
        refine m_iast C hI h_a0.2.2.2.2.2.2.2.2.2.2.2.2.2.2.2.2.2.2.2.2.2.1 (ce_1028 E _) e24 dX10_loses_38 (fun H locs hI => ?_)
        refine lv_iinc (v := a1 + (1 : Int32)) hx hb dX10_loses_39 hl (k := 1) rfl (ki_1 _) (by decide) rfl (fun ls hl => ?_)
        have hl : lv_has ls 2 [(1, .int (a1 + (1 : Int32))), (0, .ref (ad E 1000 0))] := hl
        refine lv_goto (tgt := 2) hx hb dX10_loses_42 rfl ?_
        exact ih _ _ h_a0 hf hI (lv_sub hl [1, 0] rfl)
      · replace hf := it hf hc
        refine lv_iconst (v := (4 : Int32)) hx hb dX10_loses_28 kc_4 ?_
        refine lv_goto (tgt := 38) hx hb dX10_loses_29 rfl ?_
        obtain ⟨m25, e26, hf⟩ := ob hf
        refine m_iast C hI h_a0.2.2.2.2.2.2.2.2.2.2.2.2.2.2.2.2.2.2.2.2.2.1 (ce_1028 E _) e26 dX10_loses_38 (fun H locs hI => ?_)
        refine lv_iinc (v := a1 + (1 : Int32)) hx hb dX10_loses_39 hl (k := 1) rfl (ki_1 _) (by decide) rfl (fun ls hl => ?_)
        have hl : lv_has ls 2 [(1, .int (a1 + (1 : Int32))), (0, .ref (ad E 1000 0))] := hl
        refine lv_goto (tgt := 2) hx hb dX10_loses_42 rfl ?_
        exact ih _ _ h_a0 hf hI (lv_sub hl [1, 0] rfl)
def f_X10_loses (F : Nat) (μ : Mm) : Option Mm :=
 f_X10_loses_b2 F F μ (0 : Int32)
set_option maxHeartbeats 4000000 in
set_option maxRecDepth 100000 in
theorem c_X10_loses (l : Launch) (E : En) {F : Nat} {μ : Mm} (h0 : l10 E 0) {z : Mm} (hf : f_X10_loses F μ = some z) : Met l yX10_loses (wt yX10_loses cX10_loses 2 (none : Option FieldType)) { frames := 0, cells := 0, slots := 0, locals := 0 } (Pm E [.ref (ad E 1000 0)] μ) (Qm E none z) 0 0 (Ad E) := by
  unfold f_X10_loses at hf
  refine met_of (cc := cX10_loses) (nL := 2) (ret := (none : Option FieldType)) (by decide) _ (Nat.le_of_ble_eq_true rfl) ?_
  intro p e s m below meth c C hr hlk hI ls hl
  have hx := C.1.1
  have hb := C.1.2.1
  have hl : lv_has ls 2 [(0, .ref (ad E 1000 0))] := hl
  refine lv_iconst (v := (0 : Int32)) hx hb dX10_loses_0 kc_0 ?_
  refine lv_istore_n hx hb dX10_loses_1 rfl hl (by decide) rfl (fun ls hl => ?_)
  have hl : lv_has ls 2 [(1, .int (0 : Int32)), (0, .ref (ad E 1000 0))] := hl
  exact cb_X10_loses_2 C hr hlk  _ _ _ h0 hf hI (lv_sub hl [1, 0] rfl)

theorem dX10_spot_0 : decode cX10_spot 0 = .ok (.sipush 200, 3) := by decide +kernel
theorem dX10_spot_3 : decode cX10_spot 3 = .ok (.aload_n 0, 1) := by decide +kernel
theorem dX10_spot_4 : decode cX10_spot 4 = .ok (.getfield 164, 3) := by decide +kernel
theorem dX10_spot_7 : decode cX10_spot 7 = .ok (.imul, 1) := by decide +kernel
theorem dX10_spot_8 : decode cX10_spot 8 = .ok (.iload_n 1, 1) := by decide +kernel
theorem dX10_spot_9 : decode cX10_spot 9 = .ok (.iadd, 1) := by decide +kernel
theorem dX10_spot_10 : decode cX10_spot 10 = .ok (.ireturn, 1) := by decide +kernel
def f_X10_spot (μ : Mm) (p1 : Int32) : Option Int32 :=
 some (((200 : Int32) * (μ.1 1000 0 33)) + p1)
set_option maxHeartbeats 4000000 in
set_option maxRecDepth 100000 in
theorem c_X10_spot (l : Launch) (E : En) {μ : Mm} {p1 : Int32} (h0 : l10 E 0) {z : Int32} (hf : f_X10_spot μ p1 = some z) : Met l yX10_spot (wt yX10_spot cX10_spot 2 (some .int)) { frames := 0, cells := 0, slots := 0, locals := 0 } (Pm E [.ref (ad E 1000 0), .int p1] μ) (Qm E (some (.int z)) μ) 0 0 (Ad E) := by
  unfold f_X10_spot at hf
  refine met_of (cc := cX10_spot) (nL := 2) (ret := (some .int)) (by decide) _ (Nat.le_of_ble_eq_true rfl) ?_
  intro p e s m below meth c C hr hlk hI ls hl
  have hx := C.1.1
  have hb := C.1.2.1
  have hl : lv_has ls 2 [(0, .ref (ad E 1000 0)), (1, .int p1)] := hl
  refine lv_sipush (v := (200 : Int32)) hx hb dX10_spot_0 ks_200 ?_
  refine lv_aload_n hx hb dX10_spot_3 rfl (lv_at hl 0 rfl) ?_
  refine gf_10_33 C hI h0.1 fl_X10_164 dX10_spot_4 ?_
  refine lv_imul hx hb dX10_spot_7 ?_
  refine lv_iload_n hx hb dX10_spot_8 rfl (lv_at hl 1 rfl) ?_
  refine lv_iadd hx hb dX10_spot_9 ?_
  obtain rfl := Option.some.inj hf
  exact m_iret C hr hlk hI dX10_spot_10

theorem dX10_wasTold_0 : decode cX10_wasTold 0 = .ok (.iconst 0, 1) := by decide +kernel
theorem dX10_wasTold_1 : decode cX10_wasTold 1 = .ok (.istore_n 3, 1) := by decide +kernel
theorem dX10_wasTold_2 : decode cX10_wasTold 2 = .ok (.iload_n 3, 1) := by decide +kernel
theorem dX10_wasTold_3 : decode cX10_wasTold 3 = .ok (.aload_n 0, 1) := by decide +kernel
theorem dX10_wasTold_4 : decode cX10_wasTold 4 = .ok (.getfield 7, 3) := by decide +kernel
theorem dX10_wasTold_7 : decode cX10_wasTold 7 = .ok (.if_icmp .ge 65, 3) := by decide +kernel
theorem dX10_wasTold_10 : decode cX10_wasTold 10 = .ok (.iconst 0, 1) := by decide +kernel
theorem dX10_wasTold_11 : decode cX10_wasTold 11 = .ok (.istore 4, 2) := by decide +kernel
theorem dX10_wasTold_13 : decode cX10_wasTold 13 = .ok (.iload 4, 2) := by decide +kernel
theorem dX10_wasTold_15 : decode cX10_wasTold 15 = .ok (.aload_n 0, 1) := by decide +kernel
theorem dX10_wasTold_16 : decode cX10_wasTold 16 = .ok (.getfield 29, 3) := by decide +kernel
theorem dX10_wasTold_19 : decode cX10_wasTold 19 = .ok (.iload_n 3, 1) := by decide +kernel
theorem dX10_wasTold_20 : decode cX10_wasTold 20 = .ok (.iaload, 1) := by decide +kernel
theorem dX10_wasTold_21 : decode cX10_wasTold 21 = .ok (.if_icmp .ge 45, 3) := by decide +kernel
theorem dX10_wasTold_24 : decode cX10_wasTold 24 = .ok (.aload_n 0, 1) := by decide +kernel
theorem dX10_wasTold_25 : decode cX10_wasTold 25 = .ok (.getfield 32, 3) := by decide +kernel
theorem dX10_wasTold_28 : decode cX10_wasTold 28 = .ok (.sipush 200, 3) := by decide +kernel
theorem dX10_wasTold_31 : decode cX10_wasTold 31 = .ok (.iload_n 3, 1) := by decide +kernel
theorem dX10_wasTold_32 : decode cX10_wasTold 32 = .ok (.imul, 1) := by decide +kernel
theorem dX10_wasTold_33 : decode cX10_wasTold 33 = .ok (.iload 4, 2) := by decide +kernel
theorem dX10_wasTold_35 : decode cX10_wasTold 35 = .ok (.iadd, 1) := by decide +kernel
theorem dX10_wasTold_36 : decode cX10_wasTold 36 = .ok (.baload, 1) := by decide +kernel
theorem dX10_wasTold_37 : decode cX10_wasTold 37 = .ok (.iload_n 1, 1) := by decide +kernel
theorem dX10_wasTold_38 : decode cX10_wasTold 38 = .ok (.if_icmp .ne 22, 3) := by decide +kernel
theorem dX10_wasTold_41 : decode cX10_wasTold 41 = .ok (.aload_n 0, 1) := by decide +kernel
theorem dX10_wasTold_42 : decode cX10_wasTold 42 = .ok (.getfield 39, 3) := by decide +kernel
theorem dX10_wasTold_45 : decode cX10_wasTold 45 = .ok (.sipush 200, 3) := by decide +kernel
theorem dX10_wasTold_48 : decode cX10_wasTold 48 = .ok (.iload_n 3, 1) := by decide +kernel
theorem dX10_wasTold_49 : decode cX10_wasTold 49 = .ok (.imul, 1) := by decide +kernel
theorem dX10_wasTold_50 : decode cX10_wasTold 50 = .ok (.iload 4, 2) := by decide +kernel
theorem dX10_wasTold_52 : decode cX10_wasTold 52 = .ok (.iadd, 1) := by decide +kernel
theorem dX10_wasTold_53 : decode cX10_wasTold 53 = .ok (.baload, 1) := by decide +kernel
theorem dX10_wasTold_54 : decode cX10_wasTold 54 = .ok (.iload_n 2, 1) := by decide +kernel
theorem dX10_wasTold_55 : decode cX10_wasTold 55 = .ok (.if_icmp .ne 5, 3) := by decide +kernel
theorem dX10_wasTold_58 : decode cX10_wasTold 58 = .ok (.iconst 1, 1) := by decide +kernel
theorem dX10_wasTold_59 : decode cX10_wasTold 59 = .ok (.ireturn, 1) := by decide +kernel
theorem dX10_wasTold_60 : decode cX10_wasTold 60 = .ok (.iinc 4 1, 3) := by decide +kernel
theorem dX10_wasTold_63 : decode cX10_wasTold 63 = .ok (.goto (-50), 3) := by decide +kernel
theorem dX10_wasTold_66 : decode cX10_wasTold 66 = .ok (.iinc 3 1, 3) := by decide +kernel
theorem dX10_wasTold_69 : decode cX10_wasTold 69 = .ok (.goto (-67), 3) := by decide +kernel
theorem dX10_wasTold_72 : decode cX10_wasTold 72 = .ok (.iconst 0, 1) := by decide +kernel
theorem dX10_wasTold_73 : decode cX10_wasTold 73 = .ok (.ireturn, 1) := by decide +kernel
def f_X10_wasTold_b13 (F : Nat) (μ : Mm) (K2 : Int32 → Int32 → Int32 → Option Int32) : Nat → Int32 → Int32 → Int32 → Int32 → Option Int32
 | 0, _, _, _, _ => none
 | N + 1, a1, a2, a3, a4 =>
 (ra μ 1008 0 21 a3).bind fun v7 =>
 if v7 ≤ a4 then
 K2 a1 a2 (a3 + (1 : Int32))
 else
 (ra μ 1009 0 4200 (((200 : Int32) * a3) + a4)).bind fun v9 =>
 if v9 = a1 then
 (ra μ 1011 0 4200 (((200 : Int32) * a3) + a4)).bind fun v11 =>
 if v11 = a2 then
 some (1 : Int32)
 else
 f_X10_wasTold_b13 F μ K2 N a1 a2 a3 (a4 + (1 : Int32))
 else
 f_X10_wasTold_b13 F μ K2 N a1 a2 a3 (a4 + (1 : Int32))
set_option maxHeartbeats 4000000 in
set_option maxRecDepth 100000 in
theorem cb_X10_wasTold_13 {l : Launch} {E : En} {p : Program} {e : Env} {s : State} {m : MethodId} {av : Array Value} {below : List Frame} {meth : Method} {c : Code} (C : Cx E p s m av c cX10_wasTold 5 yX10_wasTold.cls) (hr : meth.sig.returnType = (some .boolean)) (hlk : meth.locks = false) {F : Nat} {μ : Mm} {K2 : Int32 → Int32 → Int32 → Option Int32} {z : Int32} (hK2 : ∀ (a1 : Int32) (a2 : Int32) (a3 : Int32) (h_a0 : l10 E 0), K2 a1 a2 a3 = some z → ∀ {H : Heap} {locs : List Loc} {ls : Array Slot}, Iv E s μ H locs → lv_has ls 5 [(0, .ref (ad E 1000 0)), (1, .int a1), (2, .int a2), (3, .int a3)] → W p l e { frames := 0, cells := 0, slots := 0, locals := 0 } s m av below meth c H locs 0 0 (MQ below (Qm E (some (.int z)) μ) av s 0 0 (Ad E)) (F0 m 2 ls [])) : ∀ (N : Nat) (a1 : Int32) (a2 : Int32) (a3 : Int32) (a4 : Int32) (h_a0 : l10 E 0), f_X10_wasTold_b13 F μ K2 N a1 a2 a3 a4 = some z → ∀ {H : Heap} {locs : List Loc} {ls : Array Slot}, Iv E s μ H locs → lv_has ls 5 [(0, .ref (ad E 1000 0)), (1, .int a1), (2, .int a2), (3, .int a3), (4, .int a4)] → W p l e { frames := 0, cells := 0, slots := 0, locals := 0 } s m av below meth c H locs 0 0 (MQ below (Qm E (some (.int z)) μ) av s 0 0 (Ad E)) (F0 m 13 ls []) := by
  have hx := C.1.1
  have hb := C.1.2.1
  intro N
  induction N with
  | zero => intro a1 a2 a3 a4 h_a0 hf; cases hf
  | succ N ih =>
    intro a1 a2 a3 a4 h_a0 hf H locs ls hI hl
    rw [f_X10_wasTold_b13] at hf
    refine lv_iload hx hb dX10_wasTold_13 (lv_at hl 4 rfl) ?_
    refine lv_aload_n hx hb dX10_wasTold_15 rfl (lv_at hl 0 rfl) ?_
    refine gf_10_7 C hI h_a0.1 fl_X10_29 dX10_wasTold_16 ?_
    refine lv_iload_n hx hb dX10_wasTold_19 rfl (lv_at hl 3 rfl) ?_
    obtain ⟨v7, e8, hf⟩ := ob hf
    refine m_iald C hI h_a0.2.2.2.2.1 (ce_1008 E _ _ _) e8 dX10_wasTold_20 ?_
    refine lv_icmp_ge (tgt := 66) hx hb dX10_wasTold_21 rfl (fun hc => ?_) (fun hc => ?_)
    · replace hf := it hf hc
      refine lv_iinc (v := a3 + (1 : Int32)) hx hb dX10_wasTold_66 hl (k := 3) rfl (ki_1 _) (by decide) rfl (fun ls hl => ?_)
      have hl : lv_has ls 5 [(3, .int (a3 + (1 : Int32))), (0, .ref (ad E 1000 0)), (1, .int a1), (2, .int a2), (4, .int a4)] := hl
      refine lv_goto (tgt := 2) hx hb dX10_wasTold_69 rfl ?_
      exact hK2 _ _ _ h_a0 hf hI (lv_sub hl [1, 2, 3, 0] rfl)
    · replace hf := ie hf hc
      refine lv_aload_n hx hb dX10_wasTold_24 rfl (lv_at hl 0 rfl) ?_
      refine gf_10_8 C hI h_a0.1 fl_X10_32 dX10_wasTold_25 ?_
      refine lv_sipush (v := (200 : Int32)) hx hb dX10_wasTold_28 ks_200 ?_
      refine lv_iload_n hx hb dX10_wasTold_31 rfl (lv_at hl 3 rfl) ?_
      refine lv_imul hx hb dX10_wasTold_32 ?_
      refine lv_iload hx hb dX10_wasTold_33 (lv_at hl 4 rfl) ?_
      refine lv_iadd hx hb dX10_wasTold_35 ?_
      obtain ⟨v9, e10, hf⟩ := ob hf
      refine m_bald C hI h_a0.2.2.2.2.2.1 (ce_1009 E _ _ _) e10 dX10_wasTold_36 ?_
      refine lv_iload_n hx hb dX10_wasTold_37 rfl (lv_at hl 1 rfl) ?_
      refine lv_icmp_ne (tgt := 60) hx hb dX10_wasTold_38 rfl (fun hc => ?_) (fun hc => ?_)
      · replace hf := ie hf hc
        refine lv_iinc (v := a4 + (1 : Int32)) hx hb dX10_wasTold_60 hl (k := 4) rfl (ki_1 _) (by decide) rfl (fun ls hl => ?_)
        have hl : lv_has ls 5 [(4, .int (a4 + (1 : Int32))), (0, .ref (ad E 1000 0)), (1, .int a1), (2, .int a2), (3, .int a3)] := hl
        refine lv_goto (tgt := 13) hx hb dX10_wasTold_63 rfl ?_
        exact ih _ _ _ _ h_a0 hf hI (lv_sub hl [1, 2, 3, 4, 0] rfl)
      · replace hf := it hf hc
        refine lv_aload_n hx hb dX10_wasTold_41 rfl (lv_at hl 0 rfl) ?_
        refine gf_10_10 C hI h_a0.1 fl_X10_39 dX10_wasTold_42 ?_
        refine lv_sipush (v := (200 : Int32)) hx hb dX10_wasTold_45 ks_200 ?_
        refine lv_iload_n hx hb dX10_wasTold_48 rfl (lv_at hl 3 rfl) ?_
        refine lv_imul hx hb dX10_wasTold_49 ?_
        refine lv_iload hx hb dX10_wasTold_50 (lv_at hl 4 rfl) ?_
        refine lv_iadd hx hb dX10_wasTold_52 ?_
        obtain ⟨v11, e12, hf⟩ := ob hf
        refine m_bald C hI h_a0.2.2.2.2.2.2.2.1 (ce_1011 E _ _ _) e12 dX10_wasTold_53 ?_
        refine lv_iload_n hx hb dX10_wasTold_54 rfl (lv_at hl 2 rfl) ?_
        refine lv_icmp_ne (tgt := 60) hx hb dX10_wasTold_55 rfl (fun hc => ?_) (fun hc => ?_)
        · replace hf := ie hf hc
          refine lv_iinc (v := a4 + (1 : Int32)) hx hb dX10_wasTold_60 hl (k := 4) rfl (ki_1 _) (by decide) rfl (fun ls hl => ?_)
          have hl : lv_has ls 5 [(4, .int (a4 + (1 : Int32))), (0, .ref (ad E 1000 0)), (1, .int a1), (2, .int a2), (3, .int a3)] := hl
          refine lv_goto (tgt := 13) hx hb dX10_wasTold_63 rfl ?_
          exact ih _ _ _ _ h_a0 hf hI (lv_sub hl [1, 2, 3, 4, 0] rfl)
        · replace hf := it hf hc
          refine lv_iconst (v := (1 : Int32)) hx hb dX10_wasTold_58 kc_1 ?_
          obtain rfl := Option.some.inj hf
          exact m_zret C hr hlk hI (by decide) dX10_wasTold_59
def f_X10_wasTold_b2 (F : Nat) (μ : Mm) : Nat → Int32 → Int32 → Int32 → Option Int32
 | 0, _, _, _ => none
 | N + 1, a1, a2, a3 =>
 if (μ.1 1000 0 1) ≤ a3 then
 some (0 : Int32)
 else
 f_X10_wasTold_b13 F μ (fun a1 a2 a3 => f_X10_wasTold_b2 F μ N a1 a2 a3) F a1 a2 a3 (0 : Int32)
set_option maxHeartbeats 4000000 in
set_option maxRecDepth 100000 in
theorem cb_X10_wasTold_2 {l : Launch} {E : En} {p : Program} {e : Env} {s : State} {m : MethodId} {av : Array Value} {below : List Frame} {meth : Method} {c : Code} (C : Cx E p s m av c cX10_wasTold 5 yX10_wasTold.cls) (hr : meth.sig.returnType = (some .boolean)) (hlk : meth.locks = false) {F : Nat} {μ : Mm} {z : Int32} : ∀ (N : Nat) (a1 : Int32) (a2 : Int32) (a3 : Int32) (h_a0 : l10 E 0), f_X10_wasTold_b2 F μ N a1 a2 a3 = some z → ∀ {H : Heap} {locs : List Loc} {ls : Array Slot}, Iv E s μ H locs → lv_has ls 5 [(0, .ref (ad E 1000 0)), (1, .int a1), (2, .int a2), (3, .int a3)] → W p l e { frames := 0, cells := 0, slots := 0, locals := 0 } s m av below meth c H locs 0 0 (MQ below (Qm E (some (.int z)) μ) av s 0 0 (Ad E)) (F0 m 2 ls []) := by
  have hx := C.1.1
  have hb := C.1.2.1
  intro N
  induction N with
  | zero => intro a1 a2 a3 h_a0 hf; cases hf
  | succ N ih =>
    intro a1 a2 a3 h_a0 hf H locs ls hI hl
    rw [f_X10_wasTold_b2] at hf
    refine lv_iload_n hx hb dX10_wasTold_2 rfl (lv_at hl 3 rfl) ?_
    refine lv_aload_n hx hb dX10_wasTold_3 rfl (lv_at hl 0 rfl) ?_
    refine gf_10_1 C hI h_a0.1 fl_X10_7 dX10_wasTold_4 ?_
    refine lv_icmp_ge (tgt := 72) hx hb dX10_wasTold_7 rfl (fun hc => ?_) (fun hc => ?_)
    · replace hf := it hf hc
      refine lv_iconst (v := (0 : Int32)) hx hb dX10_wasTold_72 kc_0 ?_
      obtain rfl := Option.some.inj hf
      exact m_zret C hr hlk hI (by decide) dX10_wasTold_73
    · replace hf := ie hf hc
      refine lv_iconst (v := (0 : Int32)) hx hb dX10_wasTold_10 kc_0 ?_
      refine lv_istore hx hb dX10_wasTold_11 hl (by decide) rfl (fun ls hl => ?_)
      have hl : lv_has ls 5 [(4, .int (0 : Int32)), (0, .ref (ad E 1000 0)), (1, .int a1), (2, .int a2), (3, .int a3)] := hl
      exact cb_X10_wasTold_13 C hr hlk ih _ _ _ _ _ h_a0 hf hI (lv_sub hl [1, 2, 3, 4, 0] rfl)
def f_X10_wasTold (F : Nat) (μ : Mm) (p1 : Int32) (p2 : Int32) : Option Int32 :=
 f_X10_wasTold_b2 F μ F p1 p2 (0 : Int32)
set_option maxHeartbeats 4000000 in
set_option maxRecDepth 100000 in
theorem c_X10_wasTold (l : Launch) (E : En) {F : Nat} {μ : Mm} {p1 : Int32} {p2 : Int32} (h0 : l10 E 0) {z : Int32} (hf : f_X10_wasTold F μ p1 p2 = some z) : Met l yX10_wasTold (wt yX10_wasTold cX10_wasTold 5 (some .boolean)) { frames := 0, cells := 0, slots := 0, locals := 0 } (Pm E [.ref (ad E 1000 0), .int p1, .int p2] μ) (Qm E (some (.int z)) μ) 0 0 (Ad E) := by
  unfold f_X10_wasTold at hf
  refine met_of (cc := cX10_wasTold) (nL := 5) (ret := (some .boolean)) (by decide) _ (Nat.le_of_ble_eq_true rfl) ?_
  intro p e s m below meth c C hr hlk hI ls hl
  have hx := C.1.1
  have hb := C.1.2.1
  have hl : lv_has ls 5 [(0, .ref (ad E 1000 0)), (1, .int p1), (2, .int p2)] := hl
  refine lv_iconst (v := (0 : Int32)) hx hb dX10_wasTold_0 kc_0 ?_
  refine lv_istore_n hx hb dX10_wasTold_1 rfl hl (by decide) rfl (fun ls hl => ?_)
  have hl : lv_has ls 5 [(3, .int (0 : Int32)), (0, .ref (ad E 1000 0)), (1, .int p1), (2, .int p2)] := hl
  exact cb_X10_wasTold_2 C hr hlk  _ _ _ _ h0 hf hI (lv_sub hl [1, 2, 3, 0] rfl)

theorem dX10_isMark_0 : decode cX10_isMark 0 = .ok (.aload_n 0, 1) := by decide +kernel
theorem dX10_isMark_1 : decode cX10_isMark 1 = .ok (.iload_n 1, 1) := by decide +kernel
theorem dX10_isMark_2 : decode cX10_isMark 2 = .ok (.invokevirtual 153, 3) := by decide +kernel
theorem dX10_isMark_5 : decode cX10_isMark 5 = .ok (.ifCond .eq 30, 3) := by decide +kernel
theorem dX10_isMark_8 : decode cX10_isMark 8 = .ok (.iload_n 2, 1) := by decide +kernel
theorem dX10_isMark_9 : decode cX10_isMark 9 = .ok (.iconst 0, 1) := by decide +kernel
theorem dX10_isMark_10 : decode cX10_isMark 10 = .ok (.bipush 12, 2) := by decide +kernel
theorem dX10_isMark_12 : decode cX10_isMark 12 = .ok (.invokestatic 136, 3) := by decide +kernel
theorem dX10_isMark_15 : decode cX10_isMark 15 = .ok (.ifCond .eq 20, 3) := by decide +kernel
theorem dX10_isMark_18 : decode cX10_isMark 18 = .ok (.iload 5, 2) := by decide +kernel
theorem dX10_isMark_20 : decode cX10_isMark 20 = .ok (.iconst 0, 1) := by decide +kernel
theorem dX10_isMark_21 : decode cX10_isMark 21 = .ok (.iconst 1, 1) := by decide +kernel
theorem dX10_isMark_22 : decode cX10_isMark 22 = .ok (.aload_n 0, 1) := by decide +kernel
theorem dX10_isMark_23 : decode cX10_isMark 23 = .ok (.getfield 16, 3) := by decide +kernel
theorem dX10_isMark_26 : decode cX10_isMark 26 = .ok (.ishl, 1) := by decide +kernel
theorem dX10_isMark_27 : decode cX10_isMark 27 = .ok (.iconst 1, 1) := by decide +kernel
theorem dX10_isMark_28 : decode cX10_isMark 28 = .ok (.isub, 1) := by decide +kernel
theorem dX10_isMark_29 : decode cX10_isMark 29 = .ok (.invokestatic 136, 3) := by decide +kernel
theorem dX10_isMark_32 : decode cX10_isMark 32 = .ok (.ifCond .ne 5, 3) := by decide +kernel
theorem dX10_isMark_35 : decode cX10_isMark 35 = .ok (.iconst 0, 1) := by decide +kernel
theorem dX10_isMark_36 : decode cX10_isMark 36 = .ok (.ireturn, 1) := by decide +kernel
theorem dX10_isMark_37 : decode cX10_isMark 37 = .ok (.iload_n 2, 1) := by decide +kernel
theorem dX10_isMark_38 : decode cX10_isMark 38 = .ok (.bipush 6, 2) := by decide +kernel
theorem dX10_isMark_40 : decode cX10_isMark 40 = .ok (.if_icmp .ge 11, 3) := by decide +kernel
theorem dX10_isMark_43 : decode cX10_isMark 43 = .ok (.aload_n 0, 1) := by decide +kernel
theorem dX10_isMark_44 : decode cX10_isMark 44 = .ok (.iload_n 3, 1) := by decide +kernel
theorem dX10_isMark_45 : decode cX10_isMark 45 = .ok (.invokevirtual 149, 3) := by decide +kernel
theorem dX10_isMark_48 : decode cX10_isMark 48 = .ok (.goto 13, 3) := by decide +kernel
theorem dX10_isMark_51 : decode cX10_isMark 51 = .ok (.iload_n 3, 1) := by decide +kernel
theorem dX10_isMark_52 : decode cX10_isMark 52 = .ok (.iconst (-1), 1) := by decide +kernel
theorem dX10_isMark_53 : decode cX10_isMark 53 = .ok (.if_icmp .ne 7, 3) := by decide +kernel
theorem dX10_isMark_56 : decode cX10_isMark 56 = .ok (.iconst 1, 1) := by decide +kernel
theorem dX10_isMark_57 : decode cX10_isMark 57 = .ok (.goto 4, 3) := by decide +kernel
theorem dX10_isMark_60 : decode cX10_isMark 60 = .ok (.iconst 0, 1) := by decide +kernel
theorem dX10_isMark_61 : decode cX10_isMark 61 = .ok (.istore 6, 2) := by decide +kernel
theorem dX10_isMark_63 : decode cX10_isMark 63 = .ok (.iload 6, 2) := by decide +kernel
theorem dX10_isMark_65 : decode cX10_isMark 65 = .ok (.ifCond .eq 55, 3) := by decide +kernel
theorem dX10_isMark_68 : decode cX10_isMark 68 = .ok (.iload_n 2, 1) := by decide +kernel
theorem dX10_isMark_69 : decode cX10_isMark 69 = .ok (.iconst 3, 1) := by decide +kernel
theorem dX10_isMark_70 : decode cX10_isMark 70 = .ok (.iconst 5, 1) := by decide +kernel
theorem dX10_isMark_71 : decode cX10_isMark 71 = .ok (.invokestatic 136, 3) := by decide +kernel
theorem dX10_isMark_74 : decode cX10_isMark 74 = .ok (.ifCond .eq 16, 3) := by decide +kernel
theorem dX10_isMark_77 : decode cX10_isMark 77 = .ok (.iload 4, 2) := by decide +kernel
theorem dX10_isMark_79 : decode cX10_isMark 79 = .ok (.iconst 0, 1) := by decide +kernel
theorem dX10_isMark_80 : decode cX10_isMark 80 = .ok (.iconst 3, 1) := by decide +kernel
theorem dX10_isMark_81 : decode cX10_isMark 81 = .ok (.invokestatic 136, 3) := by decide +kernel
theorem dX10_isMark_84 : decode cX10_isMark 84 = .ok (.ifCond .eq 36, 3) := by decide +kernel
theorem dX10_isMark_87 : decode cX10_isMark 87 = .ok (.goto 29, 3) := by decide +kernel
theorem dX10_isMark_90 : decode cX10_isMark 90 = .ok (.iload_n 2, 1) := by decide +kernel
theorem dX10_isMark_91 : decode cX10_isMark 91 = .ok (.bipush 9, 2) := by decide +kernel
theorem dX10_isMark_93 : decode cX10_isMark 93 = .ok (.if_icmp .lt 17, 3) := by decide +kernel
theorem dX10_isMark_96 : decode cX10_isMark 96 = .ok (.iload 4, 2) := by decide +kernel
theorem dX10_isMark_98 : decode cX10_isMark 98 = .ok (.iconst 0, 1) := by decide +kernel
theorem dX10_isMark_99 : decode cX10_isMark 99 = .ok (.bipush 63, 2) := by decide +kernel
theorem dX10_isMark_101 : decode cX10_isMark 101 = .ok (.invokestatic 136, 3) := by decide +kernel
theorem dX10_isMark_104 : decode cX10_isMark 104 = .ok (.ifCond .eq 16, 3) := by decide +kernel
theorem dX10_isMark_107 : decode cX10_isMark 107 = .ok (.goto 9, 3) := by decide +kernel
theorem dX10_isMark_110 : decode cX10_isMark 110 = .ok (.iload 4, 2) := by decide +kernel
theorem dX10_isMark_112 : decode cX10_isMark 112 = .ok (.iconst (-1), 1) := by decide +kernel
theorem dX10_isMark_113 : decode cX10_isMark 113 = .ok (.if_icmp .ne 7, 3) := by decide +kernel
theorem dX10_isMark_116 : decode cX10_isMark 116 = .ok (.iconst 1, 1) := by decide +kernel
theorem dX10_isMark_117 : decode cX10_isMark 117 = .ok (.goto 4, 3) := by decide +kernel
theorem dX10_isMark_120 : decode cX10_isMark 120 = .ok (.iconst 0, 1) := by decide +kernel
theorem dX10_isMark_121 : decode cX10_isMark 121 = .ok (.ireturn, 1) := by decide +kernel
def f_X10_isMark_b61 (μ : Mm) (a2 : Int32) (a4 : Int32) (s0 : Int32) : Option Int32 :=
 if s0 = 0 then
 some (0 : Int32)
 else
 (f_X10_in μ a2 (3 : Int32) (5 : Int32)).bind fun q15 =>
 if q15 = 0 then
 if a2 < (9 : Int32) then
 if a4 = (-1 : Int32) then
 some (1 : Int32)
 else
 some (0 : Int32)
 else
 (f_X10_in μ a4 (0 : Int32) (63 : Int32)).bind fun q17 =>
 if q17 = 0 then
 some (0 : Int32)
 else
 some (1 : Int32)
 else
 (f_X10_in μ a4 (0 : Int32) (3 : Int32)).bind fun q19 =>
 if q19 = 0 then
 some (0 : Int32)
 else
 some (1 : Int32)
set_option maxHeartbeats 4000000 in
set_option maxRecDepth 100000 in
theorem cb_X10_isMark_61 {l : Launch} {E : En} {p : Program} {e : Env} {s : State} {m : MethodId} {av : Array Value} {below : List Frame} {meth : Method} {c : Code} (C : Cx E p s m av c cX10_isMark 7 yX10_isMark.cls) (hr : meth.sig.returnType = (some .boolean)) (hlk : meth.locks = false) {μ : Mm} {z : Int32} : ∀ (a2 : Int32) (a4 : Int32) (s0 : Int32), f_X10_isMark_b61 μ a2 a4 s0 = some z → ∀ {H : Heap} {locs : List Loc} {ls : Array Slot}, Iv E s μ H locs → lv_has ls 7 [(2, .int a2), (4, .int a4)] → W p l e { frames := 2, cells := 0, slots := 0, locals := 43 } s m av below meth c H locs 0 0 (MQ below (Qm E (some (.int z)) μ) av s 0 0 (Ad E)) (F0 m 61 ls [.int s0]) := by
  have hx := C.1.1
  have hb := C.1.2.1
  intro a2 a4 s0 hf H locs ls hI hl
  unfold f_X10_isMark_b61 at hf
  refine lv_istore hx hb dX10_isMark_61 hl (by decide) rfl (fun ls hl => ?_)
  have hl : lv_has ls 7 [(6, .int s0), (2, .int a2), (4, .int a4)] := hl
  refine lv_iload hx hb dX10_isMark_63 (lv_at hl 0 rfl) ?_
  refine lv_if_eq (tgt := 120) hx hb dX10_isMark_65 rfl (fun hc => ?_) (fun hc => ?_)
  · replace hf := it hf hc
    refine lv_iconst (v := (0 : Int32)) hx hb dX10_isMark_120 kc_0 ?_
    obtain rfl := Option.some.inj hf
    exact m_zret C hr hlk hI (by decide) dX10_isMark_121
  · replace hf := ie hf hc
    refine lv_iload_n hx hb dX10_isMark_68 rfl (lv_at hl 1 rfl) ?_
    refine lv_iconst (v := (3 : Int32)) hx hb dX10_isMark_69 kc_3 ?_
    refine lv_iconst (v := (5 : Int32)) hx hb dX10_isMark_70 kc_5 ?_
    obtain ⟨q15, e16, hf⟩ := ob hf
    refine mcS (As := [.int a2, .int (3 : Int32), .int (5 : Int32)]) (rest := []) C hI (c_X10_in l E  e16) ml_X10_136 ks_X10_in rfl rfl ⟨Nat.le_of_ble_eq_true rfl, Nat.le_of_ble_eq_true rfl⟩ ⟨Nat.zero_le _, Nat.zero_le _⟩ rfl rfl hl.1 (Nat.le_of_ble_eq_true rfl) dX10_isMark_71 (st1 := [.int q15]) rfl (fun H locs hI => ?_)
    refine lv_if_eq (tgt := 90) hx hb dX10_isMark_74 rfl (fun hc => ?_) (fun hc => ?_)
    · replace hf := it hf hc
      refine lv_iload_n hx hb dX10_isMark_90 rfl (lv_at hl 1 rfl) ?_
      refine lv_bipush (v := (9 : Int32)) hx hb dX10_isMark_91 kb_9 ?_
      refine lv_icmp_lt (tgt := 110) hx hb dX10_isMark_93 rfl (fun hc => ?_) (fun hc => ?_)
      · replace hf := it hf hc
        refine lv_iload hx hb dX10_isMark_110 (lv_at hl 2 rfl) ?_
        refine lv_iconst (v := (-1 : Int32)) hx hb dX10_isMark_112 kc_m1 ?_
        refine lv_icmp_ne (tgt := 120) hx hb dX10_isMark_113 rfl (fun hc => ?_) (fun hc => ?_)
        · replace hf := ie hf hc
          refine lv_iconst (v := (0 : Int32)) hx hb dX10_isMark_120 kc_0 ?_
          obtain rfl := Option.some.inj hf
          exact m_zret C hr hlk hI (by decide) dX10_isMark_121
        · replace hf := it hf hc
          refine lv_iconst (v := (1 : Int32)) hx hb dX10_isMark_116 kc_1 ?_
          refine lv_goto (tgt := 121) hx hb dX10_isMark_117 rfl ?_
          obtain rfl := Option.some.inj hf
          exact m_zret C hr hlk hI (by decide) dX10_isMark_121
      · replace hf := ie hf hc
        refine lv_iload hx hb dX10_isMark_96 (lv_at hl 2 rfl) ?_
        refine lv_iconst (v := (0 : Int32)) hx hb dX10_isMark_98 kc_0 ?_
        refine lv_bipush (v := (63 : Int32)) hx hb dX10_isMark_99 kb_63 ?_
        obtain ⟨q17, e18, hf⟩ := ob hf
        refine mcS (As := [.int a4, .int (0 : Int32), .int (63 : Int32)]) (rest := []) C hI (c_X10_in l E  e18) ml_X10_136 ks_X10_in rfl rfl ⟨Nat.le_of_ble_eq_true rfl, Nat.le_of_ble_eq_true rfl⟩ ⟨Nat.zero_le _, Nat.zero_le _⟩ rfl rfl hl.1 (Nat.le_of_ble_eq_true rfl) dX10_isMark_101 (st1 := [.int q17]) rfl (fun H locs hI => ?_)
        refine lv_if_eq (tgt := 120) hx hb dX10_isMark_104 rfl (fun hc => ?_) (fun hc => ?_)
        · replace hf := it hf hc
          refine lv_iconst (v := (0 : Int32)) hx hb dX10_isMark_120 kc_0 ?_
          obtain rfl := Option.some.inj hf
          exact m_zret C hr hlk hI (by decide) dX10_isMark_121
        · replace hf := ie hf hc
          refine lv_goto (tgt := 116) hx hb dX10_isMark_107 rfl ?_
          refine lv_iconst (v := (1 : Int32)) hx hb dX10_isMark_116 kc_1 ?_
          refine lv_goto (tgt := 121) hx hb dX10_isMark_117 rfl ?_
          obtain rfl := Option.some.inj hf
          exact m_zret C hr hlk hI (by decide) dX10_isMark_121
    · replace hf := ie hf hc
      refine lv_iload hx hb dX10_isMark_77 (lv_at hl 2 rfl) ?_
      refine lv_iconst (v := (0 : Int32)) hx hb dX10_isMark_79 kc_0 ?_
      refine lv_iconst (v := (3 : Int32)) hx hb dX10_isMark_80 kc_3 ?_
      obtain ⟨q19, e20, hf⟩ := ob hf
      refine mcS (As := [.int a4, .int (0 : Int32), .int (3 : Int32)]) (rest := []) C hI (c_X10_in l E  e20) ml_X10_136 ks_X10_in rfl rfl ⟨Nat.le_of_ble_eq_true rfl, Nat.le_of_ble_eq_true rfl⟩ ⟨Nat.zero_le _, Nat.zero_le _⟩ rfl rfl hl.1 (Nat.le_of_ble_eq_true rfl) dX10_isMark_81 (st1 := [.int q19]) rfl (fun H locs hI => ?_)
      refine lv_if_eq (tgt := 120) hx hb dX10_isMark_84 rfl (fun hc => ?_) (fun hc => ?_)
      · replace hf := it hf hc
        refine lv_iconst (v := (0 : Int32)) hx hb dX10_isMark_120 kc_0 ?_
        obtain rfl := Option.some.inj hf
        exact m_zret C hr hlk hI (by decide) dX10_isMark_121
      · replace hf := ie hf hc
        refine lv_goto (tgt := 116) hx hb dX10_isMark_87 rfl ?_
        refine lv_iconst (v := (1 : Int32)) hx hb dX10_isMark_116 kc_1 ?_
        refine lv_goto (tgt := 121) hx hb dX10_isMark_117 rfl ?_
        obtain rfl := Option.some.inj hf
        exact m_zret C hr hlk hI (by decide) dX10_isMark_121
def f_X10_isMark (μ : Mm) (p1 : Int32) (p2 : Int32) (p3 : Int32) (p4 : Int32) (p5 : Int32) : Option Int32 :=
 (f_X10_isProcessor μ p1).bind fun q21 =>
 if q21 = 0 then
 some (0 : Int32)
 else
 (f_X10_in μ p2 (0 : Int32) (12 : Int32)).bind fun q23 =>
 if q23 = 0 then
 some (0 : Int32)
 else
 (f_X10_in μ p5 (0 : Int32) (((1 : Int32) <<< ((μ.1 1000 0 3) &&& 31)) - (1 : Int32))).bind fun q25 =>
 if q25 = 0 then
 some (0 : Int32)
 else
 if (6 : Int32) ≤ p2 then
 if p3 = (-1 : Int32) then
 f_X10_isMark_b61 μ p2 p4 (1 : Int32)
 else
 f_X10_isMark_b61 μ p2 p4 (0 : Int32)
 else
 (f_X10_isTask μ p3).bind fun q27 =>
 f_X10_isMark_b61 μ p2 p4 q27
set_option maxHeartbeats 4000000 in
set_option maxRecDepth 100000 in
theorem c_X10_isMark (l : Launch) (E : En) {μ : Mm} {p1 : Int32} {p2 : Int32} {p3 : Int32} {p4 : Int32} {p5 : Int32} (h0 : l10 E 0) {z : Int32} (hf : f_X10_isMark μ p1 p2 p3 p4 p5 = some z) : Met l yX10_isMark (wt yX10_isMark cX10_isMark 7 (some .boolean)) { frames := 2, cells := 0, slots := 0, locals := 43 } (Pm E [.ref (ad E 1000 0), .int p1, .int p2, .int p3, .int p4, .int p5] μ) (Qm E (some (.int z)) μ) 0 0 (Ad E) := by
  unfold f_X10_isMark at hf
  refine met_of (cc := cX10_isMark) (nL := 7) (ret := (some .boolean)) (by decide) _ (Nat.le_of_ble_eq_true rfl) ?_
  intro p e s m below meth c C hr hlk hI ls hl
  have hx := C.1.1
  have hb := C.1.2.1
  have hl : lv_has ls 7 [(0, .ref (ad E 1000 0)), (1, .int p1), (2, .int p2), (3, .int p3), (4, .int p4), (5, .int p5)] := hl
  refine lv_aload_n hx hb dX10_isMark_0 rfl (lv_at hl 0 rfl) ?_
  refine lv_iload_n hx hb dX10_isMark_1 rfl (lv_at hl 1 rfl) ?_
  obtain ⟨q21, e22, hf⟩ := ob hf
  refine mcV (As := [.int p1]) (rest := []) C hI (c_X10_isProcessor l E h0 e22) ml_X10_153 kv_X10_isProcessor (m_recv C hI h0.1 (ce_1000 E _ _ _) rfl) rfl rfl ⟨Nat.le_of_ble_eq_true rfl, Nat.le_of_ble_eq_true rfl⟩ ⟨Nat.zero_le _, Nat.zero_le _⟩ rfl rfl hl.1 (Nat.le_of_ble_eq_true rfl) dX10_isMark_2 (st1 := [.int q21]) rfl (fun H locs hI => ?_)
  refine lv_if_eq (tgt := 35) hx hb dX10_isMark_5 rfl (fun hc => ?_) (fun hc => ?_)
  · replace hf := it hf hc
    refine lv_iconst (v := (0 : Int32)) hx hb dX10_isMark_35 kc_0 ?_
    obtain rfl := Option.some.inj hf
    exact m_zret C hr hlk hI (by decide) dX10_isMark_36
  · replace hf := ie hf hc
    refine lv_iload_n hx hb dX10_isMark_8 rfl (lv_at hl 2 rfl) ?_
    refine lv_iconst (v := (0 : Int32)) hx hb dX10_isMark_9 kc_0 ?_
    refine lv_bipush (v := (12 : Int32)) hx hb dX10_isMark_10 kb_12 ?_
    obtain ⟨q23, e24, hf⟩ := ob hf
    refine mcS (As := [.int p2, .int (0 : Int32), .int (12 : Int32)]) (rest := []) C hI (c_X10_in l E  e24) ml_X10_136 ks_X10_in rfl rfl ⟨Nat.le_of_ble_eq_true rfl, Nat.le_of_ble_eq_true rfl⟩ ⟨Nat.zero_le _, Nat.zero_le _⟩ rfl rfl hl.1 (Nat.le_of_ble_eq_true rfl) dX10_isMark_12 (st1 := [.int q23]) rfl (fun H locs hI => ?_)
    refine lv_if_eq (tgt := 35) hx hb dX10_isMark_15 rfl (fun hc => ?_) (fun hc => ?_)
    · replace hf := it hf hc
      refine lv_iconst (v := (0 : Int32)) hx hb dX10_isMark_35 kc_0 ?_
      obtain rfl := Option.some.inj hf
      exact m_zret C hr hlk hI (by decide) dX10_isMark_36
    · replace hf := ie hf hc
      refine lv_iload hx hb dX10_isMark_18 (lv_at hl 5 rfl) ?_
      refine lv_iconst (v := (0 : Int32)) hx hb dX10_isMark_20 kc_0 ?_
      refine lv_iconst (v := (1 : Int32)) hx hb dX10_isMark_21 kc_1 ?_
      refine lv_aload_n hx hb dX10_isMark_22 rfl (lv_at hl 0 rfl) ?_
      refine gf_10_3 C hI h0.1 fl_X10_16 dX10_isMark_23 ?_
      refine lv_ishl hx hb dX10_isMark_26 ?_
      refine lv_iconst (v := (1 : Int32)) hx hb dX10_isMark_27 kc_1 ?_
      refine lv_isub hx hb dX10_isMark_28 ?_
      obtain ⟨q25, e26, hf⟩ := ob hf
      refine mcS (As := [.int p5, .int (0 : Int32), .int (((1 : Int32) <<< ((μ.1 1000 0 3) &&& 31)) - (1 : Int32))]) (rest := []) C hI (c_X10_in l E  e26) ml_X10_136 ks_X10_in rfl rfl ⟨Nat.le_of_ble_eq_true rfl, Nat.le_of_ble_eq_true rfl⟩ ⟨Nat.zero_le _, Nat.zero_le _⟩ rfl rfl hl.1 (Nat.le_of_ble_eq_true rfl) dX10_isMark_29 (st1 := [.int q25]) rfl (fun H locs hI => ?_)
      refine lv_if_ne (tgt := 37) hx hb dX10_isMark_32 rfl (fun hc => ?_) (fun hc => ?_)
      · replace hf := ie hf hc
        refine lv_iload_n hx hb dX10_isMark_37 rfl (lv_at hl 2 rfl) ?_
        refine lv_bipush (v := (6 : Int32)) hx hb dX10_isMark_38 kb_6 ?_
        refine lv_icmp_ge (tgt := 51) hx hb dX10_isMark_40 rfl (fun hc => ?_) (fun hc => ?_)
        · replace hf := it hf hc
          refine lv_iload_n hx hb dX10_isMark_51 rfl (lv_at hl 3 rfl) ?_
          refine lv_iconst (v := (-1 : Int32)) hx hb dX10_isMark_52 kc_m1 ?_
          refine lv_icmp_ne (tgt := 60) hx hb dX10_isMark_53 rfl (fun hc => ?_) (fun hc => ?_)
          · replace hf := ie hf hc
            refine lv_iconst (v := (0 : Int32)) hx hb dX10_isMark_60 kc_0 ?_
            exact cb_X10_isMark_61 C hr hlk  _ _ _  hf hI (lv_sub hl [2, 4] rfl)
          · replace hf := it hf hc
            refine lv_iconst (v := (1 : Int32)) hx hb dX10_isMark_56 kc_1 ?_
            refine lv_goto (tgt := 61) hx hb dX10_isMark_57 rfl ?_
            exact cb_X10_isMark_61 C hr hlk  _ _ _  hf hI (lv_sub hl [2, 4] rfl)
        · replace hf := ie hf hc
          refine lv_aload_n hx hb dX10_isMark_43 rfl (lv_at hl 0 rfl) ?_
          refine lv_iload_n hx hb dX10_isMark_44 rfl (lv_at hl 3 rfl) ?_
          obtain ⟨q27, e28, hf⟩ := ob hf
          refine mcV (As := [.int p3]) (rest := []) C hI (c_X10_isTask l E h0 e28) ml_X10_149 kv_X10_isTask (m_recv C hI h0.1 (ce_1000 E _ _ _) rfl) rfl rfl ⟨Nat.le_of_ble_eq_true rfl, Nat.le_of_ble_eq_true rfl⟩ ⟨Nat.zero_le _, Nat.zero_le _⟩ rfl rfl hl.1 (Nat.le_of_ble_eq_true rfl) dX10_isMark_45 (st1 := [.int q27]) rfl (fun H locs hI => ?_)
          refine lv_goto (tgt := 61) hx hb dX10_isMark_48 rfl ?_
          exact cb_X10_isMark_61 C hr hlk  _ _ _  hf hI (lv_sub hl [2, 4] rfl)
      · replace hf := it hf hc
        refine lv_iconst (v := (0 : Int32)) hx hb dX10_isMark_35 kc_0 ?_
        obtain rfl := Option.some.inj hf
        exact m_zret C hr hlk hI (by decide) dX10_isMark_36

theorem dX10_told_0 : decode cX10_told 0 = .ok (.aload_n 0, 1) := by decide +kernel
theorem dX10_told_1 : decode cX10_told 1 = .ok (.iload_n 1, 1) := by decide +kernel
theorem dX10_told_2 : decode cX10_told 2 = .ok (.invokevirtual 153, 3) := by decide +kernel
theorem dX10_told_5 : decode cX10_told 5 = .ok (.ifCond .eq 19, 3) := by decide +kernel
theorem dX10_told_8 : decode cX10_told 8 = .ok (.iload_n 2, 1) := by decide +kernel
theorem dX10_told_9 : decode cX10_told 9 = .ok (.iconst 0, 1) := by decide +kernel
theorem dX10_told_10 : decode cX10_told 10 = .ok (.aload_n 0, 1) := by decide +kernel
theorem dX10_told_11 : decode cX10_told 11 = .ok (.getfield 29, 3) := by decide +kernel
theorem dX10_told_14 : decode cX10_told 14 = .ok (.iload_n 1, 1) := by decide +kernel
theorem dX10_told_15 : decode cX10_told 15 = .ok (.iaload, 1) := by decide +kernel
theorem dX10_told_16 : decode cX10_told 16 = .ok (.iconst 1, 1) := by decide +kernel
theorem dX10_told_17 : decode cX10_told 17 = .ok (.isub, 1) := by decide +kernel
theorem dX10_told_18 : decode cX10_told 18 = .ok (.invokestatic 136, 3) := by decide +kernel
theorem dX10_told_21 : decode cX10_told 21 = .ok (.ifCond .ne 5, 3) := by decide +kernel
theorem dX10_told_24 : decode cX10_told 24 = .ok (.iconst (-1), 1) := by decide +kernel
theorem dX10_told_25 : decode cX10_told 25 = .ok (.ireturn, 1) := by decide +kernel
theorem dX10_told_26 : decode cX10_told 26 = .ok (.sipush 200, 3) := by decide +kernel
theorem dX10_told_29 : decode cX10_told 29 = .ok (.iload_n 1, 1) := by decide +kernel
theorem dX10_told_30 : decode cX10_told 30 = .ok (.imul, 1) := by decide +kernel
theorem dX10_told_31 : decode cX10_told 31 = .ok (.iload_n 2, 1) := by decide +kernel
theorem dX10_told_32 : decode cX10_told 32 = .ok (.iadd, 1) := by decide +kernel
theorem dX10_told_33 : decode cX10_told 33 = .ok (.istore 4, 2) := by decide +kernel
theorem dX10_told_35 : decode cX10_told 35 = .ok (.iload_n 3, 1) := by decide +kernel
theorem dX10_told_36 : decode cX10_told 36 = .ok (.tableswitch 64 0 3 #[32, 40, 48, 56], 32) := by decide +kernel
theorem dX10_told_68 : decode cX10_told 68 = .ok (.aload_n 0, 1) := by decide +kernel
theorem dX10_told_69 : decode cX10_told 69 = .ok (.getfield 32, 3) := by decide +kernel
theorem dX10_told_72 : decode cX10_told 72 = .ok (.iload 4, 2) := by decide +kernel
theorem dX10_told_74 : decode cX10_told 74 = .ok (.baload, 1) := by decide +kernel
theorem dX10_told_75 : decode cX10_told 75 = .ok (.ireturn, 1) := by decide +kernel
theorem dX10_told_76 : decode cX10_told 76 = .ok (.aload_n 0, 1) := by decide +kernel
theorem dX10_told_77 : decode cX10_told 77 = .ok (.getfield 36, 3) := by decide +kernel
theorem dX10_told_80 : decode cX10_told 80 = .ok (.iload 4, 2) := by decide +kernel
theorem dX10_told_82 : decode cX10_told 82 = .ok (.baload, 1) := by decide +kernel
theorem dX10_told_83 : decode cX10_told 83 = .ok (.ireturn, 1) := by decide +kernel
theorem dX10_told_84 : decode cX10_told 84 = .ok (.aload_n 0, 1) := by decide +kernel
theorem dX10_told_85 : decode cX10_told 85 = .ok (.getfield 39, 3) := by decide +kernel
theorem dX10_told_88 : decode cX10_told 88 = .ok (.iload 4, 2) := by decide +kernel
theorem dX10_told_90 : decode cX10_told 90 = .ok (.baload, 1) := by decide +kernel
theorem dX10_told_91 : decode cX10_told 91 = .ok (.ireturn, 1) := by decide +kernel
theorem dX10_told_92 : decode cX10_told 92 = .ok (.aload_n 0, 1) := by decide +kernel
theorem dX10_told_93 : decode cX10_told 93 = .ok (.getfield 42, 3) := by decide +kernel
theorem dX10_told_96 : decode cX10_told 96 = .ok (.iload 4, 2) := by decide +kernel
theorem dX10_told_98 : decode cX10_told 98 = .ok (.iaload, 1) := by decide +kernel
theorem dX10_told_99 : decode cX10_told 99 = .ok (.ireturn, 1) := by decide +kernel
theorem dX10_told_100 : decode cX10_told 100 = .ok (.iconst (-1), 1) := by decide +kernel
theorem dX10_told_101 : decode cX10_told 101 = .ok (.ireturn, 1) := by decide +kernel
def f_X10_told (μ : Mm) (p1 : Int32) (p2 : Int32) (p3 : Int32) : Option Int32 :=
 (f_X10_isProcessor μ p1).bind fun q15 =>
 if q15 = 0 then
 some (-1 : Int32)
 else
 (ra μ 1008 0 21 p1).bind fun v17 =>
 (f_X10_in μ p2 (0 : Int32) (v17 - (1 : Int32))).bind fun q19 =>
 if q19 = 0 then
 some (-1 : Int32)
 else
 if p3 = (0 : Int32) then
 (ra μ 1009 0 4200 (((200 : Int32) * p1) + p2)).bind fun v21 =>
 some v21
 else
 if p3 = (1 : Int32) then
 (ra μ 1010 0 4200 (((200 : Int32) * p1) + p2)).bind fun v23 =>
 some v23
 else
 if p3 = (2 : Int32) then
 (ra μ 1011 0 4200 (((200 : Int32) * p1) + p2)).bind fun v25 =>
 some v25
 else
 if p3 = (3 : Int32) then
 (ra μ 1012 0 4200 (((200 : Int32) * p1) + p2)).bind fun v27 =>
 some v27
 else
 some (-1 : Int32)
set_option maxHeartbeats 4000000 in
set_option maxRecDepth 100000 in
theorem c_X10_told (l : Launch) (E : En) {μ : Mm} {p1 : Int32} {p2 : Int32} {p3 : Int32} (h0 : l10 E 0) {z : Int32} (hf : f_X10_told μ p1 p2 p3 = some z) : Met l yX10_told (wt yX10_told cX10_told 5 (some .int)) { frames := 2, cells := 0, slots := 0, locals := 43 } (Pm E [.ref (ad E 1000 0), .int p1, .int p2, .int p3] μ) (Qm E (some (.int z)) μ) 0 0 (Ad E) := by
  unfold f_X10_told at hf
  refine met_of (cc := cX10_told) (nL := 5) (ret := (some .int)) (by decide) _ (Nat.le_of_ble_eq_true rfl) ?_
  intro p e s m below meth c C hr hlk hI ls hl
  have hx := C.1.1
  have hb := C.1.2.1
  have hl : lv_has ls 5 [(0, .ref (ad E 1000 0)), (1, .int p1), (2, .int p2), (3, .int p3)] := hl
  refine lv_aload_n hx hb dX10_told_0 rfl (lv_at hl 0 rfl) ?_
  refine lv_iload_n hx hb dX10_told_1 rfl (lv_at hl 1 rfl) ?_
  obtain ⟨q15, e16, hf⟩ := ob hf
  refine mcV (As := [.int p1]) (rest := []) C hI (c_X10_isProcessor l E h0 e16) ml_X10_153 kv_X10_isProcessor (m_recv C hI h0.1 (ce_1000 E _ _ _) rfl) rfl rfl ⟨Nat.le_of_ble_eq_true rfl, Nat.le_of_ble_eq_true rfl⟩ ⟨Nat.zero_le _, Nat.zero_le _⟩ rfl rfl hl.1 (Nat.le_of_ble_eq_true rfl) dX10_told_2 (st1 := [.int q15]) rfl (fun H locs hI => ?_)
  refine lv_if_eq (tgt := 24) hx hb dX10_told_5 rfl (fun hc => ?_) (fun hc => ?_)
  · replace hf := it hf hc
    refine lv_iconst (v := (-1 : Int32)) hx hb dX10_told_24 kc_m1 ?_
    obtain rfl := Option.some.inj hf
    exact m_iret C hr hlk hI dX10_told_25
  · replace hf := ie hf hc
    refine lv_iload_n hx hb dX10_told_8 rfl (lv_at hl 2 rfl) ?_
    refine lv_iconst (v := (0 : Int32)) hx hb dX10_told_9 kc_0 ?_
    refine lv_aload_n hx hb dX10_told_10 rfl (lv_at hl 0 rfl) ?_
    refine gf_10_7 C hI h0.1 fl_X10_29 dX10_told_11 ?_
    refine lv_iload_n hx hb dX10_told_14 rfl (lv_at hl 1 rfl) ?_
    obtain ⟨v17, e18, hf⟩ := ob hf
    refine m_iald C hI h0.2.2.2.2.1 (ce_1008 E _ _ _) e18 dX10_told_15 ?_
    refine lv_iconst (v := (1 : Int32)) hx hb dX10_told_16 kc_1 ?_
    refine lv_isub hx hb dX10_told_17 ?_
    obtain ⟨q19, e20, hf⟩ := ob hf
    refine mcS (As := [.int p2, .int (0 : Int32), .int (v17 - (1 : Int32))]) (rest := []) C hI (c_X10_in l E  e20) ml_X10_136 ks_X10_in rfl rfl ⟨Nat.le_of_ble_eq_true rfl, Nat.le_of_ble_eq_true rfl⟩ ⟨Nat.zero_le _, Nat.zero_le _⟩ rfl rfl hl.1 (Nat.le_of_ble_eq_true rfl) dX10_told_18 (st1 := [.int q19]) rfl (fun H locs hI => ?_)
    refine lv_if_ne (tgt := 26) hx hb dX10_told_21 rfl (fun hc => ?_) (fun hc => ?_)
    · replace hf := ie hf hc
      refine lv_sipush (v := (200 : Int32)) hx hb dX10_told_26 ks_200 ?_
      refine lv_iload_n hx hb dX10_told_29 rfl (lv_at hl 1 rfl) ?_
      refine lv_imul hx hb dX10_told_30 ?_
      refine lv_iload_n hx hb dX10_told_31 rfl (lv_at hl 2 rfl) ?_
      refine lv_iadd hx hb dX10_told_32 ?_
      refine lv_istore hx hb dX10_told_33 hl (by decide) rfl (fun ls hl => ?_)
      have hl : lv_has ls 5 [(4, .int (((200 : Int32) * p1) + p2)), (0, .ref (ad E 1000 0)), (1, .int p1), (2, .int p2), (3, .int p3)] := hl
      refine lv_iload_n hx hb dX10_told_35 rfl (lv_at hl 4 rfl) ?_
      by_cases hn0 : p3 = (0 : Int32)
      · replace hf := it hf hn0
        refine lv_tableIn (tgt := 68) (off := 32) hx hb dX10_told_36 (by rw [hn0]; decide) (by rw [hn0]; decide) (by rw [hn0]; rfl) rfl ?_
        refine lv_aload_n hx hb dX10_told_68 rfl (lv_at hl 1 rfl) ?_
        refine gf_10_8 C hI h0.1 fl_X10_32 dX10_told_69 ?_
        refine lv_iload hx hb dX10_told_72 (lv_at hl 0 rfl) ?_
        obtain ⟨v21, e22, hf⟩ := ob hf
        refine m_bald C hI h0.2.2.2.2.2.1 (ce_1009 E _ _ _) e22 dX10_told_74 ?_
        obtain rfl := Option.some.inj hf
        exact m_iret C hr hlk hI dX10_told_75
      replace hf := ie hf hn0
      by_cases hn1 : p3 = (1 : Int32)
      · replace hf := it hf hn1
        refine lv_tableIn (tgt := 76) (off := 40) hx hb dX10_told_36 (by rw [hn1]; decide) (by rw [hn1]; decide) (by rw [hn1]; rfl) rfl ?_
        refine lv_aload_n hx hb dX10_told_76 rfl (lv_at hl 1 rfl) ?_
        refine gf_10_9 C hI h0.1 fl_X10_36 dX10_told_77 ?_
        refine lv_iload hx hb dX10_told_80 (lv_at hl 0 rfl) ?_
        obtain ⟨v23, e24, hf⟩ := ob hf
        refine m_bald C hI h0.2.2.2.2.2.2.1 (ce_1010 E _ _ _) e24 dX10_told_82 ?_
        obtain rfl := Option.some.inj hf
        exact m_iret C hr hlk hI dX10_told_83
      replace hf := ie hf hn1
      by_cases hn2 : p3 = (2 : Int32)
      · replace hf := it hf hn2
        refine lv_tableIn (tgt := 84) (off := 48) hx hb dX10_told_36 (by rw [hn2]; decide) (by rw [hn2]; decide) (by rw [hn2]; rfl) rfl ?_
        refine lv_aload_n hx hb dX10_told_84 rfl (lv_at hl 1 rfl) ?_
        refine gf_10_10 C hI h0.1 fl_X10_39 dX10_told_85 ?_
        refine lv_iload hx hb dX10_told_88 (lv_at hl 0 rfl) ?_
        obtain ⟨v25, e26, hf⟩ := ob hf
        refine m_bald C hI h0.2.2.2.2.2.2.2.1 (ce_1011 E _ _ _) e26 dX10_told_90 ?_
        obtain rfl := Option.some.inj hf
        exact m_iret C hr hlk hI dX10_told_91
      replace hf := ie hf hn2
      by_cases hn3 : p3 = (3 : Int32)
      · replace hf := it hf hn3
        refine lv_tableIn (tgt := 92) (off := 56) hx hb dX10_told_36 (by rw [hn3]; decide) (by rw [hn3]; decide) (by rw [hn3]; rfl) rfl ?_
        refine lv_aload_n hx hb dX10_told_92 rfl (lv_at hl 1 rfl) ?_
        refine gf_10_11 C hI h0.1 fl_X10_42 dX10_told_93 ?_
        refine lv_iload hx hb dX10_told_96 (lv_at hl 0 rfl) ?_
        obtain ⟨v27, e28, hf⟩ := ob hf
        refine m_iald C hI h0.2.2.2.2.2.2.2.2.1 (ce_1012 E _ _ _) e28 dX10_told_98 ?_
        obtain rfl := Option.some.inj hf
        exact m_iret C hr hlk hI dX10_told_99
      replace hf := ie hf hn3
      have a0_ := ts_ne (n := 0) hn0 (by decide)
      have a1_ := ts_ne (n := 1) hn1 (by decide)
      have a2_ := ts_ne (n := 2) hn2 (by decide)
      have a3_ := ts_ne (n := 3) hn3 (by decide)
      refine lv_tableOut (tgt := 100) hx hb dX10_told_36 (by omega) rfl ?_
      refine lv_iconst (v := (-1 : Int32)) hx hb dX10_told_100 kc_m1 ?_
      obtain rfl := Option.some.inj hf
      exact m_iret C hr hlk hI dX10_told_101
    · replace hf := it hf hc
      refine lv_iconst (v := (-1 : Int32)) hx hb dX10_told_24 kc_m1 ?_
      obtain rfl := Option.some.inj hf
      exact m_iret C hr hlk hI dX10_told_25

theorem dX10_stretch_0 : decode cX10_stretch 0 = .ok (.aload_n 0, 1) := by decide +kernel
theorem dX10_stretch_1 : decode cX10_stretch 1 = .ok (.getfield 42, 3) := by decide +kernel
theorem dX10_stretch_4 : decode cX10_stretch 4 = .ok (.aload_n 0, 1) := by decide +kernel
theorem dX10_stretch_5 : decode cX10_stretch 5 = .ok (.iload_n 1, 1) := by decide +kernel
theorem dX10_stretch_6 : decode cX10_stretch 6 = .ok (.iconst 1, 1) := by decide +kernel
theorem dX10_stretch_7 : decode cX10_stretch 7 = .ok (.iadd, 1) := by decide +kernel
theorem dX10_stretch_8 : decode cX10_stretch 8 = .ok (.invokevirtual 190, 3) := by decide +kernel
theorem dX10_stretch_11 : decode cX10_stretch 11 = .ok (.iaload, 1) := by decide +kernel
theorem dX10_stretch_12 : decode cX10_stretch 12 = .ok (.aload_n 0, 1) := by decide +kernel
theorem dX10_stretch_13 : decode cX10_stretch 13 = .ok (.getfield 42, 3) := by decide +kernel
theorem dX10_stretch_16 : decode cX10_stretch 16 = .ok (.aload_n 0, 1) := by decide +kernel
theorem dX10_stretch_17 : decode cX10_stretch 17 = .ok (.iload_n 1, 1) := by decide +kernel
theorem dX10_stretch_18 : decode cX10_stretch 18 = .ok (.invokevirtual 190, 3) := by decide +kernel
theorem dX10_stretch_21 : decode cX10_stretch 21 = .ok (.iaload, 1) := by decide +kernel
theorem dX10_stretch_22 : decode cX10_stretch 22 = .ok (.isub, 1) := by decide +kernel
theorem dX10_stretch_23 : decode cX10_stretch 23 = .ok (.ireturn, 1) := by decide +kernel
def f_X10_stretch (μ : Mm) (p1 : Int32) : Option Int32 :=
 (f_X10_spot μ (p1 + (1 : Int32))).bind fun q9 =>
 (ra μ 1012 0 4200 q9).bind fun v11 =>
 (f_X10_spot μ p1).bind fun q13 =>
 (ra μ 1012 0 4200 q13).bind fun v15 =>
 some (v11 - v15)
set_option maxHeartbeats 4000000 in
set_option maxRecDepth 100000 in
theorem c_X10_stretch (l : Launch) (E : En) {μ : Mm} {p1 : Int32} (h0 : l10 E 0) {z : Int32} (hf : f_X10_stretch μ p1 = some z) : Met l yX10_stretch (wt yX10_stretch cX10_stretch 2 (some .int)) { frames := 1, cells := 0, slots := 0, locals := 21 } (Pm E [.ref (ad E 1000 0), .int p1] μ) (Qm E (some (.int z)) μ) 0 0 (Ad E) := by
  unfold f_X10_stretch at hf
  refine met_of (cc := cX10_stretch) (nL := 2) (ret := (some .int)) (by decide) _ (Nat.le_of_ble_eq_true rfl) ?_
  intro p e s m below meth c C hr hlk hI ls hl
  have hx := C.1.1
  have hb := C.1.2.1
  have hl : lv_has ls 2 [(0, .ref (ad E 1000 0)), (1, .int p1)] := hl
  refine lv_aload_n hx hb dX10_stretch_0 rfl (lv_at hl 0 rfl) ?_
  refine gf_10_11 C hI h0.1 fl_X10_42 dX10_stretch_1 ?_
  refine lv_aload_n hx hb dX10_stretch_4 rfl (lv_at hl 0 rfl) ?_
  refine lv_iload_n hx hb dX10_stretch_5 rfl (lv_at hl 1 rfl) ?_
  refine lv_iconst (v := (1 : Int32)) hx hb dX10_stretch_6 kc_1 ?_
  refine lv_iadd hx hb dX10_stretch_7 ?_
  obtain ⟨q9, e10, hf⟩ := ob hf
  refine mcV (As := [.int (p1 + (1 : Int32))]) (rest := [.ref (ad E 1012 0)]) C hI (c_X10_spot l E h0 e10) ml_X10_190 kv_X10_spot (m_recv C hI h0.1 (ce_1000 E _ _ _) rfl) rfl rfl ⟨Nat.le_of_ble_eq_true rfl, Nat.le_of_ble_eq_true rfl⟩ ⟨Nat.zero_le _, Nat.zero_le _⟩ rfl rfl hl.1 (Nat.le_of_ble_eq_true rfl) dX10_stretch_8 (st1 := [.int q9, .ref (ad E 1012 0)]) rfl (fun H locs hI => ?_)
  obtain ⟨v11, e12, hf⟩ := ob hf
  refine m_iald C hI h0.2.2.2.2.2.2.2.2.1 (ce_1012 E _ _ _) e12 dX10_stretch_11 ?_
  refine lv_aload_n hx hb dX10_stretch_12 rfl (lv_at hl 0 rfl) ?_
  refine gf_10_11 C hI h0.1 fl_X10_42 dX10_stretch_13 ?_
  refine lv_aload_n hx hb dX10_stretch_16 rfl (lv_at hl 0 rfl) ?_
  refine lv_iload_n hx hb dX10_stretch_17 rfl (lv_at hl 1 rfl) ?_
  obtain ⟨q13, e14, hf⟩ := ob hf
  refine mcV (As := [.int p1]) (rest := [.ref (ad E 1012 0), .int v11]) C hI (c_X10_spot l E h0 e14) ml_X10_190 kv_X10_spot (m_recv C hI h0.1 (ce_1000 E _ _ _) rfl) rfl rfl ⟨Nat.le_of_ble_eq_true rfl, Nat.le_of_ble_eq_true rfl⟩ ⟨Nat.zero_le _, Nat.zero_le _⟩ rfl rfl hl.1 (Nat.le_of_ble_eq_true rfl) dX10_stretch_18 (st1 := [.int q13, .ref (ad E 1012 0), .int v11]) rfl (fun H locs hI => ?_)
  obtain ⟨v15, e16, hf⟩ := ob hf
  refine m_iald C hI h0.2.2.2.2.2.2.2.2.1 (ce_1012 E _ _ _) e16 dX10_stretch_21 ?_
  refine lv_isub hx hb dX10_stretch_22 ?_
  obtain rfl := Option.some.inj hf
  exact m_iret C hr hlk hI dX10_stretch_23

theorem dX10_isDark_0 : decode cX10_isDark 0 = .ok (.aload_n 0, 1) := by decide +kernel
theorem dX10_isDark_1 : decode cX10_isDark 1 = .ok (.getfield 32, 3) := by decide +kernel
theorem dX10_isDark_4 : decode cX10_isDark 4 = .ok (.aload_n 0, 1) := by decide +kernel
theorem dX10_isDark_5 : decode cX10_isDark 5 = .ok (.iload_n 1, 1) := by decide +kernel
theorem dX10_isDark_6 : decode cX10_isDark 6 = .ok (.iconst 1, 1) := by decide +kernel
theorem dX10_isDark_7 : decode cX10_isDark 7 = .ok (.iadd, 1) := by decide +kernel
theorem dX10_isDark_8 : decode cX10_isDark 8 = .ok (.invokevirtual 190, 3) := by decide +kernel
theorem dX10_isDark_11 : decode cX10_isDark 11 = .ok (.baload, 1) := by decide +kernel
theorem dX10_isDark_12 : decode cX10_isDark 12 = .ok (.bipush 8, 2) := by decide +kernel
theorem dX10_isDark_14 : decode cX10_isDark 14 = .ok (.if_icmp .eq 12, 3) := by decide +kernel
theorem dX10_isDark_17 : decode cX10_isDark 17 = .ok (.aload_n 0, 1) := by decide +kernel
theorem dX10_isDark_18 : decode cX10_isDark 18 = .ok (.getfield 173, 3) := by decide +kernel
theorem dX10_isDark_21 : decode cX10_isDark 21 = .ok (.bipush (-2), 2) := by decide +kernel
theorem dX10_isDark_23 : decode cX10_isDark 23 = .ok (.if_icmp .ne 7, 3) := by decide +kernel
theorem dX10_isDark_26 : decode cX10_isDark 26 = .ok (.iconst 1, 1) := by decide +kernel
theorem dX10_isDark_27 : decode cX10_isDark 27 = .ok (.goto 4, 3) := by decide +kernel
theorem dX10_isDark_30 : decode cX10_isDark 30 = .ok (.iconst 0, 1) := by decide +kernel
theorem dX10_isDark_31 : decode cX10_isDark 31 = .ok (.ireturn, 1) := by decide +kernel
def f_X10_isDark (μ : Mm) (p1 : Int32) : Option Int32 :=
 (f_X10_spot μ (p1 + (1 : Int32))).bind fun q5 =>
 (ra μ 1009 0 4200 q5).bind fun v7 =>
 if v7 = (8 : Int32) then
 some (1 : Int32)
 else
 if (μ.1 1000 0 31) = (-2 : Int32) then
 some (1 : Int32)
 else
 some (0 : Int32)
set_option maxHeartbeats 4000000 in
set_option maxRecDepth 100000 in
theorem c_X10_isDark (l : Launch) (E : En) {μ : Mm} {p1 : Int32} (h0 : l10 E 0) {z : Int32} (hf : f_X10_isDark μ p1 = some z) : Met l yX10_isDark (wt yX10_isDark cX10_isDark 2 (some .boolean)) { frames := 1, cells := 0, slots := 0, locals := 21 } (Pm E [.ref (ad E 1000 0), .int p1] μ) (Qm E (some (.int z)) μ) 0 0 (Ad E) := by
  unfold f_X10_isDark at hf
  refine met_of (cc := cX10_isDark) (nL := 2) (ret := (some .boolean)) (by decide) _ (Nat.le_of_ble_eq_true rfl) ?_
  intro p e s m below meth c C hr hlk hI ls hl
  have hx := C.1.1
  have hb := C.1.2.1
  have hl : lv_has ls 2 [(0, .ref (ad E 1000 0)), (1, .int p1)] := hl
  refine lv_aload_n hx hb dX10_isDark_0 rfl (lv_at hl 0 rfl) ?_
  refine gf_10_8 C hI h0.1 fl_X10_32 dX10_isDark_1 ?_
  refine lv_aload_n hx hb dX10_isDark_4 rfl (lv_at hl 0 rfl) ?_
  refine lv_iload_n hx hb dX10_isDark_5 rfl (lv_at hl 1 rfl) ?_
  refine lv_iconst (v := (1 : Int32)) hx hb dX10_isDark_6 kc_1 ?_
  refine lv_iadd hx hb dX10_isDark_7 ?_
  obtain ⟨q5, e6, hf⟩ := ob hf
  refine mcV (As := [.int (p1 + (1 : Int32))]) (rest := [.ref (ad E 1009 0)]) C hI (c_X10_spot l E h0 e6) ml_X10_190 kv_X10_spot (m_recv C hI h0.1 (ce_1000 E _ _ _) rfl) rfl rfl ⟨Nat.le_of_ble_eq_true rfl, Nat.le_of_ble_eq_true rfl⟩ ⟨Nat.zero_le _, Nat.zero_le _⟩ rfl rfl hl.1 (Nat.le_of_ble_eq_true rfl) dX10_isDark_8 (st1 := [.int q5, .ref (ad E 1009 0)]) rfl (fun H locs hI => ?_)
  obtain ⟨v7, e8, hf⟩ := ob hf
  refine m_bald C hI h0.2.2.2.2.2.1 (ce_1009 E _ _ _) e8 dX10_isDark_11 ?_
  refine lv_bipush (v := (8 : Int32)) hx hb dX10_isDark_12 kb_8 ?_
  refine lv_icmp_eq (tgt := 26) hx hb dX10_isDark_14 rfl (fun hc => ?_) (fun hc => ?_)
  · replace hf := it hf hc
    refine lv_iconst (v := (1 : Int32)) hx hb dX10_isDark_26 kc_1 ?_
    refine lv_goto (tgt := 31) hx hb dX10_isDark_27 rfl ?_
    obtain rfl := Option.some.inj hf
    exact m_zret C hr hlk hI (by decide) dX10_isDark_31
  · replace hf := ie hf hc
    refine lv_aload_n hx hb dX10_isDark_17 rfl (lv_at hl 0 rfl) ?_
    refine gf_10_31 C hI h0.1 fl_X10_173 dX10_isDark_18 ?_
    refine lv_bipush (v := (-2 : Int32)) hx hb dX10_isDark_21 kb_m2 ?_
    refine lv_icmp_ne (tgt := 30) hx hb dX10_isDark_23 rfl (fun hc => ?_) (fun hc => ?_)
    · replace hf := ie hf hc
      refine lv_iconst (v := (0 : Int32)) hx hb dX10_isDark_30 kc_0 ?_
      obtain rfl := Option.some.inj hf
      exact m_zret C hr hlk hI (by decide) dX10_isDark_31
    · replace hf := it hf hc
      refine lv_iconst (v := (1 : Int32)) hx hb dX10_isDark_26 kc_1 ?_
      refine lv_goto (tgt := 31) hx hb dX10_isDark_27 rfl ?_
      obtain rfl := Option.some.inj hf
      exact m_zret C hr hlk hI (by decide) dX10_isDark_31

