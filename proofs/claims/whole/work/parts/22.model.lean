theorem dX10_agree_0 : decode cX10_agree 0 = .ok (.aload_n 0, 1) := by decide +kernel
theorem dX10_agree_1 : decode cX10_agree 1 = .ok (.invokevirtual 299, 3) := by decide +kernel
theorem dX10_agree_4 : decode cX10_agree 4 = .ok (.ifCond .eq 7, 3) := by decide +kernel
theorem dX10_agree_7 : decode cX10_agree 7 = .ok (.iconst 1, 1) := by decide +kernel
theorem dX10_agree_8 : decode cX10_agree 8 = .ok (.goto 4, 3) := by decide +kernel
theorem dX10_agree_11 : decode cX10_agree 11 = .ok (.iconst 0, 1) := by decide +kernel
theorem dX10_agree_12 : decode cX10_agree 12 = .ok (.ireturn, 1) := by decide +kernel
def f_X10_agree (F : Nat) (μ : Mm) : Option (Int32 × Mm) :=
 (f_X10_joins F μ).bind fun q3 =>
 if q3.1 = 0 then
 some ((0 : Int32), q3.2)
 else
 some ((1 : Int32), q3.2)
set_option maxHeartbeats 4000000 in
set_option maxRecDepth 100000 in
theorem c_X10_agree (l : Launch) (E : En) {F : Nat} {μ : Mm} (h0 : l10 E 0) {z : Int32 × Mm} (hf : f_X10_agree F μ = some z) : Met l yX10_agree (wt yX10_agree cX10_agree 1 (some .int)) { frames := 2, cells := 0, slots := 0, locals := 50 } (Pm E [.ref (ad E 1000 0)] μ) (Qm E (some (.int z.1)) z.2) 0 0 (Ad E) := by
  unfold f_X10_agree at hf
  refine met_of (cc := cX10_agree) (nL := 1) (ret := (some .int)) (by decide) _ (Nat.le_of_ble_eq_true rfl) ?_
  intro p e s m below meth c C hr hlk hI ls hl
  have hx := C.1.1
  have hb := C.1.2.1
  have hl : lv_has ls 1 [(0, .ref (ad E 1000 0))] := hl
  refine lv_aload_n hx hb dX10_agree_0 rfl (lv_at hl 0 rfl) ?_
  obtain ⟨q3, e4, hf⟩ := ob hf
  refine mcV (As := []) (rest := []) C hI (c_X10_joins l E h0 e4) ml_X10_299 kv_X10_joins (m_recv C hI h0.1 (ce_1000 E _ _ _) rfl) rfl rfl ⟨Nat.le_of_ble_eq_true rfl, Nat.le_of_ble_eq_true rfl⟩ ⟨Nat.zero_le _, Nat.zero_le _⟩ rfl rfl hl.1 (Nat.le_of_ble_eq_true rfl) dX10_agree_1 (st1 := [.int q3.1]) rfl (fun H locs hI => ?_)
  refine lv_if_eq (tgt := 11) hx hb dX10_agree_4 rfl (fun hc => ?_) (fun hc => ?_)
  · replace hf := it hf hc
    refine lv_iconst (v := (0 : Int32)) hx hb dX10_agree_11 kc_0 ?_
    obtain rfl := Option.some.inj hf
    exact m_iret C hr hlk hI dX10_agree_12
  · replace hf := ie hf hc
    refine lv_iconst (v := (1 : Int32)) hx hb dX10_agree_7 kc_1 ?_
    refine lv_goto (tgt := 12) hx hb dX10_agree_8 rfl ?_
    obtain rfl := Option.some.inj hf
    exact m_iret C hr hlk hI dX10_agree_12

theorem dX10_gapOf_0 : decode cX10_gapOf 0 = .ok (.aload_n 0, 1) := by decide +kernel
theorem dX10_gapOf_1 : decode cX10_gapOf 1 = .ok (.invokevirtual 299, 3) := by decide +kernel
theorem dX10_gapOf_4 : decode cX10_gapOf 4 = .ok (.istore 4, 2) := by decide +kernel
theorem dX10_gapOf_6 : decode cX10_gapOf 6 = .ok (.iload_n 3, 1) := by decide +kernel
theorem dX10_gapOf_7 : decode cX10_gapOf 7 = .ok (.iconst 1, 1) := by decide +kernel
theorem dX10_gapOf_8 : decode cX10_gapOf 8 = .ok (.if_icmp .ne 16, 3) := by decide +kernel
theorem dX10_gapOf_11 : decode cX10_gapOf 11 = .ok (.aload_n 0, 1) := by decide +kernel
theorem dX10_gapOf_12 : decode cX10_gapOf 12 = .ok (.getfield 112, 3) := by decide +kernel
theorem dX10_gapOf_15 : decode cX10_gapOf 15 = .ok (.iconst 3, 1) := by decide +kernel
theorem dX10_gapOf_16 : decode cX10_gapOf 16 = .ok (.iload_n 1, 1) := by decide +kernel
theorem dX10_gapOf_17 : decode cX10_gapOf 17 = .ok (.imul, 1) := by decide +kernel
theorem dX10_gapOf_18 : decode cX10_gapOf 18 = .ok (.iload_n 2, 1) := by decide +kernel
theorem dX10_gapOf_19 : decode cX10_gapOf 19 = .ok (.iadd, 1) := by decide +kernel
theorem dX10_gapOf_20 : decode cX10_gapOf 20 = .ok (.laload, 1) := by decide +kernel
theorem dX10_gapOf_21 : decode cX10_gapOf 21 = .ok (.goto 13, 3) := by decide +kernel
theorem dX10_gapOf_24 : decode cX10_gapOf 24 = .ok (.aload_n 0, 1) := by decide +kernel
theorem dX10_gapOf_25 : decode cX10_gapOf 25 = .ok (.getfield 112, 3) := by decide +kernel
theorem dX10_gapOf_28 : decode cX10_gapOf 28 = .ok (.iconst 3, 1) := by decide +kernel
theorem dX10_gapOf_29 : decode cX10_gapOf 29 = .ok (.iload_n 2, 1) := by decide +kernel
theorem dX10_gapOf_30 : decode cX10_gapOf 30 = .ok (.imul, 1) := by decide +kernel
theorem dX10_gapOf_31 : decode cX10_gapOf 31 = .ok (.iload_n 1, 1) := by decide +kernel
theorem dX10_gapOf_32 : decode cX10_gapOf 32 = .ok (.iadd, 1) := by decide +kernel
theorem dX10_gapOf_33 : decode cX10_gapOf 33 = .ok (.laload, 1) := by decide +kernel
theorem dX10_gapOf_34 : decode cX10_gapOf 34 = .ok (.lstore 5, 2) := by decide +kernel
theorem dX10_gapOf_36 : decode cX10_gapOf 36 = .ok (.aload_n 0, 1) := by decide +kernel
theorem dX10_gapOf_37 : decode cX10_gapOf 37 = .ok (.iload 4, 2) := by decide +kernel
theorem dX10_gapOf_39 : decode cX10_gapOf 39 = .ok (.ifCond .eq 12, 3) := by decide +kernel
theorem dX10_gapOf_42 : decode cX10_gapOf 42 = .ok (.lload 5, 2) := by decide +kernel
theorem dX10_gapOf_44 : decode cX10_gapOf 44 = .ok (.ldc2_w 294, 3) := by decide +kernel
theorem dX10_gapOf_47 : decode cX10_gapOf 47 = .ok (.lcmp, 1) := by decide +kernel
theorem dX10_gapOf_48 : decode cX10_gapOf 48 = .ok (.ifCond .lt 7, 3) := by decide +kernel
theorem dX10_gapOf_51 : decode cX10_gapOf 51 = .ok (.iconst 2, 1) := by decide +kernel
theorem dX10_gapOf_52 : decode cX10_gapOf 52 = .ok (.goto 4, 3) := by decide +kernel
theorem dX10_gapOf_55 : decode cX10_gapOf 55 = .ok (.iconst 0, 1) := by decide +kernel
theorem dX10_gapOf_56 : decode cX10_gapOf 56 = .ok (.putfield 133, 3) := by decide +kernel
theorem dX10_gapOf_59 : decode cX10_gapOf 59 = .ok (.aload_n 0, 1) := by decide +kernel
theorem dX10_gapOf_60 : decode cX10_gapOf 60 = .ok (.getfield 133, 3) := by decide +kernel
theorem dX10_gapOf_63 : decode cX10_gapOf 63 = .ok (.ifCond .eq 7, 3) := by decide +kernel
theorem dX10_gapOf_66 : decode cX10_gapOf 66 = .ok (.iconst 0, 1) := by decide +kernel
theorem dX10_gapOf_67 : decode cX10_gapOf 67 = .ok (.goto 17, 3) := by decide +kernel
theorem dX10_gapOf_70 : decode cX10_gapOf 70 = .ok (.iload_n 3, 1) := by decide +kernel
theorem dX10_gapOf_71 : decode cX10_gapOf 71 = .ok (.iconst 1, 1) := by decide +kernel
theorem dX10_gapOf_72 : decode cX10_gapOf 72 = .ok (.if_icmp .ne 8, 3) := by decide +kernel
theorem dX10_gapOf_75 : decode cX10_gapOf 75 = .ok (.lload 5, 2) := by decide +kernel
theorem dX10_gapOf_77 : decode cX10_gapOf 77 = .ok (.goto 6, 3) := by decide +kernel
theorem dX10_gapOf_80 : decode cX10_gapOf 80 = .ok (.lload 5, 2) := by decide +kernel
theorem dX10_gapOf_82 : decode cX10_gapOf 82 = .ok (.lneg, 1) := by decide +kernel
theorem dX10_gapOf_83 : decode cX10_gapOf 83 = .ok (.l2i, 1) := by decide +kernel
theorem dX10_gapOf_84 : decode cX10_gapOf 84 = .ok (.ireturn, 1) := by decide +kernel
def f_X10_gapOf_b56 (F : Nat) (μ : Mm) (a3 : Int32) (a5 : Int64) (s0 : Int32) : Option (Int32 × Mm) :=
 (wf μ 1000 0 0 s0).bind fun m9 =>
 if (m9.1 1000 0 0) = 0 then
 if a3 = (1 : Int32) then
 some (a5.toInt32, m9)
 else
 some ((-a5).toInt32, m9)
 else
 some ((0 : Int32), m9)
set_option maxHeartbeats 4000000 in
set_option maxRecDepth 100000 in
theorem cb_X10_gapOf_56 {l : Launch} {E : En} {p : Program} {e : Env} {s : State} {m : MethodId} {av : Array Value} {below : List Frame} {meth : Method} {c : Code} (C : Cx E p s m av c cX10_gapOf 7 yX10_gapOf.cls) (hr : meth.sig.returnType = (some .int)) (hlk : meth.locks = false) {F : Nat} {z : Int32 × Mm} : ∀ (μ : Mm) (a3 : Int32) (a5 : Int64) (s0 : Int32) (h_a0 : l10 E 0) (h_s1 : l10 E 0), f_X10_gapOf_b56 F μ a3 a5 s0 = some z → ∀ {H : Heap} {locs : List Loc} {ls : Array Slot}, Iv E s μ H locs → lv_has ls 7 [(0, .ref (ad E 1000 0)), (3, .int a3), (5, .long a5)] → W p l e { frames := 2, cells := 0, slots := 0, locals := 50 } s m av below meth c H locs 0 0 (MQ below (Qm E (some (.int z.1)) z.2) av s 0 0 (Ad E)) (F0 m 56 ls [.int s0, .ref (ad E 1000 0)]) := by
  have hx := C.1.1
  have hb := C.1.2.1
  intro μ a3 a5 s0 h_a0 h_s1 hf H locs ls hI hl
  unfold f_X10_gapOf_b56 at hf
  obtain ⟨m9, e10, hf⟩ := ob hf
  refine pf_10_0 C hI h_s1.1 fl_X10_133 e10 dX10_gapOf_56 (fun H locs hI => ?_)
  refine lv_aload_n hx hb dX10_gapOf_59 rfl (lv_at hl 0 rfl) ?_
  refine gf_10_0 C hI h_a0.1 fl_X10_133 dX10_gapOf_60 ?_
  refine lv_if_eq (tgt := 70) hx hb dX10_gapOf_63 rfl (fun hc => ?_) (fun hc => ?_)
  · replace hf := it hf hc
    refine lv_iload_n hx hb dX10_gapOf_70 rfl (lv_at hl 1 rfl) ?_
    refine lv_iconst (v := (1 : Int32)) hx hb dX10_gapOf_71 kc_1 ?_
    refine lv_icmp_ne (tgt := 80) hx hb dX10_gapOf_72 rfl (fun hc => ?_) (fun hc => ?_)
    · replace hf := ie hf hc
      refine lv_lload hx hb dX10_gapOf_80 (lv_at hl 2 rfl) ?_
      refine lv_lneg hx hb dX10_gapOf_82 ?_
      refine lv_l2i (v := (-a5).toInt32) hx hb dX10_gapOf_83 rfl ?_
      obtain rfl := Option.some.inj hf
      exact m_iret C hr hlk hI dX10_gapOf_84
    · replace hf := it hf hc
      refine lv_lload hx hb dX10_gapOf_75 (lv_at hl 2 rfl) ?_
      refine lv_goto (tgt := 83) hx hb dX10_gapOf_77 rfl ?_
      refine lv_l2i (v := a5.toInt32) hx hb dX10_gapOf_83 rfl ?_
      obtain rfl := Option.some.inj hf
      exact m_iret C hr hlk hI dX10_gapOf_84
  · replace hf := ie hf hc
    refine lv_iconst (v := (0 : Int32)) hx hb dX10_gapOf_66 kc_0 ?_
    refine lv_goto (tgt := 84) hx hb dX10_gapOf_67 rfl ?_
    obtain rfl := Option.some.inj hf
    exact m_iret C hr hlk hI dX10_gapOf_84
def f_X10_gapOf_b34 (F : Nat) (μ : Mm) (a3 : Int32) (a4 : Int32) (s0 : Int64) : Option (Int32 × Mm) :=
 if a4 = 0 then
 f_X10_gapOf_b56 F μ a3 s0 (2 : Int32)
 else
 if (lg_cmp s0 (1125899906842624 : Int64)) < 0 then
 f_X10_gapOf_b56 F μ a3 s0 (0 : Int32)
 else
 f_X10_gapOf_b56 F μ a3 s0 (2 : Int32)
set_option maxHeartbeats 4000000 in
set_option maxRecDepth 100000 in
theorem cb_X10_gapOf_34 {l : Launch} {E : En} {p : Program} {e : Env} {s : State} {m : MethodId} {av : Array Value} {below : List Frame} {meth : Method} {c : Code} (C : Cx E p s m av c cX10_gapOf 7 yX10_gapOf.cls) (hr : meth.sig.returnType = (some .int)) (hlk : meth.locks = false) {F : Nat} {z : Int32 × Mm} : ∀ (μ : Mm) (a3 : Int32) (a4 : Int32) (s0 : Int64) (h_a0 : l10 E 0), f_X10_gapOf_b34 F μ a3 a4 s0 = some z → ∀ {H : Heap} {locs : List Loc} {ls : Array Slot}, Iv E s μ H locs → lv_has ls 7 [(0, .ref (ad E 1000 0)), (3, .int a3), (4, .int a4)] → W p l e { frames := 2, cells := 0, slots := 0, locals := 50 } s m av below meth c H locs 0 0 (MQ below (Qm E (some (.int z.1)) z.2) av s 0 0 (Ad E)) (F0 m 34 ls [.long s0]) := by
  have hx := C.1.1
  have hb := C.1.2.1
  intro μ a3 a4 s0 h_a0 hf H locs ls hI hl
  unfold f_X10_gapOf_b34 at hf
  refine lv_lstore hx hb dX10_gapOf_34 hl (by decide) rfl (fun ls hl => ?_)
  have hl : lv_has ls 7 [(5, .long s0), (0, .ref (ad E 1000 0)), (3, .int a3), (4, .int a4)] := hl
  refine lv_aload_n hx hb dX10_gapOf_36 rfl (lv_at hl 1 rfl) ?_
  refine lv_iload hx hb dX10_gapOf_37 (lv_at hl 3 rfl) ?_
  refine lv_if_eq (tgt := 51) hx hb dX10_gapOf_39 rfl (fun hc => ?_) (fun hc => ?_)
  · replace hf := it hf hc
    refine lv_iconst (v := (2 : Int32)) hx hb dX10_gapOf_51 kc_2 ?_
    refine lv_goto (tgt := 56) hx hb dX10_gapOf_52 rfl ?_
    exact cb_X10_gapOf_56 C hr hlk  _ _ _ _ h_a0 h_a0 hf hI (lv_sub hl [1, 2, 0] rfl)
  · replace hf := ie hf hc
    refine lv_lload hx hb dX10_gapOf_42 (lv_at hl 0 rfl) ?_
    refine lv_ldc2 (v := (1125899906842624 : Int64)) hx hb C.1.2.2.2.1 (m_in C kl_X10_294) dX10_gapOf_44 ?_
    refine W.lcmp hx hb dX10_gapOf_47 ?_
    refine lv_if_lt (tgt := 55) hx hb dX10_gapOf_48 rfl (fun hc => ?_) (fun hc => ?_)
    · replace hf := it hf hc
      refine lv_iconst (v := (0 : Int32)) hx hb dX10_gapOf_55 kc_0 ?_
      exact cb_X10_gapOf_56 C hr hlk  _ _ _ _ h_a0 h_a0 hf hI (lv_sub hl [1, 2, 0] rfl)
    · replace hf := ie hf hc
      refine lv_iconst (v := (2 : Int32)) hx hb dX10_gapOf_51 kc_2 ?_
      refine lv_goto (tgt := 56) hx hb dX10_gapOf_52 rfl ?_
      exact cb_X10_gapOf_56 C hr hlk  _ _ _ _ h_a0 h_a0 hf hI (lv_sub hl [1, 2, 0] rfl)
def f_X10_gapOf (F : Nat) (μ : Mm) (p1 : Int32) (p2 : Int32) (p3 : Int32) : Option (Int32 × Mm) :=
 (f_X10_joins F μ).bind fun q11 =>
 if p3 = (1 : Int32) then
 (rl q11.2 1046 0 9 (((3 : Int32) * p1) + p2)).bind fun v15 =>
 f_X10_gapOf_b34 F q11.2 p3 q11.1 v15
 else
 (rl q11.2 1046 0 9 (((3 : Int32) * p2) + p1)).bind fun v13 =>
 f_X10_gapOf_b34 F q11.2 p3 q11.1 v13
set_option maxHeartbeats 4000000 in
set_option maxRecDepth 100000 in
theorem c_X10_gapOf (l : Launch) (E : En) {F : Nat} {μ : Mm} {p1 : Int32} {p2 : Int32} {p3 : Int32} (h0 : l10 E 0) {z : Int32 × Mm} (hf : f_X10_gapOf F μ p1 p2 p3 = some z) : Met l yX10_gapOf (wt yX10_gapOf cX10_gapOf 7 (some .int)) { frames := 2, cells := 0, slots := 0, locals := 50 } (Pm E [.ref (ad E 1000 0), .int p1, .int p2, .int p3] μ) (Qm E (some (.int z.1)) z.2) 0 0 (Ad E) := by
  unfold f_X10_gapOf at hf
  refine met_of (cc := cX10_gapOf) (nL := 7) (ret := (some .int)) (by decide) _ (Nat.le_of_ble_eq_true rfl) ?_
  intro p e s m below meth c C hr hlk hI ls hl
  have hx := C.1.1
  have hb := C.1.2.1
  have hl : lv_has ls 7 [(0, .ref (ad E 1000 0)), (1, .int p1), (2, .int p2), (3, .int p3)] := hl
  refine lv_aload_n hx hb dX10_gapOf_0 rfl (lv_at hl 0 rfl) ?_
  obtain ⟨q11, e12, hf⟩ := ob hf
  refine mcV (As := []) (rest := []) C hI (c_X10_joins l E h0 e12) ml_X10_299 kv_X10_joins (m_recv C hI h0.1 (ce_1000 E _ _ _) rfl) rfl rfl ⟨Nat.le_of_ble_eq_true rfl, Nat.le_of_ble_eq_true rfl⟩ ⟨Nat.zero_le _, Nat.zero_le _⟩ rfl rfl hl.1 (Nat.le_of_ble_eq_true rfl) dX10_gapOf_1 (st1 := [.int q11.1]) rfl (fun H locs hI => ?_)
  refine lv_istore hx hb dX10_gapOf_4 hl (by decide) rfl (fun ls hl => ?_)
  have hl : lv_has ls 7 [(4, .int q11.1), (0, .ref (ad E 1000 0)), (1, .int p1), (2, .int p2), (3, .int p3)] := hl
  refine lv_iload_n hx hb dX10_gapOf_6 rfl (lv_at hl 4 rfl) ?_
  refine lv_iconst (v := (1 : Int32)) hx hb dX10_gapOf_7 kc_1 ?_
  refine lv_icmp_ne (tgt := 24) hx hb dX10_gapOf_8 rfl (fun hc => ?_) (fun hc => ?_)
  · replace hf := ie hf hc
    refine lv_aload_n hx hb dX10_gapOf_24 rfl (lv_at hl 1 rfl) ?_
    refine gf_10_45 C hI h0.1 fl_X10_112 dX10_gapOf_25 ?_
    refine lv_iconst (v := (3 : Int32)) hx hb dX10_gapOf_28 kc_3 ?_
    refine lv_iload_n hx hb dX10_gapOf_29 rfl (lv_at hl 3 rfl) ?_
    refine lv_imul hx hb dX10_gapOf_30 ?_
    refine lv_iload_n hx hb dX10_gapOf_31 rfl (lv_at hl 2 rfl) ?_
    refine lv_iadd hx hb dX10_gapOf_32 ?_
    obtain ⟨v13, e14, hf⟩ := ob hf
    refine m_lald C hI h0.2.2.2.2.2.2.2.2.2.2.2.2.2.2.2.2.2.2.2.2.2.2.2.2.2.2.2.2.2.2.2.1 (ce_1046 E _ _ _) e14 dX10_gapOf_33 ?_
    exact cb_X10_gapOf_34 C hr hlk  _ _ _ _ h0 hf hI (lv_sub hl [1, 4, 0] rfl)
  · replace hf := it hf hc
    refine lv_aload_n hx hb dX10_gapOf_11 rfl (lv_at hl 1 rfl) ?_
    refine gf_10_45 C hI h0.1 fl_X10_112 dX10_gapOf_12 ?_
    refine lv_iconst (v := (3 : Int32)) hx hb dX10_gapOf_15 kc_3 ?_
    refine lv_iload_n hx hb dX10_gapOf_16 rfl (lv_at hl 2 rfl) ?_
    refine lv_imul hx hb dX10_gapOf_17 ?_
    refine lv_iload_n hx hb dX10_gapOf_18 rfl (lv_at hl 3 rfl) ?_
    refine lv_iadd hx hb dX10_gapOf_19 ?_
    obtain ⟨v15, e16, hf⟩ := ob hf
    refine m_lald C hI h0.2.2.2.2.2.2.2.2.2.2.2.2.2.2.2.2.2.2.2.2.2.2.2.2.2.2.2.2.2.2.2.1 (ce_1046 E _ _ _) e16 dX10_gapOf_20 ?_
    refine lv_goto (tgt := 34) hx hb dX10_gapOf_21 rfl ?_
    exact cb_X10_gapOf_34 C hr hlk  _ _ _ _ h0 hf hI (lv_sub hl [1, 4, 0] rfl)

theorem dX10_gap_0 : decode cX10_gap 0 = .ok (.aload_n 0, 1) := by decide +kernel
theorem dX10_gap_1 : decode cX10_gap 1 = .ok (.iload_n 1, 1) := by decide +kernel
theorem dX10_gap_2 : decode cX10_gap 2 = .ok (.invokevirtual 153, 3) := by decide +kernel
theorem dX10_gap_5 : decode cX10_gap 5 = .ok (.ifCond .eq 20, 3) := by decide +kernel
theorem dX10_gap_8 : decode cX10_gap 8 = .ok (.aload_n 0, 1) := by decide +kernel
theorem dX10_gap_9 : decode cX10_gap 9 = .ok (.iload_n 2, 1) := by decide +kernel
theorem dX10_gap_10 : decode cX10_gap 10 = .ok (.invokevirtual 153, 3) := by decide +kernel
theorem dX10_gap_13 : decode cX10_gap 13 = .ok (.ifCond .eq 12, 3) := by decide +kernel
theorem dX10_gap_16 : decode cX10_gap 16 = .ok (.iload_n 3, 1) := by decide +kernel
theorem dX10_gap_17 : decode cX10_gap 17 = .ok (.iconst 0, 1) := by decide +kernel
theorem dX10_gap_18 : decode cX10_gap 18 = .ok (.iconst 1, 1) := by decide +kernel
theorem dX10_gap_19 : decode cX10_gap 19 = .ok (.invokestatic 136, 3) := by decide +kernel
theorem dX10_gap_22 : decode cX10_gap 22 = .ok (.ifCond .ne 10, 3) := by decide +kernel
theorem dX10_gap_25 : decode cX10_gap 25 = .ok (.aload_n 0, 1) := by decide +kernel
theorem dX10_gap_26 : decode cX10_gap 26 = .ok (.iconst 1, 1) := by decide +kernel
theorem dX10_gap_27 : decode cX10_gap 27 = .ok (.putfield 133, 3) := by decide +kernel
theorem dX10_gap_30 : decode cX10_gap 30 = .ok (.iconst 0, 1) := by decide +kernel
theorem dX10_gap_31 : decode cX10_gap 31 = .ok (.ireturn, 1) := by decide +kernel
theorem dX10_gap_32 : decode cX10_gap 32 = .ok (.aload_n 0, 1) := by decide +kernel
theorem dX10_gap_33 : decode cX10_gap 33 = .ok (.iload_n 1, 1) := by decide +kernel
theorem dX10_gap_34 : decode cX10_gap 34 = .ok (.iload_n 2, 1) := by decide +kernel
theorem dX10_gap_35 : decode cX10_gap 35 = .ok (.iload_n 3, 1) := by decide +kernel
theorem dX10_gap_36 : decode cX10_gap 36 = .ok (.invokevirtual 303, 3) := by decide +kernel
theorem dX10_gap_39 : decode cX10_gap 39 = .ok (.ireturn, 1) := by decide +kernel
def f_X10_gap_b25 (F : Nat) (μ : Mm) : Option (Int32 × Mm) :=
 (wf μ 1000 0 0 (1 : Int32)).bind fun m11 =>
 some ((0 : Int32), m11)
set_option maxHeartbeats 4000000 in
set_option maxRecDepth 100000 in
theorem cb_X10_gap_25 {l : Launch} {E : En} {p : Program} {e : Env} {s : State} {m : MethodId} {av : Array Value} {below : List Frame} {meth : Method} {c : Code} (C : Cx E p s m av c cX10_gap 4 yX10_gap.cls) (hr : meth.sig.returnType = (some .int)) (hlk : meth.locks = false) {F : Nat} {z : Int32 × Mm} : ∀ (μ : Mm) (h_a0 : l10 E 0), f_X10_gap_b25 F μ  = some z → ∀ {H : Heap} {locs : List Loc} {ls : Array Slot}, Iv E s μ H locs → lv_has ls 4 [(0, .ref (ad E 1000 0))] → W p l e { frames := 3, cells := 0, slots := 0, locals := 76 } s m av below meth c H locs 0 0 (MQ below (Qm E (some (.int z.1)) z.2) av s 0 0 (Ad E)) (F0 m 25 ls []) := by
  have hx := C.1.1
  have hb := C.1.2.1
  intro μ h_a0 hf H locs ls hI hl
  unfold f_X10_gap_b25 at hf
  refine lv_aload_n hx hb dX10_gap_25 rfl (lv_at hl 0 rfl) ?_
  refine lv_iconst (v := (1 : Int32)) hx hb dX10_gap_26 kc_1 ?_
  obtain ⟨m11, e12, hf⟩ := ob hf
  refine pf_10_0 C hI h_a0.1 fl_X10_133 e12 dX10_gap_27 (fun H locs hI => ?_)
  refine lv_iconst (v := (0 : Int32)) hx hb dX10_gap_30 kc_0 ?_
  obtain rfl := Option.some.inj hf
  exact m_iret C hr hlk hI dX10_gap_31
def f_X10_gap (F : Nat) (μ : Mm) (p1 : Int32) (p2 : Int32) (p3 : Int32) : Option (Int32 × Mm) :=
 (f_X10_isProcessor μ p1).bind fun q13 =>
 if q13 = 0 then
 f_X10_gap_b25 F μ 
 else
 (f_X10_isProcessor μ p2).bind fun q15 =>
 if q15 = 0 then
 f_X10_gap_b25 F μ 
 else
 (f_X10_in μ p3 (0 : Int32) (1 : Int32)).bind fun q17 =>
 if q17 = 0 then
 f_X10_gap_b25 F μ 
 else
 (f_X10_gapOf F μ p1 p2 p3).bind fun q19 =>
 some (q19.1, q19.2)
set_option maxHeartbeats 4000000 in
set_option maxRecDepth 100000 in
theorem c_X10_gap (l : Launch) (E : En) {F : Nat} {μ : Mm} {p1 : Int32} {p2 : Int32} {p3 : Int32} (h0 : l10 E 0) {z : Int32 × Mm} (hf : f_X10_gap F μ p1 p2 p3 = some z) : Met l yX10_gap (wt yX10_gap cX10_gap 4 (some .int)) { frames := 3, cells := 0, slots := 0, locals := 76 } (Pm E [.ref (ad E 1000 0), .int p1, .int p2, .int p3] μ) (Qm E (some (.int z.1)) z.2) 0 0 (Ad E) := by
  unfold f_X10_gap at hf
  refine met_of (cc := cX10_gap) (nL := 4) (ret := (some .int)) (by decide) _ (Nat.le_of_ble_eq_true rfl) ?_
  intro p e s m below meth c C hr hlk hI ls hl
  have hx := C.1.1
  have hb := C.1.2.1
  have hl : lv_has ls 4 [(0, .ref (ad E 1000 0)), (1, .int p1), (2, .int p2), (3, .int p3)] := hl
  refine lv_aload_n hx hb dX10_gap_0 rfl (lv_at hl 0 rfl) ?_
  refine lv_iload_n hx hb dX10_gap_1 rfl (lv_at hl 1 rfl) ?_
  obtain ⟨q13, e14, hf⟩ := ob hf
  refine mcV (As := [.int p1]) (rest := []) C hI (c_X10_isProcessor l E h0 e14) ml_X10_153 kv_X10_isProcessor (m_recv C hI h0.1 (ce_1000 E _ _ _) rfl) rfl rfl ⟨Nat.le_of_ble_eq_true rfl, Nat.le_of_ble_eq_true rfl⟩ ⟨Nat.zero_le _, Nat.zero_le _⟩ rfl rfl hl.1 (Nat.le_of_ble_eq_true rfl) dX10_gap_2 (st1 := [.int q13]) rfl (fun H locs hI => ?_)
  refine lv_if_eq (tgt := 25) hx hb dX10_gap_5 rfl (fun hc => ?_) (fun hc => ?_)
  · replace hf := it hf hc
    exact cb_X10_gap_25 C hr hlk  _  h0 hf hI (lv_sub hl [0] rfl)
  · replace hf := ie hf hc
    refine lv_aload_n hx hb dX10_gap_8 rfl (lv_at hl 0 rfl) ?_
    refine lv_iload_n hx hb dX10_gap_9 rfl (lv_at hl 2 rfl) ?_
    obtain ⟨q15, e16, hf⟩ := ob hf
    refine mcV (As := [.int p2]) (rest := []) C hI (c_X10_isProcessor l E h0 e16) ml_X10_153 kv_X10_isProcessor (m_recv C hI h0.1 (ce_1000 E _ _ _) rfl) rfl rfl ⟨Nat.le_of_ble_eq_true rfl, Nat.le_of_ble_eq_true rfl⟩ ⟨Nat.zero_le _, Nat.zero_le _⟩ rfl rfl hl.1 (Nat.le_of_ble_eq_true rfl) dX10_gap_10 (st1 := [.int q15]) rfl (fun H locs hI => ?_)
    refine lv_if_eq (tgt := 25) hx hb dX10_gap_13 rfl (fun hc => ?_) (fun hc => ?_)
    · replace hf := it hf hc
      exact cb_X10_gap_25 C hr hlk  _  h0 hf hI (lv_sub hl [0] rfl)
    · replace hf := ie hf hc
      refine lv_iload_n hx hb dX10_gap_16 rfl (lv_at hl 3 rfl) ?_
      refine lv_iconst (v := (0 : Int32)) hx hb dX10_gap_17 kc_0 ?_
      refine lv_iconst (v := (1 : Int32)) hx hb dX10_gap_18 kc_1 ?_
      obtain ⟨q17, e18, hf⟩ := ob hf
      refine mcS (As := [.int p3, .int (0 : Int32), .int (1 : Int32)]) (rest := []) C hI (c_X10_in l E  e18) ml_X10_136 ks_X10_in rfl rfl ⟨Nat.le_of_ble_eq_true rfl, Nat.le_of_ble_eq_true rfl⟩ ⟨Nat.zero_le _, Nat.zero_le _⟩ rfl rfl hl.1 (Nat.le_of_ble_eq_true rfl) dX10_gap_19 (st1 := [.int q17]) rfl (fun H locs hI => ?_)
      refine lv_if_ne (tgt := 32) hx hb dX10_gap_22 rfl (fun hc => ?_) (fun hc => ?_)
      · replace hf := ie hf hc
        refine lv_aload_n hx hb dX10_gap_32 rfl (lv_at hl 0 rfl) ?_
        refine lv_iload_n hx hb dX10_gap_33 rfl (lv_at hl 1 rfl) ?_
        refine lv_iload_n hx hb dX10_gap_34 rfl (lv_at hl 2 rfl) ?_
        refine lv_iload_n hx hb dX10_gap_35 rfl (lv_at hl 3 rfl) ?_
        obtain ⟨q19, e20, hf⟩ := ob hf
        refine mcV (As := [.int p1, .int p2, .int p3]) (rest := []) C hI (c_X10_gapOf l E h0 e20) ml_X10_303 kv_X10_gapOf (m_recv C hI h0.1 (ce_1000 E _ _ _) rfl) rfl rfl ⟨Nat.le_of_ble_eq_true rfl, Nat.le_of_ble_eq_true rfl⟩ ⟨Nat.zero_le _, Nat.zero_le _⟩ rfl rfl hl.1 (Nat.le_of_ble_eq_true rfl) dX10_gap_36 (st1 := [.int q19.1]) rfl (fun H locs hI => ?_)
        obtain rfl := Option.some.inj hf
        exact m_iret C hr hlk hI dX10_gap_39
      · replace hf := it hf hc
        exact cb_X10_gap_25 C hr hlk  _  h0 hf hI (lv_sub hl [0] rfl)

theorem dX10_answer_0 : decode cX10_answer 0 = .ok (.iload_n 1, 1) := by decide +kernel
theorem dX10_answer_1 : decode cX10_answer 1 = .ok (.iconst 0, 1) := by decide +kernel
theorem dX10_answer_2 : decode cX10_answer 2 = .ok (.bipush 63, 2) := by decide +kernel
theorem dX10_answer_4 : decode cX10_answer 4 = .ok (.invokestatic 136, 3) := by decide +kernel
theorem dX10_answer_7 : decode cX10_answer 7 = .ok (.ifCond .eq 12, 3) := by decide +kernel
theorem dX10_answer_10 : decode cX10_answer 10 = .ok (.iload_n 2, 1) := by decide +kernel
theorem dX10_answer_11 : decode cX10_answer 11 = .ok (.iconst 0, 1) := by decide +kernel
theorem dX10_answer_12 : decode cX10_answer 12 = .ok (.iconst 1, 1) := by decide +kernel
theorem dX10_answer_13 : decode cX10_answer 13 = .ok (.invokestatic 136, 3) := by decide +kernel
theorem dX10_answer_16 : decode cX10_answer 16 = .ok (.ifCond .ne 10, 3) := by decide +kernel
theorem dX10_answer_19 : decode cX10_answer 19 = .ok (.aload_n 0, 1) := by decide +kernel
theorem dX10_answer_20 : decode cX10_answer 20 = .ok (.iconst 1, 1) := by decide +kernel
theorem dX10_answer_21 : decode cX10_answer 21 = .ok (.putfield 133, 3) := by decide +kernel
theorem dX10_answer_24 : decode cX10_answer 24 = .ok (.iconst 0, 1) := by decide +kernel
theorem dX10_answer_25 : decode cX10_answer 25 = .ok (.ireturn, 1) := by decide +kernel
theorem dX10_answer_26 : decode cX10_answer 26 = .ok (.aload_n 0, 1) := by decide +kernel
theorem dX10_answer_27 : decode cX10_answer 27 = .ok (.iconst 2, 1) := by decide +kernel
theorem dX10_answer_28 : decode cX10_answer 28 = .ok (.putfield 133, 3) := by decide +kernel
theorem dX10_answer_31 : decode cX10_answer 31 = .ok (.aload_n 0, 1) := by decide +kernel
theorem dX10_answer_32 : decode cX10_answer 32 = .ok (.bipush 11, 2) := by decide +kernel
theorem dX10_answer_34 : decode cX10_answer 34 = .ok (.iload_n 1, 1) := by decide +kernel
theorem dX10_answer_35 : decode cX10_answer 35 = .ok (.invokevirtual 296, 3) := by decide +kernel
theorem dX10_answer_38 : decode cX10_answer 38 = .ok (.ifCond .ne 5, 3) := by decide +kernel
theorem dX10_answer_41 : decode cX10_answer 41 = .ok (.iconst 0, 1) := by decide +kernel
theorem dX10_answer_42 : decode cX10_answer 42 = .ok (.ireturn, 1) := by decide +kernel
theorem dX10_answer_43 : decode cX10_answer 43 = .ok (.aload_n 0, 1) := by decide +kernel
theorem dX10_answer_44 : decode cX10_answer 44 = .ok (.getfield 288, 3) := by decide +kernel
theorem dX10_answer_47 : decode cX10_answer 47 = .ok (.istore_n 3, 1) := by decide +kernel
theorem dX10_answer_48 : decode cX10_answer 48 = .ok (.aload_n 0, 1) := by decide +kernel
theorem dX10_answer_49 : decode cX10_answer 49 = .ok (.getfield 291, 3) := by decide +kernel
theorem dX10_answer_52 : decode cX10_answer 52 = .ok (.istore 4, 2) := by decide +kernel
theorem dX10_answer_54 : decode cX10_answer 54 = .ok (.aload_n 0, 1) := by decide +kernel
theorem dX10_answer_55 : decode cX10_answer 55 = .ok (.bipush 12, 2) := by decide +kernel
theorem dX10_answer_57 : decode cX10_answer 57 = .ok (.iload_n 1, 1) := by decide +kernel
theorem dX10_answer_58 : decode cX10_answer 58 = .ok (.invokevirtual 296, 3) := by decide +kernel
theorem dX10_answer_61 : decode cX10_answer 61 = .ok (.ifCond .ne 5, 3) := by decide +kernel
theorem dX10_answer_64 : decode cX10_answer 64 = .ok (.iconst 0, 1) := by decide +kernel
theorem dX10_answer_65 : decode cX10_answer 65 = .ok (.ireturn, 1) := by decide +kernel
theorem dX10_answer_66 : decode cX10_answer 66 = .ok (.aload_n 0, 1) := by decide +kernel
theorem dX10_answer_67 : decode cX10_answer 67 = .ok (.getfield 288, 3) := by decide +kernel
theorem dX10_answer_70 : decode cX10_answer 70 = .ok (.istore 5, 2) := by decide +kernel
theorem dX10_answer_72 : decode cX10_answer 72 = .ok (.aload_n 0, 1) := by decide +kernel
theorem dX10_answer_73 : decode cX10_answer 73 = .ok (.getfield 291, 3) := by decide +kernel
theorem dX10_answer_76 : decode cX10_answer 76 = .ok (.iload 4, 2) := by decide +kernel
theorem dX10_answer_78 : decode cX10_answer 78 = .ok (.isub, 1) := by decide +kernel
theorem dX10_answer_79 : decode cX10_answer 79 = .ok (.istore 6, 2) := by decide +kernel
theorem dX10_answer_81 : decode cX10_answer 81 = .ok (.aload_n 0, 1) := by decide +kernel
theorem dX10_answer_82 : decode cX10_answer 82 = .ok (.iconst 0, 1) := by decide +kernel
theorem dX10_answer_83 : decode cX10_answer 83 = .ok (.putfield 133, 3) := by decide +kernel
theorem dX10_answer_86 : decode cX10_answer 86 = .ok (.iload_n 3, 1) := by decide +kernel
theorem dX10_answer_87 : decode cX10_answer 87 = .ok (.iload 5, 2) := by decide +kernel
theorem dX10_answer_89 : decode cX10_answer 89 = .ok (.if_icmp .ne 6, 3) := by decide +kernel
theorem dX10_answer_92 : decode cX10_answer 92 = .ok (.iload 6, 2) := by decide +kernel
theorem dX10_answer_94 : decode cX10_answer 94 = .ok (.ireturn, 1) := by decide +kernel
theorem dX10_answer_95 : decode cX10_answer 95 = .ok (.aload_n 0, 1) := by decide +kernel
theorem dX10_answer_96 : decode cX10_answer 96 = .ok (.iload_n 3, 1) := by decide +kernel
theorem dX10_answer_97 : decode cX10_answer 97 = .ok (.iload 5, 2) := by decide +kernel
theorem dX10_answer_99 : decode cX10_answer 99 = .ok (.iload_n 2, 1) := by decide +kernel
theorem dX10_answer_100 : decode cX10_answer 100 = .ok (.invokevirtual 303, 3) := by decide +kernel
theorem dX10_answer_103 : decode cX10_answer 103 = .ok (.istore 7, 2) := by decide +kernel
theorem dX10_answer_105 : decode cX10_answer 105 = .ok (.aload_n 0, 1) := by decide +kernel
theorem dX10_answer_106 : decode cX10_answer 106 = .ok (.getfield 133, 3) := by decide +kernel
theorem dX10_answer_109 : decode cX10_answer 109 = .ok (.ifCond .eq 7, 3) := by decide +kernel
theorem dX10_answer_112 : decode cX10_answer 112 = .ok (.iconst 0, 1) := by decide +kernel
theorem dX10_answer_113 : decode cX10_answer 113 = .ok (.goto 8, 3) := by decide +kernel
theorem dX10_answer_116 : decode cX10_answer 116 = .ok (.iload 6, 2) := by decide +kernel
theorem dX10_answer_118 : decode cX10_answer 118 = .ok (.iload 7, 2) := by decide +kernel
theorem dX10_answer_120 : decode cX10_answer 120 = .ok (.iadd, 1) := by decide +kernel
theorem dX10_answer_121 : decode cX10_answer 121 = .ok (.ireturn, 1) := by decide +kernel
def f_X10_answer (F : Nat) (μ : Mm) (p1 : Int32) (p2 : Int32) : Option (Int32 × Mm) :=
 (f_X10_in μ p1 (0 : Int32) (63 : Int32)).bind fun q17 =>
 if q17 = 0 then
 (wf μ 1000 0 0 (1 : Int32)).bind fun m19 =>
 some ((0 : Int32), m19)
 else
 (f_X10_in μ p2 (0 : Int32) (1 : Int32)).bind fun q21 =>
 if q21 = 0 then
 (wf μ 1000 0 0 (1 : Int32)).bind fun m33 =>
 some ((0 : Int32), m33)
 else
 (wf μ 1000 0 0 (2 : Int32)).bind fun m23 =>
 (f_X10_seeksMark F m23 (11 : Int32) p1).bind fun q25 =>
 if q25.1 = 0 then
 some ((0 : Int32), q25.2)
 else
 (f_X10_seeksMark F q25.2 (12 : Int32) p1).bind fun q27 =>
 if q27.1 = 0 then
 some ((0 : Int32), q27.2)
 else
 (wf q27.2 1000 0 0 (0 : Int32)).bind fun m29 =>
 if (q25.2.1 1000 0 46) = (q27.2.1 1000 0 46) then
 some ((q27.2.1 1000 0 47) - (q25.2.1 1000 0 47), m29)
 else
 (f_X10_gapOf F m29 (q25.2.1 1000 0 46) (q27.2.1 1000 0 46) p2).bind fun q31 =>
 if (q31.2.1 1000 0 0) = 0 then
 some (((q27.2.1 1000 0 47) - (q25.2.1 1000 0 47)) + q31.1, q31.2)
 else
 some ((0 : Int32), q31.2)
set_option maxHeartbeats 4000000 in
set_option maxRecDepth 100000 in
theorem c_X10_answer (l : Launch) (E : En) {F : Nat} {μ : Mm} {p1 : Int32} {p2 : Int32} (h0 : l10 E 0) {z : Int32 × Mm} (hf : f_X10_answer F μ p1 p2 = some z) : Met l yX10_answer (wt yX10_answer cX10_answer 8 (some .int)) { frames := 3, cells := 0, slots := 0, locals := 76 } (Pm E [.ref (ad E 1000 0), .int p1, .int p2] μ) (Qm E (some (.int z.1)) z.2) 0 0 (Ad E) := by
  unfold f_X10_answer at hf
  refine met_of (cc := cX10_answer) (nL := 8) (ret := (some .int)) (by decide) _ (Nat.le_of_ble_eq_true rfl) ?_
  intro p e s m below meth c C hr hlk hI ls hl
  have hx := C.1.1
  have hb := C.1.2.1
  have hl : lv_has ls 8 [(0, .ref (ad E 1000 0)), (1, .int p1), (2, .int p2)] := hl
  refine lv_iload_n hx hb dX10_answer_0 rfl (lv_at hl 1 rfl) ?_
  refine lv_iconst (v := (0 : Int32)) hx hb dX10_answer_1 kc_0 ?_
  refine lv_bipush (v := (63 : Int32)) hx hb dX10_answer_2 kb_63 ?_
  obtain ⟨q17, e18, hf⟩ := ob hf
  refine mcS (As := [.int p1, .int (0 : Int32), .int (63 : Int32)]) (rest := []) C hI (c_X10_in l E  e18) ml_X10_136 ks_X10_in rfl rfl ⟨Nat.le_of_ble_eq_true rfl, Nat.le_of_ble_eq_true rfl⟩ ⟨Nat.zero_le _, Nat.zero_le _⟩ rfl rfl hl.1 (Nat.le_of_ble_eq_true rfl) dX10_answer_4 (st1 := [.int q17]) rfl (fun H locs hI => ?_)
  refine lv_if_eq (tgt := 19) hx hb dX10_answer_7 rfl (fun hc => ?_) (fun hc => ?_)
  · replace hf := it hf hc
    refine lv_aload_n hx hb dX10_answer_19 rfl (lv_at hl 0 rfl) ?_
    refine lv_iconst (v := (1 : Int32)) hx hb dX10_answer_20 kc_1 ?_
    obtain ⟨m19, e20, hf⟩ := ob hf
    refine pf_10_0 C hI h0.1 fl_X10_133 e20 dX10_answer_21 (fun H locs hI => ?_)
    refine lv_iconst (v := (0 : Int32)) hx hb dX10_answer_24 kc_0 ?_
    obtain rfl := Option.some.inj hf
    exact m_iret C hr hlk hI dX10_answer_25
  · replace hf := ie hf hc
    refine lv_iload_n hx hb dX10_answer_10 rfl (lv_at hl 2 rfl) ?_
    refine lv_iconst (v := (0 : Int32)) hx hb dX10_answer_11 kc_0 ?_
    refine lv_iconst (v := (1 : Int32)) hx hb dX10_answer_12 kc_1 ?_
    obtain ⟨q21, e22, hf⟩ := ob hf
    refine mcS (As := [.int p2, .int (0 : Int32), .int (1 : Int32)]) (rest := []) C hI (c_X10_in l E  e22) ml_X10_136 ks_X10_in rfl rfl ⟨Nat.le_of_ble_eq_true rfl, Nat.le_of_ble_eq_true rfl⟩ ⟨Nat.zero_le _, Nat.zero_le _⟩ rfl rfl hl.1 (Nat.le_of_ble_eq_true rfl) dX10_answer_13 (st1 := [.int q21]) rfl (fun H locs hI => ?_)
    refine lv_if_ne (tgt := 26) hx hb dX10_answer_16 rfl (fun hc => ?_) (fun hc => ?_)
    · replace hf := ie hf hc
      refine lv_aload_n hx hb dX10_answer_26 rfl (lv_at hl 0 rfl) ?_
      refine lv_iconst (v := (2 : Int32)) hx hb dX10_answer_27 kc_2 ?_
      obtain ⟨m23, e24, hf⟩ := ob hf
      refine pf_10_0 C hI h0.1 fl_X10_133 e24 dX10_answer_28 (fun H locs hI => ?_)
      refine lv_aload_n hx hb dX10_answer_31 rfl (lv_at hl 0 rfl) ?_
      refine lv_bipush (v := (11 : Int32)) hx hb dX10_answer_32 kb_11 ?_
      refine lv_iload_n hx hb dX10_answer_34 rfl (lv_at hl 1 rfl) ?_
      obtain ⟨q25, e26, hf⟩ := ob hf
      refine mcV (As := [.int (11 : Int32), .int p1]) (rest := []) C hI (c_X10_seeksMark l E h0 e26) ml_X10_296 kv_X10_seeksMark (m_recv C hI h0.1 (ce_1000 E _ _ _) rfl) rfl rfl ⟨Nat.le_of_ble_eq_true rfl, Nat.le_of_ble_eq_true rfl⟩ ⟨Nat.zero_le _, Nat.zero_le _⟩ rfl rfl hl.1 (Nat.le_of_ble_eq_true rfl) dX10_answer_35 (st1 := [.int q25.1]) rfl (fun H locs hI => ?_)
      refine lv_if_ne (tgt := 43) hx hb dX10_answer_38 rfl (fun hc => ?_) (fun hc => ?_)
      · replace hf := ie hf hc
        refine lv_aload_n hx hb dX10_answer_43 rfl (lv_at hl 0 rfl) ?_
        refine gf_10_46 C hI h0.1 fl_X10_288 dX10_answer_44 ?_
        refine lv_istore_n hx hb dX10_answer_47 rfl hl (by decide) rfl (fun ls hl => ?_)
        have hl : lv_has ls 8 [(3, .int (q25.2.1 1000 0 46)), (0, .ref (ad E 1000 0)), (1, .int p1), (2, .int p2)] := hl
        refine lv_aload_n hx hb dX10_answer_48 rfl (lv_at hl 1 rfl) ?_
        refine gf_10_47 C hI h0.1 fl_X10_291 dX10_answer_49 ?_
        refine lv_istore hx hb dX10_answer_52 hl (by decide) rfl (fun ls hl => ?_)
        have hl : lv_has ls 8 [(4, .int (q25.2.1 1000 0 47)), (3, .int (q25.2.1 1000 0 46)), (0, .ref (ad E 1000 0)), (1, .int p1), (2, .int p2)] := hl
        refine lv_aload_n hx hb dX10_answer_54 rfl (lv_at hl 2 rfl) ?_
        refine lv_bipush (v := (12 : Int32)) hx hb dX10_answer_55 kb_12 ?_
        refine lv_iload_n hx hb dX10_answer_57 rfl (lv_at hl 3 rfl) ?_
        obtain ⟨q27, e28, hf⟩ := ob hf
        refine mcV (As := [.int (12 : Int32), .int p1]) (rest := []) C hI (c_X10_seeksMark l E h0 e28) ml_X10_296 kv_X10_seeksMark (m_recv C hI h0.1 (ce_1000 E _ _ _) rfl) rfl rfl ⟨Nat.le_of_ble_eq_true rfl, Nat.le_of_ble_eq_true rfl⟩ ⟨Nat.zero_le _, Nat.zero_le _⟩ rfl rfl hl.1 (Nat.le_of_ble_eq_true rfl) dX10_answer_58 (st1 := [.int q27.1]) rfl (fun H locs hI => ?_)
        refine lv_if_ne (tgt := 66) hx hb dX10_answer_61 rfl (fun hc => ?_) (fun hc => ?_)
        · replace hf := ie hf hc
          refine lv_aload_n hx hb dX10_answer_66 rfl (lv_at hl 2 rfl) ?_
          refine gf_10_46 C hI h0.1 fl_X10_288 dX10_answer_67 ?_
          refine lv_istore hx hb dX10_answer_70 hl (by decide) rfl (fun ls hl => ?_)
          have hl : lv_has ls 8 [(5, .int (q27.2.1 1000 0 46)), (4, .int (q25.2.1 1000 0 47)), (3, .int (q25.2.1 1000 0 46)), (0, .ref (ad E 1000 0)), (1, .int p1), (2, .int p2)] := hl
          refine lv_aload_n hx hb dX10_answer_72 rfl (lv_at hl 3 rfl) ?_
          refine gf_10_47 C hI h0.1 fl_X10_291 dX10_answer_73 ?_
          refine lv_iload hx hb dX10_answer_76 (lv_at hl 1 rfl) ?_
          refine lv_isub hx hb dX10_answer_78 ?_
          refine lv_istore hx hb dX10_answer_79 hl (by decide) rfl (fun ls hl => ?_)
          have hl : lv_has ls 8 [(6, .int ((q27.2.1 1000 0 47) - (q25.2.1 1000 0 47))), (5, .int (q27.2.1 1000 0 46)), (4, .int (q25.2.1 1000 0 47)), (3, .int (q25.2.1 1000 0 46)), (0, .ref (ad E 1000 0)), (1, .int p1), (2, .int p2)] := hl
          refine lv_aload_n hx hb dX10_answer_81 rfl (lv_at hl 4 rfl) ?_
          refine lv_iconst (v := (0 : Int32)) hx hb dX10_answer_82 kc_0 ?_
          obtain ⟨m29, e30, hf⟩ := ob hf
          refine pf_10_0 C hI h0.1 fl_X10_133 e30 dX10_answer_83 (fun H locs hI => ?_)
          refine lv_iload_n hx hb dX10_answer_86 rfl (lv_at hl 3 rfl) ?_
          refine lv_iload hx hb dX10_answer_87 (lv_at hl 1 rfl) ?_
          refine lv_icmp_ne (tgt := 95) hx hb dX10_answer_89 rfl (fun hc => ?_) (fun hc => ?_)
          · replace hf := ie hf hc
            refine lv_aload_n hx hb dX10_answer_95 rfl (lv_at hl 4 rfl) ?_
            refine lv_iload_n hx hb dX10_answer_96 rfl (lv_at hl 3 rfl) ?_
            refine lv_iload hx hb dX10_answer_97 (lv_at hl 1 rfl) ?_
            refine lv_iload_n hx hb dX10_answer_99 rfl (lv_at hl 6 rfl) ?_
            obtain ⟨q31, e32, hf⟩ := ob hf
            refine mcV (As := [.int (q25.2.1 1000 0 46), .int (q27.2.1 1000 0 46), .int p2]) (rest := []) C hI (c_X10_gapOf l E h0 e32) ml_X10_303 kv_X10_gapOf (m_recv C hI h0.1 (ce_1000 E _ _ _) rfl) rfl rfl ⟨Nat.le_of_ble_eq_true rfl, Nat.le_of_ble_eq_true rfl⟩ ⟨Nat.zero_le _, Nat.zero_le _⟩ rfl rfl hl.1 (Nat.le_of_ble_eq_true rfl) dX10_answer_100 (st1 := [.int q31.1]) rfl (fun H locs hI => ?_)
            refine lv_istore hx hb dX10_answer_103 hl (by decide) rfl (fun ls hl => ?_)
            have hl : lv_has ls 8 [(7, .int q31.1), (6, .int ((q27.2.1 1000 0 47) - (q25.2.1 1000 0 47))), (5, .int (q27.2.1 1000 0 46)), (4, .int (q25.2.1 1000 0 47)), (3, .int (q25.2.1 1000 0 46)), (0, .ref (ad E 1000 0)), (1, .int p1), (2, .int p2)] := hl
            refine lv_aload_n hx hb dX10_answer_105 rfl (lv_at hl 5 rfl) ?_
            refine gf_10_0 C hI h0.1 fl_X10_133 dX10_answer_106 ?_
            refine lv_if_eq (tgt := 116) hx hb dX10_answer_109 rfl (fun hc => ?_) (fun hc => ?_)
            · replace hf := it hf hc
              refine lv_iload hx hb dX10_answer_116 (lv_at hl 1 rfl) ?_
              refine lv_iload hx hb dX10_answer_118 (lv_at hl 0 rfl) ?_
              refine lv_iadd hx hb dX10_answer_120 ?_
              obtain rfl := Option.some.inj hf
              exact m_iret C hr hlk hI dX10_answer_121
            · replace hf := ie hf hc
              refine lv_iconst (v := (0 : Int32)) hx hb dX10_answer_112 kc_0 ?_
              refine lv_goto (tgt := 121) hx hb dX10_answer_113 rfl ?_
              obtain rfl := Option.some.inj hf
              exact m_iret C hr hlk hI dX10_answer_121
          · replace hf := it hf hc
            refine lv_iload hx hb dX10_answer_92 (lv_at hl 0 rfl) ?_
            obtain rfl := Option.some.inj hf
            exact m_iret C hr hlk hI dX10_answer_94
        · replace hf := it hf hc
          refine lv_iconst (v := (0 : Int32)) hx hb dX10_answer_64 kc_0 ?_
          obtain rfl := Option.some.inj hf
          exact m_iret C hr hlk hI dX10_answer_65
      · replace hf := it hf hc
        refine lv_iconst (v := (0 : Int32)) hx hb dX10_answer_41 kc_0 ?_
        obtain rfl := Option.some.inj hf
        exact m_iret C hr hlk hI dX10_answer_42
    · replace hf := it hf hc
      refine lv_aload_n hx hb dX10_answer_19 rfl (lv_at hl 0 rfl) ?_
      refine lv_iconst (v := (1 : Int32)) hx hb dX10_answer_20 kc_1 ?_
      obtain ⟨m33, e34, hf⟩ := ob hf
      refine pf_10_0 C hI h0.1 fl_X10_133 e34 dX10_answer_21 (fun H locs hI => ?_)
      refine lv_iconst (v := (0 : Int32)) hx hb dX10_answer_24 kc_0 ?_
      obtain rfl := Option.some.inj hf
      exact m_iret C hr hlk hI dX10_answer_25

theorem dX10_chosen_0 : decode cX10_chosen 0 = .ok (.iconst (-1), 1) := by decide +kernel
theorem dX10_chosen_1 : decode cX10_chosen 1 = .ok (.istore_n 2, 1) := by decide +kernel
theorem dX10_chosen_2 : decode cX10_chosen 2 = .ok (.iconst 0, 1) := by decide +kernel
theorem dX10_chosen_3 : decode cX10_chosen 3 = .ok (.istore_n 3, 1) := by decide +kernel
theorem dX10_chosen_4 : decode cX10_chosen 4 = .ok (.iload_n 3, 1) := by decide +kernel
theorem dX10_chosen_5 : decode cX10_chosen 5 = .ok (.aload_n 0, 1) := by decide +kernel
theorem dX10_chosen_6 : decode cX10_chosen 6 = .ok (.getfield 306, 3) := by decide +kernel
theorem dX10_chosen_9 : decode cX10_chosen 9 = .ok (.if_icmp .ge 75, 3) := by decide +kernel
theorem dX10_chosen_12 : decode cX10_chosen 12 = .ok (.aload_n 0, 1) := by decide +kernel
theorem dX10_chosen_13 : decode cX10_chosen 13 = .ok (.getfield 127, 3) := by decide +kernel
theorem dX10_chosen_16 : decode cX10_chosen 16 = .ok (.iload_n 3, 1) := by decide +kernel
theorem dX10_chosen_17 : decode cX10_chosen 17 = .ok (.iaload, 1) := by decide +kernel
theorem dX10_chosen_18 : decode cX10_chosen 18 = .ok (.iconst (-1), 1) := by decide +kernel
theorem dX10_chosen_19 : decode cX10_chosen 19 = .ok (.if_icmp .ne 59, 3) := by decide +kernel
theorem dX10_chosen_22 : decode cX10_chosen 22 = .ok (.aload_n 0, 1) := by decide +kernel
theorem dX10_chosen_23 : decode cX10_chosen 23 = .ok (.getfield 121, 3) := by decide +kernel
theorem dX10_chosen_26 : decode cX10_chosen 26 = .ok (.iload_n 3, 1) := by decide +kernel
theorem dX10_chosen_27 : decode cX10_chosen 27 = .ok (.iaload, 1) := by decide +kernel
theorem dX10_chosen_28 : decode cX10_chosen 28 = .ok (.iload_n 1, 1) := by decide +kernel
theorem dX10_chosen_29 : decode cX10_chosen 29 = .ok (.if_icmp .gt 49, 3) := by decide +kernel
theorem dX10_chosen_32 : decode cX10_chosen 32 = .ok (.iload_n 2, 1) := by decide +kernel
theorem dX10_chosen_33 : decode cX10_chosen 33 = .ok (.iconst (-1), 1) := by decide +kernel
theorem dX10_chosen_34 : decode cX10_chosen 34 = .ok (.if_icmp .eq 26, 3) := by decide +kernel
theorem dX10_chosen_37 : decode cX10_chosen 37 = .ok (.aload_n 0, 1) := by decide +kernel
theorem dX10_chosen_38 : decode cX10_chosen 38 = .ok (.aload_n 0, 1) := by decide +kernel
theorem dX10_chosen_39 : decode cX10_chosen 39 = .ok (.getfield 115, 3) := by decide +kernel
theorem dX10_chosen_42 : decode cX10_chosen 42 = .ok (.iload_n 3, 1) := by decide +kernel
theorem dX10_chosen_43 : decode cX10_chosen 43 = .ok (.iaload, 1) := by decide +kernel
theorem dX10_chosen_44 : decode cX10_chosen 44 = .ok (.invokevirtual 160, 3) := by decide +kernel
theorem dX10_chosen_47 : decode cX10_chosen 47 = .ok (.aload_n 0, 1) := by decide +kernel
theorem dX10_chosen_48 : decode cX10_chosen 48 = .ok (.aload_n 0, 1) := by decide +kernel
theorem dX10_chosen_49 : decode cX10_chosen 49 = .ok (.getfield 115, 3) := by decide +kernel
theorem dX10_chosen_52 : decode cX10_chosen 52 = .ok (.iload_n 2, 1) := by decide +kernel
theorem dX10_chosen_53 : decode cX10_chosen 53 = .ok (.iaload, 1) := by decide +kernel
theorem dX10_chosen_54 : decode cX10_chosen 54 = .ok (.invokevirtual 160, 3) := by decide +kernel
theorem dX10_chosen_57 : decode cX10_chosen 57 = .ok (.if_icmp .le 7, 3) := by decide +kernel
theorem dX10_chosen_60 : decode cX10_chosen 60 = .ok (.iconst 1, 1) := by decide +kernel
theorem dX10_chosen_61 : decode cX10_chosen 61 = .ok (.goto 4, 3) := by decide +kernel
theorem dX10_chosen_64 : decode cX10_chosen 64 = .ok (.iconst 0, 1) := by decide +kernel
theorem dX10_chosen_65 : decode cX10_chosen 65 = .ok (.istore 4, 2) := by decide +kernel
theorem dX10_chosen_67 : decode cX10_chosen 67 = .ok (.iload 4, 2) := by decide +kernel
theorem dX10_chosen_69 : decode cX10_chosen 69 = .ok (.ifCond .eq 7, 3) := by decide +kernel
theorem dX10_chosen_72 : decode cX10_chosen 72 = .ok (.iload_n 3, 1) := by decide +kernel
theorem dX10_chosen_73 : decode cX10_chosen 73 = .ok (.goto 4, 3) := by decide +kernel
theorem dX10_chosen_76 : decode cX10_chosen 76 = .ok (.iload_n 2, 1) := by decide +kernel
theorem dX10_chosen_77 : decode cX10_chosen 77 = .ok (.istore_n 2, 1) := by decide +kernel
theorem dX10_chosen_78 : decode cX10_chosen 78 = .ok (.iinc 3 1, 3) := by decide +kernel
theorem dX10_chosen_81 : decode cX10_chosen 81 = .ok (.goto (-77), 3) := by decide +kernel
theorem dX10_chosen_84 : decode cX10_chosen 84 = .ok (.iload_n 2, 1) := by decide +kernel
theorem dX10_chosen_85 : decode cX10_chosen 85 = .ok (.ireturn, 1) := by decide +kernel
def f_X10_chosen_b65 (F : Nat) (μ : Mm) (K4 : Int32 → Int32 → Int32 → Option Int32) (a1 : Int32) (a2 : Int32) (a3 : Int32) (s0 : Int32) : Option Int32 :=
 if s0 = 0 then
 K4 a1 a2 (a3 + (1 : Int32))
 else
 K4 a1 a3 (a3 + (1 : Int32))
set_option maxHeartbeats 4000000 in
set_option maxRecDepth 100000 in
theorem cb_X10_chosen_65 {l : Launch} {E : En} {p : Program} {e : Env} {s : State} {m : MethodId} {av : Array Value} {below : List Frame} {meth : Method} {c : Code} (C : Cx E p s m av c cX10_chosen 5 yX10_chosen.cls) (hr : meth.sig.returnType = (some .int)) (hlk : meth.locks = false) {F : Nat} {μ : Mm} {K4 : Int32 → Int32 → Int32 → Option Int32} {z : Int32} (hK4 : ∀ (a1 : Int32) (a2 : Int32) (a3 : Int32) (h_a0 : l10 E 0), K4 a1 a2 a3 = some z → ∀ {H : Heap} {locs : List Loc} {ls : Array Slot}, Iv E s μ H locs → lv_has ls 5 [(0, .ref (ad E 1000 0)), (1, .int a1), (2, .int a2), (3, .int a3)] → W p l e { frames := 1, cells := 0, slots := 0, locals := 21 } s m av below meth c H locs 0 0 (MQ below (Qm E (some (.int z)) μ) av s 0 0 (Ad E)) (F0 m 4 ls [])) : ∀ (a1 : Int32) (a2 : Int32) (a3 : Int32) (s0 : Int32) (h_a0 : l10 E 0), f_X10_chosen_b65 F μ K4 a1 a2 a3 s0 = some z → ∀ {H : Heap} {locs : List Loc} {ls : Array Slot}, Iv E s μ H locs → lv_has ls 5 [(0, .ref (ad E 1000 0)), (1, .int a1), (2, .int a2), (3, .int a3)] → W p l e { frames := 1, cells := 0, slots := 0, locals := 21 } s m av below meth c H locs 0 0 (MQ below (Qm E (some (.int z)) μ) av s 0 0 (Ad E)) (F0 m 65 ls [.int s0]) := by
  have hx := C.1.1
  have hb := C.1.2.1
  intro a1 a2 a3 s0 h_a0 hf H locs ls hI hl
  unfold f_X10_chosen_b65 at hf
  refine lv_istore hx hb dX10_chosen_65 hl (by decide) rfl (fun ls hl => ?_)
  have hl : lv_has ls 5 [(4, .int s0), (0, .ref (ad E 1000 0)), (1, .int a1), (2, .int a2), (3, .int a3)] := hl
  refine lv_iload hx hb dX10_chosen_67 (lv_at hl 0 rfl) ?_
  refine lv_if_eq (tgt := 76) hx hb dX10_chosen_69 rfl (fun hc => ?_) (fun hc => ?_)
  · replace hf := it hf hc
    refine lv_iload_n hx hb dX10_chosen_76 rfl (lv_at hl 3 rfl) ?_
    refine lv_istore_n hx hb dX10_chosen_77 rfl hl (by decide) rfl (fun ls hl => ?_)
    have hl : lv_has ls 5 [(2, .int a2), (4, .int s0), (0, .ref (ad E 1000 0)), (1, .int a1), (3, .int a3)] := hl
    refine lv_iinc (v := a3 + (1 : Int32)) hx hb dX10_chosen_78 hl (k := 4) rfl (ki_1 _) (by decide) rfl (fun ls hl => ?_)
    have hl : lv_has ls 5 [(3, .int (a3 + (1 : Int32))), (2, .int a2), (4, .int s0), (0, .ref (ad E 1000 0)), (1, .int a1)] := hl
    refine lv_goto (tgt := 4) hx hb dX10_chosen_81 rfl ?_
    exact hK4 _ _ _ h_a0 hf hI (lv_sub hl [3, 4, 1, 0] rfl)
  · replace hf := ie hf hc
    refine lv_iload_n hx hb dX10_chosen_72 rfl (lv_at hl 4 rfl) ?_
    refine lv_goto (tgt := 77) hx hb dX10_chosen_73 rfl ?_
    refine lv_istore_n hx hb dX10_chosen_77 rfl hl (by decide) rfl (fun ls hl => ?_)
    have hl : lv_has ls 5 [(2, .int a3), (4, .int s0), (0, .ref (ad E 1000 0)), (1, .int a1), (3, .int a3)] := hl
    refine lv_iinc (v := a3 + (1 : Int32)) hx hb dX10_chosen_78 hl (k := 4) rfl (ki_1 _) (by decide) rfl (fun ls hl => ?_)
    have hl : lv_has ls 5 [(3, .int (a3 + (1 : Int32))), (2, .int a3), (4, .int s0), (0, .ref (ad E 1000 0)), (1, .int a1)] := hl
    refine lv_goto (tgt := 4) hx hb dX10_chosen_81 rfl ?_
    exact hK4 _ _ _ h_a0 hf hI (lv_sub hl [3, 4, 1, 0] rfl)
def f_X10_chosen_b4 (F : Nat) (μ : Mm) : Nat → Int32 → Int32 → Int32 → Option Int32
 | 0, _, _, _ => none
 | N + 1, a1, a2, a3 =>
 if (μ.1 1000 0 48) ≤ a3 then
 some a2
 else
 (ra μ 1054 0 400 a3).bind fun v13 =>
 if v13 = (-1 : Int32) then
 (ra μ 1052 0 400 a3).bind fun v15 =>
 if a1 < v15 then
 f_X10_chosen_b4 F μ N a1 a2 (a3 + (1 : Int32))
 else
 if a2 = (-1 : Int32) then
 f_X10_chosen_b65 F μ (fun a1 a2 a3 => f_X10_chosen_b4 F μ N a1 a2 a3) a1 a2 a3 (1 : Int32)
 else
 (ra μ 1050 0 400 a3).bind fun v17 =>
 (f_X10_otherOf μ v17).bind fun q19 =>
 (ra μ 1050 0 400 a2).bind fun v21 =>
 (f_X10_otherOf μ v21).bind fun q23 =>
 if q19 ≤ q23 then
 f_X10_chosen_b65 F μ (fun a1 a2 a3 => f_X10_chosen_b4 F μ N a1 a2 a3) a1 a2 a3 (0 : Int32)
 else
 f_X10_chosen_b65 F μ (fun a1 a2 a3 => f_X10_chosen_b4 F μ N a1 a2 a3) a1 a2 a3 (1 : Int32)
 else
 f_X10_chosen_b4 F μ N a1 a2 (a3 + (1 : Int32))
set_option maxHeartbeats 4000000 in
set_option maxRecDepth 100000 in
theorem cb_X10_chosen_4 {l : Launch} {E : En} {p : Program} {e : Env} {s : State} {m : MethodId} {av : Array Value} {below : List Frame} {meth : Method} {c : Code} (C : Cx E p s m av c cX10_chosen 5 yX10_chosen.cls) (hr : meth.sig.returnType = (some .int)) (hlk : meth.locks = false) {F : Nat} {μ : Mm} {z : Int32} : ∀ (N : Nat) (a1 : Int32) (a2 : Int32) (a3 : Int32) (h_a0 : l10 E 0), f_X10_chosen_b4 F μ N a1 a2 a3 = some z → ∀ {H : Heap} {locs : List Loc} {ls : Array Slot}, Iv E s μ H locs → lv_has ls 5 [(0, .ref (ad E 1000 0)), (1, .int a1), (2, .int a2), (3, .int a3)] → W p l e { frames := 1, cells := 0, slots := 0, locals := 21 } s m av below meth c H locs 0 0 (MQ below (Qm E (some (.int z)) μ) av s 0 0 (Ad E)) (F0 m 4 ls []) := by
  have hx := C.1.1
  have hb := C.1.2.1
  intro N
  induction N with
  | zero => intro a1 a2 a3 h_a0 hf; cases hf
  | succ N ih =>
    intro a1 a2 a3 h_a0 hf H locs ls hI hl
    rw [f_X10_chosen_b4] at hf
    refine lv_iload_n hx hb dX10_chosen_4 rfl (lv_at hl 3 rfl) ?_
    refine lv_aload_n hx hb dX10_chosen_5 rfl (lv_at hl 0 rfl) ?_
    refine gf_10_48 C hI h_a0.1 fl_X10_306 dX10_chosen_6 ?_
    refine lv_icmp_ge (tgt := 84) hx hb dX10_chosen_9 rfl (fun hc => ?_) (fun hc => ?_)
    · replace hf := it hf hc
      refine lv_iload_n hx hb dX10_chosen_84 rfl (lv_at hl 2 rfl) ?_
      obtain rfl := Option.some.inj hf
      exact m_iret C hr hlk hI dX10_chosen_85
    · replace hf := ie hf hc
      refine lv_aload_n hx hb dX10_chosen_12 rfl (lv_at hl 0 rfl) ?_
      refine gf_10_53 C hI h_a0.1 fl_X10_127 dX10_chosen_13 ?_
      refine lv_iload_n hx hb dX10_chosen_16 rfl (lv_at hl 3 rfl) ?_
      obtain ⟨v13, e14, hf⟩ := ob hf
      refine m_iald C hI h_a0.2.2.2.2.2.2.2.2.2.2.2.2.2.2.2.2.2.2.2.2.2.2.2.2.2.2.2.2.2.2.2.2.2.2.2.2.1 (ce_1054 E _ _ _) e14 dX10_chosen_17 ?_
      refine lv_iconst (v := (-1 : Int32)) hx hb dX10_chosen_18 kc_m1 ?_
      refine lv_icmp_ne (tgt := 78) hx hb dX10_chosen_19 rfl (fun hc => ?_) (fun hc => ?_)
      · replace hf := ie hf hc
        refine lv_iinc (v := a3 + (1 : Int32)) hx hb dX10_chosen_78 hl (k := 3) rfl (ki_1 _) (by decide) rfl (fun ls hl => ?_)
        have hl : lv_has ls 5 [(3, .int (a3 + (1 : Int32))), (0, .ref (ad E 1000 0)), (1, .int a1), (2, .int a2)] := hl
        refine lv_goto (tgt := 4) hx hb dX10_chosen_81 rfl ?_
        exact ih _ _ _ h_a0 hf hI (lv_sub hl [1, 2, 3, 0] rfl)
      · replace hf := it hf hc
        refine lv_aload_n hx hb dX10_chosen_22 rfl (lv_at hl 0 rfl) ?_
        refine gf_10_51 C hI h_a0.1 fl_X10_121 dX10_chosen_23 ?_
        refine lv_iload_n hx hb dX10_chosen_26 rfl (lv_at hl 3 rfl) ?_
        obtain ⟨v15, e16, hf⟩ := ob hf
        refine m_iald C hI h_a0.2.2.2.2.2.2.2.2.2.2.2.2.2.2.2.2.2.2.2.2.2.2.2.2.2.2.2.2.2.2.2.2.2.2.1 (ce_1052 E _ _ _) e16 dX10_chosen_27 ?_
        refine lv_iload_n hx hb dX10_chosen_28 rfl (lv_at hl 1 rfl) ?_
        refine lv_icmp_gt (tgt := 78) hx hb dX10_chosen_29 rfl (fun hc => ?_) (fun hc => ?_)
        · replace hf := it hf hc
          refine lv_iinc (v := a3 + (1 : Int32)) hx hb dX10_chosen_78 hl (k := 3) rfl (ki_1 _) (by decide) rfl (fun ls hl => ?_)
          have hl : lv_has ls 5 [(3, .int (a3 + (1 : Int32))), (0, .ref (ad E 1000 0)), (1, .int a1), (2, .int a2)] := hl
          refine lv_goto (tgt := 4) hx hb dX10_chosen_81 rfl ?_
          exact ih _ _ _ h_a0 hf hI (lv_sub hl [1, 2, 3, 0] rfl)
        · replace hf := ie hf hc
          refine lv_iload_n hx hb dX10_chosen_32 rfl (lv_at hl 2 rfl) ?_
          refine lv_iconst (v := (-1 : Int32)) hx hb dX10_chosen_33 kc_m1 ?_
          refine lv_icmp_eq (tgt := 60) hx hb dX10_chosen_34 rfl (fun hc => ?_) (fun hc => ?_)
          · replace hf := it hf hc
            refine lv_iconst (v := (1 : Int32)) hx hb dX10_chosen_60 kc_1 ?_
            refine lv_goto (tgt := 65) hx hb dX10_chosen_61 rfl ?_
            exact cb_X10_chosen_65 C hr hlk ih _ _ _ _ h_a0 hf hI (lv_sub hl [0, 1, 2, 3] rfl)
          · replace hf := ie hf hc
            refine lv_aload_n hx hb dX10_chosen_37 rfl (lv_at hl 0 rfl) ?_
            refine lv_aload_n hx hb dX10_chosen_38 rfl (lv_at hl 0 rfl) ?_
            refine gf_10_49 C hI h_a0.1 fl_X10_115 dX10_chosen_39 ?_
            refine lv_iload_n hx hb dX10_chosen_42 rfl (lv_at hl 3 rfl) ?_
            obtain ⟨v17, e18, hf⟩ := ob hf
            refine m_iald C hI h_a0.2.2.2.2.2.2.2.2.2.2.2.2.2.2.2.2.2.2.2.2.2.2.2.2.2.2.2.2.2.2.2.2.1 (ce_1050 E _ _ _) e18 dX10_chosen_43 ?_
            obtain ⟨q19, e20, hf⟩ := ob hf
            refine mcV (As := [.int v17]) (rest := []) C hI (c_X10_otherOf l E h_a0 e20) ml_X10_160 kv_X10_otherOf (m_recv C hI h_a0.1 (ce_1000 E _ _ _) rfl) rfl rfl ⟨Nat.le_of_ble_eq_true rfl, Nat.le_of_ble_eq_true rfl⟩ ⟨Nat.zero_le _, Nat.zero_le _⟩ rfl rfl hl.1 (Nat.le_of_ble_eq_true rfl) dX10_chosen_44 (st1 := [.int q19]) rfl (fun H locs hI => ?_)
            refine lv_aload_n hx hb dX10_chosen_47 rfl (lv_at hl 0 rfl) ?_
            refine lv_aload_n hx hb dX10_chosen_48 rfl (lv_at hl 0 rfl) ?_
            refine gf_10_49 C hI h_a0.1 fl_X10_115 dX10_chosen_49 ?_
            refine lv_iload_n hx hb dX10_chosen_52 rfl (lv_at hl 2 rfl) ?_
            obtain ⟨v21, e22, hf⟩ := ob hf
            refine m_iald C hI h_a0.2.2.2.2.2.2.2.2.2.2.2.2.2.2.2.2.2.2.2.2.2.2.2.2.2.2.2.2.2.2.2.2.1 (ce_1050 E _ _ _) e22 dX10_chosen_53 ?_
            obtain ⟨q23, e24, hf⟩ := ob hf
            refine mcV (As := [.int v21]) (rest := [.int q19]) C hI (c_X10_otherOf l E h_a0 e24) ml_X10_160 kv_X10_otherOf (m_recv C hI h_a0.1 (ce_1000 E _ _ _) rfl) rfl rfl ⟨Nat.le_of_ble_eq_true rfl, Nat.le_of_ble_eq_true rfl⟩ ⟨Nat.zero_le _, Nat.zero_le _⟩ rfl rfl hl.1 (Nat.le_of_ble_eq_true rfl) dX10_chosen_54 (st1 := [.int q23, .int q19]) rfl (fun H locs hI => ?_)
            refine lv_icmp_le (tgt := 64) hx hb dX10_chosen_57 rfl (fun hc => ?_) (fun hc => ?_)
            · replace hf := it hf hc
              refine lv_iconst (v := (0 : Int32)) hx hb dX10_chosen_64 kc_0 ?_
              exact cb_X10_chosen_65 C hr hlk ih _ _ _ _ h_a0 hf hI (lv_sub hl [0, 1, 2, 3] rfl)
            · replace hf := ie hf hc
              refine lv_iconst (v := (1 : Int32)) hx hb dX10_chosen_60 kc_1 ?_
              refine lv_goto (tgt := 65) hx hb dX10_chosen_61 rfl ?_
              exact cb_X10_chosen_65 C hr hlk ih _ _ _ _ h_a0 hf hI (lv_sub hl [0, 1, 2, 3] rfl)
def f_X10_chosen (F : Nat) (μ : Mm) (p1 : Int32) : Option Int32 :=
 f_X10_chosen_b4 F μ F p1 (-1 : Int32) (0 : Int32)
set_option maxHeartbeats 4000000 in
set_option maxRecDepth 100000 in
theorem c_X10_chosen (l : Launch) (E : En) {F : Nat} {μ : Mm} {p1 : Int32} (h0 : l10 E 0) {z : Int32} (hf : f_X10_chosen F μ p1 = some z) : Met l yX10_chosen (wt yX10_chosen cX10_chosen 5 (some .int)) { frames := 1, cells := 0, slots := 0, locals := 21 } (Pm E [.ref (ad E 1000 0), .int p1] μ) (Qm E (some (.int z)) μ) 0 0 (Ad E) := by
  unfold f_X10_chosen at hf
  refine met_of (cc := cX10_chosen) (nL := 5) (ret := (some .int)) (by decide) _ (Nat.le_of_ble_eq_true rfl) ?_
  intro p e s m below meth c C hr hlk hI ls hl
  have hx := C.1.1
  have hb := C.1.2.1
  have hl : lv_has ls 5 [(0, .ref (ad E 1000 0)), (1, .int p1)] := hl
  refine lv_iconst (v := (-1 : Int32)) hx hb dX10_chosen_0 kc_m1 ?_
  refine lv_istore_n hx hb dX10_chosen_1 rfl hl (by decide) rfl (fun ls hl => ?_)
  have hl : lv_has ls 5 [(2, .int (-1 : Int32)), (0, .ref (ad E 1000 0)), (1, .int p1)] := hl
  refine lv_iconst (v := (0 : Int32)) hx hb dX10_chosen_2 kc_0 ?_
  refine lv_istore_n hx hb dX10_chosen_3 rfl hl (by decide) rfl (fun ls hl => ?_)
  have hl : lv_has ls 5 [(3, .int (0 : Int32)), (2, .int (-1 : Int32)), (0, .ref (ad E 1000 0)), (1, .int p1)] := hl
  exact cb_X10_chosen_4 C hr hlk  _ _ _ _ h0 hf hI (lv_sub hl [2, 3, 1, 0] rfl)

theorem dX10_nextComing_0 : decode cX10_nextComing 0 = .ok (.iload_n 2, 1) := by decide +kernel
theorem dX10_nextComing_1 : decode cX10_nextComing 1 = .ok (.istore_n 3, 1) := by decide +kernel
theorem dX10_nextComing_2 : decode cX10_nextComing 2 = .ok (.iconst 0, 1) := by decide +kernel
theorem dX10_nextComing_3 : decode cX10_nextComing 3 = .ok (.istore 4, 2) := by decide +kernel
theorem dX10_nextComing_5 : decode cX10_nextComing 5 = .ok (.iload 4, 2) := by decide +kernel
theorem dX10_nextComing_7 : decode cX10_nextComing 7 = .ok (.aload_n 0, 1) := by decide +kernel
theorem dX10_nextComing_8 : decode cX10_nextComing 8 = .ok (.getfield 306, 3) := by decide +kernel
theorem dX10_nextComing_11 : decode cX10_nextComing 11 = .ok (.if_icmp .ge 43, 3) := by decide +kernel
theorem dX10_nextComing_14 : decode cX10_nextComing 14 = .ok (.aload_n 0, 1) := by decide +kernel
theorem dX10_nextComing_15 : decode cX10_nextComing 15 = .ok (.getfield 121, 3) := by decide +kernel
theorem dX10_nextComing_18 : decode cX10_nextComing 18 = .ok (.iload 4, 2) := by decide +kernel
theorem dX10_nextComing_20 : decode cX10_nextComing 20 = .ok (.iaload, 1) := by decide +kernel
theorem dX10_nextComing_21 : decode cX10_nextComing 21 = .ok (.iload_n 1, 1) := by decide +kernel
theorem dX10_nextComing_22 : decode cX10_nextComing 22 = .ok (.if_icmp .le 24, 3) := by decide +kernel
theorem dX10_nextComing_25 : decode cX10_nextComing 25 = .ok (.aload_n 0, 1) := by decide +kernel
theorem dX10_nextComing_26 : decode cX10_nextComing 26 = .ok (.getfield 121, 3) := by decide +kernel
theorem dX10_nextComing_29 : decode cX10_nextComing 29 = .ok (.iload 4, 2) := by decide +kernel
theorem dX10_nextComing_31 : decode cX10_nextComing 31 = .ok (.iaload, 1) := by decide +kernel
theorem dX10_nextComing_32 : decode cX10_nextComing 32 = .ok (.iload_n 3, 1) := by decide +kernel
theorem dX10_nextComing_33 : decode cX10_nextComing 33 = .ok (.if_icmp .ge 13, 3) := by decide +kernel
theorem dX10_nextComing_36 : decode cX10_nextComing 36 = .ok (.aload_n 0, 1) := by decide +kernel
theorem dX10_nextComing_37 : decode cX10_nextComing 37 = .ok (.getfield 121, 3) := by decide +kernel
theorem dX10_nextComing_40 : decode cX10_nextComing 40 = .ok (.iload 4, 2) := by decide +kernel
theorem dX10_nextComing_42 : decode cX10_nextComing 42 = .ok (.iaload, 1) := by decide +kernel
theorem dX10_nextComing_43 : decode cX10_nextComing 43 = .ok (.goto 4, 3) := by decide +kernel
theorem dX10_nextComing_46 : decode cX10_nextComing 46 = .ok (.iload_n 3, 1) := by decide +kernel
theorem dX10_nextComing_47 : decode cX10_nextComing 47 = .ok (.istore_n 3, 1) := by decide +kernel
theorem dX10_nextComing_48 : decode cX10_nextComing 48 = .ok (.iinc 4 1, 3) := by decide +kernel
theorem dX10_nextComing_51 : decode cX10_nextComing 51 = .ok (.goto (-46), 3) := by decide +kernel
theorem dX10_nextComing_54 : decode cX10_nextComing 54 = .ok (.iload_n 3, 1) := by decide +kernel
theorem dX10_nextComing_55 : decode cX10_nextComing 55 = .ok (.ireturn, 1) := by decide +kernel
def f_X10_nextComing_b5 (F : Nat) (μ : Mm) : Nat → Int32 → Int32 → Int32 → Option Int32
 | 0, _, _, _ => none
 | N + 1, a1, a3, a4 =>
 if (μ.1 1000 0 48) ≤ a4 then
 some a3
 else
 (ra μ 1052 0 400 a4).bind fun v7 =>
 if v7 ≤ a1 then
 f_X10_nextComing_b5 F μ N a1 a3 (a4 + (1 : Int32))
 else
 (ra μ 1052 0 400 a4).bind fun v9 =>
 if a3 ≤ v9 then
 f_X10_nextComing_b5 F μ N a1 a3 (a4 + (1 : Int32))
 else
 (ra μ 1052 0 400 a4).bind fun v11 =>
 f_X10_nextComing_b5 F μ N a1 v11 (a4 + (1 : Int32))
set_option maxHeartbeats 4000000 in
set_option maxRecDepth 100000 in
theorem cb_X10_nextComing_5 {l : Launch} {E : En} {p : Program} {e : Env} {s : State} {m : MethodId} {av : Array Value} {below : List Frame} {meth : Method} {c : Code} (C : Cx E p s m av c cX10_nextComing 5 yX10_nextComing.cls) (hr : meth.sig.returnType = (some .int)) (hlk : meth.locks = false) {F : Nat} {μ : Mm} {z : Int32} : ∀ (N : Nat) (a1 : Int32) (a3 : Int32) (a4 : Int32) (h_a0 : l10 E 0), f_X10_nextComing_b5 F μ N a1 a3 a4 = some z → ∀ {H : Heap} {locs : List Loc} {ls : Array Slot}, Iv E s μ H locs → lv_has ls 5 [(0, .ref (ad E 1000 0)), (1, .int a1), (3, .int a3), (4, .int a4)] → W p l e { frames := 0, cells := 0, slots := 0, locals := 0 } s m av below meth c H locs 0 0 (MQ below (Qm E (some (.int z)) μ) av s 0 0 (Ad E)) (F0 m 5 ls []) := by
  have hx := C.1.1
  have hb := C.1.2.1
  intro N
  induction N with
  | zero => intro a1 a3 a4 h_a0 hf; cases hf
  | succ N ih =>
    intro a1 a3 a4 h_a0 hf H locs ls hI hl
    rw [f_X10_nextComing_b5] at hf
    refine lv_iload hx hb dX10_nextComing_5 (lv_at hl 3 rfl) ?_
    refine lv_aload_n hx hb dX10_nextComing_7 rfl (lv_at hl 0 rfl) ?_
    refine gf_10_48 C hI h_a0.1 fl_X10_306 dX10_nextComing_8 ?_
    refine lv_icmp_ge (tgt := 54) hx hb dX10_nextComing_11 rfl (fun hc => ?_) (fun hc => ?_)
    · replace hf := it hf hc
      refine lv_iload_n hx hb dX10_nextComing_54 rfl (lv_at hl 2 rfl) ?_
      obtain rfl := Option.some.inj hf
      exact m_iret C hr hlk hI dX10_nextComing_55
    · replace hf := ie hf hc
      refine lv_aload_n hx hb dX10_nextComing_14 rfl (lv_at hl 0 rfl) ?_
      refine gf_10_51 C hI h_a0.1 fl_X10_121 dX10_nextComing_15 ?_
      refine lv_iload hx hb dX10_nextComing_18 (lv_at hl 3 rfl) ?_
      obtain ⟨v7, e8, hf⟩ := ob hf
      refine m_iald C hI h_a0.2.2.2.2.2.2.2.2.2.2.2.2.2.2.2.2.2.2.2.2.2.2.2.2.2.2.2.2.2.2.2.2.2.2.1 (ce_1052 E _ _ _) e8 dX10_nextComing_20 ?_
      refine lv_iload_n hx hb dX10_nextComing_21 rfl (lv_at hl 1 rfl) ?_
      refine lv_icmp_le (tgt := 46) hx hb dX10_nextComing_22 rfl (fun hc => ?_) (fun hc => ?_)
      · replace hf := it hf hc
        refine lv_iload_n hx hb dX10_nextComing_46 rfl (lv_at hl 2 rfl) ?_
        refine lv_istore_n hx hb dX10_nextComing_47 rfl hl (by decide) rfl (fun ls hl => ?_)
        have hl : lv_has ls 5 [(3, .int a3), (0, .ref (ad E 1000 0)), (1, .int a1), (4, .int a4)] := hl
        refine lv_iinc (v := a4 + (1 : Int32)) hx hb dX10_nextComing_48 hl (k := 3) rfl (ki_1 _) (by decide) rfl (fun ls hl => ?_)
        have hl : lv_has ls 5 [(4, .int (a4 + (1 : Int32))), (3, .int a3), (0, .ref (ad E 1000 0)), (1, .int a1)] := hl
        refine lv_goto (tgt := 5) hx hb dX10_nextComing_51 rfl ?_
        exact ih _ _ _ h_a0 hf hI (lv_sub hl [2, 3, 1, 0] rfl)
      · replace hf := ie hf hc
        refine lv_aload_n hx hb dX10_nextComing_25 rfl (lv_at hl 0 rfl) ?_
        refine gf_10_51 C hI h_a0.1 fl_X10_121 dX10_nextComing_26 ?_
        refine lv_iload hx hb dX10_nextComing_29 (lv_at hl 3 rfl) ?_
        obtain ⟨v9, e10, hf⟩ := ob hf
        refine m_iald C hI h_a0.2.2.2.2.2.2.2.2.2.2.2.2.2.2.2.2.2.2.2.2.2.2.2.2.2.2.2.2.2.2.2.2.2.2.1 (ce_1052 E _ _ _) e10 dX10_nextComing_31 ?_
        refine lv_iload_n hx hb dX10_nextComing_32 rfl (lv_at hl 2 rfl) ?_
        refine lv_icmp_ge (tgt := 46) hx hb dX10_nextComing_33 rfl (fun hc => ?_) (fun hc => ?_)
        · replace hf := it hf hc
          refine lv_iload_n hx hb dX10_nextComing_46 rfl (lv_at hl 2 rfl) ?_
          refine lv_istore_n hx hb dX10_nextComing_47 rfl hl (by decide) rfl (fun ls hl => ?_)
          have hl : lv_has ls 5 [(3, .int a3), (0, .ref (ad E 1000 0)), (1, .int a1), (4, .int a4)] := hl
          refine lv_iinc (v := a4 + (1 : Int32)) hx hb dX10_nextComing_48 hl (k := 3) rfl (ki_1 _) (by decide) rfl (fun ls hl => ?_)
          have hl : lv_has ls 5 [(4, .int (a4 + (1 : Int32))), (3, .int a3), (0, .ref (ad E 1000 0)), (1, .int a1)] := hl
          refine lv_goto (tgt := 5) hx hb dX10_nextComing_51 rfl ?_
          exact ih _ _ _ h_a0 hf hI (lv_sub hl [2, 3, 1, 0] rfl)
        · replace hf := ie hf hc
          refine lv_aload_n hx hb dX10_nextComing_36 rfl (lv_at hl 0 rfl) ?_
          refine gf_10_51 C hI h_a0.1 fl_X10_121 dX10_nextComing_37 ?_
          refine lv_iload hx hb dX10_nextComing_40 (lv_at hl 3 rfl) ?_
          obtain ⟨v11, e12, hf⟩ := ob hf
          refine m_iald C hI h_a0.2.2.2.2.2.2.2.2.2.2.2.2.2.2.2.2.2.2.2.2.2.2.2.2.2.2.2.2.2.2.2.2.2.2.1 (ce_1052 E _ _ _) e12 dX10_nextComing_42 ?_
          refine lv_goto (tgt := 47) hx hb dX10_nextComing_43 rfl ?_
          refine lv_istore_n hx hb dX10_nextComing_47 rfl hl (by decide) rfl (fun ls hl => ?_)
          have hl : lv_has ls 5 [(3, .int v11), (0, .ref (ad E 1000 0)), (1, .int a1), (4, .int a4)] := hl
          refine lv_iinc (v := a4 + (1 : Int32)) hx hb dX10_nextComing_48 hl (k := 3) rfl (ki_1 _) (by decide) rfl (fun ls hl => ?_)
          have hl : lv_has ls 5 [(4, .int (a4 + (1 : Int32))), (3, .int v11), (0, .ref (ad E 1000 0)), (1, .int a1)] := hl
          refine lv_goto (tgt := 5) hx hb dX10_nextComing_51 rfl ?_
          exact ih _ _ _ h_a0 hf hI (lv_sub hl [2, 3, 1, 0] rfl)
def f_X10_nextComing (F : Nat) (μ : Mm) (p1 : Int32) (p2 : Int32) : Option Int32 :=
 f_X10_nextComing_b5 F μ F p1 p2 (0 : Int32)
set_option maxHeartbeats 4000000 in
set_option maxRecDepth 100000 in
theorem c_X10_nextComing (l : Launch) (E : En) {F : Nat} {μ : Mm} {p1 : Int32} {p2 : Int32} (h0 : l10 E 0) {z : Int32} (hf : f_X10_nextComing F μ p1 p2 = some z) : Met l yX10_nextComing (wt yX10_nextComing cX10_nextComing 5 (some .int)) { frames := 0, cells := 0, slots := 0, locals := 0 } (Pm E [.ref (ad E 1000 0), .int p1, .int p2] μ) (Qm E (some (.int z)) μ) 0 0 (Ad E) := by
  unfold f_X10_nextComing at hf
  refine met_of (cc := cX10_nextComing) (nL := 5) (ret := (some .int)) (by decide) _ (Nat.le_of_ble_eq_true rfl) ?_
  intro p e s m below meth c C hr hlk hI ls hl
  have hx := C.1.1
  have hb := C.1.2.1
  have hl : lv_has ls 5 [(0, .ref (ad E 1000 0)), (1, .int p1), (2, .int p2)] := hl
  refine lv_iload_n hx hb dX10_nextComing_0 rfl (lv_at hl 2 rfl) ?_
  refine lv_istore_n hx hb dX10_nextComing_1 rfl hl (by decide) rfl (fun ls hl => ?_)
  have hl : lv_has ls 5 [(3, .int p2), (0, .ref (ad E 1000 0)), (1, .int p1), (2, .int p2)] := hl
  refine lv_iconst (v := (0 : Int32)) hx hb dX10_nextComing_2 kc_0 ?_
  refine lv_istore hx hb dX10_nextComing_3 hl (by decide) rfl (fun ls hl => ?_)
  have hl : lv_has ls 5 [(4, .int (0 : Int32)), (3, .int p2), (0, .ref (ad E 1000 0)), (1, .int p1), (2, .int p2)] := hl
  exact cb_X10_nextComing_5 C hr hlk  _ _ _ _ h0 hf hI (lv_sub hl [2, 3, 1, 0] rfl)

theorem dX10_runs_0 : decode cX10_runs 0 = .ok (.iload_n 1, 1) := by decide +kernel
theorem dX10_runs_1 : decode cX10_runs 1 = .ok (.istore_n 3, 1) := by decide +kernel
theorem dX10_runs_2 : decode cX10_runs 2 = .ok (.iload_n 3, 1) := by decide +kernel
theorem dX10_runs_3 : decode cX10_runs 3 = .ok (.iload_n 2, 1) := by decide +kernel
theorem dX10_runs_4 : decode cX10_runs 4 = .ok (.if_icmp .ge 101, 3) := by decide +kernel
theorem dX10_runs_7 : decode cX10_runs 7 = .ok (.aload_n 0, 1) := by decide +kernel
theorem dX10_runs_8 : decode cX10_runs 8 = .ok (.iload_n 3, 1) := by decide +kernel
theorem dX10_runs_9 : decode cX10_runs 9 = .ok (.invokevirtual 309, 3) := by decide +kernel
theorem dX10_runs_12 : decode cX10_runs 12 = .ok (.istore 4, 2) := by decide +kernel
theorem dX10_runs_14 : decode cX10_runs 14 = .ok (.aload_n 0, 1) := by decide +kernel
theorem dX10_runs_15 : decode cX10_runs 15 = .ok (.iload_n 3, 1) := by decide +kernel
theorem dX10_runs_16 : decode cX10_runs 16 = .ok (.iload_n 2, 1) := by decide +kernel
theorem dX10_runs_17 : decode cX10_runs 17 = .ok (.invokevirtual 312, 3) := by decide +kernel
theorem dX10_runs_20 : decode cX10_runs 20 = .ok (.istore 5, 2) := by decide +kernel
theorem dX10_runs_22 : decode cX10_runs 22 = .ok (.iload 4, 2) := by decide +kernel
theorem dX10_runs_24 : decode cX10_runs 24 = .ok (.iconst (-1), 1) := by decide +kernel
theorem dX10_runs_25 : decode cX10_runs 25 = .ok (.if_icmp .eq 74, 3) := by decide +kernel
theorem dX10_runs_28 : decode cX10_runs 28 = .ok (.aload_n 0, 1) := by decide +kernel
theorem dX10_runs_29 : decode cX10_runs 29 = .ok (.getfield 124, 3) := by decide +kernel
theorem dX10_runs_32 : decode cX10_runs 32 = .ok (.iload 4, 2) := by decide +kernel
theorem dX10_runs_34 : decode cX10_runs 34 = .ok (.iaload, 1) := by decide +kernel
theorem dX10_runs_35 : decode cX10_runs 35 = .ok (.istore 6, 2) := by decide +kernel
theorem dX10_runs_37 : decode cX10_runs 37 = .ok (.iload 6, 2) := by decide +kernel
theorem dX10_runs_39 : decode cX10_runs 39 = .ok (.iload 5, 2) := by decide +kernel
theorem dX10_runs_41 : decode cX10_runs 41 = .ok (.iload_n 3, 1) := by decide +kernel
theorem dX10_runs_42 : decode cX10_runs 42 = .ok (.isub, 1) := by decide +kernel
theorem dX10_runs_43 : decode cX10_runs 43 = .ok (.if_icmp .ge 8, 3) := by decide +kernel
theorem dX10_runs_46 : decode cX10_runs 46 = .ok (.iload 6, 2) := by decide +kernel
theorem dX10_runs_48 : decode cX10_runs 48 = .ok (.goto 7, 3) := by decide +kernel
theorem dX10_runs_51 : decode cX10_runs 51 = .ok (.iload 5, 2) := by decide +kernel
theorem dX10_runs_53 : decode cX10_runs 53 = .ok (.iload_n 3, 1) := by decide +kernel
theorem dX10_runs_54 : decode cX10_runs 54 = .ok (.isub, 1) := by decide +kernel
theorem dX10_runs_55 : decode cX10_runs 55 = .ok (.istore 7, 2) := by decide +kernel
theorem dX10_runs_57 : decode cX10_runs 57 = .ok (.aload_n 0, 1) := by decide +kernel
theorem dX10_runs_58 : decode cX10_runs 58 = .ok (.getfield 124, 3) := by decide +kernel
theorem dX10_runs_61 : decode cX10_runs 61 = .ok (.iload 4, 2) := by decide +kernel
theorem dX10_runs_63 : decode cX10_runs 63 = .ok (.dup2, 1) := by decide +kernel
theorem dX10_runs_64 : decode cX10_runs 64 = .ok (.iaload, 1) := by decide +kernel
theorem dX10_runs_65 : decode cX10_runs 65 = .ok (.iload 7, 2) := by decide +kernel
theorem dX10_runs_67 : decode cX10_runs 67 = .ok (.isub, 1) := by decide +kernel
theorem dX10_runs_68 : decode cX10_runs 68 = .ok (.iastore, 1) := by decide +kernel
theorem dX10_runs_69 : decode cX10_runs 69 = .ok (.iload_n 3, 1) := by decide +kernel
theorem dX10_runs_70 : decode cX10_runs 70 = .ok (.iload 7, 2) := by decide +kernel
theorem dX10_runs_72 : decode cX10_runs 72 = .ok (.iadd, 1) := by decide +kernel
theorem dX10_runs_73 : decode cX10_runs 73 = .ok (.istore_n 3, 1) := by decide +kernel
theorem dX10_runs_74 : decode cX10_runs 74 = .ok (.aload_n 0, 1) := by decide +kernel
theorem dX10_runs_75 : decode cX10_runs 75 = .ok (.getfield 127, 3) := by decide +kernel
theorem dX10_runs_78 : decode cX10_runs 78 = .ok (.iload 4, 2) := by decide +kernel
theorem dX10_runs_80 : decode cX10_runs 80 = .ok (.aload_n 0, 1) := by decide +kernel
theorem dX10_runs_81 : decode cX10_runs 81 = .ok (.getfield 124, 3) := by decide +kernel
theorem dX10_runs_84 : decode cX10_runs 84 = .ok (.iload 4, 2) := by decide +kernel
theorem dX10_runs_86 : decode cX10_runs 86 = .ok (.iaload, 1) := by decide +kernel
theorem dX10_runs_87 : decode cX10_runs 87 = .ok (.ifCond .ne 7, 3) := by decide +kernel
theorem dX10_runs_90 : decode cX10_runs 90 = .ok (.iload_n 3, 1) := by decide +kernel
theorem dX10_runs_91 : decode cX10_runs 91 = .ok (.goto 4, 3) := by decide +kernel
theorem dX10_runs_94 : decode cX10_runs 94 = .ok (.iconst (-1), 1) := by decide +kernel
theorem dX10_runs_95 : decode cX10_runs 95 = .ok (.iastore, 1) := by decide +kernel
theorem dX10_runs_96 : decode cX10_runs 96 = .ok (.goto 6, 3) := by decide +kernel
theorem dX10_runs_99 : decode cX10_runs 99 = .ok (.iload 5, 2) := by decide +kernel
theorem dX10_runs_101 : decode cX10_runs 101 = .ok (.istore_n 3, 1) := by decide +kernel
theorem dX10_runs_102 : decode cX10_runs 102 = .ok (.goto (-100), 3) := by decide +kernel
theorem dX10_runs_105 : decode cX10_runs 105 = .ok (.return_, 1) := by decide +kernel
def f_X10_runs_b55 (F : Nat) (K2 : Mm → Int32 → Int32 → Option Mm) (μ : Mm) (a2 : Int32) (a3 : Int32) (a4 : Int32) (s0 : Int32) : Option Mm :=
 (ra μ 1053 0 400 a4).bind fun v15 =>
 (wa μ 1053 0 400 a4 (v15 - s0)).bind fun m17 =>
 (ra m17 1053 0 400 a4).bind fun v19 =>
 if v19 = 0 then
 (wa m17 1054 0 400 a4 (a3 + s0)).bind fun m23 =>
 K2 m23 a2 (a3 + s0)
 else
 (wa m17 1054 0 400 a4 (-1 : Int32)).bind fun m21 =>
 K2 m21 a2 (a3 + s0)
set_option maxHeartbeats 4000000 in
set_option maxRecDepth 100000 in
theorem cb_X10_runs_55 {l : Launch} {E : En} {p : Program} {e : Env} {s : State} {m : MethodId} {av : Array Value} {below : List Frame} {meth : Method} {c : Code} (C : Cx E p s m av c cX10_runs 8 yX10_runs.cls) (hr : meth.sig.returnType = (none : Option FieldType)) (hlk : meth.locks = false) {F : Nat} {K2 : Mm → Int32 → Int32 → Option Mm} {z : Mm} (hK2 : ∀ (μ : Mm) (a2 : Int32) (a3 : Int32) (h_a0 : l10 E 0), K2 μ a2 a3 = some z → ∀ {H : Heap} {locs : List Loc} {ls : Array Slot}, Iv E s μ H locs → lv_has ls 8 [(0, .ref (ad E 1000 0)), (2, .int a2), (3, .int a3)] → W p l e { frames := 2, cells := 0, slots := 0, locals := 45 } s m av below meth c H locs 0 0 (MQ below (Qm E none z) av s 0 0 (Ad E)) (F0 m 2 ls [])) : ∀ (μ : Mm) (a2 : Int32) (a3 : Int32) (a4 : Int32) (s0 : Int32) (h_a0 : l10 E 0), f_X10_runs_b55 F K2 μ a2 a3 a4 s0 = some z → ∀ {H : Heap} {locs : List Loc} {ls : Array Slot}, Iv E s μ H locs → lv_has ls 8 [(0, .ref (ad E 1000 0)), (2, .int a2), (3, .int a3), (4, .int a4)] → W p l e { frames := 2, cells := 0, slots := 0, locals := 45 } s m av below meth c H locs 0 0 (MQ below (Qm E none z) av s 0 0 (Ad E)) (F0 m 55 ls [.int s0]) := by
  have hx := C.1.1
  have hb := C.1.2.1
  intro μ a2 a3 a4 s0 h_a0 hf H locs ls hI hl
  unfold f_X10_runs_b55 at hf
  refine lv_istore hx hb dX10_runs_55 hl (by decide) rfl (fun ls hl => ?_)
  have hl : lv_has ls 8 [(7, .int s0), (0, .ref (ad E 1000 0)), (2, .int a2), (3, .int a3), (4, .int a4)] := hl
  refine lv_aload_n hx hb dX10_runs_57 rfl (lv_at hl 1 rfl) ?_
  refine gf_10_52 C hI h_a0.1 fl_X10_124 dX10_runs_58 ?_
  refine lv_iload hx hb dX10_runs_61 (lv_at hl 4 rfl) ?_
  refine lv_dup2_11 hx hb dX10_runs_63 rfl rfl ?_
  obtain ⟨v15, e16, hf⟩ := ob hf
  refine m_iald C hI h_a0.2.2.2.2.2.2.2.2.2.2.2.2.2.2.2.2.2.2.2.2.2.2.2.2.2.2.2.2.2.2.2.2.2.2.2.1 (ce_1053 E _ _ _) e16 dX10_runs_64 ?_
  refine lv_iload hx hb dX10_runs_65 (lv_at hl 0 rfl) ?_
  refine lv_isub hx hb dX10_runs_67 ?_
  obtain ⟨m17, e18, hf⟩ := ob hf
  refine m_iast C hI h_a0.2.2.2.2.2.2.2.2.2.2.2.2.2.2.2.2.2.2.2.2.2.2.2.2.2.2.2.2.2.2.2.2.2.2.2.1 (ce_1053 E _) e18 dX10_runs_68 (fun H locs hI => ?_)
  refine lv_iload_n hx hb dX10_runs_69 rfl (lv_at hl 3 rfl) ?_
  refine lv_iload hx hb dX10_runs_70 (lv_at hl 0 rfl) ?_
  refine lv_iadd hx hb dX10_runs_72 ?_
  refine lv_istore_n hx hb dX10_runs_73 rfl hl (by decide) rfl (fun ls hl => ?_)
  have hl : lv_has ls 8 [(3, .int (a3 + s0)), (7, .int s0), (0, .ref (ad E 1000 0)), (2, .int a2), (4, .int a4)] := hl
  refine lv_aload_n hx hb dX10_runs_74 rfl (lv_at hl 2 rfl) ?_
  refine gf_10_53 C hI h_a0.1 fl_X10_127 dX10_runs_75 ?_
  refine lv_iload hx hb dX10_runs_78 (lv_at hl 4 rfl) ?_
  refine lv_aload_n hx hb dX10_runs_80 rfl (lv_at hl 2 rfl) ?_
  refine gf_10_52 C hI h_a0.1 fl_X10_124 dX10_runs_81 ?_
  refine lv_iload hx hb dX10_runs_84 (lv_at hl 4 rfl) ?_
  obtain ⟨v19, e20, hf⟩ := ob hf
  refine m_iald C hI h_a0.2.2.2.2.2.2.2.2.2.2.2.2.2.2.2.2.2.2.2.2.2.2.2.2.2.2.2.2.2.2.2.2.2.2.2.1 (ce_1053 E _ _ _) e20 dX10_runs_86 ?_
  refine lv_if_ne (tgt := 94) hx hb dX10_runs_87 rfl (fun hc => ?_) (fun hc => ?_)
  · replace hf := ie hf hc
    refine lv_iconst (v := (-1 : Int32)) hx hb dX10_runs_94 kc_m1 ?_
    obtain ⟨m21, e22, hf⟩ := ob hf
    refine m_iast C hI h_a0.2.2.2.2.2.2.2.2.2.2.2.2.2.2.2.2.2.2.2.2.2.2.2.2.2.2.2.2.2.2.2.2.2.2.2.2.1 (ce_1054 E _) e22 dX10_runs_95 (fun H locs hI => ?_)
    refine lv_goto (tgt := 102) hx hb dX10_runs_96 rfl ?_
    refine lv_goto (tgt := 2) hx hb dX10_runs_102 rfl ?_
    exact hK2 _ _ _ h_a0 hf hI (lv_sub hl [2, 3, 0] rfl)
  · replace hf := it hf hc
    refine lv_iload_n hx hb dX10_runs_90 rfl (lv_at hl 0 rfl) ?_
    refine lv_goto (tgt := 95) hx hb dX10_runs_91 rfl ?_
    obtain ⟨m23, e24, hf⟩ := ob hf
    refine m_iast C hI h_a0.2.2.2.2.2.2.2.2.2.2.2.2.2.2.2.2.2.2.2.2.2.2.2.2.2.2.2.2.2.2.2.2.2.2.2.2.1 (ce_1054 E _) e24 dX10_runs_95 (fun H locs hI => ?_)
    refine lv_goto (tgt := 102) hx hb dX10_runs_96 rfl ?_
    refine lv_goto (tgt := 2) hx hb dX10_runs_102 rfl ?_
    exact hK2 _ _ _ h_a0 hf hI (lv_sub hl [2, 3, 0] rfl)
def f_X10_runs_b2 (F : Nat) : Nat → Mm → Int32 → Int32 → Option Mm
 | 0, _, _, _ => none
 | N + 1, μ, a2, a3 =>
 if a2 ≤ a3 then
 some μ
 else
 (f_X10_chosen F μ a3).bind fun q25 =>
 (f_X10_nextComing F μ a3 a2).bind fun q27 =>
 if q25 = (-1 : Int32) then
 f_X10_runs_b2 F N μ a2 q27
 else
 (ra μ 1053 0 400 q25).bind fun v29 =>
 if (q27 - a3) ≤ v29 then
 f_X10_runs_b55 F (fun μ a2 a3 => f_X10_runs_b2 F N μ a2 a3) μ a2 a3 q25 (q27 - a3)
 else
 f_X10_runs_b55 F (fun μ a2 a3 => f_X10_runs_b2 F N μ a2 a3) μ a2 a3 q25 v29
set_option maxHeartbeats 4000000 in
set_option maxRecDepth 100000 in
theorem cb_X10_runs_2 {l : Launch} {E : En} {p : Program} {e : Env} {s : State} {m : MethodId} {av : Array Value} {below : List Frame} {meth : Method} {c : Code} (C : Cx E p s m av c cX10_runs 8 yX10_runs.cls) (hr : meth.sig.returnType = (none : Option FieldType)) (hlk : meth.locks = false) {F : Nat} {z : Mm} : ∀ (N : Nat) (μ : Mm) (a2 : Int32) (a3 : Int32) (h_a0 : l10 E 0), f_X10_runs_b2 F N μ a2 a3 = some z → ∀ {H : Heap} {locs : List Loc} {ls : Array Slot}, Iv E s μ H locs → lv_has ls 8 [(0, .ref (ad E 1000 0)), (2, .int a2), (3, .int a3)] → W p l e { frames := 2, cells := 0, slots := 0, locals := 45 } s m av below meth c H locs 0 0 (MQ below (Qm E none z) av s 0 0 (Ad E)) (F0 m 2 ls []) := by
  have hx := C.1.1
  have hb := C.1.2.1
  intro N
  induction N with
  | zero => intro μ a2 a3 h_a0 hf; cases hf
  | succ N ih =>
    intro μ a2 a3 h_a0 hf H locs ls hI hl
    rw [f_X10_runs_b2] at hf
    refine lv_iload_n hx hb dX10_runs_2 rfl (lv_at hl 2 rfl) ?_
    refine lv_iload_n hx hb dX10_runs_3 rfl (lv_at hl 1 rfl) ?_
    refine lv_icmp_ge (tgt := 105) hx hb dX10_runs_4 rfl (fun hc => ?_) (fun hc => ?_)
    · replace hf := it hf hc
      obtain rfl := Option.some.inj hf
      exact m_vret C hr hlk hI dX10_runs_105
    · replace hf := ie hf hc
      refine lv_aload_n hx hb dX10_runs_7 rfl (lv_at hl 0 rfl) ?_
      refine lv_iload_n hx hb dX10_runs_8 rfl (lv_at hl 2 rfl) ?_
      obtain ⟨q25, e26, hf⟩ := ob hf
      refine mcV (As := [.int a3]) (rest := []) C hI (c_X10_chosen l E h_a0 e26) ml_X10_309 kv_X10_chosen (m_recv C hI h_a0.1 (ce_1000 E _ _ _) rfl) rfl rfl ⟨Nat.le_of_ble_eq_true rfl, Nat.le_of_ble_eq_true rfl⟩ ⟨Nat.zero_le _, Nat.zero_le _⟩ rfl rfl hl.1 (Nat.le_of_ble_eq_true rfl) dX10_runs_9 (st1 := [.int q25]) rfl (fun H locs hI => ?_)
      refine lv_istore hx hb dX10_runs_12 hl (by decide) rfl (fun ls hl => ?_)
      have hl : lv_has ls 8 [(4, .int q25), (0, .ref (ad E 1000 0)), (2, .int a2), (3, .int a3)] := hl
      refine lv_aload_n hx hb dX10_runs_14 rfl (lv_at hl 1 rfl) ?_
      refine lv_iload_n hx hb dX10_runs_15 rfl (lv_at hl 3 rfl) ?_
      refine lv_iload_n hx hb dX10_runs_16 rfl (lv_at hl 2 rfl) ?_
      obtain ⟨q27, e28, hf⟩ := ob hf
      refine mcV (As := [.int a3, .int a2]) (rest := []) C hI (c_X10_nextComing l E h_a0 e28) ml_X10_312 kv_X10_nextComing (m_recv C hI h_a0.1 (ce_1000 E _ _ _) rfl) rfl rfl ⟨Nat.le_of_ble_eq_true rfl, Nat.le_of_ble_eq_true rfl⟩ ⟨Nat.zero_le _, Nat.zero_le _⟩ rfl rfl hl.1 (Nat.le_of_ble_eq_true rfl) dX10_runs_17 (st1 := [.int q27]) rfl (fun H locs hI => ?_)
      refine lv_istore hx hb dX10_runs_20 hl (by decide) rfl (fun ls hl => ?_)
      have hl : lv_has ls 8 [(5, .int q27), (4, .int q25), (0, .ref (ad E 1000 0)), (2, .int a2), (3, .int a3)] := hl
      refine lv_iload hx hb dX10_runs_22 (lv_at hl 1 rfl) ?_
      refine lv_iconst (v := (-1 : Int32)) hx hb dX10_runs_24 kc_m1 ?_
      refine lv_icmp_eq (tgt := 99) hx hb dX10_runs_25 rfl (fun hc => ?_) (fun hc => ?_)
      · replace hf := it hf hc
        refine lv_iload hx hb dX10_runs_99 (lv_at hl 0 rfl) ?_
        refine lv_istore_n hx hb dX10_runs_101 rfl hl (by decide) rfl (fun ls hl => ?_)
        have hl : lv_has ls 8 [(3, .int q27), (5, .int q27), (4, .int q25), (0, .ref (ad E 1000 0)), (2, .int a2)] := hl
        refine lv_goto (tgt := 2) hx hb dX10_runs_102 rfl ?_
        exact ih _ _ _ h_a0 hf hI (lv_sub hl [3, 4, 0] rfl)
      · replace hf := ie hf hc
        refine lv_aload_n hx hb dX10_runs_28 rfl (lv_at hl 2 rfl) ?_
        refine gf_10_52 C hI h_a0.1 fl_X10_124 dX10_runs_29 ?_
        refine lv_iload hx hb dX10_runs_32 (lv_at hl 1 rfl) ?_
        obtain ⟨v29, e30, hf⟩ := ob hf
        refine m_iald C hI h_a0.2.2.2.2.2.2.2.2.2.2.2.2.2.2.2.2.2.2.2.2.2.2.2.2.2.2.2.2.2.2.2.2.2.2.2.1 (ce_1053 E _ _ _) e30 dX10_runs_34 ?_
        refine lv_istore hx hb dX10_runs_35 hl (by decide) rfl (fun ls hl => ?_)
        have hl : lv_has ls 8 [(6, .int v29), (5, .int q27), (4, .int q25), (0, .ref (ad E 1000 0)), (2, .int a2), (3, .int a3)] := hl
        refine lv_iload hx hb dX10_runs_37 (lv_at hl 0 rfl) ?_
        refine lv_iload hx hb dX10_runs_39 (lv_at hl 1 rfl) ?_
        refine lv_iload_n hx hb dX10_runs_41 rfl (lv_at hl 5 rfl) ?_
        refine lv_isub hx hb dX10_runs_42 ?_
        refine lv_icmp_ge (tgt := 51) hx hb dX10_runs_43 rfl (fun hc => ?_) (fun hc => ?_)
        · replace hf := it hf hc
          refine lv_iload hx hb dX10_runs_51 (lv_at hl 1 rfl) ?_
          refine lv_iload_n hx hb dX10_runs_53 rfl (lv_at hl 5 rfl) ?_
          refine lv_isub hx hb dX10_runs_54 ?_
          exact cb_X10_runs_55 C hr hlk ih _ _ _ _ _ h_a0 hf hI (lv_sub hl [3, 4, 5, 2] rfl)
        · replace hf := ie hf hc
          refine lv_iload hx hb dX10_runs_46 (lv_at hl 0 rfl) ?_
          refine lv_goto (tgt := 55) hx hb dX10_runs_48 rfl ?_
          exact cb_X10_runs_55 C hr hlk ih _ _ _ _ _ h_a0 hf hI (lv_sub hl [3, 4, 5, 2] rfl)
def f_X10_runs (F : Nat) (μ : Mm) (p1 : Int32) (p2 : Int32) : Option Mm :=
 f_X10_runs_b2 F F μ p2 p1
set_option maxHeartbeats 4000000 in
set_option maxRecDepth 100000 in
theorem c_X10_runs (l : Launch) (E : En) {F : Nat} {μ : Mm} {p1 : Int32} {p2 : Int32} (h0 : l10 E 0) {z : Mm} (hf : f_X10_runs F μ p1 p2 = some z) : Met l yX10_runs (wt yX10_runs cX10_runs 8 (none : Option FieldType)) { frames := 2, cells := 0, slots := 0, locals := 45 } (Pm E [.ref (ad E 1000 0), .int p1, .int p2] μ) (Qm E none z) 0 0 (Ad E) := by
  unfold f_X10_runs at hf
  refine met_of (cc := cX10_runs) (nL := 8) (ret := (none : Option FieldType)) (by decide) _ (Nat.le_of_ble_eq_true rfl) ?_
  intro p e s m below meth c C hr hlk hI ls hl
  have hx := C.1.1
  have hb := C.1.2.1
  have hl : lv_has ls 8 [(0, .ref (ad E 1000 0)), (1, .int p1), (2, .int p2)] := hl
  refine lv_iload_n hx hb dX10_runs_0 rfl (lv_at hl 1 rfl) ?_
  refine lv_istore_n hx hb dX10_runs_1 rfl hl (by decide) rfl (fun ls hl => ?_)
  have hl : lv_has ls 8 [(3, .int p1), (0, .ref (ad E 1000 0)), (1, .int p1), (2, .int p2)] := hl
  exact cb_X10_runs_2 C hr hlk  _ _ _ _ h0 hf hI (lv_sub hl [1, 3, 0] rfl)

theorem dX10_doneOf_0 : decode cX10_doneOf 0 = .ok (.iconst 0, 1) := by decide +kernel
theorem dX10_doneOf_1 : decode cX10_doneOf 1 = .ok (.istore_n 3, 1) := by decide +kernel
theorem dX10_doneOf_2 : decode cX10_doneOf 2 = .ok (.iload_n 3, 1) := by decide +kernel
theorem dX10_doneOf_3 : decode cX10_doneOf 3 = .ok (.aload_n 0, 1) := by decide +kernel
theorem dX10_doneOf_4 : decode cX10_doneOf 4 = .ok (.getfield 306, 3) := by decide +kernel
theorem dX10_doneOf_7 : decode cX10_doneOf 7 = .ok (.if_icmp .ge 36, 3) := by decide +kernel
theorem dX10_doneOf_10 : decode cX10_doneOf 10 = .ok (.aload_n 0, 1) := by decide +kernel
theorem dX10_doneOf_11 : decode cX10_doneOf 11 = .ok (.getfield 115, 3) := by decide +kernel
theorem dX10_doneOf_14 : decode cX10_doneOf 14 = .ok (.iload_n 3, 1) := by decide +kernel
theorem dX10_doneOf_15 : decode cX10_doneOf 15 = .ok (.iaload, 1) := by decide +kernel
theorem dX10_doneOf_16 : decode cX10_doneOf 16 = .ok (.iload_n 1, 1) := by decide +kernel
theorem dX10_doneOf_17 : decode cX10_doneOf 17 = .ok (.if_icmp .ne 20, 3) := by decide +kernel
theorem dX10_doneOf_20 : decode cX10_doneOf 20 = .ok (.aload_n 0, 1) := by decide +kernel
theorem dX10_doneOf_21 : decode cX10_doneOf 21 = .ok (.getfield 118, 3) := by decide +kernel
theorem dX10_doneOf_24 : decode cX10_doneOf 24 = .ok (.iload_n 3, 1) := by decide +kernel
theorem dX10_doneOf_25 : decode cX10_doneOf 25 = .ok (.iaload, 1) := by decide +kernel
theorem dX10_doneOf_26 : decode cX10_doneOf 26 = .ok (.iload_n 2, 1) := by decide +kernel
theorem dX10_doneOf_27 : decode cX10_doneOf 27 = .ok (.if_icmp .ne 10, 3) := by decide +kernel
theorem dX10_doneOf_30 : decode cX10_doneOf 30 = .ok (.aload_n 0, 1) := by decide +kernel
theorem dX10_doneOf_31 : decode cX10_doneOf 31 = .ok (.getfield 127, 3) := by decide +kernel
theorem dX10_doneOf_34 : decode cX10_doneOf 34 = .ok (.iload_n 3, 1) := by decide +kernel
theorem dX10_doneOf_35 : decode cX10_doneOf 35 = .ok (.iaload, 1) := by decide +kernel
theorem dX10_doneOf_36 : decode cX10_doneOf 36 = .ok (.ireturn, 1) := by decide +kernel
theorem dX10_doneOf_37 : decode cX10_doneOf 37 = .ok (.iinc 3 1, 3) := by decide +kernel
theorem dX10_doneOf_40 : decode cX10_doneOf 40 = .ok (.goto (-38), 3) := by decide +kernel
theorem dX10_doneOf_43 : decode cX10_doneOf 43 = .ok (.iconst (-1), 1) := by decide +kernel
theorem dX10_doneOf_44 : decode cX10_doneOf 44 = .ok (.ireturn, 1) := by decide +kernel
def f_X10_doneOf_b2 (F : Nat) (μ : Mm) : Nat → Int32 → Int32 → Int32 → Option Int32
 | 0, _, _, _ => none
 | N + 1, a1, a2, a3 =>
 if (μ.1 1000 0 48) ≤ a3 then
 some (-1 : Int32)
 else
 (ra μ 1050 0 400 a3).bind fun v7 =>
 if v7 = a1 then
 (ra μ 1051 0 400 a3).bind fun v9 =>
 if v9 = a2 then
 (ra μ 1054 0 400 a3).bind fun v11 =>
 some v11
 else
 f_X10_doneOf_b2 F μ N a1 a2 (a3 + (1 : Int32))
 else
 f_X10_doneOf_b2 F μ N a1 a2 (a3 + (1 : Int32))
set_option maxHeartbeats 4000000 in
set_option maxRecDepth 100000 in
theorem cb_X10_doneOf_2 {l : Launch} {E : En} {p : Program} {e : Env} {s : State} {m : MethodId} {av : Array Value} {below : List Frame} {meth : Method} {c : Code} (C : Cx E p s m av c cX10_doneOf 4 yX10_doneOf.cls) (hr : meth.sig.returnType = (some .int)) (hlk : meth.locks = false) {F : Nat} {μ : Mm} {z : Int32} : ∀ (N : Nat) (a1 : Int32) (a2 : Int32) (a3 : Int32) (h_a0 : l10 E 0), f_X10_doneOf_b2 F μ N a1 a2 a3 = some z → ∀ {H : Heap} {locs : List Loc} {ls : Array Slot}, Iv E s μ H locs → lv_has ls 4 [(0, .ref (ad E 1000 0)), (1, .int a1), (2, .int a2), (3, .int a3)] → W p l e { frames := 0, cells := 0, slots := 0, locals := 0 } s m av below meth c H locs 0 0 (MQ below (Qm E (some (.int z)) μ) av s 0 0 (Ad E)) (F0 m 2 ls []) := by
  have hx := C.1.1
  have hb := C.1.2.1
  intro N
  induction N with
  | zero => intro a1 a2 a3 h_a0 hf; cases hf
  | succ N ih =>
    intro a1 a2 a3 h_a0 hf H locs ls hI hl
    rw [f_X10_doneOf_b2] at hf
    refine lv_iload_n hx hb dX10_doneOf_2 rfl (lv_at hl 3 rfl) ?_
    refine lv_aload_n hx hb dX10_doneOf_3 rfl (lv_at hl 0 rfl) ?_
    refine gf_10_48 C hI h_a0.1 fl_X10_306 dX10_doneOf_4 ?_
    refine lv_icmp_ge (tgt := 43) hx hb dX10_doneOf_7 rfl (fun hc => ?_) (fun hc => ?_)
    · replace hf := it hf hc
      refine lv_iconst (v := (-1 : Int32)) hx hb dX10_doneOf_43 kc_m1 ?_
      obtain rfl := Option.some.inj hf
      exact m_iret C hr hlk hI dX10_doneOf_44
    · replace hf := ie hf hc
      refine lv_aload_n hx hb dX10_doneOf_10 rfl (lv_at hl 0 rfl) ?_
      refine gf_10_49 C hI h_a0.1 fl_X10_115 dX10_doneOf_11 ?_
      refine lv_iload_n hx hb dX10_doneOf_14 rfl (lv_at hl 3 rfl) ?_
      obtain ⟨v7, e8, hf⟩ := ob hf
      refine m_iald C hI h_a0.2.2.2.2.2.2.2.2.2.2.2.2.2.2.2.2.2.2.2.2.2.2.2.2.2.2.2.2.2.2.2.2.1 (ce_1050 E _ _ _) e8 dX10_doneOf_15 ?_
      refine lv_iload_n hx hb dX10_doneOf_16 rfl (lv_at hl 1 rfl) ?_
      refine lv_icmp_ne (tgt := 37) hx hb dX10_doneOf_17 rfl (fun hc => ?_) (fun hc => ?_)
      · replace hf := ie hf hc
        refine lv_iinc (v := a3 + (1 : Int32)) hx hb dX10_doneOf_37 hl (k := 3) rfl (ki_1 _) (by decide) rfl (fun ls hl => ?_)
        have hl : lv_has ls 4 [(3, .int (a3 + (1 : Int32))), (0, .ref (ad E 1000 0)), (1, .int a1), (2, .int a2)] := hl
        refine lv_goto (tgt := 2) hx hb dX10_doneOf_40 rfl ?_
        exact ih _ _ _ h_a0 hf hI (lv_sub hl [1, 2, 3, 0] rfl)
      · replace hf := it hf hc
        refine lv_aload_n hx hb dX10_doneOf_20 rfl (lv_at hl 0 rfl) ?_
        refine gf_10_50 C hI h_a0.1 fl_X10_118 dX10_doneOf_21 ?_
        refine lv_iload_n hx hb dX10_doneOf_24 rfl (lv_at hl 3 rfl) ?_
        obtain ⟨v9, e10, hf⟩ := ob hf
        refine m_iald C hI h_a0.2.2.2.2.2.2.2.2.2.2.2.2.2.2.2.2.2.2.2.2.2.2.2.2.2.2.2.2.2.2.2.2.2.1 (ce_1051 E _ _ _) e10 dX10_doneOf_25 ?_
        refine lv_iload_n hx hb dX10_doneOf_26 rfl (lv_at hl 2 rfl) ?_
        refine lv_icmp_ne (tgt := 37) hx hb dX10_doneOf_27 rfl (fun hc => ?_) (fun hc => ?_)
        · replace hf := ie hf hc
          refine lv_iinc (v := a3 + (1 : Int32)) hx hb dX10_doneOf_37 hl (k := 3) rfl (ki_1 _) (by decide) rfl (fun ls hl => ?_)
          have hl : lv_has ls 4 [(3, .int (a3 + (1 : Int32))), (0, .ref (ad E 1000 0)), (1, .int a1), (2, .int a2)] := hl
          refine lv_goto (tgt := 2) hx hb dX10_doneOf_40 rfl ?_
          exact ih _ _ _ h_a0 hf hI (lv_sub hl [1, 2, 3, 0] rfl)
        · replace hf := it hf hc
          refine lv_aload_n hx hb dX10_doneOf_30 rfl (lv_at hl 0 rfl) ?_
          refine gf_10_53 C hI h_a0.1 fl_X10_127 dX10_doneOf_31 ?_
          refine lv_iload_n hx hb dX10_doneOf_34 rfl (lv_at hl 3 rfl) ?_
          obtain ⟨v11, e12, hf⟩ := ob hf
          refine m_iald C hI h_a0.2.2.2.2.2.2.2.2.2.2.2.2.2.2.2.2.2.2.2.2.2.2.2.2.2.2.2.2.2.2.2.2.2.2.2.2.1 (ce_1054 E _ _ _) e12 dX10_doneOf_35 ?_
          obtain rfl := Option.some.inj hf
          exact m_iret C hr hlk hI dX10_doneOf_36
def f_X10_doneOf (F : Nat) (μ : Mm) (p1 : Int32) (p2 : Int32) : Option Int32 :=
 f_X10_doneOf_b2 F μ F p1 p2 (0 : Int32)
set_option maxHeartbeats 4000000 in
set_option maxRecDepth 100000 in
theorem c_X10_doneOf (l : Launch) (E : En) {F : Nat} {μ : Mm} {p1 : Int32} {p2 : Int32} (h0 : l10 E 0) {z : Int32} (hf : f_X10_doneOf F μ p1 p2 = some z) : Met l yX10_doneOf (wt yX10_doneOf cX10_doneOf 4 (some .int)) { frames := 0, cells := 0, slots := 0, locals := 0 } (Pm E [.ref (ad E 1000 0), .int p1, .int p2] μ) (Qm E (some (.int z)) μ) 0 0 (Ad E) := by
  unfold f_X10_doneOf at hf
  refine met_of (cc := cX10_doneOf) (nL := 4) (ret := (some .int)) (by decide) _ (Nat.le_of_ble_eq_true rfl) ?_
  intro p e s m below meth c C hr hlk hI ls hl
  have hx := C.1.1
  have hb := C.1.2.1
  have hl : lv_has ls 4 [(0, .ref (ad E 1000 0)), (1, .int p1), (2, .int p2)] := hl
  refine lv_iconst (v := (0 : Int32)) hx hb dX10_doneOf_0 kc_0 ?_
  refine lv_istore_n hx hb dX10_doneOf_1 rfl hl (by decide) rfl (fun ls hl => ?_)
  have hl : lv_has ls 4 [(3, .int (0 : Int32)), (0, .ref (ad E 1000 0)), (1, .int p1), (2, .int p2)] := hl
  exact cb_X10_doneOf_2 C hr hlk  _ _ _ _ h0 hf hI (lv_sub hl [1, 2, 3, 0] rfl)

theorem dX10_jitter_0 : decode cX10_jitter 0 = .ok (.lconst 0, 1) := by decide +kernel
theorem dX10_jitter_1 : decode cX10_jitter 1 = .ok (.lstore_n 2, 1) := by decide +kernel
theorem dX10_jitter_2 : decode cX10_jitter 2 = .ok (.lconst 0, 1) := by decide +kernel
theorem dX10_jitter_3 : decode cX10_jitter 3 = .ok (.lstore 4, 2) := by decide +kernel
theorem dX10_jitter_5 : decode cX10_jitter 5 = .ok (.iconst 0, 1) := by decide +kernel
theorem dX10_jitter_6 : decode cX10_jitter 6 = .ok (.istore 6, 2) := by decide +kernel
theorem dX10_jitter_8 : decode cX10_jitter 8 = .ok (.iload 6, 2) := by decide +kernel
theorem dX10_jitter_10 : decode cX10_jitter 10 = .ok (.aload_n 0, 1) := by decide +kernel
theorem dX10_jitter_11 : decode cX10_jitter 11 = .ok (.getfield 251, 3) := by decide +kernel
theorem dX10_jitter_14 : decode cX10_jitter 14 = .ok (.if_icmp .ge 76, 3) := by decide +kernel
theorem dX10_jitter_17 : decode cX10_jitter 17 = .ok (.aload_n 0, 1) := by decide +kernel
theorem dX10_jitter_18 : decode cX10_jitter 18 = .ok (.getfield 42, 3) := by decide +kernel
theorem dX10_jitter_21 : decode cX10_jitter 21 = .ok (.aload_n 0, 1) := by decide +kernel
theorem dX10_jitter_22 : decode cX10_jitter 22 = .ok (.aload_n 0, 1) := by decide +kernel
theorem dX10_jitter_23 : decode cX10_jitter 23 = .ok (.getfield 94, 3) := by decide +kernel
theorem dX10_jitter_26 : decode cX10_jitter 26 = .ok (.iload 6, 2) := by decide +kernel
theorem dX10_jitter_28 : decode cX10_jitter 28 = .ok (.iaload, 1) := by decide +kernel
theorem dX10_jitter_29 : decode cX10_jitter 29 = .ok (.invokevirtual 190, 3) := by decide +kernel
theorem dX10_jitter_32 : decode cX10_jitter 32 = .ok (.iaload, 1) := by decide +kernel
theorem dX10_jitter_33 : decode cX10_jitter 33 = .ok (.i2l, 1) := by decide +kernel
theorem dX10_jitter_34 : decode cX10_jitter 34 = .ok (.iload 6, 2) := by decide +kernel
theorem dX10_jitter_36 : decode cX10_jitter 36 = .ok (.i2l, 1) := by decide +kernel
theorem dX10_jitter_37 : decode cX10_jitter 37 = .ok (.iload_n 1, 1) := by decide +kernel
theorem dX10_jitter_38 : decode cX10_jitter 38 = .ok (.i2l, 1) := by decide +kernel
theorem dX10_jitter_39 : decode cX10_jitter 39 = .ok (.lmul, 1) := by decide +kernel
theorem dX10_jitter_40 : decode cX10_jitter 40 = .ok (.lsub, 1) := by decide +kernel
theorem dX10_jitter_41 : decode cX10_jitter 41 = .ok (.lstore 7, 2) := by decide +kernel
theorem dX10_jitter_43 : decode cX10_jitter 43 = .ok (.iload 6, 2) := by decide +kernel
theorem dX10_jitter_45 : decode cX10_jitter 45 = .ok (.ifCond .eq 10, 3) := by decide +kernel
theorem dX10_jitter_48 : decode cX10_jitter 48 = .ok (.lload 7, 2) := by decide +kernel
theorem dX10_jitter_50 : decode cX10_jitter 50 = .ok (.lload_n 2, 1) := by decide +kernel
theorem dX10_jitter_51 : decode cX10_jitter 51 = .ok (.lcmp, 1) := by decide +kernel
theorem dX10_jitter_52 : decode cX10_jitter 52 = .ok (.ifCond .ge 8, 3) := by decide +kernel
theorem dX10_jitter_55 : decode cX10_jitter 55 = .ok (.lload 7, 2) := by decide +kernel
theorem dX10_jitter_57 : decode cX10_jitter 57 = .ok (.goto 4, 3) := by decide +kernel
theorem dX10_jitter_60 : decode cX10_jitter 60 = .ok (.lload_n 2, 1) := by decide +kernel
theorem dX10_jitter_61 : decode cX10_jitter 61 = .ok (.lstore_n 2, 1) := by decide +kernel
theorem dX10_jitter_62 : decode cX10_jitter 62 = .ok (.iload 6, 2) := by decide +kernel
theorem dX10_jitter_64 : decode cX10_jitter 64 = .ok (.ifCond .eq 11, 3) := by decide +kernel
theorem dX10_jitter_67 : decode cX10_jitter 67 = .ok (.lload 7, 2) := by decide +kernel
theorem dX10_jitter_69 : decode cX10_jitter 69 = .ok (.lload 4, 2) := by decide +kernel
theorem dX10_jitter_71 : decode cX10_jitter 71 = .ok (.lcmp, 1) := by decide +kernel
theorem dX10_jitter_72 : decode cX10_jitter 72 = .ok (.ifCond .le 8, 3) := by decide +kernel
theorem dX10_jitter_75 : decode cX10_jitter 75 = .ok (.lload 7, 2) := by decide +kernel
theorem dX10_jitter_77 : decode cX10_jitter 77 = .ok (.goto 5, 3) := by decide +kernel
theorem dX10_jitter_80 : decode cX10_jitter 80 = .ok (.lload 4, 2) := by decide +kernel
theorem dX10_jitter_82 : decode cX10_jitter 82 = .ok (.lstore 4, 2) := by decide +kernel
theorem dX10_jitter_84 : decode cX10_jitter 84 = .ok (.iinc 6 1, 3) := by decide +kernel
theorem dX10_jitter_87 : decode cX10_jitter 87 = .ok (.goto (-79), 3) := by decide +kernel
theorem dX10_jitter_90 : decode cX10_jitter 90 = .ok (.lload 4, 2) := by decide +kernel
theorem dX10_jitter_92 : decode cX10_jitter 92 = .ok (.lload_n 2, 1) := by decide +kernel
theorem dX10_jitter_93 : decode cX10_jitter 93 = .ok (.lsub, 1) := by decide +kernel
theorem dX10_jitter_94 : decode cX10_jitter 94 = .ok (.l2i, 1) := by decide +kernel
theorem dX10_jitter_95 : decode cX10_jitter 95 = .ok (.ireturn, 1) := by decide +kernel
def f_X10_jitter_b61 (F : Nat) (μ : Mm) (K8 : Int32 → Int64 → Int64 → Int32 → Option Int32) (a1 : Int32) (a4 : Int64) (a6 : Int32) (a7 : Int64) (s0 : Int64) : Option Int32 :=
 if a6 = 0 then
 K8 a1 s0 a7 (a6 + (1 : Int32))
 else
 if (lg_cmp a7 a4) ≤ 0 then
 K8 a1 s0 a4 (a6 + (1 : Int32))
 else
 K8 a1 s0 a7 (a6 + (1 : Int32))
set_option maxHeartbeats 4000000 in
set_option maxRecDepth 100000 in
theorem cb_X10_jitter_61 {l : Launch} {E : En} {p : Program} {e : Env} {s : State} {m : MethodId} {av : Array Value} {below : List Frame} {meth : Method} {c : Code} (C : Cx E p s m av c cX10_jitter 9 yX10_jitter.cls) (hr : meth.sig.returnType = (some .int)) (hlk : meth.locks = false) {F : Nat} {μ : Mm} {K8 : Int32 → Int64 → Int64 → Int32 → Option Int32} {z : Int32} (hK8 : ∀ (a1 : Int32) (a2 : Int64) (a4 : Int64) (a6 : Int32) (h_a0 : l10 E 0), K8 a1 a2 a4 a6 = some z → ∀ {H : Heap} {locs : List Loc} {ls : Array Slot}, Iv E s μ H locs → lv_has ls 9 [(0, .ref (ad E 1000 0)), (1, .int a1), (2, .long a2), (4, .long a4), (6, .int a6)] → W p l e { frames := 1, cells := 0, slots := 0, locals := 21 } s m av below meth c H locs 0 0 (MQ below (Qm E (some (.int z)) μ) av s 0 0 (Ad E)) (F0 m 8 ls [])) : ∀ (a1 : Int32) (a4 : Int64) (a6 : Int32) (a7 : Int64) (s0 : Int64) (h_a0 : l10 E 0), f_X10_jitter_b61 F μ K8 a1 a4 a6 a7 s0 = some z → ∀ {H : Heap} {locs : List Loc} {ls : Array Slot}, Iv E s μ H locs → lv_has ls 9 [(0, .ref (ad E 1000 0)), (1, .int a1), (4, .long a4), (6, .int a6), (7, .long a7)] → W p l e { frames := 1, cells := 0, slots := 0, locals := 21 } s m av below meth c H locs 0 0 (MQ below (Qm E (some (.int z)) μ) av s 0 0 (Ad E)) (F0 m 61 ls [.long s0]) := by
  have hx := C.1.1
  have hb := C.1.2.1
  intro a1 a4 a6 a7 s0 h_a0 hf H locs ls hI hl
  unfold f_X10_jitter_b61 at hf
  refine lv_lstore_n hx hb dX10_jitter_61 rfl hl (by decide) rfl (fun ls hl => ?_)
  have hl : lv_has ls 9 [(2, .long s0), (0, .ref (ad E 1000 0)), (1, .int a1), (4, .long a4), (6, .int a6), (7, .long a7)] := hl
  refine lv_iload hx hb dX10_jitter_62 (lv_at hl 4 rfl) ?_
  refine lv_if_eq (tgt := 75) hx hb dX10_jitter_64 rfl (fun hc => ?_) (fun hc => ?_)
  · replace hf := it hf hc
    refine lv_lload hx hb dX10_jitter_75 (lv_at hl 5 rfl) ?_
    refine lv_goto (tgt := 82) hx hb dX10_jitter_77 rfl ?_
    refine lv_lstore hx hb dX10_jitter_82 hl (by decide) rfl (fun ls hl => ?_)
    have hl : lv_has ls 9 [(4, .long a7), (2, .long s0), (0, .ref (ad E 1000 0)), (1, .int a1), (6, .int a6), (7, .long a7)] := hl
    refine lv_iinc (v := a6 + (1 : Int32)) hx hb dX10_jitter_84 hl (k := 4) rfl (ki_1 _) (by decide) rfl (fun ls hl => ?_)
    have hl : lv_has ls 9 [(6, .int (a6 + (1 : Int32))), (4, .long a7), (2, .long s0), (0, .ref (ad E 1000 0)), (1, .int a1), (7, .long a7)] := hl
    refine lv_goto (tgt := 8) hx hb dX10_jitter_87 rfl ?_
    exact hK8 _ _ _ _ h_a0 hf hI (lv_sub hl [3, 4, 2, 1, 0] rfl)
  · replace hf := ie hf hc
    refine lv_lload hx hb dX10_jitter_67 (lv_at hl 5 rfl) ?_
    refine lv_lload hx hb dX10_jitter_69 (lv_at hl 3 rfl) ?_
    refine W.lcmp hx hb dX10_jitter_71 ?_
    refine lv_if_le (tgt := 80) hx hb dX10_jitter_72 rfl (fun hc => ?_) (fun hc => ?_)
    · replace hf := it hf hc
      refine lv_lload hx hb dX10_jitter_80 (lv_at hl 3 rfl) ?_
      refine lv_lstore hx hb dX10_jitter_82 hl (by decide) rfl (fun ls hl => ?_)
      have hl : lv_has ls 9 [(4, .long a4), (2, .long s0), (0, .ref (ad E 1000 0)), (1, .int a1), (6, .int a6), (7, .long a7)] := hl
      refine lv_iinc (v := a6 + (1 : Int32)) hx hb dX10_jitter_84 hl (k := 4) rfl (ki_1 _) (by decide) rfl (fun ls hl => ?_)
      have hl : lv_has ls 9 [(6, .int (a6 + (1 : Int32))), (4, .long a4), (2, .long s0), (0, .ref (ad E 1000 0)), (1, .int a1), (7, .long a7)] := hl
      refine lv_goto (tgt := 8) hx hb dX10_jitter_87 rfl ?_
      exact hK8 _ _ _ _ h_a0 hf hI (lv_sub hl [3, 4, 2, 1, 0] rfl)
    · replace hf := ie hf hc
      refine lv_lload hx hb dX10_jitter_75 (lv_at hl 5 rfl) ?_
      refine lv_goto (tgt := 82) hx hb dX10_jitter_77 rfl ?_
      refine lv_lstore hx hb dX10_jitter_82 hl (by decide) rfl (fun ls hl => ?_)
      have hl : lv_has ls 9 [(4, .long a7), (2, .long s0), (0, .ref (ad E 1000 0)), (1, .int a1), (6, .int a6), (7, .long a7)] := hl
      refine lv_iinc (v := a6 + (1 : Int32)) hx hb dX10_jitter_84 hl (k := 4) rfl (ki_1 _) (by decide) rfl (fun ls hl => ?_)
      have hl : lv_has ls 9 [(6, .int (a6 + (1 : Int32))), (4, .long a7), (2, .long s0), (0, .ref (ad E 1000 0)), (1, .int a1), (7, .long a7)] := hl
      refine lv_goto (tgt := 8) hx hb dX10_jitter_87 rfl ?_
      exact hK8 _ _ _ _ h_a0 hf hI (lv_sub hl [3, 4, 2, 1, 0] rfl)
def f_X10_jitter_b8 (F : Nat) (μ : Mm) : Nat → Int32 → Int64 → Int64 → Int32 → Option Int32
 | 0, _, _, _, _ => none
 | N + 1, a1, a2, a4, a6 =>
 if (μ.1 1000 0 36) ≤ a6 then
 some ((a4 - a2).toInt32)
 else
 (ra μ 1038 0 100 a6).bind fun v7 =>
 (f_X10_spot μ v7).bind fun q9 =>
 (ra μ 1012 0 4200 q9).bind fun v11 =>
 if a6 = 0 then
 f_X10_jitter_b61 F μ (fun a1 a2 a4 a6 => f_X10_jitter_b8 F μ N a1 a2 a4 a6) a1 a4 a6 (v11.toInt64 - (a6.toInt64 * a1.toInt64)) (v11.toInt64 - (a6.toInt64 * a1.toInt64))
 else
 if 0 ≤ (lg_cmp (v11.toInt64 - (a6.toInt64 * a1.toInt64)) a2) then
 f_X10_jitter_b61 F μ (fun a1 a2 a4 a6 => f_X10_jitter_b8 F μ N a1 a2 a4 a6) a1 a4 a6 (v11.toInt64 - (a6.toInt64 * a1.toInt64)) a2
 else
 f_X10_jitter_b61 F μ (fun a1 a2 a4 a6 => f_X10_jitter_b8 F μ N a1 a2 a4 a6) a1 a4 a6 (v11.toInt64 - (a6.toInt64 * a1.toInt64)) (v11.toInt64 - (a6.toInt64 * a1.toInt64))
set_option maxHeartbeats 4000000 in
set_option maxRecDepth 100000 in
theorem cb_X10_jitter_8 {l : Launch} {E : En} {p : Program} {e : Env} {s : State} {m : MethodId} {av : Array Value} {below : List Frame} {meth : Method} {c : Code} (C : Cx E p s m av c cX10_jitter 9 yX10_jitter.cls) (hr : meth.sig.returnType = (some .int)) (hlk : meth.locks = false) {F : Nat} {μ : Mm} {z : Int32} : ∀ (N : Nat) (a1 : Int32) (a2 : Int64) (a4 : Int64) (a6 : Int32) (h_a0 : l10 E 0), f_X10_jitter_b8 F μ N a1 a2 a4 a6 = some z → ∀ {H : Heap} {locs : List Loc} {ls : Array Slot}, Iv E s μ H locs → lv_has ls 9 [(0, .ref (ad E 1000 0)), (1, .int a1), (2, .long a2), (4, .long a4), (6, .int a6)] → W p l e { frames := 1, cells := 0, slots := 0, locals := 21 } s m av below meth c H locs 0 0 (MQ below (Qm E (some (.int z)) μ) av s 0 0 (Ad E)) (F0 m 8 ls []) := by
  have hx := C.1.1
  have hb := C.1.2.1
  intro N
  induction N with
  | zero => intro a1 a2 a4 a6 h_a0 hf; cases hf
  | succ N ih =>
    intro a1 a2 a4 a6 h_a0 hf H locs ls hI hl
    rw [f_X10_jitter_b8] at hf
    refine lv_iload hx hb dX10_jitter_8 (lv_at hl 4 rfl) ?_
    refine lv_aload_n hx hb dX10_jitter_10 rfl (lv_at hl 0 rfl) ?_
    refine gf_10_36 C hI h_a0.1 fl_X10_251 dX10_jitter_11 ?_
    refine lv_icmp_ge (tgt := 90) hx hb dX10_jitter_14 rfl (fun hc => ?_) (fun hc => ?_)
    · replace hf := it hf hc
      refine lv_lload hx hb dX10_jitter_90 (lv_at hl 3 rfl) ?_
      refine lv_lload_n hx hb dX10_jitter_92 rfl (lv_at hl 2 rfl) ?_
      refine lv_lsub hx hb dX10_jitter_93 ?_
      refine lv_l2i (v := (a4 - a2).toInt32) hx hb dX10_jitter_94 rfl ?_
      obtain rfl := Option.some.inj hf
      exact m_iret C hr hlk hI dX10_jitter_95
    · replace hf := ie hf hc
      refine lv_aload_n hx hb dX10_jitter_17 rfl (lv_at hl 0 rfl) ?_
      refine gf_10_11 C hI h_a0.1 fl_X10_42 dX10_jitter_18 ?_
      refine lv_aload_n hx hb dX10_jitter_21 rfl (lv_at hl 0 rfl) ?_
      refine lv_aload_n hx hb dX10_jitter_22 rfl (lv_at hl 0 rfl) ?_
      refine gf_10_37 C hI h_a0.1 fl_X10_94 dX10_jitter_23 ?_
      refine lv_iload hx hb dX10_jitter_26 (lv_at hl 4 rfl) ?_
      obtain ⟨v7, e8, hf⟩ := ob hf
      refine m_iald C hI h_a0.2.2.2.2.2.2.2.2.2.2.2.2.2.2.2.2.2.2.2.2.2.2.2.2.2.1 (ce_1038 E _ _ _) e8 dX10_jitter_28 ?_
      obtain ⟨q9, e10, hf⟩ := ob hf
      refine mcV (As := [.int v7]) (rest := [.ref (ad E 1012 0)]) C hI (c_X10_spot l E h_a0 e10) ml_X10_190 kv_X10_spot (m_recv C hI h_a0.1 (ce_1000 E _ _ _) rfl) rfl rfl ⟨Nat.le_of_ble_eq_true rfl, Nat.le_of_ble_eq_true rfl⟩ ⟨Nat.zero_le _, Nat.zero_le _⟩ rfl rfl hl.1 (Nat.le_of_ble_eq_true rfl) dX10_jitter_29 (st1 := [.int q9, .ref (ad E 1012 0)]) rfl (fun H locs hI => ?_)
      obtain ⟨v11, e12, hf⟩ := ob hf
      refine m_iald C hI h_a0.2.2.2.2.2.2.2.2.1 (ce_1012 E _ _ _) e12 dX10_jitter_32 ?_
      refine lv_i2l (v := v11.toInt64) hx hb dX10_jitter_33 rfl ?_
      refine lv_iload hx hb dX10_jitter_34 (lv_at hl 4 rfl) ?_
      refine lv_i2l (v := a6.toInt64) hx hb dX10_jitter_36 rfl ?_
      refine lv_iload_n hx hb dX10_jitter_37 rfl (lv_at hl 1 rfl) ?_
      refine lv_i2l (v := a1.toInt64) hx hb dX10_jitter_38 rfl ?_
      refine lv_lmul hx hb dX10_jitter_39 ?_
      refine lv_lsub hx hb dX10_jitter_40 ?_
      refine lv_lstore hx hb dX10_jitter_41 hl (by decide) rfl (fun ls hl => ?_)
      have hl : lv_has ls 9 [(7, .long (v11.toInt64 - (a6.toInt64 * a1.toInt64))), (0, .ref (ad E 1000 0)), (1, .int a1), (2, .long a2), (4, .long a4), (6, .int a6)] := hl
      refine lv_iload hx hb dX10_jitter_43 (lv_at hl 5 rfl) ?_
      refine lv_if_eq (tgt := 55) hx hb dX10_jitter_45 rfl (fun hc => ?_) (fun hc => ?_)
      · replace hf := it hf hc
        refine lv_lload hx hb dX10_jitter_55 (lv_at hl 0 rfl) ?_
        refine lv_goto (tgt := 61) hx hb dX10_jitter_57 rfl ?_
        exact cb_X10_jitter_61 C hr hlk ih _ _ _ _ _ h_a0 hf hI (lv_sub hl [1, 2, 4, 5, 0] rfl)
      · replace hf := ie hf hc
        refine lv_lload hx hb dX10_jitter_48 (lv_at hl 0 rfl) ?_
        refine lv_lload_n hx hb dX10_jitter_50 rfl (lv_at hl 3 rfl) ?_
        refine W.lcmp hx hb dX10_jitter_51 ?_
        refine lv_if_ge (tgt := 60) hx hb dX10_jitter_52 rfl (fun hc => ?_) (fun hc => ?_)
        · replace hf := it hf hc
          refine lv_lload_n hx hb dX10_jitter_60 rfl (lv_at hl 3 rfl) ?_
          exact cb_X10_jitter_61 C hr hlk ih _ _ _ _ _ h_a0 hf hI (lv_sub hl [1, 2, 4, 5, 0] rfl)
        · replace hf := ie hf hc
          refine lv_lload hx hb dX10_jitter_55 (lv_at hl 0 rfl) ?_
          refine lv_goto (tgt := 61) hx hb dX10_jitter_57 rfl ?_
          exact cb_X10_jitter_61 C hr hlk ih _ _ _ _ _ h_a0 hf hI (lv_sub hl [1, 2, 4, 5, 0] rfl)
def f_X10_jitter (F : Nat) (μ : Mm) (p1 : Int32) : Option Int32 :=
 f_X10_jitter_b8 F μ F p1 (0 : Int64) (0 : Int64) (0 : Int32)
set_option maxHeartbeats 4000000 in
set_option maxRecDepth 100000 in
theorem c_X10_jitter (l : Launch) (E : En) {F : Nat} {μ : Mm} {p1 : Int32} (h0 : l10 E 0) {z : Int32} (hf : f_X10_jitter F μ p1 = some z) : Met l yX10_jitter (wt yX10_jitter cX10_jitter 9 (some .int)) { frames := 1, cells := 0, slots := 0, locals := 21 } (Pm E [.ref (ad E 1000 0), .int p1] μ) (Qm E (some (.int z)) μ) 0 0 (Ad E) := by
  unfold f_X10_jitter at hf
  refine met_of (cc := cX10_jitter) (nL := 9) (ret := (some .int)) (by decide) _ (Nat.le_of_ble_eq_true rfl) ?_
  intro p e s m below meth c C hr hlk hI ls hl
  have hx := C.1.1
  have hb := C.1.2.1
  have hl : lv_has ls 9 [(0, .ref (ad E 1000 0)), (1, .int p1)] := hl
  refine lv_lconst (v := (0 : Int64)) hx hb dX10_jitter_0 kl_0 ?_
  refine lv_lstore_n hx hb dX10_jitter_1 rfl hl (by decide) rfl (fun ls hl => ?_)
  have hl : lv_has ls 9 [(2, .long (0 : Int64)), (0, .ref (ad E 1000 0)), (1, .int p1)] := hl
  refine lv_lconst (v := (0 : Int64)) hx hb dX10_jitter_2 kl_0 ?_
  refine lv_lstore hx hb dX10_jitter_3 hl (by decide) rfl (fun ls hl => ?_)
  have hl : lv_has ls 9 [(4, .long (0 : Int64)), (2, .long (0 : Int64)), (0, .ref (ad E 1000 0)), (1, .int p1)] := hl
  refine lv_iconst (v := (0 : Int32)) hx hb dX10_jitter_5 kc_0 ?_
  refine lv_istore hx hb dX10_jitter_6 hl (by decide) rfl (fun ls hl => ?_)
  have hl : lv_has ls 9 [(6, .int (0 : Int32)), (4, .long (0 : Int64)), (2, .long (0 : Int64)), (0, .ref (ad E 1000 0)), (1, .int p1)] := hl
  exact cb_X10_jitter_8 C hr hlk  _ _ _ _ _ h0 hf hI (lv_sub hl [3, 4, 2, 1, 0] rfl)

theorem dX10_isTape_0 : decode cX10_isTape 0 = .ok (.iload_n 0, 1) := by decide +kernel
theorem dX10_isTape_1 : decode cX10_isTape 1 = .ok (.iconst 0, 1) := by decide +kernel
theorem dX10_isTape_2 : decode cX10_isTape 2 = .ok (.iconst 5, 1) := by decide +kernel
theorem dX10_isTape_3 : decode cX10_isTape 3 = .ok (.invokestatic 136, 3) := by decide +kernel
theorem dX10_isTape_6 : decode cX10_isTape 6 = .ok (.ireturn, 1) := by decide +kernel
def f_X10_isTape (μ : Mm) (p0 : Int32) : Option Int32 :=
 (f_X10_in μ p0 (0 : Int32) (5 : Int32)).bind fun q3 =>
 gz q3
set_option maxHeartbeats 4000000 in
set_option maxRecDepth 100000 in
theorem c_X10_isTape (l : Launch) (E : En) {μ : Mm} {p0 : Int32} {z : Int32} (hf : f_X10_isTape μ p0 = some z) : Met l yX10_isTape (wt yX10_isTape cX10_isTape 1 (some .boolean)) { frames := 1, cells := 0, slots := 0, locals := 22 } (Pm E [.int p0] μ) (Qm E (some (.int z)) μ) 0 0 (Ad E) := by
  unfold f_X10_isTape at hf
  refine met_of (cc := cX10_isTape) (nL := 1) (ret := (some .boolean)) (by decide) _ (Nat.le_of_ble_eq_true rfl) ?_
  intro p e s m below meth c C hr hlk hI ls hl
  have hx := C.1.1
  have hb := C.1.2.1
  have hl : lv_has ls 1 [(0, .int p0)] := hl
  refine lv_iload_n hx hb dX10_isTape_0 rfl (lv_at hl 0 rfl) ?_
  refine lv_iconst (v := (0 : Int32)) hx hb dX10_isTape_1 kc_0 ?_
  refine lv_iconst (v := (5 : Int32)) hx hb dX10_isTape_2 kc_5 ?_
  obtain ⟨q3, e4, hf⟩ := ob hf
  refine mcS (As := [.int p0, .int (0 : Int32), .int (5 : Int32)]) (rest := []) C hI (c_X10_in l E  e4) ml_X10_136 ks_X10_in rfl rfl ⟨Nat.le_of_ble_eq_true rfl, Nat.le_of_ble_eq_true rfl⟩ ⟨Nat.zero_le _, Nat.zero_le _⟩ rfl rfl hl.1 (Nat.le_of_ble_eq_true rfl) dX10_isTape_3 (st1 := [.int q3]) rfl (fun H locs hI => ?_)
  obtain ⟨rfl, hn, -⟩ := gz_ok hf
  exact m_zret C hr hlk hI hn dX10_isTape_6

theorem dX10_tape_0 : decode cX10_tape 0 = .ok (.iload_n 1, 1) := by decide +kernel
theorem dX10_tape_1 : decode cX10_tape 1 = .ok (.invokestatic 330, 3) := by decide +kernel
theorem dX10_tape_4 : decode cX10_tape 4 = .ok (.ifCond .eq 18, 3) := by decide +kernel
theorem dX10_tape_7 : decode cX10_tape 7 = .ok (.iload_n 2, 1) := by decide +kernel
theorem dX10_tape_8 : decode cX10_tape 8 = .ok (.iconst 1, 1) := by decide +kernel
theorem dX10_tape_9 : decode cX10_tape 9 = .ok (.iconst 4, 1) := by decide +kernel
theorem dX10_tape_10 : decode cX10_tape 10 = .ok (.invokestatic 136, 3) := by decide +kernel
theorem dX10_tape_13 : decode cX10_tape 13 = .ok (.ifCond .eq 9, 3) := by decide +kernel
theorem dX10_tape_16 : decode cX10_tape 16 = .ok (.iload_n 3, 1) := by decide +kernel
theorem dX10_tape_17 : decode cX10_tape 17 = .ok (.bipush 100, 2) := by decide +kernel
theorem dX10_tape_19 : decode cX10_tape 19 = .ok (.if_icmp .le 5, 3) := by decide +kernel
theorem dX10_tape_22 : decode cX10_tape 22 = .ok (.iconst (-1), 1) := by decide +kernel
theorem dX10_tape_23 : decode cX10_tape 23 = .ok (.ireturn, 1) := by decide +kernel
theorem dX10_tape_24 : decode cX10_tape 24 = .ok (.iload_n 3, 1) := by decide +kernel
theorem dX10_tape_25 : decode cX10_tape 25 = .ok (.ifCond .ge 10, 3) := by decide +kernel
theorem dX10_tape_28 : decode cX10_tape 28 = .ok (.aload_n 0, 1) := by decide +kernel
theorem dX10_tape_29 : decode cX10_tape 29 = .ok (.bipush (-14), 2) := by decide +kernel
theorem dX10_tape_31 : decode cX10_tape 31 = .ok (.invokevirtual 333, 3) := by decide +kernel
theorem dX10_tape_34 : decode cX10_tape 34 = .ok (.ireturn, 1) := by decide +kernel
theorem dX10_tape_35 : decode cX10_tape 35 = .ok (.aload_n 0, 1) := by decide +kernel
theorem dX10_tape_36 : decode cX10_tape 36 = .ok (.getfield 57, 3) := by decide +kernel
theorem dX10_tape_39 : decode cX10_tape 39 = .ok (.iload_n 1, 1) := by decide +kernel
theorem dX10_tape_40 : decode cX10_tape 40 = .ok (.iload_n 2, 1) := by decide +kernel
theorem dX10_tape_41 : decode cX10_tape 41 = .ok (.iastore, 1) := by decide +kernel
theorem dX10_tape_42 : decode cX10_tape 42 = .ok (.aload_n 0, 1) := by decide +kernel
theorem dX10_tape_43 : decode cX10_tape 43 = .ok (.getfield 60, 3) := by decide +kernel
theorem dX10_tape_46 : decode cX10_tape 46 = .ok (.iload_n 1, 1) := by decide +kernel
theorem dX10_tape_47 : decode cX10_tape 47 = .ok (.iload_n 3, 1) := by decide +kernel
theorem dX10_tape_48 : decode cX10_tape 48 = .ok (.iastore, 1) := by decide +kernel
theorem dX10_tape_49 : decode cX10_tape 49 = .ok (.iconst 0, 1) := by decide +kernel
theorem dX10_tape_50 : decode cX10_tape 50 = .ok (.istore 4, 2) := by decide +kernel
theorem dX10_tape_52 : decode cX10_tape 52 = .ok (.iload 4, 2) := by decide +kernel
theorem dX10_tape_54 : decode cX10_tape 54 = .ok (.bipush 100, 2) := by decide +kernel
theorem dX10_tape_56 : decode cX10_tape 56 = .ok (.if_icmp .ge 22, 3) := by decide +kernel
theorem dX10_tape_59 : decode cX10_tape 59 = .ok (.aload_n 0, 1) := by decide +kernel
theorem dX10_tape_60 : decode cX10_tape 60 = .ok (.getfield 63, 3) := by decide +kernel
theorem dX10_tape_63 : decode cX10_tape 63 = .ok (.bipush 100, 2) := by decide +kernel
theorem dX10_tape_65 : decode cX10_tape 65 = .ok (.iload_n 1, 1) := by decide +kernel
theorem dX10_tape_66 : decode cX10_tape 66 = .ok (.imul, 1) := by decide +kernel
theorem dX10_tape_67 : decode cX10_tape 67 = .ok (.iload 4, 2) := by decide +kernel
theorem dX10_tape_69 : decode cX10_tape 69 = .ok (.iadd, 1) := by decide +kernel
theorem dX10_tape_70 : decode cX10_tape 70 = .ok (.lconst 0, 1) := by decide +kernel
theorem dX10_tape_71 : decode cX10_tape 71 = .ok (.lastore, 1) := by decide +kernel
theorem dX10_tape_72 : decode cX10_tape 72 = .ok (.iinc 4 1, 3) := by decide +kernel
theorem dX10_tape_75 : decode cX10_tape 75 = .ok (.goto (-23), 3) := by decide +kernel
theorem dX10_tape_78 : decode cX10_tape 78 = .ok (.iload_n 3, 1) := by decide +kernel
theorem dX10_tape_79 : decode cX10_tape 79 = .ok (.ireturn, 1) := by decide +kernel
def f_X10_tape_b52 (F : Nat) : Nat → Mm → Int32 → Int32 → Int32 → Option (Int32 × Mm)
 | 0, _, _, _, _ => none
 | N + 1, μ, a1, a3, a4 =>
 if (100 : Int32) ≤ a4 then
 some (a3, μ)
 else
 (wg μ 1022 0 600 (((100 : Int32) * a1) + a4) (0 : Int64)).bind fun m13 =>
 f_X10_tape_b52 F N m13 a1 a3 (a4 + (1 : Int32))
set_option maxHeartbeats 4000000 in
set_option maxRecDepth 100000 in
theorem cb_X10_tape_52 {l : Launch} {E : En} {p : Program} {e : Env} {s : State} {m : MethodId} {av : Array Value} {below : List Frame} {meth : Method} {c : Code} (C : Cx E p s m av c cX10_tape 5 yX10_tape.cls) (hr : meth.sig.returnType = (some .int)) (hlk : meth.locks = false) {F : Nat} {z : Int32 × Mm} : ∀ (N : Nat) (μ : Mm) (a1 : Int32) (a3 : Int32) (a4 : Int32) (h_a0 : l10 E 0), f_X10_tape_b52 F N μ a1 a3 a4 = some z → ∀ {H : Heap} {locs : List Loc} {ls : Array Slot}, Iv E s μ H locs → lv_has ls 5 [(0, .ref (ad E 1000 0)), (1, .int a1), (3, .int a3), (4, .int a4)] → W p l e { frames := 2, cells := 0, slots := 0, locals := 42 } s m av below meth c H locs 0 0 (MQ below (Qm E (some (.int z.1)) z.2) av s 0 0 (Ad E)) (F0 m 52 ls []) := by
  have hx := C.1.1
  have hb := C.1.2.1
  intro N
  induction N with
  | zero => intro μ a1 a3 a4 h_a0 hf; cases hf
  | succ N ih =>
    intro μ a1 a3 a4 h_a0 hf H locs ls hI hl
    rw [f_X10_tape_b52] at hf
    refine lv_iload hx hb dX10_tape_52 (lv_at hl 3 rfl) ?_
    refine lv_bipush (v := (100 : Int32)) hx hb dX10_tape_54 kb_100 ?_
    refine lv_icmp_ge (tgt := 78) hx hb dX10_tape_56 rfl (fun hc => ?_) (fun hc => ?_)
    · replace hf := it hf hc
      refine lv_iload_n hx hb dX10_tape_78 rfl (lv_at hl 2 rfl) ?_
      obtain rfl := Option.some.inj hf
      exact m_iret C hr hlk hI dX10_tape_79
    · replace hf := ie hf hc
      refine lv_aload_n hx hb dX10_tape_59 rfl (lv_at hl 0 rfl) ?_
      refine gf_10_21 C hI h_a0.1 fl_X10_63 dX10_tape_60 ?_
      refine lv_bipush (v := (100 : Int32)) hx hb dX10_tape_63 kb_100 ?_
      refine lv_iload_n hx hb dX10_tape_65 rfl (lv_at hl 1 rfl) ?_
      refine lv_imul hx hb dX10_tape_66 ?_
      refine lv_iload hx hb dX10_tape_67 (lv_at hl 3 rfl) ?_
      refine lv_iadd hx hb dX10_tape_69 ?_
      refine lv_lconst (v := (0 : Int64)) hx hb dX10_tape_70 kl_0 ?_
      obtain ⟨m13, e14, hf⟩ := ob hf
      refine m_last C hI h_a0.2.2.2.2.2.2.2.2.2.2.2.2.2.2.2.1 (ce_1022 E _) e14 dX10_tape_71 (fun H locs hI => ?_)
      refine lv_iinc (v := a4 + (1 : Int32)) hx hb dX10_tape_72 hl (k := 3) rfl (ki_1 _) (by decide) rfl (fun ls hl => ?_)
      have hl : lv_has ls 5 [(4, .int (a4 + (1 : Int32))), (0, .ref (ad E 1000 0)), (1, .int a1), (3, .int a3)] := hl
      refine lv_goto (tgt := 52) hx hb dX10_tape_75 rfl ?_
      exact ih _ _ _ _ h_a0 hf hI (lv_sub hl [1, 2, 3, 0] rfl)
def f_X10_tape (F : Nat) (μ : Mm) (p1 : Int32) (p2 : Int32) (p3 : Int32) : Option (Int32 × Mm) :=
 (f_X10_isTape μ p1).bind fun q15 =>
 if q15 = 0 then
 some ((-1 : Int32), μ)
 else
 (f_X10_in μ p2 (1 : Int32) (4 : Int32)).bind fun q17 =>
 if q17 = 0 then
 some ((-1 : Int32), μ)
 else
 if p3 ≤ (100 : Int32) then
 if 0 ≤ p3 then
 (wa μ 1020 0 6 p1 p2).bind fun m19 =>
 (wa m19 1021 0 6 p1 p3).bind fun m21 =>
 f_X10_tape_b52 F F m21 p1 p3 (0 : Int32)
 else
 (f_X10_refuse μ (-14 : Int32)).bind fun q23 =>
 some (q23.1, q23.2)
 else
 some ((-1 : Int32), μ)
set_option maxHeartbeats 4000000 in
set_option maxRecDepth 100000 in
theorem c_X10_tape (l : Launch) (E : En) {F : Nat} {μ : Mm} {p1 : Int32} {p2 : Int32} {p3 : Int32} (h0 : l10 E 0) {z : Int32 × Mm} (hf : f_X10_tape F μ p1 p2 p3 = some z) : Met l yX10_tape (wt yX10_tape cX10_tape 5 (some .int)) { frames := 2, cells := 0, slots := 0, locals := 42 } (Pm E [.ref (ad E 1000 0), .int p1, .int p2, .int p3] μ) (Qm E (some (.int z.1)) z.2) 0 0 (Ad E) := by
  unfold f_X10_tape at hf
  refine met_of (cc := cX10_tape) (nL := 5) (ret := (some .int)) (by decide) _ (Nat.le_of_ble_eq_true rfl) ?_
  intro p e s m below meth c C hr hlk hI ls hl
  have hx := C.1.1
  have hb := C.1.2.1
  have hl : lv_has ls 5 [(0, .ref (ad E 1000 0)), (1, .int p1), (2, .int p2), (3, .int p3)] := hl
  refine lv_iload_n hx hb dX10_tape_0 rfl (lv_at hl 1 rfl) ?_
  obtain ⟨q15, e16, hf⟩ := ob hf
  refine mcS (As := [.int p1]) (rest := []) C hI (c_X10_isTape l E  e16) ml_X10_330 ks_X10_isTape rfl rfl ⟨Nat.le_of_ble_eq_true rfl, Nat.le_of_ble_eq_true rfl⟩ ⟨Nat.zero_le _, Nat.zero_le _⟩ rfl rfl hl.1 (Nat.le_of_ble_eq_true rfl) dX10_tape_1 (st1 := [.int q15]) rfl (fun H locs hI => ?_)
  refine lv_if_eq (tgt := 22) hx hb dX10_tape_4 rfl (fun hc => ?_) (fun hc => ?_)
  · replace hf := it hf hc
    refine lv_iconst (v := (-1 : Int32)) hx hb dX10_tape_22 kc_m1 ?_
    obtain rfl := Option.some.inj hf
    exact m_iret C hr hlk hI dX10_tape_23
  · replace hf := ie hf hc
    refine lv_iload_n hx hb dX10_tape_7 rfl (lv_at hl 2 rfl) ?_
    refine lv_iconst (v := (1 : Int32)) hx hb dX10_tape_8 kc_1 ?_
    refine lv_iconst (v := (4 : Int32)) hx hb dX10_tape_9 kc_4 ?_
    obtain ⟨q17, e18, hf⟩ := ob hf
    refine mcS (As := [.int p2, .int (1 : Int32), .int (4 : Int32)]) (rest := []) C hI (c_X10_in l E  e18) ml_X10_136 ks_X10_in rfl rfl ⟨Nat.le_of_ble_eq_true rfl, Nat.le_of_ble_eq_true rfl⟩ ⟨Nat.zero_le _, Nat.zero_le _⟩ rfl rfl hl.1 (Nat.le_of_ble_eq_true rfl) dX10_tape_10 (st1 := [.int q17]) rfl (fun H locs hI => ?_)
    refine lv_if_eq (tgt := 22) hx hb dX10_tape_13 rfl (fun hc => ?_) (fun hc => ?_)
    · replace hf := it hf hc
      refine lv_iconst (v := (-1 : Int32)) hx hb dX10_tape_22 kc_m1 ?_
      obtain rfl := Option.some.inj hf
      exact m_iret C hr hlk hI dX10_tape_23
    · replace hf := ie hf hc
      refine lv_iload_n hx hb dX10_tape_16 rfl (lv_at hl 3 rfl) ?_
      refine lv_bipush (v := (100 : Int32)) hx hb dX10_tape_17 kb_100 ?_
      refine lv_icmp_le (tgt := 24) hx hb dX10_tape_19 rfl (fun hc => ?_) (fun hc => ?_)
      · replace hf := it hf hc
        refine lv_iload_n hx hb dX10_tape_24 rfl (lv_at hl 3 rfl) ?_
        refine lv_if_ge (tgt := 35) hx hb dX10_tape_25 rfl (fun hc => ?_) (fun hc => ?_)
        · replace hf := it hf hc
          refine lv_aload_n hx hb dX10_tape_35 rfl (lv_at hl 0 rfl) ?_
          refine gf_10_19 C hI h0.1 fl_X10_57 dX10_tape_36 ?_
          refine lv_iload_n hx hb dX10_tape_39 rfl (lv_at hl 1 rfl) ?_
          refine lv_iload_n hx hb dX10_tape_40 rfl (lv_at hl 2 rfl) ?_
          obtain ⟨m19, e20, hf⟩ := ob hf
          refine m_iast C hI h0.2.2.2.2.2.2.2.2.2.2.2.2.2.1 (ce_1020 E _) e20 dX10_tape_41 (fun H locs hI => ?_)
          refine lv_aload_n hx hb dX10_tape_42 rfl (lv_at hl 0 rfl) ?_
          refine gf_10_20 C hI h0.1 fl_X10_60 dX10_tape_43 ?_
          refine lv_iload_n hx hb dX10_tape_46 rfl (lv_at hl 1 rfl) ?_
          refine lv_iload_n hx hb dX10_tape_47 rfl (lv_at hl 3 rfl) ?_
          obtain ⟨m21, e22, hf⟩ := ob hf
          refine m_iast C hI h0.2.2.2.2.2.2.2.2.2.2.2.2.2.2.1 (ce_1021 E _) e22 dX10_tape_48 (fun H locs hI => ?_)
          refine lv_iconst (v := (0 : Int32)) hx hb dX10_tape_49 kc_0 ?_
          refine lv_istore hx hb dX10_tape_50 hl (by decide) rfl (fun ls hl => ?_)
          have hl : lv_has ls 5 [(4, .int (0 : Int32)), (0, .ref (ad E 1000 0)), (1, .int p1), (2, .int p2), (3, .int p3)] := hl
          exact cb_X10_tape_52 C hr hlk  _ _ _ _ _ h0 hf hI (lv_sub hl [1, 2, 4, 0] rfl)
        · replace hf := ie hf hc
          refine lv_aload_n hx hb dX10_tape_28 rfl (lv_at hl 0 rfl) ?_
          refine lv_bipush (v := (-14 : Int32)) hx hb dX10_tape_29 kb_m14 ?_
          obtain ⟨q23, e24, hf⟩ := ob hf
          refine mcV (As := [.int (-14 : Int32)]) (rest := []) C hI (c_X10_refuse l E h0 e24) ml_X10_333 kv_X10_refuse (m_recv C hI h0.1 (ce_1000 E _ _ _) rfl) rfl rfl ⟨Nat.le_of_ble_eq_true rfl, Nat.le_of_ble_eq_true rfl⟩ ⟨Nat.zero_le _, Nat.zero_le _⟩ rfl rfl hl.1 (Nat.le_of_ble_eq_true rfl) dX10_tape_31 (st1 := [.int q23.1]) rfl (fun H locs hI => ?_)
          obtain rfl := Option.some.inj hf
          exact m_iret C hr hlk hI dX10_tape_34
      · replace hf := ie hf hc
        refine lv_iconst (v := (-1 : Int32)) hx hb dX10_tape_22 kc_m1 ?_
        obtain rfl := Option.some.inj hf
        exact m_iret C hr hlk hI dX10_tape_23

theorem dX10_moves_0 : decode cX10_moves 0 = .ok (.aload_n 0, 1) := by decide +kernel
theorem dX10_moves_1 : decode cX10_moves 1 = .ok (.getfield 29, 3) := by decide +kernel
theorem dX10_moves_4 : decode cX10_moves 4 = .ok (.iload_n 2, 1) := by decide +kernel
theorem dX10_moves_5 : decode cX10_moves 5 = .ok (.aload_n 0, 1) := by decide +kernel
theorem dX10_moves_6 : decode cX10_moves 6 = .ok (.getfield 29, 3) := by decide +kernel
theorem dX10_moves_9 : decode cX10_moves 9 = .ok (.iload_n 1, 1) := by decide +kernel
theorem dX10_moves_10 : decode cX10_moves 10 = .ok (.iaload, 1) := by decide +kernel
theorem dX10_moves_11 : decode cX10_moves 11 = .ok (.iastore, 1) := by decide +kernel
theorem dX10_moves_12 : decode cX10_moves 12 = .ok (.iconst 0, 1) := by decide +kernel
theorem dX10_moves_13 : decode cX10_moves 13 = .ok (.istore_n 3, 1) := by decide +kernel
theorem dX10_moves_14 : decode cX10_moves 14 = .ok (.iload_n 3, 1) := by decide +kernel
theorem dX10_moves_15 : decode cX10_moves 15 = .ok (.aload_n 0, 1) := by decide +kernel
theorem dX10_moves_16 : decode cX10_moves 16 = .ok (.getfield 29, 3) := by decide +kernel
theorem dX10_moves_19 : decode cX10_moves 19 = .ok (.iload_n 1, 1) := by decide +kernel
theorem dX10_moves_20 : decode cX10_moves 20 = .ok (.iaload, 1) := by decide +kernel
theorem dX10_moves_21 : decode cX10_moves 21 = .ok (.if_icmp .ge 105, 3) := by decide +kernel
theorem dX10_moves_24 : decode cX10_moves 24 = .ok (.aload_n 0, 1) := by decide +kernel
theorem dX10_moves_25 : decode cX10_moves 25 = .ok (.getfield 32, 3) := by decide +kernel
theorem dX10_moves_28 : decode cX10_moves 28 = .ok (.sipush 200, 3) := by decide +kernel
theorem dX10_moves_31 : decode cX10_moves 31 = .ok (.iload_n 2, 1) := by decide +kernel
theorem dX10_moves_32 : decode cX10_moves 32 = .ok (.imul, 1) := by decide +kernel
theorem dX10_moves_33 : decode cX10_moves 33 = .ok (.iload_n 3, 1) := by decide +kernel
theorem dX10_moves_34 : decode cX10_moves 34 = .ok (.iadd, 1) := by decide +kernel
theorem dX10_moves_35 : decode cX10_moves 35 = .ok (.aload_n 0, 1) := by decide +kernel
theorem dX10_moves_36 : decode cX10_moves 36 = .ok (.getfield 32, 3) := by decide +kernel
theorem dX10_moves_39 : decode cX10_moves 39 = .ok (.sipush 200, 3) := by decide +kernel
theorem dX10_moves_42 : decode cX10_moves 42 = .ok (.iload_n 1, 1) := by decide +kernel
theorem dX10_moves_43 : decode cX10_moves 43 = .ok (.imul, 1) := by decide +kernel
theorem dX10_moves_44 : decode cX10_moves 44 = .ok (.iload_n 3, 1) := by decide +kernel
theorem dX10_moves_45 : decode cX10_moves 45 = .ok (.iadd, 1) := by decide +kernel
theorem dX10_moves_46 : decode cX10_moves 46 = .ok (.baload, 1) := by decide +kernel
theorem dX10_moves_47 : decode cX10_moves 47 = .ok (.bastore, 1) := by decide +kernel
theorem dX10_moves_48 : decode cX10_moves 48 = .ok (.aload_n 0, 1) := by decide +kernel
theorem dX10_moves_49 : decode cX10_moves 49 = .ok (.getfield 36, 3) := by decide +kernel
theorem dX10_moves_52 : decode cX10_moves 52 = .ok (.sipush 200, 3) := by decide +kernel
theorem dX10_moves_55 : decode cX10_moves 55 = .ok (.iload_n 2, 1) := by decide +kernel
theorem dX10_moves_56 : decode cX10_moves 56 = .ok (.imul, 1) := by decide +kernel
theorem dX10_moves_57 : decode cX10_moves 57 = .ok (.iload_n 3, 1) := by decide +kernel
theorem dX10_moves_58 : decode cX10_moves 58 = .ok (.iadd, 1) := by decide +kernel
theorem dX10_moves_59 : decode cX10_moves 59 = .ok (.aload_n 0, 1) := by decide +kernel
theorem dX10_moves_60 : decode cX10_moves 60 = .ok (.getfield 36, 3) := by decide +kernel
theorem dX10_moves_63 : decode cX10_moves 63 = .ok (.sipush 200, 3) := by decide +kernel
theorem dX10_moves_66 : decode cX10_moves 66 = .ok (.iload_n 1, 1) := by decide +kernel
theorem dX10_moves_67 : decode cX10_moves 67 = .ok (.imul, 1) := by decide +kernel
theorem dX10_moves_68 : decode cX10_moves 68 = .ok (.iload_n 3, 1) := by decide +kernel
theorem dX10_moves_69 : decode cX10_moves 69 = .ok (.iadd, 1) := by decide +kernel
theorem dX10_moves_70 : decode cX10_moves 70 = .ok (.baload, 1) := by decide +kernel
theorem dX10_moves_71 : decode cX10_moves 71 = .ok (.bastore, 1) := by decide +kernel
theorem dX10_moves_72 : decode cX10_moves 72 = .ok (.aload_n 0, 1) := by decide +kernel
theorem dX10_moves_73 : decode cX10_moves 73 = .ok (.getfield 39, 3) := by decide +kernel
theorem dX10_moves_76 : decode cX10_moves 76 = .ok (.sipush 200, 3) := by decide +kernel
theorem dX10_moves_79 : decode cX10_moves 79 = .ok (.iload_n 2, 1) := by decide +kernel
theorem dX10_moves_80 : decode cX10_moves 80 = .ok (.imul, 1) := by decide +kernel
theorem dX10_moves_81 : decode cX10_moves 81 = .ok (.iload_n 3, 1) := by decide +kernel
theorem dX10_moves_82 : decode cX10_moves 82 = .ok (.iadd, 1) := by decide +kernel
theorem dX10_moves_83 : decode cX10_moves 83 = .ok (.aload_n 0, 1) := by decide +kernel
theorem dX10_moves_84 : decode cX10_moves 84 = .ok (.getfield 39, 3) := by decide +kernel
theorem dX10_moves_87 : decode cX10_moves 87 = .ok (.sipush 200, 3) := by decide +kernel
theorem dX10_moves_90 : decode cX10_moves 90 = .ok (.iload_n 1, 1) := by decide +kernel
theorem dX10_moves_91 : decode cX10_moves 91 = .ok (.imul, 1) := by decide +kernel
theorem dX10_moves_92 : decode cX10_moves 92 = .ok (.iload_n 3, 1) := by decide +kernel
theorem dX10_moves_93 : decode cX10_moves 93 = .ok (.iadd, 1) := by decide +kernel
theorem dX10_moves_94 : decode cX10_moves 94 = .ok (.baload, 1) := by decide +kernel
theorem dX10_moves_95 : decode cX10_moves 95 = .ok (.bastore, 1) := by decide +kernel
theorem dX10_moves_96 : decode cX10_moves 96 = .ok (.aload_n 0, 1) := by decide +kernel
theorem dX10_moves_97 : decode cX10_moves 97 = .ok (.getfield 42, 3) := by decide +kernel
theorem dX10_moves_100 : decode cX10_moves 100 = .ok (.sipush 200, 3) := by decide +kernel
theorem dX10_moves_103 : decode cX10_moves 103 = .ok (.iload_n 2, 1) := by decide +kernel
theorem dX10_moves_104 : decode cX10_moves 104 = .ok (.imul, 1) := by decide +kernel
theorem dX10_moves_105 : decode cX10_moves 105 = .ok (.iload_n 3, 1) := by decide +kernel
theorem dX10_moves_106 : decode cX10_moves 106 = .ok (.iadd, 1) := by decide +kernel
theorem dX10_moves_107 : decode cX10_moves 107 = .ok (.aload_n 0, 1) := by decide +kernel
theorem dX10_moves_108 : decode cX10_moves 108 = .ok (.getfield 42, 3) := by decide +kernel
theorem dX10_moves_111 : decode cX10_moves 111 = .ok (.sipush 200, 3) := by decide +kernel
theorem dX10_moves_114 : decode cX10_moves 114 = .ok (.iload_n 1, 1) := by decide +kernel
theorem dX10_moves_115 : decode cX10_moves 115 = .ok (.imul, 1) := by decide +kernel
theorem dX10_moves_116 : decode cX10_moves 116 = .ok (.iload_n 3, 1) := by decide +kernel
theorem dX10_moves_117 : decode cX10_moves 117 = .ok (.iadd, 1) := by decide +kernel
theorem dX10_moves_118 : decode cX10_moves 118 = .ok (.iaload, 1) := by decide +kernel
theorem dX10_moves_119 : decode cX10_moves 119 = .ok (.iastore, 1) := by decide +kernel
theorem dX10_moves_120 : decode cX10_moves 120 = .ok (.iinc 3 1, 3) := by decide +kernel
theorem dX10_moves_123 : decode cX10_moves 123 = .ok (.goto (-109), 3) := by decide +kernel
theorem dX10_moves_126 : decode cX10_moves 126 = .ok (.return_, 1) := by decide +kernel
def f_X10_moves_b14 (F : Nat) : Nat → Mm → Int32 → Int32 → Int32 → Option Mm
 | 0, _, _, _, _ => none
 | N + 1, μ, a1, a2, a3 =>
 (ra μ 1008 0 21 a1).bind fun v23 =>
 if v23 ≤ a3 then
 some μ
 else
 (ra μ 1009 0 4200 (((200 : Int32) * a1) + a3)).bind fun v25 =>
 (wb μ 1009 0 4200 (((200 : Int32) * a2) + a3) v25).bind fun m27 =>
 (ra m27 1010 0 4200 (((200 : Int32) * a1) + a3)).bind fun v29 =>
 (wb m27 1010 0 4200 (((200 : Int32) * a2) + a3) v29).bind fun m31 =>
 (ra m31 1011 0 4200 (((200 : Int32) * a1) + a3)).bind fun v33 =>
 (wb m31 1011 0 4200 (((200 : Int32) * a2) + a3) v33).bind fun m35 =>
 (ra m35 1012 0 4200 (((200 : Int32) * a1) + a3)).bind fun v37 =>
 (wa m35 1012 0 4200 (((200 : Int32) * a2) + a3) v37).bind fun m39 =>
 f_X10_moves_b14 F N m39 a1 a2 (a3 + (1 : Int32))
set_option maxHeartbeats 4000000 in
set_option maxRecDepth 100000 in
theorem cb_X10_moves_14 {l : Launch} {E : En} {p : Program} {e : Env} {s : State} {m : MethodId} {av : Array Value} {below : List Frame} {meth : Method} {c : Code} (C : Cx E p s m av c cX10_moves 4 yX10_moves.cls) (hr : meth.sig.returnType = (none : Option FieldType)) (hlk : meth.locks = false) {F : Nat} {z : Mm} : ∀ (N : Nat) (μ : Mm) (a1 : Int32) (a2 : Int32) (a3 : Int32) (h_a0 : l10 E 0), f_X10_moves_b14 F N μ a1 a2 a3 = some z → ∀ {H : Heap} {locs : List Loc} {ls : Array Slot}, Iv E s μ H locs → lv_has ls 4 [(0, .ref (ad E 1000 0)), (1, .int a1), (2, .int a2), (3, .int a3)] → W p l e { frames := 0, cells := 0, slots := 0, locals := 0 } s m av below meth c H locs 0 0 (MQ below (Qm E none z) av s 0 0 (Ad E)) (F0 m 14 ls []) := by
  have hx := C.1.1
  have hb := C.1.2.1
  intro N
  induction N with
  | zero => intro μ a1 a2 a3 h_a0 hf; cases hf
  | succ N ih =>
    intro μ a1 a2 a3 h_a0 hf H locs ls hI hl
    rw [f_X10_moves_b14] at hf
    refine lv_iload_n hx hb dX10_moves_14 rfl (lv_at hl 3 rfl) ?_
    refine lv_aload_n hx hb dX10_moves_15 rfl (lv_at hl 0 rfl) ?_
    refine gf_10_7 C hI h_a0.1 fl_X10_29 dX10_moves_16 ?_
    refine lv_iload_n hx hb dX10_moves_19 rfl (lv_at hl 1 rfl) ?_
    obtain ⟨v23, e24, hf⟩ := ob hf
    refine m_iald C hI h_a0.2.2.2.2.1 (ce_1008 E _ _ _) e24 dX10_moves_20 ?_
    refine lv_icmp_ge (tgt := 126) hx hb dX10_moves_21 rfl (fun hc => ?_) (fun hc => ?_)
    · replace hf := it hf hc
      obtain rfl := Option.some.inj hf
      exact m_vret C hr hlk hI dX10_moves_126
    · replace hf := ie hf hc
      refine lv_aload_n hx hb dX10_moves_24 rfl (lv_at hl 0 rfl) ?_
      refine gf_10_8 C hI h_a0.1 fl_X10_32 dX10_moves_25 ?_
      refine lv_sipush (v := (200 : Int32)) hx hb dX10_moves_28 ks_200 ?_
      refine lv_iload_n hx hb dX10_moves_31 rfl (lv_at hl 2 rfl) ?_
      refine lv_imul hx hb dX10_moves_32 ?_
      refine lv_iload_n hx hb dX10_moves_33 rfl (lv_at hl 3 rfl) ?_
      refine lv_iadd hx hb dX10_moves_34 ?_
      refine lv_aload_n hx hb dX10_moves_35 rfl (lv_at hl 0 rfl) ?_
      refine gf_10_8 C hI h_a0.1 fl_X10_32 dX10_moves_36 ?_
      refine lv_sipush (v := (200 : Int32)) hx hb dX10_moves_39 ks_200 ?_
      refine lv_iload_n hx hb dX10_moves_42 rfl (lv_at hl 1 rfl) ?_
      refine lv_imul hx hb dX10_moves_43 ?_
      refine lv_iload_n hx hb dX10_moves_44 rfl (lv_at hl 3 rfl) ?_
      refine lv_iadd hx hb dX10_moves_45 ?_
      obtain ⟨v25, e26, hf⟩ := ob hf
      refine m_bald C hI h_a0.2.2.2.2.2.1 (ce_1009 E _ _ _) e26 dX10_moves_46 ?_
      obtain ⟨m27, e28, hf⟩ := ob hf
      refine m_bast C hI h_a0.2.2.2.2.2.1 (ce_1009 E _) e28 dX10_moves_47 (fun H locs hI => ?_)
      refine lv_aload_n hx hb dX10_moves_48 rfl (lv_at hl 0 rfl) ?_
      refine gf_10_9 C hI h_a0.1 fl_X10_36 dX10_moves_49 ?_
      refine lv_sipush (v := (200 : Int32)) hx hb dX10_moves_52 ks_200 ?_
      refine lv_iload_n hx hb dX10_moves_55 rfl (lv_at hl 2 rfl) ?_
      refine lv_imul hx hb dX10_moves_56 ?_
      refine lv_iload_n hx hb dX10_moves_57 rfl (lv_at hl 3 rfl) ?_
      refine lv_iadd hx hb dX10_moves_58 ?_
      refine lv_aload_n hx hb dX10_moves_59 rfl (lv_at hl 0 rfl) ?_
      refine gf_10_9 C hI h_a0.1 fl_X10_36 dX10_moves_60 ?_
      refine lv_sipush (v := (200 : Int32)) hx hb dX10_moves_63 ks_200 ?_
      refine lv_iload_n hx hb dX10_moves_66 rfl (lv_at hl 1 rfl) ?_
      refine lv_imul hx hb dX10_moves_67 ?_
      refine lv_iload_n hx hb dX10_moves_68 rfl (lv_at hl 3 rfl) ?_
      refine lv_iadd hx hb dX10_moves_69 ?_
      obtain ⟨v29, e30, hf⟩ := ob hf
      refine m_bald C hI h_a0.2.2.2.2.2.2.1 (ce_1010 E _ _ _) e30 dX10_moves_70 ?_
      obtain ⟨m31, e32, hf⟩ := ob hf
      refine m_bast C hI h_a0.2.2.2.2.2.2.1 (ce_1010 E _) e32 dX10_moves_71 (fun H locs hI => ?_)
      refine lv_aload_n hx hb dX10_moves_72 rfl (lv_at hl 0 rfl) ?_
      refine gf_10_10 C hI h_a0.1 fl_X10_39 dX10_moves_73 ?_
      refine lv_sipush (v := (200 : Int32)) hx hb dX10_moves_76 ks_200 ?_
      refine lv_iload_n hx hb dX10_moves_79 rfl (lv_at hl 2 rfl) ?_
      refine lv_imul hx hb dX10_moves_80 ?_
      refine lv_iload_n hx hb dX10_moves_81 rfl (lv_at hl 3 rfl) ?_
      refine lv_iadd hx hb dX10_moves_82 ?_
      refine lv_aload_n hx hb dX10_moves_83 rfl (lv_at hl 0 rfl) ?_
      refine gf_10_10 C hI h_a0.1 fl_X10_39 dX10_moves_84 ?_
      refine lv_sipush (v := (200 : Int32)) hx hb dX10_moves_87 ks_200 ?_
      refine lv_iload_n hx hb dX10_moves_90 rfl (lv_at hl 1 rfl) ?_
      refine lv_imul hx hb dX10_moves_91 ?_
      refine lv_iload_n hx hb dX10_moves_92 rfl (lv_at hl 3 rfl) ?_
      refine lv_iadd hx hb dX10_moves_93 ?_
      obtain ⟨v33, e34, hf⟩ := ob hf
      refine m_bald C hI h_a0.2.2.2.2.2.2.2.1 (ce_1011 E _ _ _) e34 dX10_moves_94 ?_
      obtain ⟨m35, e36, hf⟩ := ob hf
      refine m_bast C hI h_a0.2.2.2.2.2.2.2.1 (ce_1011 E _) e36 dX10_moves_95 (fun H locs hI => ?_)
      refine lv_aload_n hx hb dX10_moves_96 rfl (lv_at hl 0 rfl) ?_
      refine gf_10_11 C hI h_a0.1 fl_X10_42 dX10_moves_97 ?_
      refine lv_sipush (v := (200 : Int32)) hx hb dX10_moves_100 ks_200 ?_
      refine lv_iload_n hx hb dX10_moves_103 rfl (lv_at hl 2 rfl) ?_
      refine lv_imul hx hb dX10_moves_104 ?_
      refine lv_iload_n hx hb dX10_moves_105 rfl (lv_at hl 3 rfl) ?_
      refine lv_iadd hx hb dX10_moves_106 ?_
      refine lv_aload_n hx hb dX10_moves_107 rfl (lv_at hl 0 rfl) ?_
      refine gf_10_11 C hI h_a0.1 fl_X10_42 dX10_moves_108 ?_
      refine lv_sipush (v := (200 : Int32)) hx hb dX10_moves_111 ks_200 ?_
      refine lv_iload_n hx hb dX10_moves_114 rfl (lv_at hl 1 rfl) ?_
      refine lv_imul hx hb dX10_moves_115 ?_
      refine lv_iload_n hx hb dX10_moves_116 rfl (lv_at hl 3 rfl) ?_
      refine lv_iadd hx hb dX10_moves_117 ?_
      obtain ⟨v37, e38, hf⟩ := ob hf
      refine m_iald C hI h_a0.2.2.2.2.2.2.2.2.1 (ce_1012 E _ _ _) e38 dX10_moves_118 ?_
      obtain ⟨m39, e40, hf⟩ := ob hf
      refine m_iast C hI h_a0.2.2.2.2.2.2.2.2.1 (ce_1012 E _) e40 dX10_moves_119 (fun H locs hI => ?_)
      refine lv_iinc (v := a3 + (1 : Int32)) hx hb dX10_moves_120 hl (k := 3) rfl (ki_1 _) (by decide) rfl (fun ls hl => ?_)
      have hl : lv_has ls 4 [(3, .int (a3 + (1 : Int32))), (0, .ref (ad E 1000 0)), (1, .int a1), (2, .int a2)] := hl
      refine lv_goto (tgt := 14) hx hb dX10_moves_123 rfl ?_
      exact ih _ _ _ _ h_a0 hf hI (lv_sub hl [1, 2, 3, 0] rfl)
def f_X10_moves (F : Nat) (μ : Mm) (p1 : Int32) (p2 : Int32) : Option Mm :=
 (ra μ 1008 0 21 p1).bind fun v41 =>
 (wa μ 1008 0 21 p2 v41).bind fun m43 =>
 f_X10_moves_b14 F F m43 p1 p2 (0 : Int32)
set_option maxHeartbeats 4000000 in
set_option maxRecDepth 100000 in
theorem c_X10_moves (l : Launch) (E : En) {F : Nat} {μ : Mm} {p1 : Int32} {p2 : Int32} (h0 : l10 E 0) {z : Mm} (hf : f_X10_moves F μ p1 p2 = some z) : Met l yX10_moves (wt yX10_moves cX10_moves 4 (none : Option FieldType)) { frames := 0, cells := 0, slots := 0, locals := 0 } (Pm E [.ref (ad E 1000 0), .int p1, .int p2] μ) (Qm E none z) 0 0 (Ad E) := by
  unfold f_X10_moves at hf
  refine met_of (cc := cX10_moves) (nL := 4) (ret := (none : Option FieldType)) (by decide) _ (Nat.le_of_ble_eq_true rfl) ?_
  intro p e s m below meth c C hr hlk hI ls hl
  have hx := C.1.1
  have hb := C.1.2.1
  have hl : lv_has ls 4 [(0, .ref (ad E 1000 0)), (1, .int p1), (2, .int p2)] := hl
  refine lv_aload_n hx hb dX10_moves_0 rfl (lv_at hl 0 rfl) ?_
  refine gf_10_7 C hI h0.1 fl_X10_29 dX10_moves_1 ?_
  refine lv_iload_n hx hb dX10_moves_4 rfl (lv_at hl 2 rfl) ?_
  refine lv_aload_n hx hb dX10_moves_5 rfl (lv_at hl 0 rfl) ?_
  refine gf_10_7 C hI h0.1 fl_X10_29 dX10_moves_6 ?_
  refine lv_iload_n hx hb dX10_moves_9 rfl (lv_at hl 1 rfl) ?_
  obtain ⟨v41, e42, hf⟩ := ob hf
  refine m_iald C hI h0.2.2.2.2.1 (ce_1008 E _ _ _) e42 dX10_moves_10 ?_
  obtain ⟨m43, e44, hf⟩ := ob hf
  refine m_iast C hI h0.2.2.2.2.1 (ce_1008 E _) e44 dX10_moves_11 (fun H locs hI => ?_)
  refine lv_iconst (v := (0 : Int32)) hx hb dX10_moves_12 kc_0 ?_
  refine lv_istore_n hx hb dX10_moves_13 rfl hl (by decide) rfl (fun ls hl => ?_)
  have hl : lv_has ls 4 [(3, .int (0 : Int32)), (0, .ref (ad E 1000 0)), (1, .int p1), (2, .int p2)] := hl
  exact cb_X10_moves_14 C hr hlk  _ _ _ _ _ h0 hf hI (lv_sub hl [1, 2, 3, 0] rfl)

theorem dX10_kept_0 : decode cX10_kept 0 = .ok (.aload_n 0, 1) := by decide +kernel
theorem dX10_kept_1 : decode cX10_kept 1 = .ok (.getfield 29, 3) := by decide +kernel
theorem dX10_kept_4 : decode cX10_kept 4 = .ok (.iconst 3, 1) := by decide +kernel
theorem dX10_kept_5 : decode cX10_kept 5 = .ok (.iconst 3, 1) := by decide +kernel
theorem dX10_kept_6 : decode cX10_kept 6 = .ok (.iload_n 1, 1) := by decide +kernel
theorem dX10_kept_7 : decode cX10_kept 7 = .ok (.imul, 1) := by decide +kernel
theorem dX10_kept_8 : decode cX10_kept 8 = .ok (.iadd, 1) := by decide +kernel
theorem dX10_kept_9 : decode cX10_kept 9 = .ok (.iaload, 1) := by decide +kernel
theorem dX10_kept_10 : decode cX10_kept 10 = .ok (.aload_n 0, 1) := by decide +kernel
theorem dX10_kept_11 : decode cX10_kept 11 = .ok (.getfield 29, 3) := by decide +kernel
theorem dX10_kept_14 : decode cX10_kept 14 = .ok (.iconst 4, 1) := by decide +kernel
theorem dX10_kept_15 : decode cX10_kept 15 = .ok (.iconst 3, 1) := by decide +kernel
theorem dX10_kept_16 : decode cX10_kept 16 = .ok (.iload_n 1, 1) := by decide +kernel
theorem dX10_kept_17 : decode cX10_kept 17 = .ok (.imul, 1) := by decide +kernel
theorem dX10_kept_18 : decode cX10_kept 18 = .ok (.iadd, 1) := by decide +kernel
theorem dX10_kept_19 : decode cX10_kept 19 = .ok (.iaload, 1) := by decide +kernel
theorem dX10_kept_20 : decode cX10_kept 20 = .ok (.iadd, 1) := by decide +kernel
theorem dX10_kept_21 : decode cX10_kept 21 = .ok (.aload_n 0, 1) := by decide +kernel
theorem dX10_kept_22 : decode cX10_kept 22 = .ok (.getfield 29, 3) := by decide +kernel
theorem dX10_kept_25 : decode cX10_kept 25 = .ok (.iconst 5, 1) := by decide +kernel
theorem dX10_kept_26 : decode cX10_kept 26 = .ok (.iconst 3, 1) := by decide +kernel
theorem dX10_kept_27 : decode cX10_kept 27 = .ok (.iload_n 1, 1) := by decide +kernel
theorem dX10_kept_28 : decode cX10_kept 28 = .ok (.imul, 1) := by decide +kernel
theorem dX10_kept_29 : decode cX10_kept 29 = .ok (.iadd, 1) := by decide +kernel
theorem dX10_kept_30 : decode cX10_kept 30 = .ok (.iaload, 1) := by decide +kernel
theorem dX10_kept_31 : decode cX10_kept 31 = .ok (.iadd, 1) := by decide +kernel
theorem dX10_kept_32 : decode cX10_kept 32 = .ok (.ireturn, 1) := by decide +kernel
def f_X10_kept (μ : Mm) (p1 : Int32) : Option Int32 :=
 (ra μ 1008 0 21 ((3 : Int32) + ((3 : Int32) * p1))).bind fun v7 =>
 (ra μ 1008 0 21 ((4 : Int32) + ((3 : Int32) * p1))).bind fun v9 =>
 (ra μ 1008 0 21 ((5 : Int32) + ((3 : Int32) * p1))).bind fun v11 =>
 some ((v7 + v9) + v11)
set_option maxHeartbeats 4000000 in
set_option maxRecDepth 100000 in
theorem c_X10_kept (l : Launch) (E : En) {μ : Mm} {p1 : Int32} (h0 : l10 E 0) {z : Int32} (hf : f_X10_kept μ p1 = some z) : Met l yX10_kept (wt yX10_kept cX10_kept 2 (some .int)) { frames := 0, cells := 0, slots := 0, locals := 0 } (Pm E [.ref (ad E 1000 0), .int p1] μ) (Qm E (some (.int z)) μ) 0 0 (Ad E) := by
  unfold f_X10_kept at hf
  refine met_of (cc := cX10_kept) (nL := 2) (ret := (some .int)) (by decide) _ (Nat.le_of_ble_eq_true rfl) ?_
  intro p e s m below meth c C hr hlk hI ls hl
  have hx := C.1.1
  have hb := C.1.2.1
  have hl : lv_has ls 2 [(0, .ref (ad E 1000 0)), (1, .int p1)] := hl
  refine lv_aload_n hx hb dX10_kept_0 rfl (lv_at hl 0 rfl) ?_
  refine gf_10_7 C hI h0.1 fl_X10_29 dX10_kept_1 ?_
  refine lv_iconst (v := (3 : Int32)) hx hb dX10_kept_4 kc_3 ?_
  refine lv_iconst (v := (3 : Int32)) hx hb dX10_kept_5 kc_3 ?_
  refine lv_iload_n hx hb dX10_kept_6 rfl (lv_at hl 1 rfl) ?_
  refine lv_imul hx hb dX10_kept_7 ?_
  refine lv_iadd hx hb dX10_kept_8 ?_
  obtain ⟨v7, e8, hf⟩ := ob hf
  refine m_iald C hI h0.2.2.2.2.1 (ce_1008 E _ _ _) e8 dX10_kept_9 ?_
  refine lv_aload_n hx hb dX10_kept_10 rfl (lv_at hl 0 rfl) ?_
  refine gf_10_7 C hI h0.1 fl_X10_29 dX10_kept_11 ?_
  refine lv_iconst (v := (4 : Int32)) hx hb dX10_kept_14 kc_4 ?_
  refine lv_iconst (v := (3 : Int32)) hx hb dX10_kept_15 kc_3 ?_
  refine lv_iload_n hx hb dX10_kept_16 rfl (lv_at hl 1 rfl) ?_
  refine lv_imul hx hb dX10_kept_17 ?_
  refine lv_iadd hx hb dX10_kept_18 ?_
  obtain ⟨v9, e10, hf⟩ := ob hf
  refine m_iald C hI h0.2.2.2.2.1 (ce_1008 E _ _ _) e10 dX10_kept_19 ?_
  refine lv_iadd hx hb dX10_kept_20 ?_
  refine lv_aload_n hx hb dX10_kept_21 rfl (lv_at hl 0 rfl) ?_
  refine gf_10_7 C hI h0.1 fl_X10_29 dX10_kept_22 ?_
  refine lv_iconst (v := (5 : Int32)) hx hb dX10_kept_25 kc_5 ?_
  refine lv_iconst (v := (3 : Int32)) hx hb dX10_kept_26 kc_3 ?_
  refine lv_iload_n hx hb dX10_kept_27 rfl (lv_at hl 1 rfl) ?_
  refine lv_imul hx hb dX10_kept_28 ?_
  refine lv_iadd hx hb dX10_kept_29 ?_
  obtain ⟨v11, e12, hf⟩ := ob hf
  refine m_iald C hI h0.2.2.2.2.1 (ce_1008 E _ _ _) e12 dX10_kept_30 ?_
  refine lv_iadd hx hb dX10_kept_31 ?_
  obtain rfl := Option.some.inj hf
  exact m_iret C hr hlk hI dX10_kept_32

theorem dX10_keep_0 : decode cX10_keep 0 = .ok (.iload_n 1, 1) := by decide +kernel
theorem dX10_keep_1 : decode cX10_keep 1 = .ok (.invokestatic 330, 3) := by decide +kernel
theorem dX10_keep_4 : decode cX10_keep 4 = .ok (.ifCond .ne 5, 3) := by decide +kernel
theorem dX10_keep_7 : decode cX10_keep 7 = .ok (.iconst (-1), 1) := by decide +kernel
theorem dX10_keep_8 : decode cX10_keep 8 = .ok (.ireturn, 1) := by decide +kernel
theorem dX10_keep_9 : decode cX10_keep 9 = .ok (.aload_n 0, 1) := by decide +kernel
theorem dX10_keep_10 : decode cX10_keep 10 = .ok (.getfield 57, 3) := by decide +kernel
theorem dX10_keep_13 : decode cX10_keep 13 = .ok (.iload_n 1, 1) := by decide +kernel
theorem dX10_keep_14 : decode cX10_keep 14 = .ok (.iconst 5, 1) := by decide +kernel
theorem dX10_keep_15 : decode cX10_keep 15 = .ok (.iastore, 1) := by decide +kernel
theorem dX10_keep_16 : decode cX10_keep 16 = .ok (.aload_n 0, 1) := by decide +kernel
theorem dX10_keep_17 : decode cX10_keep 17 = .ok (.getfield 67, 3) := by decide +kernel
theorem dX10_keep_20 : decode cX10_keep 20 = .ok (.iload_n 1, 1) := by decide +kernel
theorem dX10_keep_21 : decode cX10_keep 21 = .ok (.aload_n 0, 1) := by decide +kernel
theorem dX10_keep_22 : decode cX10_keep 22 = .ok (.getfield 7, 3) := by decide +kernel
theorem dX10_keep_25 : decode cX10_keep 25 = .ok (.iastore, 1) := by decide +kernel
theorem dX10_keep_26 : decode cX10_keep 26 = .ok (.aload_n 0, 1) := by decide +kernel
theorem dX10_keep_27 : decode cX10_keep 27 = .ok (.getfield 70, 3) := by decide +kernel
theorem dX10_keep_30 : decode cX10_keep 30 = .ok (.iload_n 1, 1) := by decide +kernel
theorem dX10_keep_31 : decode cX10_keep 31 = .ok (.aload_n 0, 1) := by decide +kernel
theorem dX10_keep_32 : decode cX10_keep 32 = .ok (.getfield 13, 3) := by decide +kernel
theorem dX10_keep_35 : decode cX10_keep 35 = .ok (.iastore, 1) := by decide +kernel
theorem dX10_keep_36 : decode cX10_keep 36 = .ok (.aload_n 0, 1) := by decide +kernel
theorem dX10_keep_37 : decode cX10_keep 37 = .ok (.getfield 73, 3) := by decide +kernel
theorem dX10_keep_40 : decode cX10_keep 40 = .ok (.iload_n 1, 1) := by decide +kernel
theorem dX10_keep_41 : decode cX10_keep 41 = .ok (.aload_n 0, 1) := by decide +kernel
theorem dX10_keep_42 : decode cX10_keep 42 = .ok (.getfield 16, 3) := by decide +kernel
theorem dX10_keep_45 : decode cX10_keep 45 = .ok (.iastore, 1) := by decide +kernel
theorem dX10_keep_46 : decode cX10_keep 46 = .ok (.iconst 0, 1) := by decide +kernel
theorem dX10_keep_47 : decode cX10_keep 47 = .ok (.istore_n 2, 1) := by decide +kernel
theorem dX10_keep_48 : decode cX10_keep 48 = .ok (.iload_n 2, 1) := by decide +kernel
theorem dX10_keep_49 : decode cX10_keep 49 = .ok (.bipush 8, 2) := by decide +kernel
theorem dX10_keep_51 : decode cX10_keep 51 = .ok (.if_icmp .ge 43, 3) := by decide +kernel
theorem dX10_keep_54 : decode cX10_keep 54 = .ok (.aload_n 0, 1) := by decide +kernel
theorem dX10_keep_55 : decode cX10_keep 55 = .ok (.getfield 76, 3) := by decide +kernel
theorem dX10_keep_58 : decode cX10_keep 58 = .ok (.bipush 8, 2) := by decide +kernel
theorem dX10_keep_60 : decode cX10_keep 60 = .ok (.iload_n 1, 1) := by decide +kernel
theorem dX10_keep_61 : decode cX10_keep 61 = .ok (.imul, 1) := by decide +kernel
theorem dX10_keep_62 : decode cX10_keep 62 = .ok (.iload_n 2, 1) := by decide +kernel
theorem dX10_keep_63 : decode cX10_keep 63 = .ok (.iadd, 1) := by decide +kernel
theorem dX10_keep_64 : decode cX10_keep 64 = .ok (.aload_n 0, 1) := by decide +kernel
theorem dX10_keep_65 : decode cX10_keep 65 = .ok (.getfield 19, 3) := by decide +kernel
theorem dX10_keep_68 : decode cX10_keep 68 = .ok (.iload_n 2, 1) := by decide +kernel
theorem dX10_keep_69 : decode cX10_keep 69 = .ok (.iaload, 1) := by decide +kernel
theorem dX10_keep_70 : decode cX10_keep 70 = .ok (.iastore, 1) := by decide +kernel
theorem dX10_keep_71 : decode cX10_keep 71 = .ok (.aload_n 0, 1) := by decide +kernel
theorem dX10_keep_72 : decode cX10_keep 72 = .ok (.getfield 79, 3) := by decide +kernel
theorem dX10_keep_75 : decode cX10_keep 75 = .ok (.bipush 8, 2) := by decide +kernel
theorem dX10_keep_77 : decode cX10_keep 77 = .ok (.iload_n 1, 1) := by decide +kernel
theorem dX10_keep_78 : decode cX10_keep 78 = .ok (.imul, 1) := by decide +kernel
theorem dX10_keep_79 : decode cX10_keep 79 = .ok (.iload_n 2, 1) := by decide +kernel
theorem dX10_keep_80 : decode cX10_keep 80 = .ok (.iadd, 1) := by decide +kernel
theorem dX10_keep_81 : decode cX10_keep 81 = .ok (.aload_n 0, 1) := by decide +kernel
theorem dX10_keep_82 : decode cX10_keep 82 = .ok (.getfield 23, 3) := by decide +kernel
theorem dX10_keep_85 : decode cX10_keep 85 = .ok (.iload_n 2, 1) := by decide +kernel
theorem dX10_keep_86 : decode cX10_keep 86 = .ok (.iaload, 1) := by decide +kernel
theorem dX10_keep_87 : decode cX10_keep 87 = .ok (.iastore, 1) := by decide +kernel
theorem dX10_keep_88 : decode cX10_keep 88 = .ok (.iinc 2 1, 3) := by decide +kernel
theorem dX10_keep_91 : decode cX10_keep 91 = .ok (.goto (-43), 3) := by decide +kernel
theorem dX10_keep_94 : decode cX10_keep 94 = .ok (.iconst 0, 1) := by decide +kernel
theorem dX10_keep_95 : decode cX10_keep 95 = .ok (.istore_n 2, 1) := by decide +kernel
theorem dX10_keep_96 : decode cX10_keep 96 = .ok (.iload_n 2, 1) := by decide +kernel
theorem dX10_keep_97 : decode cX10_keep 97 = .ok (.iconst 3, 1) := by decide +kernel
theorem dX10_keep_98 : decode cX10_keep 98 = .ok (.if_icmp .ge 21, 3) := by decide +kernel
theorem dX10_keep_101 : decode cX10_keep 101 = .ok (.aload_n 0, 1) := by decide +kernel
theorem dX10_keep_102 : decode cX10_keep 102 = .ok (.iload_n 2, 1) := by decide +kernel
theorem dX10_keep_103 : decode cX10_keep 103 = .ok (.iconst 3, 1) := by decide +kernel
theorem dX10_keep_104 : decode cX10_keep 104 = .ok (.iconst 3, 1) := by decide +kernel
theorem dX10_keep_105 : decode cX10_keep 105 = .ok (.iload_n 1, 1) := by decide +kernel
theorem dX10_keep_106 : decode cX10_keep 106 = .ok (.imul, 1) := by decide +kernel
theorem dX10_keep_107 : decode cX10_keep 107 = .ok (.iadd, 1) := by decide +kernel
theorem dX10_keep_108 : decode cX10_keep 108 = .ok (.iload_n 2, 1) := by decide +kernel
theorem dX10_keep_109 : decode cX10_keep 109 = .ok (.iadd, 1) := by decide +kernel
theorem dX10_keep_110 : decode cX10_keep 110 = .ok (.invokevirtual 336, 3) := by decide +kernel
theorem dX10_keep_113 : decode cX10_keep 113 = .ok (.iinc 2 1, 3) := by decide +kernel
theorem dX10_keep_116 : decode cX10_keep 116 = .ok (.goto (-20), 3) := by decide +kernel
theorem dX10_keep_119 : decode cX10_keep 119 = .ok (.aload_n 0, 1) := by decide +kernel
theorem dX10_keep_120 : decode cX10_keep 120 = .ok (.invokevirtual 156, 3) := by decide +kernel
theorem dX10_keep_123 : decode cX10_keep 123 = .ok (.ireturn, 1) := by decide +kernel
def f_X10_keep_b96 (F : Nat) : Nat → Mm → Int32 → Int32 → Option (Int32 × Mm)
 | 0, _, _, _ => none
 | N + 1, μ, a1, a2 =>
 if (3 : Int32) ≤ a2 then
 (f_X10_all μ).bind fun q23 =>
 some (q23, μ)
 else
 (f_X10_moves F μ a2 (((3 : Int32) + ((3 : Int32) * a1)) + a2)).bind fun q25 =>
 f_X10_keep_b96 F N q25 a1 (a2 + (1 : Int32))
set_option maxHeartbeats 4000000 in
set_option maxRecDepth 100000 in
theorem cb_X10_keep_96 {l : Launch} {E : En} {p : Program} {e : Env} {s : State} {m : MethodId} {av : Array Value} {below : List Frame} {meth : Method} {c : Code} (C : Cx E p s m av c cX10_keep 3 yX10_keep.cls) (hr : meth.sig.returnType = (some .int)) (hlk : meth.locks = false) {F : Nat} {z : Int32 × Mm} : ∀ (N : Nat) (μ : Mm) (a1 : Int32) (a2 : Int32) (h_a0 : l10 E 0), f_X10_keep_b96 F N μ a1 a2 = some z → ∀ {H : Heap} {locs : List Loc} {ls : Array Slot}, Iv E s μ H locs → lv_has ls 3 [(0, .ref (ad E 1000 0)), (1, .int a1), (2, .int a2)] → W p l e { frames := 2, cells := 0, slots := 0, locals := 42 } s m av below meth c H locs 0 0 (MQ below (Qm E (some (.int z.1)) z.2) av s 0 0 (Ad E)) (F0 m 96 ls []) := by
  have hx := C.1.1
  have hb := C.1.2.1
  intro N
  induction N with
  | zero => intro μ a1 a2 h_a0 hf; cases hf
  | succ N ih =>
    intro μ a1 a2 h_a0 hf H locs ls hI hl
    rw [f_X10_keep_b96] at hf
    refine lv_iload_n hx hb dX10_keep_96 rfl (lv_at hl 2 rfl) ?_
    refine lv_iconst (v := (3 : Int32)) hx hb dX10_keep_97 kc_3 ?_
    refine lv_icmp_ge (tgt := 119) hx hb dX10_keep_98 rfl (fun hc => ?_) (fun hc => ?_)
    · replace hf := it hf hc
      refine lv_aload_n hx hb dX10_keep_119 rfl (lv_at hl 0 rfl) ?_
      obtain ⟨q23, e24, hf⟩ := ob hf
      refine mcV (As := []) (rest := []) C hI (c_X10_all l E h_a0 e24) ml_X10_156 kv_X10_all (m_recv C hI h_a0.1 (ce_1000 E _ _ _) rfl) rfl rfl ⟨Nat.le_of_ble_eq_true rfl, Nat.le_of_ble_eq_true rfl⟩ ⟨Nat.zero_le _, Nat.zero_le _⟩ rfl rfl hl.1 (Nat.le_of_ble_eq_true rfl) dX10_keep_120 (st1 := [.int q23]) rfl (fun H locs hI => ?_)
      obtain rfl := Option.some.inj hf
      exact m_iret C hr hlk hI dX10_keep_123
    · replace hf := ie hf hc
      refine lv_aload_n hx hb dX10_keep_101 rfl (lv_at hl 0 rfl) ?_
      refine lv_iload_n hx hb dX10_keep_102 rfl (lv_at hl 2 rfl) ?_
      refine lv_iconst (v := (3 : Int32)) hx hb dX10_keep_103 kc_3 ?_
      refine lv_iconst (v := (3 : Int32)) hx hb dX10_keep_104 kc_3 ?_
      refine lv_iload_n hx hb dX10_keep_105 rfl (lv_at hl 1 rfl) ?_
      refine lv_imul hx hb dX10_keep_106 ?_
      refine lv_iadd hx hb dX10_keep_107 ?_
      refine lv_iload_n hx hb dX10_keep_108 rfl (lv_at hl 2 rfl) ?_
      refine lv_iadd hx hb dX10_keep_109 ?_
      obtain ⟨q25, e26, hf⟩ := ob hf
      refine mcV (As := [.int a2, .int (((3 : Int32) + ((3 : Int32) * a1)) + a2)]) (rest := []) C hI (c_X10_moves l E h_a0 e26) ml_X10_336 kv_X10_moves (m_recv C hI h_a0.1 (ce_1000 E _ _ _) rfl) rfl rfl ⟨Nat.le_of_ble_eq_true rfl, Nat.le_of_ble_eq_true rfl⟩ ⟨Nat.zero_le _, Nat.zero_le _⟩ rfl rfl hl.1 (Nat.le_of_ble_eq_true rfl) dX10_keep_110 (st1 := []) rfl (fun H locs hI => ?_)
      refine lv_iinc (v := a2 + (1 : Int32)) hx hb dX10_keep_113 hl (k := 2) rfl (ki_1 _) (by decide) rfl (fun ls hl => ?_)
      have hl : lv_has ls 3 [(2, .int (a2 + (1 : Int32))), (0, .ref (ad E 1000 0)), (1, .int a1)] := hl
      refine lv_goto (tgt := 96) hx hb dX10_keep_116 rfl ?_
      exact ih _ _ _ h_a0 hf hI (lv_sub hl [1, 2, 0] rfl)
def f_X10_keep_b48 (F : Nat) : Nat → Mm → Int32 → Int32 → Option (Int32 × Mm)
 | 0, _, _, _ => none
 | N + 1, μ, a1, a2 =>
 if (8 : Int32) ≤ a2 then
 f_X10_keep_b96 F F μ a1 (0 : Int32)
 else
 (ra μ 1005 0 8 a2).bind fun v27 =>
 (wa μ 1026 0 48 (((8 : Int32) * a1) + a2) v27).bind fun m29 =>
 (ra m29 1006 0 8 a2).bind fun v31 =>
 (wa m29 1027 0 48 (((8 : Int32) * a1) + a2) v31).bind fun m33 =>
 f_X10_keep_b48 F N m33 a1 (a2 + (1 : Int32))
set_option maxHeartbeats 4000000 in
set_option maxRecDepth 100000 in
theorem cb_X10_keep_48 {l : Launch} {E : En} {p : Program} {e : Env} {s : State} {m : MethodId} {av : Array Value} {below : List Frame} {meth : Method} {c : Code} (C : Cx E p s m av c cX10_keep 3 yX10_keep.cls) (hr : meth.sig.returnType = (some .int)) (hlk : meth.locks = false) {F : Nat} {z : Int32 × Mm} : ∀ (N : Nat) (μ : Mm) (a1 : Int32) (a2 : Int32) (h_a0 : l10 E 0), f_X10_keep_b48 F N μ a1 a2 = some z → ∀ {H : Heap} {locs : List Loc} {ls : Array Slot}, Iv E s μ H locs → lv_has ls 3 [(0, .ref (ad E 1000 0)), (1, .int a1), (2, .int a2)] → W p l e { frames := 2, cells := 0, slots := 0, locals := 42 } s m av below meth c H locs 0 0 (MQ below (Qm E (some (.int z.1)) z.2) av s 0 0 (Ad E)) (F0 m 48 ls []) := by
  have hx := C.1.1
  have hb := C.1.2.1
  intro N
  induction N with
  | zero => intro μ a1 a2 h_a0 hf; cases hf
  | succ N ih =>
    intro μ a1 a2 h_a0 hf H locs ls hI hl
    rw [f_X10_keep_b48] at hf
    refine lv_iload_n hx hb dX10_keep_48 rfl (lv_at hl 2 rfl) ?_
    refine lv_bipush (v := (8 : Int32)) hx hb dX10_keep_49 kb_8 ?_
    refine lv_icmp_ge (tgt := 94) hx hb dX10_keep_51 rfl (fun hc => ?_) (fun hc => ?_)
    · replace hf := it hf hc
      refine lv_iconst (v := (0 : Int32)) hx hb dX10_keep_94 kc_0 ?_
      refine lv_istore_n hx hb dX10_keep_95 rfl hl (by decide) rfl (fun ls hl => ?_)
      have hl : lv_has ls 3 [(2, .int (0 : Int32)), (0, .ref (ad E 1000 0)), (1, .int a1)] := hl
      exact cb_X10_keep_96 C hr hlk  _ _ _ _ h_a0 hf hI (lv_sub hl [1, 2, 0] rfl)
    · replace hf := ie hf hc
      refine lv_aload_n hx hb dX10_keep_54 rfl (lv_at hl 0 rfl) ?_
      refine gf_10_25 C hI h_a0.1 fl_X10_76 dX10_keep_55 ?_
      refine lv_bipush (v := (8 : Int32)) hx hb dX10_keep_58 kb_8 ?_
      refine lv_iload_n hx hb dX10_keep_60 rfl (lv_at hl 1 rfl) ?_
      refine lv_imul hx hb dX10_keep_61 ?_
      refine lv_iload_n hx hb dX10_keep_62 rfl (lv_at hl 2 rfl) ?_
      refine lv_iadd hx hb dX10_keep_63 ?_
      refine lv_aload_n hx hb dX10_keep_64 rfl (lv_at hl 0 rfl) ?_
      refine gf_10_4 C hI h_a0.1 fl_X10_19 dX10_keep_65 ?_
      refine lv_iload_n hx hb dX10_keep_68 rfl (lv_at hl 2 rfl) ?_
      obtain ⟨v27, e28, hf⟩ := ob hf
      refine m_iald C hI h_a0.2.1 (ce_1005 E _ _ _) e28 dX10_keep_69 ?_
      obtain ⟨m29, e30, hf⟩ := ob hf
      refine m_iast C hI h_a0.2.2.2.2.2.2.2.2.2.2.2.2.2.2.2.2.2.2.2.1 (ce_1026 E _) e30 dX10_keep_70 (fun H locs hI => ?_)
      refine lv_aload_n hx hb dX10_keep_71 rfl (lv_at hl 0 rfl) ?_
      refine gf_10_26 C hI h_a0.1 fl_X10_79 dX10_keep_72 ?_
      refine lv_bipush (v := (8 : Int32)) hx hb dX10_keep_75 kb_8 ?_
      refine lv_iload_n hx hb dX10_keep_77 rfl (lv_at hl 1 rfl) ?_
      refine lv_imul hx hb dX10_keep_78 ?_
      refine lv_iload_n hx hb dX10_keep_79 rfl (lv_at hl 2 rfl) ?_
      refine lv_iadd hx hb dX10_keep_80 ?_
      refine lv_aload_n hx hb dX10_keep_81 rfl (lv_at hl 0 rfl) ?_
      refine gf_10_5 C hI h_a0.1 fl_X10_23 dX10_keep_82 ?_
      refine lv_iload_n hx hb dX10_keep_85 rfl (lv_at hl 2 rfl) ?_
      obtain ⟨v31, e32, hf⟩ := ob hf
      refine m_iald C hI h_a0.2.2.1 (ce_1006 E _ _ _) e32 dX10_keep_86 ?_
      obtain ⟨m33, e34, hf⟩ := ob hf
      refine m_iast C hI h_a0.2.2.2.2.2.2.2.2.2.2.2.2.2.2.2.2.2.2.2.2.1 (ce_1027 E _) e34 dX10_keep_87 (fun H locs hI => ?_)
      refine lv_iinc (v := a2 + (1 : Int32)) hx hb dX10_keep_88 hl (k := 2) rfl (ki_1 _) (by decide) rfl (fun ls hl => ?_)
      have hl : lv_has ls 3 [(2, .int (a2 + (1 : Int32))), (0, .ref (ad E 1000 0)), (1, .int a1)] := hl
      refine lv_goto (tgt := 48) hx hb dX10_keep_91 rfl ?_
      exact ih _ _ _ h_a0 hf hI (lv_sub hl [1, 2, 0] rfl)
def f_X10_keep (F : Nat) (μ : Mm) (p1 : Int32) : Option (Int32 × Mm) :=
 (f_X10_isTape μ p1).bind fun q35 =>
 if q35 = 0 then
 some ((-1 : Int32), μ)
 else
 (wa μ 1020 0 6 p1 (5 : Int32)).bind fun m37 =>
 (wa m37 1023 0 6 p1 (m37.1 1000 0 1)).bind fun m39 =>
 (wa m39 1024 0 6 p1 (m39.1 1000 0 2)).bind fun m41 =>
 (wa m41 1025 0 6 p1 (m41.1 1000 0 3)).bind fun m43 =>
 f_X10_keep_b48 F F m43 p1 (0 : Int32)
set_option maxHeartbeats 4000000 in
set_option maxRecDepth 100000 in
theorem c_X10_keep (l : Launch) (E : En) {F : Nat} {μ : Mm} {p1 : Int32} (h0 : l10 E 0) {z : Int32 × Mm} (hf : f_X10_keep F μ p1 = some z) : Met l yX10_keep (wt yX10_keep cX10_keep 3 (some .int)) { frames := 2, cells := 0, slots := 0, locals := 42 } (Pm E [.ref (ad E 1000 0), .int p1] μ) (Qm E (some (.int z.1)) z.2) 0 0 (Ad E) := by
  unfold f_X10_keep at hf
  refine met_of (cc := cX10_keep) (nL := 3) (ret := (some .int)) (by decide) _ (Nat.le_of_ble_eq_true rfl) ?_
  intro p e s m below meth c C hr hlk hI ls hl
  have hx := C.1.1
  have hb := C.1.2.1
  have hl : lv_has ls 3 [(0, .ref (ad E 1000 0)), (1, .int p1)] := hl
  refine lv_iload_n hx hb dX10_keep_0 rfl (lv_at hl 1 rfl) ?_
  obtain ⟨q35, e36, hf⟩ := ob hf
  refine mcS (As := [.int p1]) (rest := []) C hI (c_X10_isTape l E  e36) ml_X10_330 ks_X10_isTape rfl rfl ⟨Nat.le_of_ble_eq_true rfl, Nat.le_of_ble_eq_true rfl⟩ ⟨Nat.zero_le _, Nat.zero_le _⟩ rfl rfl hl.1 (Nat.le_of_ble_eq_true rfl) dX10_keep_1 (st1 := [.int q35]) rfl (fun H locs hI => ?_)
  refine lv_if_ne (tgt := 9) hx hb dX10_keep_4 rfl (fun hc => ?_) (fun hc => ?_)
  · replace hf := ie hf hc
    refine lv_aload_n hx hb dX10_keep_9 rfl (lv_at hl 0 rfl) ?_
    refine gf_10_19 C hI h0.1 fl_X10_57 dX10_keep_10 ?_
    refine lv_iload_n hx hb dX10_keep_13 rfl (lv_at hl 1 rfl) ?_
    refine lv_iconst (v := (5 : Int32)) hx hb dX10_keep_14 kc_5 ?_
    obtain ⟨m37, e38, hf⟩ := ob hf
    refine m_iast C hI h0.2.2.2.2.2.2.2.2.2.2.2.2.2.1 (ce_1020 E _) e38 dX10_keep_15 (fun H locs hI => ?_)
    refine lv_aload_n hx hb dX10_keep_16 rfl (lv_at hl 0 rfl) ?_
    refine gf_10_22 C hI h0.1 fl_X10_67 dX10_keep_17 ?_
    refine lv_iload_n hx hb dX10_keep_20 rfl (lv_at hl 1 rfl) ?_
    refine lv_aload_n hx hb dX10_keep_21 rfl (lv_at hl 0 rfl) ?_
    refine gf_10_1 C hI h0.1 fl_X10_7 dX10_keep_22 ?_
    obtain ⟨m39, e40, hf⟩ := ob hf
    refine m_iast C hI h0.2.2.2.2.2.2.2.2.2.2.2.2.2.2.2.2.1 (ce_1023 E _) e40 dX10_keep_25 (fun H locs hI => ?_)
    refine lv_aload_n hx hb dX10_keep_26 rfl (lv_at hl 0 rfl) ?_
    refine gf_10_23 C hI h0.1 fl_X10_70 dX10_keep_27 ?_
    refine lv_iload_n hx hb dX10_keep_30 rfl (lv_at hl 1 rfl) ?_
    refine lv_aload_n hx hb dX10_keep_31 rfl (lv_at hl 0 rfl) ?_
    refine gf_10_2 C hI h0.1 fl_X10_13 dX10_keep_32 ?_
    obtain ⟨m41, e42, hf⟩ := ob hf
    refine m_iast C hI h0.2.2.2.2.2.2.2.2.2.2.2.2.2.2.2.2.2.1 (ce_1024 E _) e42 dX10_keep_35 (fun H locs hI => ?_)
    refine lv_aload_n hx hb dX10_keep_36 rfl (lv_at hl 0 rfl) ?_
    refine gf_10_24 C hI h0.1 fl_X10_73 dX10_keep_37 ?_
    refine lv_iload_n hx hb dX10_keep_40 rfl (lv_at hl 1 rfl) ?_
    refine lv_aload_n hx hb dX10_keep_41 rfl (lv_at hl 0 rfl) ?_
    refine gf_10_3 C hI h0.1 fl_X10_16 dX10_keep_42 ?_
    obtain ⟨m43, e44, hf⟩ := ob hf
    refine m_iast C hI h0.2.2.2.2.2.2.2.2.2.2.2.2.2.2.2.2.2.2.1 (ce_1025 E _) e44 dX10_keep_45 (fun H locs hI => ?_)
    refine lv_iconst (v := (0 : Int32)) hx hb dX10_keep_46 kc_0 ?_
    refine lv_istore_n hx hb dX10_keep_47 rfl hl (by decide) rfl (fun ls hl => ?_)
    have hl : lv_has ls 3 [(2, .int (0 : Int32)), (0, .ref (ad E 1000 0)), (1, .int p1)] := hl
    exact cb_X10_keep_48 C hr hlk  _ _ _ _ h0 hf hI (lv_sub hl [1, 2, 0] rfl)
  · replace hf := it hf hc
    refine lv_iconst (v := (-1 : Int32)) hx hb dX10_keep_7 kc_m1 ?_
    obtain rfl := Option.some.inj hf
    exact m_iret C hr hlk hI dX10_keep_8

theorem dX10_lacks_0 : decode cX10_lacks 0 = .ok (.iload_n 1, 1) := by decide +kernel
theorem dX10_lacks_1 : decode cX10_lacks 1 = .ok (.invokestatic 330, 3) := by decide +kernel
theorem dX10_lacks_4 : decode cX10_lacks 4 = .ok (.ifCond .ne 7, 3) := by decide +kernel
theorem dX10_lacks_7 : decode cX10_lacks 7 = .ok (.iconst (-1), 1) := by decide +kernel
theorem dX10_lacks_8 : decode cX10_lacks 8 = .ok (.goto 41, 3) := by decide +kernel
theorem dX10_lacks_11 : decode cX10_lacks 11 = .ok (.aload_n 0, 1) := by decide +kernel
theorem dX10_lacks_12 : decode cX10_lacks 12 = .ok (.getfield 57, 3) := by decide +kernel
theorem dX10_lacks_15 : decode cX10_lacks 15 = .ok (.iload_n 1, 1) := by decide +kernel
theorem dX10_lacks_16 : decode cX10_lacks 16 = .ok (.iaload, 1) := by decide +kernel
theorem dX10_lacks_17 : decode cX10_lacks 17 = .ok (.ifCond .ne 12, 3) := by decide +kernel
theorem dX10_lacks_20 : decode cX10_lacks 20 = .ok (.aload_n 0, 1) := by decide +kernel
theorem dX10_lacks_21 : decode cX10_lacks 21 = .ok (.bipush (-11), 2) := by decide +kernel
theorem dX10_lacks_23 : decode cX10_lacks 23 = .ok (.invokevirtual 333, 3) := by decide +kernel
theorem dX10_lacks_26 : decode cX10_lacks 26 = .ok (.goto 23, 3) := by decide +kernel
theorem dX10_lacks_29 : decode cX10_lacks 29 = .ok (.aload_n 0, 1) := by decide +kernel
theorem dX10_lacks_30 : decode cX10_lacks 30 = .ok (.getfield 57, 3) := by decide +kernel
theorem dX10_lacks_33 : decode cX10_lacks 33 = .ok (.iload_n 1, 1) := by decide +kernel
theorem dX10_lacks_34 : decode cX10_lacks 34 = .ok (.iaload, 1) := by decide +kernel
theorem dX10_lacks_35 : decode cX10_lacks 35 = .ok (.iconst 5, 1) := by decide +kernel
theorem dX10_lacks_36 : decode cX10_lacks 36 = .ok (.if_icmp .eq 12, 3) := by decide +kernel
theorem dX10_lacks_39 : decode cX10_lacks 39 = .ok (.aload_n 0, 1) := by decide +kernel
theorem dX10_lacks_40 : decode cX10_lacks 40 = .ok (.bipush (-12), 2) := by decide +kernel
theorem dX10_lacks_42 : decode cX10_lacks 42 = .ok (.invokevirtual 333, 3) := by decide +kernel
theorem dX10_lacks_45 : decode cX10_lacks 45 = .ok (.goto 4, 3) := by decide +kernel
theorem dX10_lacks_48 : decode cX10_lacks 48 = .ok (.iconst 0, 1) := by decide +kernel
theorem dX10_lacks_49 : decode cX10_lacks 49 = .ok (.ireturn, 1) := by decide +kernel
def f_X10_lacks (μ : Mm) (p1 : Int32) : Option (Int32 × Mm) :=
 (f_X10_isTape μ p1).bind fun q11 =>
 if q11 = 0 then
 some ((-1 : Int32), μ)
 else
 (ra μ 1020 0 6 p1).bind fun v13 =>
 if v13 = 0 then
 (f_X10_refuse μ (-11 : Int32)).bind fun q19 =>
 some (q19.1, q19.2)
 else
 (ra μ 1020 0 6 p1).bind fun v15 =>
 if v15 = (5 : Int32) then
 some ((0 : Int32), μ)
 else
 (f_X10_refuse μ (-12 : Int32)).bind fun q17 =>
 some (q17.1, q17.2)
set_option maxHeartbeats 4000000 in
set_option maxRecDepth 100000 in
theorem c_X10_lacks (l : Launch) (E : En) {μ : Mm} {p1 : Int32} (h0 : l10 E 0) {z : Int32 × Mm} (hf : f_X10_lacks μ p1 = some z) : Met l yX10_lacks (wt yX10_lacks cX10_lacks 2 (some .int)) { frames := 2, cells := 0, slots := 0, locals := 42 } (Pm E [.ref (ad E 1000 0), .int p1] μ) (Qm E (some (.int z.1)) z.2) 0 0 (Ad E) := by
  unfold f_X10_lacks at hf
  refine met_of (cc := cX10_lacks) (nL := 2) (ret := (some .int)) (by decide) _ (Nat.le_of_ble_eq_true rfl) ?_
  intro p e s m below meth c C hr hlk hI ls hl
  have hx := C.1.1
  have hb := C.1.2.1
  have hl : lv_has ls 2 [(0, .ref (ad E 1000 0)), (1, .int p1)] := hl
  refine lv_iload_n hx hb dX10_lacks_0 rfl (lv_at hl 1 rfl) ?_
  obtain ⟨q11, e12, hf⟩ := ob hf
  refine mcS (As := [.int p1]) (rest := []) C hI (c_X10_isTape l E  e12) ml_X10_330 ks_X10_isTape rfl rfl ⟨Nat.le_of_ble_eq_true rfl, Nat.le_of_ble_eq_true rfl⟩ ⟨Nat.zero_le _, Nat.zero_le _⟩ rfl rfl hl.1 (Nat.le_of_ble_eq_true rfl) dX10_lacks_1 (st1 := [.int q11]) rfl (fun H locs hI => ?_)
  refine lv_if_ne (tgt := 11) hx hb dX10_lacks_4 rfl (fun hc => ?_) (fun hc => ?_)
  · replace hf := ie hf hc
    refine lv_aload_n hx hb dX10_lacks_11 rfl (lv_at hl 0 rfl) ?_
    refine gf_10_19 C hI h0.1 fl_X10_57 dX10_lacks_12 ?_
    refine lv_iload_n hx hb dX10_lacks_15 rfl (lv_at hl 1 rfl) ?_
    obtain ⟨v13, e14, hf⟩ := ob hf
    refine m_iald C hI h0.2.2.2.2.2.2.2.2.2.2.2.2.2.1 (ce_1020 E _ _ _) e14 dX10_lacks_16 ?_
    refine lv_if_ne (tgt := 29) hx hb dX10_lacks_17 rfl (fun hc => ?_) (fun hc => ?_)
    · replace hf := ie hf hc
      refine lv_aload_n hx hb dX10_lacks_29 rfl (lv_at hl 0 rfl) ?_
      refine gf_10_19 C hI h0.1 fl_X10_57 dX10_lacks_30 ?_
      refine lv_iload_n hx hb dX10_lacks_33 rfl (lv_at hl 1 rfl) ?_
      obtain ⟨v15, e16, hf⟩ := ob hf
      refine m_iald C hI h0.2.2.2.2.2.2.2.2.2.2.2.2.2.1 (ce_1020 E _ _ _) e16 dX10_lacks_34 ?_
      refine lv_iconst (v := (5 : Int32)) hx hb dX10_lacks_35 kc_5 ?_
      refine lv_icmp_eq (tgt := 48) hx hb dX10_lacks_36 rfl (fun hc => ?_) (fun hc => ?_)
      · replace hf := it hf hc
        refine lv_iconst (v := (0 : Int32)) hx hb dX10_lacks_48 kc_0 ?_
        obtain rfl := Option.some.inj hf
        exact m_iret C hr hlk hI dX10_lacks_49
      · replace hf := ie hf hc
        refine lv_aload_n hx hb dX10_lacks_39 rfl (lv_at hl 0 rfl) ?_
        refine lv_bipush (v := (-12 : Int32)) hx hb dX10_lacks_40 kb_m12 ?_
        obtain ⟨q17, e18, hf⟩ := ob hf
        refine mcV (As := [.int (-12 : Int32)]) (rest := []) C hI (c_X10_refuse l E h0 e18) ml_X10_333 kv_X10_refuse (m_recv C hI h0.1 (ce_1000 E _ _ _) rfl) rfl rfl ⟨Nat.le_of_ble_eq_true rfl, Nat.le_of_ble_eq_true rfl⟩ ⟨Nat.zero_le _, Nat.zero_le _⟩ rfl rfl hl.1 (Nat.le_of_ble_eq_true rfl) dX10_lacks_42 (st1 := [.int q17.1]) rfl (fun H locs hI => ?_)
        refine lv_goto (tgt := 49) hx hb dX10_lacks_45 rfl ?_
        obtain rfl := Option.some.inj hf
        exact m_iret C hr hlk hI dX10_lacks_49
    · replace hf := it hf hc
      refine lv_aload_n hx hb dX10_lacks_20 rfl (lv_at hl 0 rfl) ?_
      refine lv_bipush (v := (-11 : Int32)) hx hb dX10_lacks_21 kb_m11 ?_
      obtain ⟨q19, e20, hf⟩ := ob hf
      refine mcV (As := [.int (-11 : Int32)]) (rest := []) C hI (c_X10_refuse l E h0 e20) ml_X10_333 kv_X10_refuse (m_recv C hI h0.1 (ce_1000 E _ _ _) rfl) rfl rfl ⟨Nat.le_of_ble_eq_true rfl, Nat.le_of_ble_eq_true rfl⟩ ⟨Nat.zero_le _, Nat.zero_le _⟩ rfl rfl hl.1 (Nat.le_of_ble_eq_true rfl) dX10_lacks_23 (st1 := [.int q19.1]) rfl (fun H locs hI => ?_)
      refine lv_goto (tgt := 49) hx hb dX10_lacks_26 rfl ?_
      obtain rfl := Option.some.inj hf
      exact m_iret C hr hlk hI dX10_lacks_49
  · replace hf := it hf hc
    refine lv_iconst (v := (-1 : Int32)) hx hb dX10_lacks_7 kc_m1 ?_
    refine lv_goto (tgt := 49) hx hb dX10_lacks_8 rfl ?_
    obtain rfl := Option.some.inj hf
    exact m_iret C hr hlk hI dX10_lacks_49

theorem dX10_back_0 : decode cX10_back 0 = .ok (.aload_n 0, 1) := by decide +kernel
theorem dX10_back_1 : decode cX10_back 1 = .ok (.iload_n 1, 1) := by decide +kernel
theorem dX10_back_2 : decode cX10_back 2 = .ok (.invokevirtual 339, 3) := by decide +kernel
theorem dX10_back_5 : decode cX10_back 5 = .ok (.istore_n 2, 1) := by decide +kernel
theorem dX10_back_6 : decode cX10_back 6 = .ok (.iload_n 2, 1) := by decide +kernel
theorem dX10_back_7 : decode cX10_back 7 = .ok (.ifCond .eq 5, 3) := by decide +kernel
theorem dX10_back_10 : decode cX10_back 10 = .ok (.iload_n 2, 1) := by decide +kernel
theorem dX10_back_11 : decode cX10_back 11 = .ok (.ireturn, 1) := by decide +kernel
theorem dX10_back_12 : decode cX10_back 12 = .ok (.aload_n 0, 1) := by decide +kernel
theorem dX10_back_13 : decode cX10_back 13 = .ok (.aload_n 0, 1) := by decide +kernel
theorem dX10_back_14 : decode cX10_back 14 = .ok (.getfield 67, 3) := by decide +kernel
theorem dX10_back_17 : decode cX10_back 17 = .ok (.iload_n 1, 1) := by decide +kernel
theorem dX10_back_18 : decode cX10_back 18 = .ok (.iaload, 1) := by decide +kernel
theorem dX10_back_19 : decode cX10_back 19 = .ok (.putfield 7, 3) := by decide +kernel
theorem dX10_back_22 : decode cX10_back 22 = .ok (.aload_n 0, 1) := by decide +kernel
theorem dX10_back_23 : decode cX10_back 23 = .ok (.aload_n 0, 1) := by decide +kernel
theorem dX10_back_24 : decode cX10_back 24 = .ok (.getfield 70, 3) := by decide +kernel
theorem dX10_back_27 : decode cX10_back 27 = .ok (.iload_n 1, 1) := by decide +kernel
theorem dX10_back_28 : decode cX10_back 28 = .ok (.iaload, 1) := by decide +kernel
theorem dX10_back_29 : decode cX10_back 29 = .ok (.putfield 13, 3) := by decide +kernel
theorem dX10_back_32 : decode cX10_back 32 = .ok (.aload_n 0, 1) := by decide +kernel
theorem dX10_back_33 : decode cX10_back 33 = .ok (.aload_n 0, 1) := by decide +kernel
theorem dX10_back_34 : decode cX10_back 34 = .ok (.getfield 73, 3) := by decide +kernel
theorem dX10_back_37 : decode cX10_back 37 = .ok (.iload_n 1, 1) := by decide +kernel
theorem dX10_back_38 : decode cX10_back 38 = .ok (.iaload, 1) := by decide +kernel
theorem dX10_back_39 : decode cX10_back 39 = .ok (.putfield 16, 3) := by decide +kernel
theorem dX10_back_42 : decode cX10_back 42 = .ok (.iconst 0, 1) := by decide +kernel
theorem dX10_back_43 : decode cX10_back 43 = .ok (.istore_n 3, 1) := by decide +kernel
theorem dX10_back_44 : decode cX10_back 44 = .ok (.iload_n 3, 1) := by decide +kernel
theorem dX10_back_45 : decode cX10_back 45 = .ok (.bipush 8, 2) := by decide +kernel
theorem dX10_back_47 : decode cX10_back 47 = .ok (.if_icmp .ge 50, 3) := by decide +kernel
theorem dX10_back_50 : decode cX10_back 50 = .ok (.aload_n 0, 1) := by decide +kernel
theorem dX10_back_51 : decode cX10_back 51 = .ok (.getfield 19, 3) := by decide +kernel
theorem dX10_back_54 : decode cX10_back 54 = .ok (.iload_n 3, 1) := by decide +kernel
theorem dX10_back_55 : decode cX10_back 55 = .ok (.aload_n 0, 1) := by decide +kernel
theorem dX10_back_56 : decode cX10_back 56 = .ok (.getfield 76, 3) := by decide +kernel
theorem dX10_back_59 : decode cX10_back 59 = .ok (.bipush 8, 2) := by decide +kernel
theorem dX10_back_61 : decode cX10_back 61 = .ok (.iload_n 1, 1) := by decide +kernel
theorem dX10_back_62 : decode cX10_back 62 = .ok (.imul, 1) := by decide +kernel
theorem dX10_back_63 : decode cX10_back 63 = .ok (.iload_n 3, 1) := by decide +kernel
theorem dX10_back_64 : decode cX10_back 64 = .ok (.iadd, 1) := by decide +kernel
theorem dX10_back_65 : decode cX10_back 65 = .ok (.iaload, 1) := by decide +kernel
theorem dX10_back_66 : decode cX10_back 66 = .ok (.iastore, 1) := by decide +kernel
theorem dX10_back_67 : decode cX10_back 67 = .ok (.aload_n 0, 1) := by decide +kernel
theorem dX10_back_68 : decode cX10_back 68 = .ok (.getfield 23, 3) := by decide +kernel
theorem dX10_back_71 : decode cX10_back 71 = .ok (.iload_n 3, 1) := by decide +kernel
theorem dX10_back_72 : decode cX10_back 72 = .ok (.aload_n 0, 1) := by decide +kernel
theorem dX10_back_73 : decode cX10_back 73 = .ok (.getfield 79, 3) := by decide +kernel
theorem dX10_back_76 : decode cX10_back 76 = .ok (.bipush 8, 2) := by decide +kernel
theorem dX10_back_78 : decode cX10_back 78 = .ok (.iload_n 1, 1) := by decide +kernel
theorem dX10_back_79 : decode cX10_back 79 = .ok (.imul, 1) := by decide +kernel
theorem dX10_back_80 : decode cX10_back 80 = .ok (.iload_n 3, 1) := by decide +kernel
theorem dX10_back_81 : decode cX10_back 81 = .ok (.iadd, 1) := by decide +kernel
theorem dX10_back_82 : decode cX10_back 82 = .ok (.iaload, 1) := by decide +kernel
theorem dX10_back_83 : decode cX10_back 83 = .ok (.iastore, 1) := by decide +kernel
theorem dX10_back_84 : decode cX10_back 84 = .ok (.aload_n 0, 1) := by decide +kernel
theorem dX10_back_85 : decode cX10_back 85 = .ok (.getfield 26, 3) := by decide +kernel
theorem dX10_back_88 : decode cX10_back 88 = .ok (.iload_n 3, 1) := by decide +kernel
theorem dX10_back_89 : decode cX10_back 89 = .ok (.iconst (-1), 1) := by decide +kernel
theorem dX10_back_90 : decode cX10_back 90 = .ok (.iastore, 1) := by decide +kernel
theorem dX10_back_91 : decode cX10_back 91 = .ok (.iinc 3 1, 3) := by decide +kernel
theorem dX10_back_94 : decode cX10_back 94 = .ok (.goto (-50), 3) := by decide +kernel
theorem dX10_back_97 : decode cX10_back 97 = .ok (.iconst 0, 1) := by decide +kernel
theorem dX10_back_98 : decode cX10_back 98 = .ok (.istore_n 3, 1) := by decide +kernel
theorem dX10_back_99 : decode cX10_back 99 = .ok (.iload_n 3, 1) := by decide +kernel
theorem dX10_back_100 : decode cX10_back 100 = .ok (.iconst 3, 1) := by decide +kernel
theorem dX10_back_101 : decode cX10_back 101 = .ok (.if_icmp .ge 21, 3) := by decide +kernel
theorem dX10_back_104 : decode cX10_back 104 = .ok (.aload_n 0, 1) := by decide +kernel
theorem dX10_back_105 : decode cX10_back 105 = .ok (.iconst 3, 1) := by decide +kernel
theorem dX10_back_106 : decode cX10_back 106 = .ok (.iconst 3, 1) := by decide +kernel
theorem dX10_back_107 : decode cX10_back 107 = .ok (.iload_n 1, 1) := by decide +kernel
theorem dX10_back_108 : decode cX10_back 108 = .ok (.imul, 1) := by decide +kernel
theorem dX10_back_109 : decode cX10_back 109 = .ok (.iadd, 1) := by decide +kernel
theorem dX10_back_110 : decode cX10_back 110 = .ok (.iload_n 3, 1) := by decide +kernel
theorem dX10_back_111 : decode cX10_back 111 = .ok (.iadd, 1) := by decide +kernel
theorem dX10_back_112 : decode cX10_back 112 = .ok (.iload_n 3, 1) := by decide +kernel
theorem dX10_back_113 : decode cX10_back 113 = .ok (.invokevirtual 336, 3) := by decide +kernel
theorem dX10_back_116 : decode cX10_back 116 = .ok (.iinc 3 1, 3) := by decide +kernel
theorem dX10_back_119 : decode cX10_back 119 = .ok (.goto (-20), 3) := by decide +kernel
theorem dX10_back_122 : decode cX10_back 122 = .ok (.aload_n 0, 1) := by decide +kernel
theorem dX10_back_123 : decode cX10_back 123 = .ok (.iconst 0, 1) := by decide +kernel
theorem dX10_back_124 : decode cX10_back 124 = .ok (.putfield 143, 3) := by decide +kernel
theorem dX10_back_127 : decode cX10_back 127 = .ok (.aload_n 0, 1) := by decide +kernel
theorem dX10_back_128 : decode cX10_back 128 = .ok (.invokevirtual 156, 3) := by decide +kernel
theorem dX10_back_131 : decode cX10_back 131 = .ok (.ireturn, 1) := by decide +kernel
def f_X10_back_b99 (F : Nat) : Nat → Mm → Int32 → Int32 → Option (Int32 × Mm)
 | 0, _, _, _ => none
 | N + 1, μ, a1, a3 =>
 if (3 : Int32) ≤ a3 then
 (wf μ 1000 0 12 (0 : Int32)).bind fun m31 =>
 (f_X10_all m31).bind fun q33 =>
 some (q33, m31)
 else
 (f_X10_moves F μ (((3 : Int32) + ((3 : Int32) * a1)) + a3) a3).bind fun q35 =>
 f_X10_back_b99 F N q35 a1 (a3 + (1 : Int32))
set_option maxHeartbeats 4000000 in
set_option maxRecDepth 100000 in
theorem cb_X10_back_99 {l : Launch} {E : En} {p : Program} {e : Env} {s : State} {m : MethodId} {av : Array Value} {below : List Frame} {meth : Method} {c : Code} (C : Cx E p s m av c cX10_back 4 yX10_back.cls) (hr : meth.sig.returnType = (some .int)) (hlk : meth.locks = false) {F : Nat} {z : Int32 × Mm} : ∀ (N : Nat) (μ : Mm) (a1 : Int32) (a3 : Int32) (h_a0 : l10 E 0), f_X10_back_b99 F N μ a1 a3 = some z → ∀ {H : Heap} {locs : List Loc} {ls : Array Slot}, Iv E s μ H locs → lv_has ls 4 [(0, .ref (ad E 1000 0)), (1, .int a1), (3, .int a3)] → W p l e { frames := 3, cells := 0, slots := 0, locals := 63 } s m av below meth c H locs 0 0 (MQ below (Qm E (some (.int z.1)) z.2) av s 0 0 (Ad E)) (F0 m 99 ls []) := by
  have hx := C.1.1
  have hb := C.1.2.1
  intro N
  induction N with
  | zero => intro μ a1 a3 h_a0 hf; cases hf
  | succ N ih =>
    intro μ a1 a3 h_a0 hf H locs ls hI hl
    rw [f_X10_back_b99] at hf
    refine lv_iload_n hx hb dX10_back_99 rfl (lv_at hl 2 rfl) ?_
    refine lv_iconst (v := (3 : Int32)) hx hb dX10_back_100 kc_3 ?_
    refine lv_icmp_ge (tgt := 122) hx hb dX10_back_101 rfl (fun hc => ?_) (fun hc => ?_)
    · replace hf := it hf hc
      refine lv_aload_n hx hb dX10_back_122 rfl (lv_at hl 0 rfl) ?_
      refine lv_iconst (v := (0 : Int32)) hx hb dX10_back_123 kc_0 ?_
      obtain ⟨m31, e32, hf⟩ := ob hf
      refine pf_10_12 C hI h_a0.1 fl_X10_143 e32 dX10_back_124 (fun H locs hI => ?_)
      refine lv_aload_n hx hb dX10_back_127 rfl (lv_at hl 0 rfl) ?_
      obtain ⟨q33, e34, hf⟩ := ob hf
      refine mcV (As := []) (rest := []) C hI (c_X10_all l E h_a0 e34) ml_X10_156 kv_X10_all (m_recv C hI h_a0.1 (ce_1000 E _ _ _) rfl) rfl rfl ⟨Nat.le_of_ble_eq_true rfl, Nat.le_of_ble_eq_true rfl⟩ ⟨Nat.zero_le _, Nat.zero_le _⟩ rfl rfl hl.1 (Nat.le_of_ble_eq_true rfl) dX10_back_128 (st1 := [.int q33]) rfl (fun H locs hI => ?_)
      obtain rfl := Option.some.inj hf
      exact m_iret C hr hlk hI dX10_back_131
    · replace hf := ie hf hc
      refine lv_aload_n hx hb dX10_back_104 rfl (lv_at hl 0 rfl) ?_
      refine lv_iconst (v := (3 : Int32)) hx hb dX10_back_105 kc_3 ?_
      refine lv_iconst (v := (3 : Int32)) hx hb dX10_back_106 kc_3 ?_
      refine lv_iload_n hx hb dX10_back_107 rfl (lv_at hl 1 rfl) ?_
      refine lv_imul hx hb dX10_back_108 ?_
      refine lv_iadd hx hb dX10_back_109 ?_
      refine lv_iload_n hx hb dX10_back_110 rfl (lv_at hl 2 rfl) ?_
      refine lv_iadd hx hb dX10_back_111 ?_
      refine lv_iload_n hx hb dX10_back_112 rfl (lv_at hl 2 rfl) ?_
      obtain ⟨q35, e36, hf⟩ := ob hf
      refine mcV (As := [.int (((3 : Int32) + ((3 : Int32) * a1)) + a3), .int a3]) (rest := []) C hI (c_X10_moves l E h_a0 e36) ml_X10_336 kv_X10_moves (m_recv C hI h_a0.1 (ce_1000 E _ _ _) rfl) rfl rfl ⟨Nat.le_of_ble_eq_true rfl, Nat.le_of_ble_eq_true rfl⟩ ⟨Nat.zero_le _, Nat.zero_le _⟩ rfl rfl hl.1 (Nat.le_of_ble_eq_true rfl) dX10_back_113 (st1 := []) rfl (fun H locs hI => ?_)
      refine lv_iinc (v := a3 + (1 : Int32)) hx hb dX10_back_116 hl (k := 2) rfl (ki_1 _) (by decide) rfl (fun ls hl => ?_)
      have hl : lv_has ls 4 [(3, .int (a3 + (1 : Int32))), (0, .ref (ad E 1000 0)), (1, .int a1)] := hl
      refine lv_goto (tgt := 99) hx hb dX10_back_119 rfl ?_
      exact ih _ _ _ h_a0 hf hI (lv_sub hl [1, 2, 0] rfl)
def f_X10_back_b44 (F : Nat) : Nat → Mm → Int32 → Int32 → Option (Int32 × Mm)
 | 0, _, _, _ => none
 | N + 1, μ, a1, a3 =>
 if (8 : Int32) ≤ a3 then
 f_X10_back_b99 F F μ a1 (0 : Int32)
 else
 (ra μ 1026 0 48 (((8 : Int32) * a1) + a3)).bind fun v37 =>
 (wa μ 1005 0 8 a3 v37).bind fun m39 =>
 (ra m39 1027 0 48 (((8 : Int32) * a1) + a3)).bind fun v41 =>
 (wa m39 1006 0 8 a3 v41).bind fun m43 =>
 (wa m43 1007 0 8 a3 (-1 : Int32)).bind fun m45 =>
 f_X10_back_b44 F N m45 a1 (a3 + (1 : Int32))
set_option maxHeartbeats 4000000 in
set_option maxRecDepth 100000 in
theorem cb_X10_back_44 {l : Launch} {E : En} {p : Program} {e : Env} {s : State} {m : MethodId} {av : Array Value} {below : List Frame} {meth : Method} {c : Code} (C : Cx E p s m av c cX10_back 4 yX10_back.cls) (hr : meth.sig.returnType = (some .int)) (hlk : meth.locks = false) {F : Nat} {z : Int32 × Mm} : ∀ (N : Nat) (μ : Mm) (a1 : Int32) (a3 : Int32) (h_a0 : l10 E 0), f_X10_back_b44 F N μ a1 a3 = some z → ∀ {H : Heap} {locs : List Loc} {ls : Array Slot}, Iv E s μ H locs → lv_has ls 4 [(0, .ref (ad E 1000 0)), (1, .int a1), (3, .int a3)] → W p l e { frames := 3, cells := 0, slots := 0, locals := 63 } s m av below meth c H locs 0 0 (MQ below (Qm E (some (.int z.1)) z.2) av s 0 0 (Ad E)) (F0 m 44 ls []) := by
  have hx := C.1.1
  have hb := C.1.2.1
  intro N
  induction N with
  | zero => intro μ a1 a3 h_a0 hf; cases hf
  | succ N ih =>
    intro μ a1 a3 h_a0 hf H locs ls hI hl
    rw [f_X10_back_b44] at hf
    refine lv_iload_n hx hb dX10_back_44 rfl (lv_at hl 2 rfl) ?_
    refine lv_bipush (v := (8 : Int32)) hx hb dX10_back_45 kb_8 ?_
    refine lv_icmp_ge (tgt := 97) hx hb dX10_back_47 rfl (fun hc => ?_) (fun hc => ?_)
    · replace hf := it hf hc
      refine lv_iconst (v := (0 : Int32)) hx hb dX10_back_97 kc_0 ?_
      refine lv_istore_n hx hb dX10_back_98 rfl hl (by decide) rfl (fun ls hl => ?_)
      have hl : lv_has ls 4 [(3, .int (0 : Int32)), (0, .ref (ad E 1000 0)), (1, .int a1)] := hl
      exact cb_X10_back_99 C hr hlk  _ _ _ _ h_a0 hf hI (lv_sub hl [1, 2, 0] rfl)
    · replace hf := ie hf hc
      refine lv_aload_n hx hb dX10_back_50 rfl (lv_at hl 0 rfl) ?_
      refine gf_10_4 C hI h_a0.1 fl_X10_19 dX10_back_51 ?_
      refine lv_iload_n hx hb dX10_back_54 rfl (lv_at hl 2 rfl) ?_
      refine lv_aload_n hx hb dX10_back_55 rfl (lv_at hl 0 rfl) ?_
      refine gf_10_25 C hI h_a0.1 fl_X10_76 dX10_back_56 ?_
      refine lv_bipush (v := (8 : Int32)) hx hb dX10_back_59 kb_8 ?_
      refine lv_iload_n hx hb dX10_back_61 rfl (lv_at hl 1 rfl) ?_
      refine lv_imul hx hb dX10_back_62 ?_
      refine lv_iload_n hx hb dX10_back_63 rfl (lv_at hl 2 rfl) ?_
      refine lv_iadd hx hb dX10_back_64 ?_
      obtain ⟨v37, e38, hf⟩ := ob hf
      refine m_iald C hI h_a0.2.2.2.2.2.2.2.2.2.2.2.2.2.2.2.2.2.2.2.1 (ce_1026 E _ _ _) e38 dX10_back_65 ?_
      obtain ⟨m39, e40, hf⟩ := ob hf
      refine m_iast C hI h_a0.2.1 (ce_1005 E _) e40 dX10_back_66 (fun H locs hI => ?_)
      refine lv_aload_n hx hb dX10_back_67 rfl (lv_at hl 0 rfl) ?_
      refine gf_10_5 C hI h_a0.1 fl_X10_23 dX10_back_68 ?_
      refine lv_iload_n hx hb dX10_back_71 rfl (lv_at hl 2 rfl) ?_
      refine lv_aload_n hx hb dX10_back_72 rfl (lv_at hl 0 rfl) ?_
      refine gf_10_26 C hI h_a0.1 fl_X10_79 dX10_back_73 ?_
      refine lv_bipush (v := (8 : Int32)) hx hb dX10_back_76 kb_8 ?_
      refine lv_iload_n hx hb dX10_back_78 rfl (lv_at hl 1 rfl) ?_
      refine lv_imul hx hb dX10_back_79 ?_
      refine lv_iload_n hx hb dX10_back_80 rfl (lv_at hl 2 rfl) ?_
      refine lv_iadd hx hb dX10_back_81 ?_
      obtain ⟨v41, e42, hf⟩ := ob hf
      refine m_iald C hI h_a0.2.2.2.2.2.2.2.2.2.2.2.2.2.2.2.2.2.2.2.2.1 (ce_1027 E _ _ _) e42 dX10_back_82 ?_
      obtain ⟨m43, e44, hf⟩ := ob hf
      refine m_iast C hI h_a0.2.2.1 (ce_1006 E _) e44 dX10_back_83 (fun H locs hI => ?_)
      refine lv_aload_n hx hb dX10_back_84 rfl (lv_at hl 0 rfl) ?_
      refine gf_10_6 C hI h_a0.1 fl_X10_26 dX10_back_85 ?_
      refine lv_iload_n hx hb dX10_back_88 rfl (lv_at hl 2 rfl) ?_
      refine lv_iconst (v := (-1 : Int32)) hx hb dX10_back_89 kc_m1 ?_
      obtain ⟨m45, e46, hf⟩ := ob hf
      refine m_iast C hI h_a0.2.2.2.1 (ce_1007 E _) e46 dX10_back_90 (fun H locs hI => ?_)
      refine lv_iinc (v := a3 + (1 : Int32)) hx hb dX10_back_91 hl (k := 2) rfl (ki_1 _) (by decide) rfl (fun ls hl => ?_)
      have hl : lv_has ls 4 [(3, .int (a3 + (1 : Int32))), (0, .ref (ad E 1000 0)), (1, .int a1)] := hl
      refine lv_goto (tgt := 44) hx hb dX10_back_94 rfl ?_
      exact ih _ _ _ h_a0 hf hI (lv_sub hl [1, 2, 0] rfl)
def f_X10_back (F : Nat) (μ : Mm) (p1 : Int32) : Option (Int32 × Mm) :=
 (f_X10_lacks μ p1).bind fun q47 =>
 if q47.1 = 0 then
 (ra q47.2 1023 0 6 p1).bind fun v49 =>
 (wf q47.2 1000 0 1 v49).bind fun m51 =>
 (ra m51 1024 0 6 p1).bind fun v53 =>
 (wf m51 1000 0 2 v53).bind fun m55 =>
 (ra m55 1025 0 6 p1).bind fun v57 =>
 (wf m55 1000 0 3 v57).bind fun m59 =>
 f_X10_back_b44 F F m59 p1 (0 : Int32)
 else
 some (q47.1, q47.2)
set_option maxHeartbeats 4000000 in
set_option maxRecDepth 100000 in
theorem c_X10_back (l : Launch) (E : En) {F : Nat} {μ : Mm} {p1 : Int32} (h0 : l10 E 0) {z : Int32 × Mm} (hf : f_X10_back F μ p1 = some z) : Met l yX10_back (wt yX10_back cX10_back 4 (some .int)) { frames := 3, cells := 0, slots := 0, locals := 63 } (Pm E [.ref (ad E 1000 0), .int p1] μ) (Qm E (some (.int z.1)) z.2) 0 0 (Ad E) := by
  unfold f_X10_back at hf
  refine met_of (cc := cX10_back) (nL := 4) (ret := (some .int)) (by decide) _ (Nat.le_of_ble_eq_true rfl) ?_
  intro p e s m below meth c C hr hlk hI ls hl
  have hx := C.1.1
  have hb := C.1.2.1
  have hl : lv_has ls 4 [(0, .ref (ad E 1000 0)), (1, .int p1)] := hl
  refine lv_aload_n hx hb dX10_back_0 rfl (lv_at hl 0 rfl) ?_
  refine lv_iload_n hx hb dX10_back_1 rfl (lv_at hl 1 rfl) ?_
  obtain ⟨q47, e48, hf⟩ := ob hf
  refine mcV (As := [.int p1]) (rest := []) C hI (c_X10_lacks l E h0 e48) ml_X10_339 kv_X10_lacks (m_recv C hI h0.1 (ce_1000 E _ _ _) rfl) rfl rfl ⟨Nat.le_of_ble_eq_true rfl, Nat.le_of_ble_eq_true rfl⟩ ⟨Nat.zero_le _, Nat.zero_le _⟩ rfl rfl hl.1 (Nat.le_of_ble_eq_true rfl) dX10_back_2 (st1 := [.int q47.1]) rfl (fun H locs hI => ?_)
  refine lv_istore_n hx hb dX10_back_5 rfl hl (by decide) rfl (fun ls hl => ?_)
  have hl : lv_has ls 4 [(2, .int q47.1), (0, .ref (ad E 1000 0)), (1, .int p1)] := hl
  refine lv_iload_n hx hb dX10_back_6 rfl (lv_at hl 0 rfl) ?_
  refine lv_if_eq (tgt := 12) hx hb dX10_back_7 rfl (fun hc => ?_) (fun hc => ?_)
  · replace hf := it hf hc
    refine lv_aload_n hx hb dX10_back_12 rfl (lv_at hl 1 rfl) ?_
    refine lv_aload_n hx hb dX10_back_13 rfl (lv_at hl 1 rfl) ?_
    refine gf_10_22 C hI h0.1 fl_X10_67 dX10_back_14 ?_
    refine lv_iload_n hx hb dX10_back_17 rfl (lv_at hl 2 rfl) ?_
    obtain ⟨v49, e50, hf⟩ := ob hf
    refine m_iald C hI h0.2.2.2.2.2.2.2.2.2.2.2.2.2.2.2.2.1 (ce_1023 E _ _ _) e50 dX10_back_18 ?_
    obtain ⟨m51, e52, hf⟩ := ob hf
    refine pf_10_1 C hI h0.1 fl_X10_7 e52 dX10_back_19 (fun H locs hI => ?_)
    refine lv_aload_n hx hb dX10_back_22 rfl (lv_at hl 1 rfl) ?_
    refine lv_aload_n hx hb dX10_back_23 rfl (lv_at hl 1 rfl) ?_
    refine gf_10_23 C hI h0.1 fl_X10_70 dX10_back_24 ?_
    refine lv_iload_n hx hb dX10_back_27 rfl (lv_at hl 2 rfl) ?_
    obtain ⟨v53, e54, hf⟩ := ob hf
    refine m_iald C hI h0.2.2.2.2.2.2.2.2.2.2.2.2.2.2.2.2.2.1 (ce_1024 E _ _ _) e54 dX10_back_28 ?_
    obtain ⟨m55, e56, hf⟩ := ob hf
    refine pf_10_2 C hI h0.1 fl_X10_13 e56 dX10_back_29 (fun H locs hI => ?_)
    refine lv_aload_n hx hb dX10_back_32 rfl (lv_at hl 1 rfl) ?_
    refine lv_aload_n hx hb dX10_back_33 rfl (lv_at hl 1 rfl) ?_
    refine gf_10_24 C hI h0.1 fl_X10_73 dX10_back_34 ?_
    refine lv_iload_n hx hb dX10_back_37 rfl (lv_at hl 2 rfl) ?_
    obtain ⟨v57, e58, hf⟩ := ob hf
    refine m_iald C hI h0.2.2.2.2.2.2.2.2.2.2.2.2.2.2.2.2.2.2.1 (ce_1025 E _ _ _) e58 dX10_back_38 ?_
    obtain ⟨m59, e60, hf⟩ := ob hf
    refine pf_10_3 C hI h0.1 fl_X10_16 e60 dX10_back_39 (fun H locs hI => ?_)
    refine lv_iconst (v := (0 : Int32)) hx hb dX10_back_42 kc_0 ?_
    refine lv_istore_n hx hb dX10_back_43 rfl hl (by decide) rfl (fun ls hl => ?_)
    have hl : lv_has ls 4 [(3, .int (0 : Int32)), (2, .int q47.1), (0, .ref (ad E 1000 0)), (1, .int p1)] := hl
    exact cb_X10_back_44 C hr hlk  _ _ _ _ h0 hf hI (lv_sub hl [2, 3, 0] rfl)
  · replace hf := ie hf hc
    refine lv_iload_n hx hb dX10_back_10 rfl (lv_at hl 0 rfl) ?_
    obtain rfl := Option.some.inj hf
    exact m_iret C hr hlk hI dX10_back_11

