theorem dX10_sum_0 : decode cX10_sum 0 = .ok (.aload_n 0, 1) := by decide +kernel
theorem dX10_sum_1 : decode cX10_sum 1 = .ok (.iload_n 1, 1) := by decide +kernel
theorem dX10_sum_2 : decode cX10_sum 2 = .ok (.invokevirtual 149, 3) := by decide +kernel
theorem dX10_sum_5 : decode cX10_sum 5 = .ok (.ifCond .eq 12, 3) := by decide +kernel
theorem dX10_sum_8 : decode cX10_sum 8 = .ok (.iload_n 2, 1) := by decide +kernel
theorem dX10_sum_9 : decode cX10_sum 9 = .ok (.iconst 0, 1) := by decide +kernel
theorem dX10_sum_10 : decode cX10_sum 10 = .ok (.iconst 5, 1) := by decide +kernel
theorem dX10_sum_11 : decode cX10_sum 11 = .ok (.invokestatic 136, 3) := by decide +kernel
theorem dX10_sum_14 : decode cX10_sum 14 = .ok (.ifCond .ne 5, 3) := by decide +kernel
theorem dX10_sum_17 : decode cX10_sum 17 = .ok (.iconst (-1), 1) := by decide +kernel
theorem dX10_sum_18 : decode cX10_sum 18 = .ok (.ireturn, 1) := by decide +kernel
theorem dX10_sum_19 : decode cX10_sum 19 = .ok (.aload_n 0, 1) := by decide +kernel
theorem dX10_sum_20 : decode cX10_sum 20 = .ok (.aload_n 0, 1) := by decide +kernel
theorem dX10_sum_21 : decode cX10_sum 21 = .ok (.getfield 19, 3) := by decide +kernel
theorem dX10_sum_24 : decode cX10_sum 24 = .ok (.iload_n 1, 1) := by decide +kernel
theorem dX10_sum_25 : decode cX10_sum 25 = .ok (.iaload, 1) := by decide +kernel
theorem dX10_sum_26 : decode cX10_sum 26 = .ok (.invokevirtual 196, 3) := by decide +kernel
theorem dX10_sum_29 : decode cX10_sum 29 = .ok (.aload_n 0, 1) := by decide +kernel
theorem dX10_sum_30 : decode cX10_sum 30 = .ok (.iload_n 1, 1) := by decide +kernel
theorem dX10_sum_31 : decode cX10_sum 31 = .ok (.iload_n 2, 1) := by decide +kernel
theorem dX10_sum_32 : decode cX10_sum 32 = .ok (.invokevirtual 231, 3) := by decide +kernel
theorem dX10_sum_35 : decode cX10_sum 35 = .ok (.ireturn, 1) := by decide +kernel
def f_X10_sum (F : Nat) (μ : Mm) (p1 : Int32) (p2 : Int32) : Option (Int32 × Mm) :=
 (f_X10_isTask μ p1).bind fun q11 =>
 if q11 = 0 then
 some ((-1 : Int32), μ)
 else
 (f_X10_in μ p2 (0 : Int32) (5 : Int32)).bind fun q13 =>
 if q13 = 0 then
 some ((-1 : Int32), μ)
 else
 (ra μ 1005 0 8 p1).bind fun v15 =>
 (f_X10_startsNow F μ v15).bind fun q17 =>
 (f_X10_summed F q17 p1 p2).bind fun q19 =>
 some (q19.1, q19.2)
set_option maxHeartbeats 4000000 in
set_option maxRecDepth 100000 in
theorem c_X10_sum (l : Launch) (E : En) {F : Nat} {μ : Mm} {p1 : Int32} {p2 : Int32} (h0 : l10 E 0) {z : Int32 × Mm} (hf : f_X10_sum F μ p1 p2 = some z) : Met l yX10_sum (wt yX10_sum cX10_sum 3 (some .int)) { frames := 4, cells := 0, slots := 0, locals := 89 } (Pm E [.ref (ad E 1000 0), .int p1, .int p2] μ) (Qm E (some (.int z.1)) z.2) 0 0 (Ad E) := by
  unfold f_X10_sum at hf
  refine met_of (cc := cX10_sum) (nL := 3) (ret := (some .int)) (by decide) _ (Nat.le_of_ble_eq_true rfl) ?_
  intro p e s m below meth c C hr hlk hI ls hl
  have hx := C.1.1
  have hb := C.1.2.1
  have hl : lv_has ls 3 [(0, .ref (ad E 1000 0)), (1, .int p1), (2, .int p2)] := hl
  refine lv_aload_n hx hb dX10_sum_0 rfl (lv_at hl 0 rfl) ?_
  refine lv_iload_n hx hb dX10_sum_1 rfl (lv_at hl 1 rfl) ?_
  obtain ⟨q11, e12, hf⟩ := ob hf
  refine mcV (As := [.int p1]) (rest := []) C hI (c_X10_isTask l E h0 e12) ml_X10_149 kv_X10_isTask (m_recv C hI h0.1 (ce_1000 E _ _ _) rfl) rfl rfl ⟨Nat.le_of_ble_eq_true rfl, Nat.le_of_ble_eq_true rfl⟩ ⟨Nat.zero_le _, Nat.zero_le _⟩ rfl rfl hl.1 (Nat.le_of_ble_eq_true rfl) dX10_sum_2 (st1 := [.int q11]) rfl (fun H locs hI => ?_)
  refine lv_if_eq (tgt := 17) hx hb dX10_sum_5 rfl (fun hc => ?_) (fun hc => ?_)
  · replace hf := it hf hc
    refine lv_iconst (v := (-1 : Int32)) hx hb dX10_sum_17 kc_m1 ?_
    obtain rfl := Option.some.inj hf
    exact m_iret C hr hlk hI dX10_sum_18
  · replace hf := ie hf hc
    refine lv_iload_n hx hb dX10_sum_8 rfl (lv_at hl 2 rfl) ?_
    refine lv_iconst (v := (0 : Int32)) hx hb dX10_sum_9 kc_0 ?_
    refine lv_iconst (v := (5 : Int32)) hx hb dX10_sum_10 kc_5 ?_
    obtain ⟨q13, e14, hf⟩ := ob hf
    refine mcS (As := [.int p2, .int (0 : Int32), .int (5 : Int32)]) (rest := []) C hI (c_X10_in l E  e14) ml_X10_136 ks_X10_in rfl rfl ⟨Nat.le_of_ble_eq_true rfl, Nat.le_of_ble_eq_true rfl⟩ ⟨Nat.zero_le _, Nat.zero_le _⟩ rfl rfl hl.1 (Nat.le_of_ble_eq_true rfl) dX10_sum_11 (st1 := [.int q13]) rfl (fun H locs hI => ?_)
    refine lv_if_ne (tgt := 19) hx hb dX10_sum_14 rfl (fun hc => ?_) (fun hc => ?_)
    · replace hf := ie hf hc
      refine lv_aload_n hx hb dX10_sum_19 rfl (lv_at hl 0 rfl) ?_
      refine lv_aload_n hx hb dX10_sum_20 rfl (lv_at hl 0 rfl) ?_
      refine gf_10_4 C hI h0.1 fl_X10_19 dX10_sum_21 ?_
      refine lv_iload_n hx hb dX10_sum_24 rfl (lv_at hl 1 rfl) ?_
      obtain ⟨v15, e16, hf⟩ := ob hf
      refine m_iald C hI h0.2.1 (ce_1005 E _ _ _) e16 dX10_sum_25 ?_
      obtain ⟨q17, e18, hf⟩ := ob hf
      refine mcV (As := [.int v15]) (rest := []) C hI (c_X10_startsNow l E h0 e18) ml_X10_196 kv_X10_startsNow (m_recv C hI h0.1 (ce_1000 E _ _ _) rfl) rfl rfl ⟨Nat.le_of_ble_eq_true rfl, Nat.le_of_ble_eq_true rfl⟩ ⟨Nat.zero_le _, Nat.zero_le _⟩ rfl rfl hl.1 (Nat.le_of_ble_eq_true rfl) dX10_sum_26 (st1 := []) rfl (fun H locs hI => ?_)
      refine lv_aload_n hx hb dX10_sum_29 rfl (lv_at hl 0 rfl) ?_
      refine lv_iload_n hx hb dX10_sum_30 rfl (lv_at hl 1 rfl) ?_
      refine lv_iload_n hx hb dX10_sum_31 rfl (lv_at hl 2 rfl) ?_
      obtain ⟨q19, e20, hf⟩ := ob hf
      refine mcV (As := [.int p1, .int p2]) (rest := []) C hI (c_X10_summed l E h0 e20) ml_X10_231 kv_X10_summed (m_recv C hI h0.1 (ce_1000 E _ _ _) rfl) rfl rfl ⟨Nat.le_of_ble_eq_true rfl, Nat.le_of_ble_eq_true rfl⟩ ⟨Nat.zero_le _, Nat.zero_le _⟩ rfl rfl hl.1 (Nat.le_of_ble_eq_true rfl) dX10_sum_32 (st1 := [.int q19.1]) rfl (fun H locs hI => ?_)
      obtain rfl := Option.some.inj hf
      exact m_iret C hr hlk hI dX10_sum_35
    · replace hf := it hf hc
      refine lv_iconst (v := (-1 : Int32)) hx hb dX10_sum_17 kc_m1 ?_
      obtain rfl := Option.some.inj hf
      exact m_iret C hr hlk hI dX10_sum_18

theorem dX10_busy_0 : decode cX10_busy 0 = .ok (.aload_n 0, 1) := by decide +kernel
theorem dX10_busy_1 : decode cX10_busy 1 = .ok (.iload_n 1, 1) := by decide +kernel
theorem dX10_busy_2 : decode cX10_busy 2 = .ok (.invokevirtual 153, 3) := by decide +kernel
theorem dX10_busy_5 : decode cX10_busy 5 = .ok (.ifCond .eq 12, 3) := by decide +kernel
theorem dX10_busy_8 : decode cX10_busy 8 = .ok (.iload_n 2, 1) := by decide +kernel
theorem dX10_busy_9 : decode cX10_busy 9 = .ok (.iconst 0, 1) := by decide +kernel
theorem dX10_busy_10 : decode cX10_busy 10 = .ok (.iconst 3, 1) := by decide +kernel
theorem dX10_busy_11 : decode cX10_busy 11 = .ok (.invokestatic 136, 3) := by decide +kernel
theorem dX10_busy_14 : decode cX10_busy 14 = .ok (.ifCond .ne 5, 3) := by decide +kernel
theorem dX10_busy_17 : decode cX10_busy 17 = .ok (.iconst (-1), 1) := by decide +kernel
theorem dX10_busy_18 : decode cX10_busy 18 = .ok (.ireturn, 1) := by decide +kernel
theorem dX10_busy_19 : decode cX10_busy 19 = .ok (.aload_n 0, 1) := by decide +kernel
theorem dX10_busy_20 : decode cX10_busy 20 = .ok (.iload_n 1, 1) := by decide +kernel
theorem dX10_busy_21 : decode cX10_busy 21 = .ok (.invokevirtual 196, 3) := by decide +kernel
theorem dX10_busy_24 : decode cX10_busy 24 = .ok (.iconst 0, 1) := by decide +kernel
theorem dX10_busy_25 : decode cX10_busy 25 = .ok (.istore_n 3, 1) := by decide +kernel
theorem dX10_busy_26 : decode cX10_busy 26 = .ok (.iconst 0, 1) := by decide +kernel
theorem dX10_busy_27 : decode cX10_busy 27 = .ok (.istore 4, 2) := by decide +kernel
theorem dX10_busy_29 : decode cX10_busy 29 = .ok (.iload 4, 2) := by decide +kernel
theorem dX10_busy_31 : decode cX10_busy 31 = .ok (.iconst 1, 1) := by decide +kernel
theorem dX10_busy_32 : decode cX10_busy 32 = .ok (.iadd, 1) := by decide +kernel
theorem dX10_busy_33 : decode cX10_busy 33 = .ok (.aload_n 0, 1) := by decide +kernel
theorem dX10_busy_34 : decode cX10_busy 34 = .ok (.getfield 29, 3) := by decide +kernel
theorem dX10_busy_37 : decode cX10_busy 37 = .ok (.iload_n 1, 1) := by decide +kernel
theorem dX10_busy_38 : decode cX10_busy 38 = .ok (.iaload, 1) := by decide +kernel
theorem dX10_busy_39 : decode cX10_busy 39 = .ok (.if_icmp .ge 38, 3) := by decide +kernel
theorem dX10_busy_42 : decode cX10_busy 42 = .ok (.aload_n 0, 1) := by decide +kernel
theorem dX10_busy_43 : decode cX10_busy 43 = .ok (.iload 4, 2) := by decide +kernel
theorem dX10_busy_45 : decode cX10_busy 45 = .ok (.invokevirtual 200, 3) := by decide +kernel
theorem dX10_busy_48 : decode cX10_busy 48 = .ok (.iload_n 3, 1) := by decide +kernel
theorem dX10_busy_49 : decode cX10_busy 49 = .ok (.aload_n 0, 1) := by decide +kernel
theorem dX10_busy_50 : decode cX10_busy 50 = .ok (.iload 4, 2) := by decide +kernel
theorem dX10_busy_52 : decode cX10_busy 52 = .ok (.invokevirtual 235, 3) := by decide +kernel
theorem dX10_busy_55 : decode cX10_busy 55 = .ok (.iload_n 2, 1) := by decide +kernel
theorem dX10_busy_56 : decode cX10_busy 56 = .ok (.if_icmp .ne 12, 3) := by decide +kernel
theorem dX10_busy_59 : decode cX10_busy 59 = .ok (.aload_n 0, 1) := by decide +kernel
theorem dX10_busy_60 : decode cX10_busy 60 = .ok (.iload 4, 2) := by decide +kernel
theorem dX10_busy_62 : decode cX10_busy 62 = .ok (.invokevirtual 228, 3) := by decide +kernel
theorem dX10_busy_65 : decode cX10_busy 65 = .ok (.goto 4, 3) := by decide +kernel
theorem dX10_busy_68 : decode cX10_busy 68 = .ok (.iconst 0, 1) := by decide +kernel
theorem dX10_busy_69 : decode cX10_busy 69 = .ok (.iadd, 1) := by decide +kernel
theorem dX10_busy_70 : decode cX10_busy 70 = .ok (.istore_n 3, 1) := by decide +kernel
theorem dX10_busy_71 : decode cX10_busy 71 = .ok (.iinc 4 1, 3) := by decide +kernel
theorem dX10_busy_74 : decode cX10_busy 74 = .ok (.goto (-45), 3) := by decide +kernel
theorem dX10_busy_77 : decode cX10_busy 77 = .ok (.iload_n 3, 1) := by decide +kernel
theorem dX10_busy_78 : decode cX10_busy 78 = .ok (.ireturn, 1) := by decide +kernel
def f_X10_busy_b29 (F : Nat) : Nat → Mm → Int32 → Int32 → Int32 → Int32 → Option (Int32 × Mm)
 | 0, _, _, _, _, _ => none
 | N + 1, μ, a1, a2, a3, a4 =>
 (ra μ 1008 0 21 a1).bind fun v15 =>
 if v15 ≤ (a4 + (1 : Int32)) then
 some (a3, μ)
 else
 (f_X10_doesMark F μ a4).bind fun q17 =>
 (f_X10_busyWith q17 a4).bind fun q19 =>
 if q19 = a2 then
 (f_X10_stretch q17 a4).bind fun q21 =>
 f_X10_busy_b29 F N q17 a1 a2 (a3 + q21) (a4 + (1 : Int32))
 else
 f_X10_busy_b29 F N q17 a1 a2 (a3 + (0 : Int32)) (a4 + (1 : Int32))
set_option maxHeartbeats 4000000 in
set_option maxRecDepth 100000 in
theorem cb_X10_busy_29 {l : Launch} {E : En} {p : Program} {e : Env} {s : State} {m : MethodId} {av : Array Value} {below : List Frame} {meth : Method} {c : Code} (C : Cx E p s m av c cX10_busy 5 yX10_busy.cls) (hr : meth.sig.returnType = (some .int)) (hlk : meth.locks = false) {F : Nat} {z : Int32 × Mm} : ∀ (N : Nat) (μ : Mm) (a1 : Int32) (a2 : Int32) (a3 : Int32) (a4 : Int32) (h_a0 : l10 E 0), f_X10_busy_b29 F N μ a1 a2 a3 a4 = some z → ∀ {H : Heap} {locs : List Loc} {ls : Array Slot}, Iv E s μ H locs → lv_has ls 5 [(0, .ref (ad E 1000 0)), (1, .int a1), (2, .int a2), (3, .int a3), (4, .int a4)] → W p l e { frames := 3, cells := 0, slots := 0, locals := 65 } s m av below meth c H locs 0 0 (MQ below (Qm E (some (.int z.1)) z.2) av s 0 0 (Ad E)) (F0 m 29 ls []) := by
  have hx := C.1.1
  have hb := C.1.2.1
  intro N
  induction N with
  | zero => intro μ a1 a2 a3 a4 h_a0 hf; cases hf
  | succ N ih =>
    intro μ a1 a2 a3 a4 h_a0 hf H locs ls hI hl
    rw [f_X10_busy_b29] at hf
    refine lv_iload hx hb dX10_busy_29 (lv_at hl 4 rfl) ?_
    refine lv_iconst (v := (1 : Int32)) hx hb dX10_busy_31 kc_1 ?_
    refine lv_iadd hx hb dX10_busy_32 ?_
    refine lv_aload_n hx hb dX10_busy_33 rfl (lv_at hl 0 rfl) ?_
    refine gf_10_7 C hI h_a0.1 fl_X10_29 dX10_busy_34 ?_
    refine lv_iload_n hx hb dX10_busy_37 rfl (lv_at hl 1 rfl) ?_
    obtain ⟨v15, e16, hf⟩ := ob hf
    refine m_iald C hI h_a0.2.2.2.2.1 (ce_1008 E _ _ _) e16 dX10_busy_38 ?_
    refine lv_icmp_ge (tgt := 77) hx hb dX10_busy_39 rfl (fun hc => ?_) (fun hc => ?_)
    · replace hf := it hf hc
      refine lv_iload_n hx hb dX10_busy_77 rfl (lv_at hl 3 rfl) ?_
      obtain rfl := Option.some.inj hf
      exact m_iret C hr hlk hI dX10_busy_78
    · replace hf := ie hf hc
      refine lv_aload_n hx hb dX10_busy_42 rfl (lv_at hl 0 rfl) ?_
      refine lv_iload hx hb dX10_busy_43 (lv_at hl 4 rfl) ?_
      obtain ⟨q17, e18, hf⟩ := ob hf
      refine mcV (As := [.int a4]) (rest := []) C hI (c_X10_doesMark l E h_a0 e18) ml_X10_200 kv_X10_doesMark (m_recv C hI h_a0.1 (ce_1000 E _ _ _) rfl) rfl rfl ⟨Nat.le_of_ble_eq_true rfl, Nat.le_of_ble_eq_true rfl⟩ ⟨Nat.zero_le _, Nat.zero_le _⟩ rfl rfl hl.1 (Nat.le_of_ble_eq_true rfl) dX10_busy_45 (st1 := []) rfl (fun H locs hI => ?_)
      refine lv_iload_n hx hb dX10_busy_48 rfl (lv_at hl 3 rfl) ?_
      refine lv_aload_n hx hb dX10_busy_49 rfl (lv_at hl 0 rfl) ?_
      refine lv_iload hx hb dX10_busy_50 (lv_at hl 4 rfl) ?_
      obtain ⟨q19, e20, hf⟩ := ob hf
      refine mcV (As := [.int a4]) (rest := [.int a3]) C hI (c_X10_busyWith l E h_a0 e20) ml_X10_235 kv_X10_busyWith (m_recv C hI h_a0.1 (ce_1000 E _ _ _) rfl) rfl rfl ⟨Nat.le_of_ble_eq_true rfl, Nat.le_of_ble_eq_true rfl⟩ ⟨Nat.zero_le _, Nat.zero_le _⟩ rfl rfl hl.1 (Nat.le_of_ble_eq_true rfl) dX10_busy_52 (st1 := [.int q19, .int a3]) rfl (fun H locs hI => ?_)
      refine lv_iload_n hx hb dX10_busy_55 rfl (lv_at hl 2 rfl) ?_
      refine lv_icmp_ne (tgt := 68) hx hb dX10_busy_56 rfl (fun hc => ?_) (fun hc => ?_)
      · replace hf := ie hf hc
        refine lv_iconst (v := (0 : Int32)) hx hb dX10_busy_68 kc_0 ?_
        refine lv_iadd hx hb dX10_busy_69 ?_
        refine lv_istore_n hx hb dX10_busy_70 rfl hl (by decide) rfl (fun ls hl => ?_)
        have hl : lv_has ls 5 [(3, .int (a3 + (0 : Int32))), (0, .ref (ad E 1000 0)), (1, .int a1), (2, .int a2), (4, .int a4)] := hl
        refine lv_iinc (v := a4 + (1 : Int32)) hx hb dX10_busy_71 hl (k := 4) rfl (ki_1 _) (by decide) rfl (fun ls hl => ?_)
        have hl : lv_has ls 5 [(4, .int (a4 + (1 : Int32))), (3, .int (a3 + (0 : Int32))), (0, .ref (ad E 1000 0)), (1, .int a1), (2, .int a2)] := hl
        refine lv_goto (tgt := 29) hx hb dX10_busy_74 rfl ?_
        exact ih _ _ _ _ _ h_a0 hf hI (lv_sub hl [2, 3, 4, 1, 0] rfl)
      · replace hf := it hf hc
        refine lv_aload_n hx hb dX10_busy_59 rfl (lv_at hl 0 rfl) ?_
        refine lv_iload hx hb dX10_busy_60 (lv_at hl 4 rfl) ?_
        obtain ⟨q21, e22, hf⟩ := ob hf
        refine mcV (As := [.int a4]) (rest := [.int a3]) C hI (c_X10_stretch l E h_a0 e22) ml_X10_228 kv_X10_stretch (m_recv C hI h_a0.1 (ce_1000 E _ _ _) rfl) rfl rfl ⟨Nat.le_of_ble_eq_true rfl, Nat.le_of_ble_eq_true rfl⟩ ⟨Nat.zero_le _, Nat.zero_le _⟩ rfl rfl hl.1 (Nat.le_of_ble_eq_true rfl) dX10_busy_62 (st1 := [.int q21, .int a3]) rfl (fun H locs hI => ?_)
        refine lv_goto (tgt := 69) hx hb dX10_busy_65 rfl ?_
        refine lv_iadd hx hb dX10_busy_69 ?_
        refine lv_istore_n hx hb dX10_busy_70 rfl hl (by decide) rfl (fun ls hl => ?_)
        have hl : lv_has ls 5 [(3, .int (a3 + q21)), (0, .ref (ad E 1000 0)), (1, .int a1), (2, .int a2), (4, .int a4)] := hl
        refine lv_iinc (v := a4 + (1 : Int32)) hx hb dX10_busy_71 hl (k := 4) rfl (ki_1 _) (by decide) rfl (fun ls hl => ?_)
        have hl : lv_has ls 5 [(4, .int (a4 + (1 : Int32))), (3, .int (a3 + q21)), (0, .ref (ad E 1000 0)), (1, .int a1), (2, .int a2)] := hl
        refine lv_goto (tgt := 29) hx hb dX10_busy_74 rfl ?_
        exact ih _ _ _ _ _ h_a0 hf hI (lv_sub hl [2, 3, 4, 1, 0] rfl)
def f_X10_busy (F : Nat) (μ : Mm) (p1 : Int32) (p2 : Int32) : Option (Int32 × Mm) :=
 (f_X10_isProcessor μ p1).bind fun q23 =>
 if q23 = 0 then
 some ((-1 : Int32), μ)
 else
 (f_X10_in μ p2 (0 : Int32) (3 : Int32)).bind fun q25 =>
 if q25 = 0 then
 some ((-1 : Int32), μ)
 else
 (f_X10_startsNow F μ p1).bind fun q27 =>
 f_X10_busy_b29 F F q27 p1 p2 (0 : Int32) (0 : Int32)
set_option maxHeartbeats 4000000 in
set_option maxRecDepth 100000 in
theorem c_X10_busy (l : Launch) (E : En) {F : Nat} {μ : Mm} {p1 : Int32} {p2 : Int32} (h0 : l10 E 0) {z : Int32 × Mm} (hf : f_X10_busy F μ p1 p2 = some z) : Met l yX10_busy (wt yX10_busy cX10_busy 5 (some .int)) { frames := 3, cells := 0, slots := 0, locals := 65 } (Pm E [.ref (ad E 1000 0), .int p1, .int p2] μ) (Qm E (some (.int z.1)) z.2) 0 0 (Ad E) := by
  unfold f_X10_busy at hf
  refine met_of (cc := cX10_busy) (nL := 5) (ret := (some .int)) (by decide) _ (Nat.le_of_ble_eq_true rfl) ?_
  intro p e s m below meth c C hr hlk hI ls hl
  have hx := C.1.1
  have hb := C.1.2.1
  have hl : lv_has ls 5 [(0, .ref (ad E 1000 0)), (1, .int p1), (2, .int p2)] := hl
  refine lv_aload_n hx hb dX10_busy_0 rfl (lv_at hl 0 rfl) ?_
  refine lv_iload_n hx hb dX10_busy_1 rfl (lv_at hl 1 rfl) ?_
  obtain ⟨q23, e24, hf⟩ := ob hf
  refine mcV (As := [.int p1]) (rest := []) C hI (c_X10_isProcessor l E h0 e24) ml_X10_153 kv_X10_isProcessor (m_recv C hI h0.1 (ce_1000 E _ _ _) rfl) rfl rfl ⟨Nat.le_of_ble_eq_true rfl, Nat.le_of_ble_eq_true rfl⟩ ⟨Nat.zero_le _, Nat.zero_le _⟩ rfl rfl hl.1 (Nat.le_of_ble_eq_true rfl) dX10_busy_2 (st1 := [.int q23]) rfl (fun H locs hI => ?_)
  refine lv_if_eq (tgt := 17) hx hb dX10_busy_5 rfl (fun hc => ?_) (fun hc => ?_)
  · replace hf := it hf hc
    refine lv_iconst (v := (-1 : Int32)) hx hb dX10_busy_17 kc_m1 ?_
    obtain rfl := Option.some.inj hf
    exact m_iret C hr hlk hI dX10_busy_18
  · replace hf := ie hf hc
    refine lv_iload_n hx hb dX10_busy_8 rfl (lv_at hl 2 rfl) ?_
    refine lv_iconst (v := (0 : Int32)) hx hb dX10_busy_9 kc_0 ?_
    refine lv_iconst (v := (3 : Int32)) hx hb dX10_busy_10 kc_3 ?_
    obtain ⟨q25, e26, hf⟩ := ob hf
    refine mcS (As := [.int p2, .int (0 : Int32), .int (3 : Int32)]) (rest := []) C hI (c_X10_in l E  e26) ml_X10_136 ks_X10_in rfl rfl ⟨Nat.le_of_ble_eq_true rfl, Nat.le_of_ble_eq_true rfl⟩ ⟨Nat.zero_le _, Nat.zero_le _⟩ rfl rfl hl.1 (Nat.le_of_ble_eq_true rfl) dX10_busy_11 (st1 := [.int q25]) rfl (fun H locs hI => ?_)
    refine lv_if_ne (tgt := 19) hx hb dX10_busy_14 rfl (fun hc => ?_) (fun hc => ?_)
    · replace hf := ie hf hc
      refine lv_aload_n hx hb dX10_busy_19 rfl (lv_at hl 0 rfl) ?_
      refine lv_iload_n hx hb dX10_busy_20 rfl (lv_at hl 1 rfl) ?_
      obtain ⟨q27, e28, hf⟩ := ob hf
      refine mcV (As := [.int p1]) (rest := []) C hI (c_X10_startsNow l E h0 e28) ml_X10_196 kv_X10_startsNow (m_recv C hI h0.1 (ce_1000 E _ _ _) rfl) rfl rfl ⟨Nat.le_of_ble_eq_true rfl, Nat.le_of_ble_eq_true rfl⟩ ⟨Nat.zero_le _, Nat.zero_le _⟩ rfl rfl hl.1 (Nat.le_of_ble_eq_true rfl) dX10_busy_21 (st1 := []) rfl (fun H locs hI => ?_)
      refine lv_iconst (v := (0 : Int32)) hx hb dX10_busy_24 kc_0 ?_
      refine lv_istore_n hx hb dX10_busy_25 rfl hl (by decide) rfl (fun ls hl => ?_)
      have hl : lv_has ls 5 [(3, .int (0 : Int32)), (0, .ref (ad E 1000 0)), (1, .int p1), (2, .int p2)] := hl
      refine lv_iconst (v := (0 : Int32)) hx hb dX10_busy_26 kc_0 ?_
      refine lv_istore hx hb dX10_busy_27 hl (by decide) rfl (fun ls hl => ?_)
      have hl : lv_has ls 5 [(4, .int (0 : Int32)), (3, .int (0 : Int32)), (0, .ref (ad E 1000 0)), (1, .int p1), (2, .int p2)] := hl
      exact cb_X10_busy_29 C hr hlk  _ _ _ _ _ _ h0 hf hI (lv_sub hl [2, 3, 4, 1, 0] rfl)
    · replace hf := it hf hc
      refine lv_iconst (v := (-1 : Int32)) hx hb dX10_busy_17 kc_m1 ?_
      obtain rfl := Option.some.inj hf
      exact m_iret C hr hlk hI dX10_busy_18

theorem dX10_hung_0 : decode cX10_hung 0 = .ok (.aload_n 0, 1) := by decide +kernel
theorem dX10_hung_1 : decode cX10_hung 1 = .ok (.aload_n 0, 1) := by decide +kernel
theorem dX10_hung_2 : decode cX10_hung 2 = .ok (.getfield 19, 3) := by decide +kernel
theorem dX10_hung_5 : decode cX10_hung 5 = .ok (.iload_n 1, 1) := by decide +kernel
theorem dX10_hung_6 : decode cX10_hung 6 = .ok (.iaload, 1) := by decide +kernel
theorem dX10_hung_7 : decode cX10_hung 7 = .ok (.invokevirtual 196, 3) := by decide +kernel
theorem dX10_hung_10 : decode cX10_hung 10 = .ok (.iconst 0, 1) := by decide +kernel
theorem dX10_hung_11 : decode cX10_hung 11 = .ok (.istore 4, 2) := by decide +kernel
theorem dX10_hung_13 : decode cX10_hung 13 = .ok (.iconst 0, 1) := by decide +kernel
theorem dX10_hung_14 : decode cX10_hung 14 = .ok (.istore 5, 2) := by decide +kernel
theorem dX10_hung_16 : decode cX10_hung 16 = .ok (.iload 5, 2) := by decide +kernel
theorem dX10_hung_18 : decode cX10_hung 18 = .ok (.iconst 1, 1) := by decide +kernel
theorem dX10_hung_19 : decode cX10_hung 19 = .ok (.iadd, 1) := by decide +kernel
theorem dX10_hung_20 : decode cX10_hung 20 = .ok (.aload_n 0, 1) := by decide +kernel
theorem dX10_hung_21 : decode cX10_hung 21 = .ok (.getfield 29, 3) := by decide +kernel
theorem dX10_hung_24 : decode cX10_hung 24 = .ok (.aload_n 0, 1) := by decide +kernel
theorem dX10_hung_25 : decode cX10_hung 25 = .ok (.getfield 164, 3) := by decide +kernel
theorem dX10_hung_28 : decode cX10_hung 28 = .ok (.iaload, 1) := by decide +kernel
theorem dX10_hung_29 : decode cX10_hung 29 = .ok (.if_icmp .ge 71, 3) := by decide +kernel
theorem dX10_hung_32 : decode cX10_hung 32 = .ok (.aload_n 0, 1) := by decide +kernel
theorem dX10_hung_33 : decode cX10_hung 33 = .ok (.iload 5, 2) := by decide +kernel
theorem dX10_hung_35 : decode cX10_hung 35 = .ok (.invokevirtual 200, 3) := by decide +kernel
theorem dX10_hung_38 : decode cX10_hung 38 = .ok (.aload_n 0, 1) := by decide +kernel
theorem dX10_hung_39 : decode cX10_hung 39 = .ok (.iload_n 1, 1) := by decide +kernel
theorem dX10_hung_40 : decode cX10_hung 40 = .ok (.aload_n 0, 1) := by decide +kernel
theorem dX10_hung_41 : decode cX10_hung 41 = .ok (.iload 5, 2) := by decide +kernel
theorem dX10_hung_43 : decode cX10_hung 43 = .ok (.invokevirtual 221, 3) := by decide +kernel
theorem dX10_hung_46 : decode cX10_hung 46 = .ok (.invokevirtual 224, 3) := by decide +kernel
theorem dX10_hung_49 : decode cX10_hung 49 = .ok (.iload_n 3, 1) := by decide +kernel
theorem dX10_hung_50 : decode cX10_hung 50 = .ok (.if_icmp .ne 44, 3) := by decide +kernel
theorem dX10_hung_53 : decode cX10_hung 53 = .ok (.iload_n 3, 1) := by decide +kernel
theorem dX10_hung_54 : decode cX10_hung 54 = .ok (.iconst 1, 1) := by decide +kernel
theorem dX10_hung_55 : decode cX10_hung 55 = .ok (.if_icmp .ne 11, 3) := by decide +kernel
theorem dX10_hung_58 : decode cX10_hung 58 = .ok (.aload_n 0, 1) := by decide +kernel
theorem dX10_hung_59 : decode cX10_hung 59 = .ok (.iload_n 1, 1) := by decide +kernel
theorem dX10_hung_60 : decode cX10_hung 60 = .ok (.invokevirtual 238, 3) := by decide +kernel
theorem dX10_hung_63 : decode cX10_hung 63 = .ok (.goto 8, 3) := by decide +kernel
theorem dX10_hung_66 : decode cX10_hung 66 = .ok (.aload_n 0, 1) := by decide +kernel
theorem dX10_hung_67 : decode cX10_hung 67 = .ok (.iload_n 1, 1) := by decide +kernel
theorem dX10_hung_68 : decode cX10_hung 68 = .ok (.invokevirtual 241, 3) := by decide +kernel
theorem dX10_hung_71 : decode cX10_hung 71 = .ok (.istore 6, 2) := by decide +kernel
theorem dX10_hung_73 : decode cX10_hung 73 = .ok (.iload 4, 2) := by decide +kernel
theorem dX10_hung_75 : decode cX10_hung 75 = .ok (.iload 6, 2) := by decide +kernel
theorem dX10_hung_77 : decode cX10_hung 77 = .ok (.iload_n 2, 1) := by decide +kernel
theorem dX10_hung_78 : decode cX10_hung 78 = .ok (.if_icmp .ne 12, 3) := by decide +kernel
theorem dX10_hung_81 : decode cX10_hung 81 = .ok (.aload_n 0, 1) := by decide +kernel
theorem dX10_hung_82 : decode cX10_hung 82 = .ok (.iload 5, 2) := by decide +kernel
theorem dX10_hung_84 : decode cX10_hung 84 = .ok (.invokevirtual 228, 3) := by decide +kernel
theorem dX10_hung_87 : decode cX10_hung 87 = .ok (.goto 4, 3) := by decide +kernel
theorem dX10_hung_90 : decode cX10_hung 90 = .ok (.iconst 0, 1) := by decide +kernel
theorem dX10_hung_91 : decode cX10_hung 91 = .ok (.iadd, 1) := by decide +kernel
theorem dX10_hung_92 : decode cX10_hung 92 = .ok (.istore 4, 2) := by decide +kernel
theorem dX10_hung_94 : decode cX10_hung 94 = .ok (.iinc 5 1, 3) := by decide +kernel
theorem dX10_hung_97 : decode cX10_hung 97 = .ok (.goto (-81), 3) := by decide +kernel
theorem dX10_hung_100 : decode cX10_hung 100 = .ok (.iload 4, 2) := by decide +kernel
theorem dX10_hung_102 : decode cX10_hung 102 = .ok (.ireturn, 1) := by decide +kernel
def f_X10_hung_b71 (F : Nat) (K16 : Mm → Int32 → Int32 → Int32 → Int32 → Int32 → Option (Int32 × Mm)) (μ : Mm) (a1 : Int32) (a2 : Int32) (a3 : Int32) (a4 : Int32) (a5 : Int32) (s0 : Int32) : Option (Int32 × Mm) :=
 if s0 = a2 then
 (f_X10_stretch μ a5).bind fun q19 =>
 K16 μ a1 a2 a3 (a4 + q19) (a5 + (1 : Int32))
 else
 K16 μ a1 a2 a3 (a4 + (0 : Int32)) (a5 + (1 : Int32))
set_option maxHeartbeats 4000000 in
set_option maxRecDepth 100000 in
theorem cb_X10_hung_71 {l : Launch} {E : En} {p : Program} {e : Env} {s : State} {m : MethodId} {av : Array Value} {below : List Frame} {meth : Method} {c : Code} (C : Cx E p s m av c cX10_hung 7 yX10_hung.cls) (hr : meth.sig.returnType = (some .int)) (hlk : meth.locks = false) {F : Nat} {K16 : Mm → Int32 → Int32 → Int32 → Int32 → Int32 → Option (Int32 × Mm)} {z : Int32 × Mm} (hK16 : ∀ (μ : Mm) (a1 : Int32) (a2 : Int32) (a3 : Int32) (a4 : Int32) (a5 : Int32) (h_a0 : l10 E 0), K16 μ a1 a2 a3 a4 a5 = some z → ∀ {H : Heap} {locs : List Loc} {ls : Array Slot}, Iv E s μ H locs → lv_has ls 7 [(0, .ref (ad E 1000 0)), (1, .int a1), (2, .int a2), (3, .int a3), (4, .int a4), (5, .int a5)] → W p l e { frames := 3, cells := 0, slots := 0, locals := 65 } s m av below meth c H locs 0 0 (MQ below (Qm E (some (.int z.1)) z.2) av s 0 0 (Ad E)) (F0 m 16 ls [])) : ∀ (μ : Mm) (a1 : Int32) (a2 : Int32) (a3 : Int32) (a4 : Int32) (a5 : Int32) (s0 : Int32) (h_a0 : l10 E 0), f_X10_hung_b71 F K16 μ a1 a2 a3 a4 a5 s0 = some z → ∀ {H : Heap} {locs : List Loc} {ls : Array Slot}, Iv E s μ H locs → lv_has ls 7 [(0, .ref (ad E 1000 0)), (1, .int a1), (2, .int a2), (3, .int a3), (4, .int a4), (5, .int a5)] → W p l e { frames := 3, cells := 0, slots := 0, locals := 65 } s m av below meth c H locs 0 0 (MQ below (Qm E (some (.int z.1)) z.2) av s 0 0 (Ad E)) (F0 m 71 ls [.int s0]) := by
  have hx := C.1.1
  have hb := C.1.2.1
  intro μ a1 a2 a3 a4 a5 s0 h_a0 hf H locs ls hI hl
  unfold f_X10_hung_b71 at hf
  refine lv_istore hx hb dX10_hung_71 hl (by decide) rfl (fun ls hl => ?_)
  have hl : lv_has ls 7 [(6, .int s0), (0, .ref (ad E 1000 0)), (1, .int a1), (2, .int a2), (3, .int a3), (4, .int a4), (5, .int a5)] := hl
  refine lv_iload hx hb dX10_hung_73 (lv_at hl 5 rfl) ?_
  refine lv_iload hx hb dX10_hung_75 (lv_at hl 0 rfl) ?_
  refine lv_iload_n hx hb dX10_hung_77 rfl (lv_at hl 3 rfl) ?_
  refine lv_icmp_ne (tgt := 90) hx hb dX10_hung_78 rfl (fun hc => ?_) (fun hc => ?_)
  · replace hf := ie hf hc
    refine lv_iconst (v := (0 : Int32)) hx hb dX10_hung_90 kc_0 ?_
    refine lv_iadd hx hb dX10_hung_91 ?_
    refine lv_istore hx hb dX10_hung_92 hl (by decide) rfl (fun ls hl => ?_)
    have hl : lv_has ls 7 [(4, .int (a4 + (0 : Int32))), (6, .int s0), (0, .ref (ad E 1000 0)), (1, .int a1), (2, .int a2), (3, .int a3), (5, .int a5)] := hl
    refine lv_iinc (v := a5 + (1 : Int32)) hx hb dX10_hung_94 hl (k := 6) rfl (ki_1 _) (by decide) rfl (fun ls hl => ?_)
    have hl : lv_has ls 7 [(5, .int (a5 + (1 : Int32))), (4, .int (a4 + (0 : Int32))), (6, .int s0), (0, .ref (ad E 1000 0)), (1, .int a1), (2, .int a2), (3, .int a3)] := hl
    refine lv_goto (tgt := 16) hx hb dX10_hung_97 rfl ?_
    exact hK16 _ _ _ _ _ _ h_a0 hf hI (lv_sub hl [3, 4, 5, 6, 1, 0] rfl)
  · replace hf := it hf hc
    refine lv_aload_n hx hb dX10_hung_81 rfl (lv_at hl 1 rfl) ?_
    refine lv_iload hx hb dX10_hung_82 (lv_at hl 6 rfl) ?_
    obtain ⟨q19, e20, hf⟩ := ob hf
    refine mcV (As := [.int a5]) (rest := [.int a4]) C hI (c_X10_stretch l E h_a0 e20) ml_X10_228 kv_X10_stretch (m_recv C hI h_a0.1 (ce_1000 E _ _ _) rfl) rfl rfl ⟨Nat.le_of_ble_eq_true rfl, Nat.le_of_ble_eq_true rfl⟩ ⟨Nat.zero_le _, Nat.zero_le _⟩ rfl rfl hl.1 (Nat.le_of_ble_eq_true rfl) dX10_hung_84 (st1 := [.int q19, .int a4]) rfl (fun H locs hI => ?_)
    refine lv_goto (tgt := 91) hx hb dX10_hung_87 rfl ?_
    refine lv_iadd hx hb dX10_hung_91 ?_
    refine lv_istore hx hb dX10_hung_92 hl (by decide) rfl (fun ls hl => ?_)
    have hl : lv_has ls 7 [(4, .int (a4 + q19)), (6, .int s0), (0, .ref (ad E 1000 0)), (1, .int a1), (2, .int a2), (3, .int a3), (5, .int a5)] := hl
    refine lv_iinc (v := a5 + (1 : Int32)) hx hb dX10_hung_94 hl (k := 6) rfl (ki_1 _) (by decide) rfl (fun ls hl => ?_)
    have hl : lv_has ls 7 [(5, .int (a5 + (1 : Int32))), (4, .int (a4 + q19)), (6, .int s0), (0, .ref (ad E 1000 0)), (1, .int a1), (2, .int a2), (3, .int a3)] := hl
    refine lv_goto (tgt := 16) hx hb dX10_hung_97 rfl ?_
    exact hK16 _ _ _ _ _ _ h_a0 hf hI (lv_sub hl [3, 4, 5, 6, 1, 0] rfl)
def f_X10_hung_b16 (F : Nat) : Nat → Mm → Int32 → Int32 → Int32 → Int32 → Int32 → Option (Int32 × Mm)
 | 0, _, _, _, _, _, _ => none
 | N + 1, μ, a1, a2, a3, a4, a5 =>
 (ra μ 1008 0 21 (μ.1 1000 0 33)).bind fun v21 =>
 if v21 ≤ (a5 + (1 : Int32)) then
 some (a4, μ)
 else
 (f_X10_doesMark F μ a5).bind fun q23 =>
 (f_X10_isDark q23 a5).bind fun q25 =>
 (f_X10_countsAs q23 a1 q25).bind fun q27 =>
 if q27 = a3 then
 if a3 = (1 : Int32) then
 (f_X10_waitsBy q23 a1).bind fun q31 =>
 f_X10_hung_b71 F (fun μ a1 a2 a3 a4 a5 => f_X10_hung_b16 F N μ a1 a2 a3 a4 a5) q23 a1 a2 a3 a4 a5 q31
 else
 (f_X10_heldBy q23 a1).bind fun q29 =>
 f_X10_hung_b71 F (fun μ a1 a2 a3 a4 a5 => f_X10_hung_b16 F N μ a1 a2 a3 a4 a5) q23 a1 a2 a3 a4 a5 q29
 else
 f_X10_hung_b16 F N q23 a1 a2 a3 a4 (a5 + (1 : Int32))
set_option maxHeartbeats 4000000 in
set_option maxRecDepth 100000 in
theorem cb_X10_hung_16 {l : Launch} {E : En} {p : Program} {e : Env} {s : State} {m : MethodId} {av : Array Value} {below : List Frame} {meth : Method} {c : Code} (C : Cx E p s m av c cX10_hung 7 yX10_hung.cls) (hr : meth.sig.returnType = (some .int)) (hlk : meth.locks = false) {F : Nat} {z : Int32 × Mm} : ∀ (N : Nat) (μ : Mm) (a1 : Int32) (a2 : Int32) (a3 : Int32) (a4 : Int32) (a5 : Int32) (h_a0 : l10 E 0), f_X10_hung_b16 F N μ a1 a2 a3 a4 a5 = some z → ∀ {H : Heap} {locs : List Loc} {ls : Array Slot}, Iv E s μ H locs → lv_has ls 7 [(0, .ref (ad E 1000 0)), (1, .int a1), (2, .int a2), (3, .int a3), (4, .int a4), (5, .int a5)] → W p l e { frames := 3, cells := 0, slots := 0, locals := 65 } s m av below meth c H locs 0 0 (MQ below (Qm E (some (.int z.1)) z.2) av s 0 0 (Ad E)) (F0 m 16 ls []) := by
  have hx := C.1.1
  have hb := C.1.2.1
  intro N
  induction N with
  | zero => intro μ a1 a2 a3 a4 a5 h_a0 hf; cases hf
  | succ N ih =>
    intro μ a1 a2 a3 a4 a5 h_a0 hf H locs ls hI hl
    rw [f_X10_hung_b16] at hf
    refine lv_iload hx hb dX10_hung_16 (lv_at hl 5 rfl) ?_
    refine lv_iconst (v := (1 : Int32)) hx hb dX10_hung_18 kc_1 ?_
    refine lv_iadd hx hb dX10_hung_19 ?_
    refine lv_aload_n hx hb dX10_hung_20 rfl (lv_at hl 0 rfl) ?_
    refine gf_10_7 C hI h_a0.1 fl_X10_29 dX10_hung_21 ?_
    refine lv_aload_n hx hb dX10_hung_24 rfl (lv_at hl 0 rfl) ?_
    refine gf_10_33 C hI h_a0.1 fl_X10_164 dX10_hung_25 ?_
    obtain ⟨v21, e22, hf⟩ := ob hf
    refine m_iald C hI h_a0.2.2.2.2.1 (ce_1008 E _ _ _) e22 dX10_hung_28 ?_
    refine lv_icmp_ge (tgt := 100) hx hb dX10_hung_29 rfl (fun hc => ?_) (fun hc => ?_)
    · replace hf := it hf hc
      refine lv_iload hx hb dX10_hung_100 (lv_at hl 4 rfl) ?_
      obtain rfl := Option.some.inj hf
      exact m_iret C hr hlk hI dX10_hung_102
    · replace hf := ie hf hc
      refine lv_aload_n hx hb dX10_hung_32 rfl (lv_at hl 0 rfl) ?_
      refine lv_iload hx hb dX10_hung_33 (lv_at hl 5 rfl) ?_
      obtain ⟨q23, e24, hf⟩ := ob hf
      refine mcV (As := [.int a5]) (rest := []) C hI (c_X10_doesMark l E h_a0 e24) ml_X10_200 kv_X10_doesMark (m_recv C hI h_a0.1 (ce_1000 E _ _ _) rfl) rfl rfl ⟨Nat.le_of_ble_eq_true rfl, Nat.le_of_ble_eq_true rfl⟩ ⟨Nat.zero_le _, Nat.zero_le _⟩ rfl rfl hl.1 (Nat.le_of_ble_eq_true rfl) dX10_hung_35 (st1 := []) rfl (fun H locs hI => ?_)
      refine lv_aload_n hx hb dX10_hung_38 rfl (lv_at hl 0 rfl) ?_
      refine lv_iload_n hx hb dX10_hung_39 rfl (lv_at hl 1 rfl) ?_
      refine lv_aload_n hx hb dX10_hung_40 rfl (lv_at hl 0 rfl) ?_
      refine lv_iload hx hb dX10_hung_41 (lv_at hl 5 rfl) ?_
      obtain ⟨q25, e26, hf⟩ := ob hf
      refine mcV (As := [.int a5]) (rest := [.int a1, .ref (ad E 1000 0)]) C hI (c_X10_isDark l E h_a0 e26) ml_X10_221 kv_X10_isDark (m_recv C hI h_a0.1 (ce_1000 E _ _ _) rfl) rfl rfl ⟨Nat.le_of_ble_eq_true rfl, Nat.le_of_ble_eq_true rfl⟩ ⟨Nat.zero_le _, Nat.zero_le _⟩ rfl rfl hl.1 (Nat.le_of_ble_eq_true rfl) dX10_hung_43 (st1 := [.int q25, .int a1, .ref (ad E 1000 0)]) rfl (fun H locs hI => ?_)
      obtain ⟨q27, e28, hf⟩ := ob hf
      refine mcV (As := [.int a1, .int q25]) (rest := []) C hI (c_X10_countsAs l E h_a0 e28) ml_X10_224 kv_X10_countsAs (m_recv C hI h_a0.1 (ce_1000 E _ _ _) rfl) rfl rfl ⟨Nat.le_of_ble_eq_true rfl, Nat.le_of_ble_eq_true rfl⟩ ⟨Nat.zero_le _, Nat.zero_le _⟩ rfl rfl hl.1 (Nat.le_of_ble_eq_true rfl) dX10_hung_46 (st1 := [.int q27]) rfl (fun H locs hI => ?_)
      refine lv_iload_n hx hb dX10_hung_49 rfl (lv_at hl 3 rfl) ?_
      refine lv_icmp_ne (tgt := 94) hx hb dX10_hung_50 rfl (fun hc => ?_) (fun hc => ?_)
      · replace hf := ie hf hc
        refine lv_iinc (v := a5 + (1 : Int32)) hx hb dX10_hung_94 hl (k := 5) rfl (ki_1 _) (by decide) rfl (fun ls hl => ?_)
        have hl : lv_has ls 7 [(5, .int (a5 + (1 : Int32))), (0, .ref (ad E 1000 0)), (1, .int a1), (2, .int a2), (3, .int a3), (4, .int a4)] := hl
        refine lv_goto (tgt := 16) hx hb dX10_hung_97 rfl ?_
        exact ih _ _ _ _ _ _ h_a0 hf hI (lv_sub hl [1, 2, 3, 4, 5, 0] rfl)
      · replace hf := it hf hc
        refine lv_iload_n hx hb dX10_hung_53 rfl (lv_at hl 3 rfl) ?_
        refine lv_iconst (v := (1 : Int32)) hx hb dX10_hung_54 kc_1 ?_
        refine lv_icmp_ne (tgt := 66) hx hb dX10_hung_55 rfl (fun hc => ?_) (fun hc => ?_)
        · replace hf := ie hf hc
          refine lv_aload_n hx hb dX10_hung_66 rfl (lv_at hl 0 rfl) ?_
          refine lv_iload_n hx hb dX10_hung_67 rfl (lv_at hl 1 rfl) ?_
          obtain ⟨q29, e30, hf⟩ := ob hf
          refine mcV (As := [.int a1]) (rest := []) C hI (c_X10_heldBy l E h_a0 e30) ml_X10_241 kv_X10_heldBy (m_recv C hI h_a0.1 (ce_1000 E _ _ _) rfl) rfl rfl ⟨Nat.le_of_ble_eq_true rfl, Nat.le_of_ble_eq_true rfl⟩ ⟨Nat.zero_le _, Nat.zero_le _⟩ rfl rfl hl.1 (Nat.le_of_ble_eq_true rfl) dX10_hung_68 (st1 := [.int q29]) rfl (fun H locs hI => ?_)
          exact cb_X10_hung_71 C hr hlk ih _ _ _ _ _ _ _ h_a0 hf hI (lv_sub hl [0, 1, 2, 3, 4, 5] rfl)
        · replace hf := it hf hc
          refine lv_aload_n hx hb dX10_hung_58 rfl (lv_at hl 0 rfl) ?_
          refine lv_iload_n hx hb dX10_hung_59 rfl (lv_at hl 1 rfl) ?_
          obtain ⟨q31, e32, hf⟩ := ob hf
          refine mcV (As := [.int a1]) (rest := []) C hI (c_X10_waitsBy l E h_a0 e32) ml_X10_238 kv_X10_waitsBy (m_recv C hI h_a0.1 (ce_1000 E _ _ _) rfl) rfl rfl ⟨Nat.le_of_ble_eq_true rfl, Nat.le_of_ble_eq_true rfl⟩ ⟨Nat.zero_le _, Nat.zero_le _⟩ rfl rfl hl.1 (Nat.le_of_ble_eq_true rfl) dX10_hung_60 (st1 := [.int q31]) rfl (fun H locs hI => ?_)
          refine lv_goto (tgt := 71) hx hb dX10_hung_63 rfl ?_
          exact cb_X10_hung_71 C hr hlk ih _ _ _ _ _ _ _ h_a0 hf hI (lv_sub hl [0, 1, 2, 3, 4, 5] rfl)
def f_X10_hung (F : Nat) (μ : Mm) (p1 : Int32) (p2 : Int32) (p3 : Int32) : Option (Int32 × Mm) :=
 (ra μ 1005 0 8 p1).bind fun v33 =>
 (f_X10_startsNow F μ v33).bind fun q35 =>
 f_X10_hung_b16 F F q35 p1 p2 p3 (0 : Int32) (0 : Int32)
set_option maxHeartbeats 4000000 in
set_option maxRecDepth 100000 in
theorem c_X10_hung (l : Launch) (E : En) {F : Nat} {μ : Mm} {p1 : Int32} {p2 : Int32} {p3 : Int32} (h0 : l10 E 0) {z : Int32 × Mm} (hf : f_X10_hung F μ p1 p2 p3 = some z) : Met l yX10_hung (wt yX10_hung cX10_hung 7 (some .int)) { frames := 3, cells := 0, slots := 0, locals := 65 } (Pm E [.ref (ad E 1000 0), .int p1, .int p2, .int p3] μ) (Qm E (some (.int z.1)) z.2) 0 0 (Ad E) := by
  unfold f_X10_hung at hf
  refine met_of (cc := cX10_hung) (nL := 7) (ret := (some .int)) (by decide) _ (Nat.le_of_ble_eq_true rfl) ?_
  intro p e s m below meth c C hr hlk hI ls hl
  have hx := C.1.1
  have hb := C.1.2.1
  have hl : lv_has ls 7 [(0, .ref (ad E 1000 0)), (1, .int p1), (2, .int p2), (3, .int p3)] := hl
  refine lv_aload_n hx hb dX10_hung_0 rfl (lv_at hl 0 rfl) ?_
  refine lv_aload_n hx hb dX10_hung_1 rfl (lv_at hl 0 rfl) ?_
  refine gf_10_4 C hI h0.1 fl_X10_19 dX10_hung_2 ?_
  refine lv_iload_n hx hb dX10_hung_5 rfl (lv_at hl 1 rfl) ?_
  obtain ⟨v33, e34, hf⟩ := ob hf
  refine m_iald C hI h0.2.1 (ce_1005 E _ _ _) e34 dX10_hung_6 ?_
  obtain ⟨q35, e36, hf⟩ := ob hf
  refine mcV (As := [.int v33]) (rest := []) C hI (c_X10_startsNow l E h0 e36) ml_X10_196 kv_X10_startsNow (m_recv C hI h0.1 (ce_1000 E _ _ _) rfl) rfl rfl ⟨Nat.le_of_ble_eq_true rfl, Nat.le_of_ble_eq_true rfl⟩ ⟨Nat.zero_le _, Nat.zero_le _⟩ rfl rfl hl.1 (Nat.le_of_ble_eq_true rfl) dX10_hung_7 (st1 := []) rfl (fun H locs hI => ?_)
  refine lv_iconst (v := (0 : Int32)) hx hb dX10_hung_10 kc_0 ?_
  refine lv_istore hx hb dX10_hung_11 hl (by decide) rfl (fun ls hl => ?_)
  have hl : lv_has ls 7 [(4, .int (0 : Int32)), (0, .ref (ad E 1000 0)), (1, .int p1), (2, .int p2), (3, .int p3)] := hl
  refine lv_iconst (v := (0 : Int32)) hx hb dX10_hung_13 kc_0 ?_
  refine lv_istore hx hb dX10_hung_14 hl (by decide) rfl (fun ls hl => ?_)
  have hl : lv_has ls 7 [(5, .int (0 : Int32)), (4, .int (0 : Int32)), (0, .ref (ad E 1000 0)), (1, .int p1), (2, .int p2), (3, .int p3)] := hl
  exact cb_X10_hung_16 C hr hlk  _ _ _ _ _ _ _ h0 hf hI (lv_sub hl [2, 3, 4, 5, 1, 0] rfl)

theorem dX10_wait_0 : decode cX10_wait 0 = .ok (.aload_n 0, 1) := by decide +kernel
theorem dX10_wait_1 : decode cX10_wait 1 = .ok (.iload_n 1, 1) := by decide +kernel
theorem dX10_wait_2 : decode cX10_wait 2 = .ok (.invokevirtual 149, 3) := by decide +kernel
theorem dX10_wait_5 : decode cX10_wait 5 = .ok (.ifCond .eq 22, 3) := by decide +kernel
theorem dX10_wait_8 : decode cX10_wait 8 = .ok (.iload_n 2, 1) := by decide +kernel
theorem dX10_wait_9 : decode cX10_wait 9 = .ok (.iconst 0, 1) := by decide +kernel
theorem dX10_wait_10 : decode cX10_wait 10 = .ok (.iconst 4, 1) := by decide +kernel
theorem dX10_wait_11 : decode cX10_wait 11 = .ok (.invokestatic 136, 3) := by decide +kernel
theorem dX10_wait_14 : decode cX10_wait 14 = .ok (.ifCond .eq 13, 3) := by decide +kernel
theorem dX10_wait_17 : decode cX10_wait 17 = .ok (.aload_n 0, 1) := by decide +kernel
theorem dX10_wait_18 : decode cX10_wait 18 = .ok (.iload_n 1, 1) := by decide +kernel
theorem dX10_wait_19 : decode cX10_wait 19 = .ok (.iload_n 2, 1) := by decide +kernel
theorem dX10_wait_20 : decode cX10_wait 20 = .ok (.iconst 1, 1) := by decide +kernel
theorem dX10_wait_21 : decode cX10_wait 21 = .ok (.invokevirtual 244, 3) := by decide +kernel
theorem dX10_wait_24 : decode cX10_wait 24 = .ok (.goto 4, 3) := by decide +kernel
theorem dX10_wait_27 : decode cX10_wait 27 = .ok (.iconst (-1), 1) := by decide +kernel
theorem dX10_wait_28 : decode cX10_wait 28 = .ok (.ireturn, 1) := by decide +kernel
def f_X10_wait (F : Nat) (μ : Mm) (p1 : Int32) (p2 : Int32) : Option (Int32 × Mm) :=
 (f_X10_isTask μ p1).bind fun q7 =>
 if q7 = 0 then
 some ((-1 : Int32), μ)
 else
 (f_X10_in μ p2 (0 : Int32) (4 : Int32)).bind fun q9 =>
 if q9 = 0 then
 some ((-1 : Int32), μ)
 else
 (f_X10_hung F μ p1 p2 (1 : Int32)).bind fun q11 =>
 some (q11.1, q11.2)
set_option maxHeartbeats 4000000 in
set_option maxRecDepth 100000 in
theorem c_X10_wait (l : Launch) (E : En) {F : Nat} {μ : Mm} {p1 : Int32} {p2 : Int32} (h0 : l10 E 0) {z : Int32 × Mm} (hf : f_X10_wait F μ p1 p2 = some z) : Met l yX10_wait (wt yX10_wait cX10_wait 3 (some .int)) { frames := 4, cells := 0, slots := 0, locals := 91 } (Pm E [.ref (ad E 1000 0), .int p1, .int p2] μ) (Qm E (some (.int z.1)) z.2) 0 0 (Ad E) := by
  unfold f_X10_wait at hf
  refine met_of (cc := cX10_wait) (nL := 3) (ret := (some .int)) (by decide) _ (Nat.le_of_ble_eq_true rfl) ?_
  intro p e s m below meth c C hr hlk hI ls hl
  have hx := C.1.1
  have hb := C.1.2.1
  have hl : lv_has ls 3 [(0, .ref (ad E 1000 0)), (1, .int p1), (2, .int p2)] := hl
  refine lv_aload_n hx hb dX10_wait_0 rfl (lv_at hl 0 rfl) ?_
  refine lv_iload_n hx hb dX10_wait_1 rfl (lv_at hl 1 rfl) ?_
  obtain ⟨q7, e8, hf⟩ := ob hf
  refine mcV (As := [.int p1]) (rest := []) C hI (c_X10_isTask l E h0 e8) ml_X10_149 kv_X10_isTask (m_recv C hI h0.1 (ce_1000 E _ _ _) rfl) rfl rfl ⟨Nat.le_of_ble_eq_true rfl, Nat.le_of_ble_eq_true rfl⟩ ⟨Nat.zero_le _, Nat.zero_le _⟩ rfl rfl hl.1 (Nat.le_of_ble_eq_true rfl) dX10_wait_2 (st1 := [.int q7]) rfl (fun H locs hI => ?_)
  refine lv_if_eq (tgt := 27) hx hb dX10_wait_5 rfl (fun hc => ?_) (fun hc => ?_)
  · replace hf := it hf hc
    refine lv_iconst (v := (-1 : Int32)) hx hb dX10_wait_27 kc_m1 ?_
    obtain rfl := Option.some.inj hf
    exact m_iret C hr hlk hI dX10_wait_28
  · replace hf := ie hf hc
    refine lv_iload_n hx hb dX10_wait_8 rfl (lv_at hl 2 rfl) ?_
    refine lv_iconst (v := (0 : Int32)) hx hb dX10_wait_9 kc_0 ?_
    refine lv_iconst (v := (4 : Int32)) hx hb dX10_wait_10 kc_4 ?_
    obtain ⟨q9, e10, hf⟩ := ob hf
    refine mcS (As := [.int p2, .int (0 : Int32), .int (4 : Int32)]) (rest := []) C hI (c_X10_in l E  e10) ml_X10_136 ks_X10_in rfl rfl ⟨Nat.le_of_ble_eq_true rfl, Nat.le_of_ble_eq_true rfl⟩ ⟨Nat.zero_le _, Nat.zero_le _⟩ rfl rfl hl.1 (Nat.le_of_ble_eq_true rfl) dX10_wait_11 (st1 := [.int q9]) rfl (fun H locs hI => ?_)
    refine lv_if_eq (tgt := 27) hx hb dX10_wait_14 rfl (fun hc => ?_) (fun hc => ?_)
    · replace hf := it hf hc
      refine lv_iconst (v := (-1 : Int32)) hx hb dX10_wait_27 kc_m1 ?_
      obtain rfl := Option.some.inj hf
      exact m_iret C hr hlk hI dX10_wait_28
    · replace hf := ie hf hc
      refine lv_aload_n hx hb dX10_wait_17 rfl (lv_at hl 0 rfl) ?_
      refine lv_iload_n hx hb dX10_wait_18 rfl (lv_at hl 1 rfl) ?_
      refine lv_iload_n hx hb dX10_wait_19 rfl (lv_at hl 2 rfl) ?_
      refine lv_iconst (v := (1 : Int32)) hx hb dX10_wait_20 kc_1 ?_
      obtain ⟨q11, e12, hf⟩ := ob hf
      refine mcV (As := [.int p1, .int p2, .int (1 : Int32)]) (rest := []) C hI (c_X10_hung l E h0 e12) ml_X10_244 kv_X10_hung (m_recv C hI h0.1 (ce_1000 E _ _ _) rfl) rfl rfl ⟨Nat.le_of_ble_eq_true rfl, Nat.le_of_ble_eq_true rfl⟩ ⟨Nat.zero_le _, Nat.zero_le _⟩ rfl rfl hl.1 (Nat.le_of_ble_eq_true rfl) dX10_wait_21 (st1 := [.int q11.1]) rfl (fun H locs hI => ?_)
      refine lv_goto (tgt := 28) hx hb dX10_wait_24 rfl ?_
      obtain rfl := Option.some.inj hf
      exact m_iret C hr hlk hI dX10_wait_28

theorem dX10_held_0 : decode cX10_held 0 = .ok (.aload_n 0, 1) := by decide +kernel
theorem dX10_held_1 : decode cX10_held 1 = .ok (.iload_n 1, 1) := by decide +kernel
theorem dX10_held_2 : decode cX10_held 2 = .ok (.invokevirtual 149, 3) := by decide +kernel
theorem dX10_held_5 : decode cX10_held 5 = .ok (.ifCond .eq 23, 3) := by decide +kernel
theorem dX10_held_8 : decode cX10_held 8 = .ok (.iload_n 2, 1) := by decide +kernel
theorem dX10_held_9 : decode cX10_held 9 = .ok (.iconst 0, 1) := by decide +kernel
theorem dX10_held_10 : decode cX10_held 10 = .ok (.bipush 6, 2) := by decide +kernel
theorem dX10_held_12 : decode cX10_held 12 = .ok (.invokestatic 136, 3) := by decide +kernel
theorem dX10_held_15 : decode cX10_held 15 = .ok (.ifCond .eq 13, 3) := by decide +kernel
theorem dX10_held_18 : decode cX10_held 18 = .ok (.aload_n 0, 1) := by decide +kernel
theorem dX10_held_19 : decode cX10_held 19 = .ok (.iload_n 1, 1) := by decide +kernel
theorem dX10_held_20 : decode cX10_held 20 = .ok (.iload_n 2, 1) := by decide +kernel
theorem dX10_held_21 : decode cX10_held 21 = .ok (.iconst 3, 1) := by decide +kernel
theorem dX10_held_22 : decode cX10_held 22 = .ok (.invokevirtual 244, 3) := by decide +kernel
theorem dX10_held_25 : decode cX10_held 25 = .ok (.goto 4, 3) := by decide +kernel
theorem dX10_held_28 : decode cX10_held 28 = .ok (.iconst (-1), 1) := by decide +kernel
theorem dX10_held_29 : decode cX10_held 29 = .ok (.ireturn, 1) := by decide +kernel
def f_X10_held (F : Nat) (μ : Mm) (p1 : Int32) (p2 : Int32) : Option (Int32 × Mm) :=
 (f_X10_isTask μ p1).bind fun q7 =>
 if q7 = 0 then
 some ((-1 : Int32), μ)
 else
 (f_X10_in μ p2 (0 : Int32) (6 : Int32)).bind fun q9 =>
 if q9 = 0 then
 some ((-1 : Int32), μ)
 else
 (f_X10_hung F μ p1 p2 (3 : Int32)).bind fun q11 =>
 some (q11.1, q11.2)
set_option maxHeartbeats 4000000 in
set_option maxRecDepth 100000 in
theorem c_X10_held (l : Launch) (E : En) {F : Nat} {μ : Mm} {p1 : Int32} {p2 : Int32} (h0 : l10 E 0) {z : Int32 × Mm} (hf : f_X10_held F μ p1 p2 = some z) : Met l yX10_held (wt yX10_held cX10_held 3 (some .int)) { frames := 4, cells := 0, slots := 0, locals := 91 } (Pm E [.ref (ad E 1000 0), .int p1, .int p2] μ) (Qm E (some (.int z.1)) z.2) 0 0 (Ad E) := by
  unfold f_X10_held at hf
  refine met_of (cc := cX10_held) (nL := 3) (ret := (some .int)) (by decide) _ (Nat.le_of_ble_eq_true rfl) ?_
  intro p e s m below meth c C hr hlk hI ls hl
  have hx := C.1.1
  have hb := C.1.2.1
  have hl : lv_has ls 3 [(0, .ref (ad E 1000 0)), (1, .int p1), (2, .int p2)] := hl
  refine lv_aload_n hx hb dX10_held_0 rfl (lv_at hl 0 rfl) ?_
  refine lv_iload_n hx hb dX10_held_1 rfl (lv_at hl 1 rfl) ?_
  obtain ⟨q7, e8, hf⟩ := ob hf
  refine mcV (As := [.int p1]) (rest := []) C hI (c_X10_isTask l E h0 e8) ml_X10_149 kv_X10_isTask (m_recv C hI h0.1 (ce_1000 E _ _ _) rfl) rfl rfl ⟨Nat.le_of_ble_eq_true rfl, Nat.le_of_ble_eq_true rfl⟩ ⟨Nat.zero_le _, Nat.zero_le _⟩ rfl rfl hl.1 (Nat.le_of_ble_eq_true rfl) dX10_held_2 (st1 := [.int q7]) rfl (fun H locs hI => ?_)
  refine lv_if_eq (tgt := 28) hx hb dX10_held_5 rfl (fun hc => ?_) (fun hc => ?_)
  · replace hf := it hf hc
    refine lv_iconst (v := (-1 : Int32)) hx hb dX10_held_28 kc_m1 ?_
    obtain rfl := Option.some.inj hf
    exact m_iret C hr hlk hI dX10_held_29
  · replace hf := ie hf hc
    refine lv_iload_n hx hb dX10_held_8 rfl (lv_at hl 2 rfl) ?_
    refine lv_iconst (v := (0 : Int32)) hx hb dX10_held_9 kc_0 ?_
    refine lv_bipush (v := (6 : Int32)) hx hb dX10_held_10 kb_6 ?_
    obtain ⟨q9, e10, hf⟩ := ob hf
    refine mcS (As := [.int p2, .int (0 : Int32), .int (6 : Int32)]) (rest := []) C hI (c_X10_in l E  e10) ml_X10_136 ks_X10_in rfl rfl ⟨Nat.le_of_ble_eq_true rfl, Nat.le_of_ble_eq_true rfl⟩ ⟨Nat.zero_le _, Nat.zero_le _⟩ rfl rfl hl.1 (Nat.le_of_ble_eq_true rfl) dX10_held_12 (st1 := [.int q9]) rfl (fun H locs hI => ?_)
    refine lv_if_eq (tgt := 28) hx hb dX10_held_15 rfl (fun hc => ?_) (fun hc => ?_)
    · replace hf := it hf hc
      refine lv_iconst (v := (-1 : Int32)) hx hb dX10_held_28 kc_m1 ?_
      obtain rfl := Option.some.inj hf
      exact m_iret C hr hlk hI dX10_held_29
    · replace hf := ie hf hc
      refine lv_aload_n hx hb dX10_held_18 rfl (lv_at hl 0 rfl) ?_
      refine lv_iload_n hx hb dX10_held_19 rfl (lv_at hl 1 rfl) ?_
      refine lv_iload_n hx hb dX10_held_20 rfl (lv_at hl 2 rfl) ?_
      refine lv_iconst (v := (3 : Int32)) hx hb dX10_held_21 kc_3 ?_
      obtain ⟨q11, e12, hf⟩ := ob hf
      refine mcV (As := [.int p1, .int p2, .int (3 : Int32)]) (rest := []) C hI (c_X10_hung l E h0 e12) ml_X10_244 kv_X10_hung (m_recv C hI h0.1 (ce_1000 E _ _ _) rfl) rfl rfl ⟨Nat.le_of_ble_eq_true rfl, Nat.le_of_ble_eq_true rfl⟩ ⟨Nat.zero_le _, Nat.zero_le _⟩ rfl rfl hl.1 (Nat.le_of_ble_eq_true rfl) dX10_held_22 (st1 := [.int q11.1]) rfl (fun H locs hI => ?_)
      refine lv_goto (tgt := 29) hx hb dX10_held_25 rfl ?_
      obtain rfl := Option.some.inj hf
      exact m_iret C hr hlk hI dX10_held_29

theorem dX10_chain_0 : decode cX10_chain 0 = .ok (.aload_n 0, 1) := by decide +kernel
theorem dX10_chain_1 : decode cX10_chain 1 = .ok (.iload_n 1, 1) := by decide +kernel
theorem dX10_chain_2 : decode cX10_chain 2 = .ok (.invokevirtual 149, 3) := by decide +kernel
theorem dX10_chain_5 : decode cX10_chain 5 = .ok (.ifCond .ne 5, 3) := by decide +kernel
theorem dX10_chain_8 : decode cX10_chain 8 = .ok (.iconst (-1), 1) := by decide +kernel
theorem dX10_chain_9 : decode cX10_chain 9 = .ok (.ireturn, 1) := by decide +kernel
theorem dX10_chain_10 : decode cX10_chain 10 = .ok (.aload_n 0, 1) := by decide +kernel
theorem dX10_chain_11 : decode cX10_chain 11 = .ok (.aload_n 0, 1) := by decide +kernel
theorem dX10_chain_12 : decode cX10_chain 12 = .ok (.getfield 19, 3) := by decide +kernel
theorem dX10_chain_15 : decode cX10_chain 15 = .ok (.iload_n 1, 1) := by decide +kernel
theorem dX10_chain_16 : decode cX10_chain 16 = .ok (.iaload, 1) := by decide +kernel
theorem dX10_chain_17 : decode cX10_chain 17 = .ok (.invokevirtual 196, 3) := by decide +kernel
theorem dX10_chain_20 : decode cX10_chain 20 = .ok (.iconst 0, 1) := by decide +kernel
theorem dX10_chain_21 : decode cX10_chain 21 = .ok (.istore_n 2, 1) := by decide +kernel
theorem dX10_chain_22 : decode cX10_chain 22 = .ok (.iconst 0, 1) := by decide +kernel
theorem dX10_chain_23 : decode cX10_chain 23 = .ok (.istore_n 3, 1) := by decide +kernel
theorem dX10_chain_24 : decode cX10_chain 24 = .ok (.iload_n 3, 1) := by decide +kernel
theorem dX10_chain_25 : decode cX10_chain 25 = .ok (.iconst 1, 1) := by decide +kernel
theorem dX10_chain_26 : decode cX10_chain 26 = .ok (.iadd, 1) := by decide +kernel
theorem dX10_chain_27 : decode cX10_chain 27 = .ok (.aload_n 0, 1) := by decide +kernel
theorem dX10_chain_28 : decode cX10_chain 28 = .ok (.getfield 29, 3) := by decide +kernel
theorem dX10_chain_31 : decode cX10_chain 31 = .ok (.aload_n 0, 1) := by decide +kernel
theorem dX10_chain_32 : decode cX10_chain 32 = .ok (.getfield 164, 3) := by decide +kernel
theorem dX10_chain_35 : decode cX10_chain 35 = .ok (.iaload, 1) := by decide +kernel
theorem dX10_chain_36 : decode cX10_chain 36 = .ok (.if_icmp .ge 48, 3) := by decide +kernel
theorem dX10_chain_39 : decode cX10_chain 39 = .ok (.aload_n 0, 1) := by decide +kernel
theorem dX10_chain_40 : decode cX10_chain 40 = .ok (.iload_n 3, 1) := by decide +kernel
theorem dX10_chain_41 : decode cX10_chain 41 = .ok (.invokevirtual 200, 3) := by decide +kernel
theorem dX10_chain_44 : decode cX10_chain 44 = .ok (.aload_n 0, 1) := by decide +kernel
theorem dX10_chain_45 : decode cX10_chain 45 = .ok (.iload_n 1, 1) := by decide +kernel
theorem dX10_chain_46 : decode cX10_chain 46 = .ok (.aload_n 0, 1) := by decide +kernel
theorem dX10_chain_47 : decode cX10_chain 47 = .ok (.iload_n 3, 1) := by decide +kernel
theorem dX10_chain_48 : decode cX10_chain 48 = .ok (.invokevirtual 221, 3) := by decide +kernel
theorem dX10_chain_51 : decode cX10_chain 51 = .ok (.invokevirtual 224, 3) := by decide +kernel
theorem dX10_chain_54 : decode cX10_chain 54 = .ok (.iconst 3, 1) := by decide +kernel
theorem dX10_chain_55 : decode cX10_chain 55 = .ok (.if_icmp .ne 23, 3) := by decide +kernel
theorem dX10_chain_58 : decode cX10_chain 58 = .ok (.aload_n 0, 1) := by decide +kernel
theorem dX10_chain_59 : decode cX10_chain 59 = .ok (.iload_n 1, 1) := by decide +kernel
theorem dX10_chain_60 : decode cX10_chain 60 = .ok (.invokevirtual 248, 3) := by decide +kernel
theorem dX10_chain_63 : decode cX10_chain 63 = .ok (.istore 4, 2) := by decide +kernel
theorem dX10_chain_65 : decode cX10_chain 65 = .ok (.iload 4, 2) := by decide +kernel
theorem dX10_chain_67 : decode cX10_chain 67 = .ok (.iload_n 2, 1) := by decide +kernel
theorem dX10_chain_68 : decode cX10_chain 68 = .ok (.if_icmp .le 8, 3) := by decide +kernel
theorem dX10_chain_71 : decode cX10_chain 71 = .ok (.iload 4, 2) := by decide +kernel
theorem dX10_chain_73 : decode cX10_chain 73 = .ok (.goto 4, 3) := by decide +kernel
theorem dX10_chain_76 : decode cX10_chain 76 = .ok (.iload_n 2, 1) := by decide +kernel
theorem dX10_chain_77 : decode cX10_chain 77 = .ok (.istore_n 2, 1) := by decide +kernel
theorem dX10_chain_78 : decode cX10_chain 78 = .ok (.iinc 3 1, 3) := by decide +kernel
theorem dX10_chain_81 : decode cX10_chain 81 = .ok (.goto (-57), 3) := by decide +kernel
theorem dX10_chain_84 : decode cX10_chain 84 = .ok (.iload_n 2, 1) := by decide +kernel
theorem dX10_chain_85 : decode cX10_chain 85 = .ok (.ireturn, 1) := by decide +kernel
def f_X10_chain_b24 (F : Nat) : Nat → Mm → Int32 → Int32 → Int32 → Option (Int32 × Mm)
 | 0, _, _, _, _ => none
 | N + 1, μ, a1, a2, a3 =>
 (ra μ 1008 0 21 (μ.1 1000 0 33)).bind fun v17 =>
 if v17 ≤ (a3 + (1 : Int32)) then
 some (a2, μ)
 else
 (f_X10_doesMark F μ a3).bind fun q19 =>
 (f_X10_isDark q19 a3).bind fun q21 =>
 (f_X10_countsAs q19 a1 q21).bind fun q23 =>
 if q23 = (3 : Int32) then
 (f_X10_chainOf F q19 a1).bind fun q25 =>
 if q25 ≤ a2 then
 f_X10_chain_b24 F N q19 a1 a2 (a3 + (1 : Int32))
 else
 f_X10_chain_b24 F N q19 a1 q25 (a3 + (1 : Int32))
 else
 f_X10_chain_b24 F N q19 a1 a2 (a3 + (1 : Int32))
set_option maxHeartbeats 4000000 in
set_option maxRecDepth 100000 in
theorem cb_X10_chain_24 {l : Launch} {E : En} {p : Program} {e : Env} {s : State} {m : MethodId} {av : Array Value} {below : List Frame} {meth : Method} {c : Code} (C : Cx E p s m av c cX10_chain 5 yX10_chain.cls) (hr : meth.sig.returnType = (some .int)) (hlk : meth.locks = false) {F : Nat} {z : Int32 × Mm} : ∀ (N : Nat) (μ : Mm) (a1 : Int32) (a2 : Int32) (a3 : Int32) (h_a0 : l10 E 0), f_X10_chain_b24 F N μ a1 a2 a3 = some z → ∀ {H : Heap} {locs : List Loc} {ls : Array Slot}, Iv E s μ H locs → lv_has ls 5 [(0, .ref (ad E 1000 0)), (1, .int a1), (2, .int a2), (3, .int a3)] → W p l e { frames := 3, cells := 0, slots := 0, locals := 65 } s m av below meth c H locs 0 0 (MQ below (Qm E (some (.int z.1)) z.2) av s 0 0 (Ad E)) (F0 m 24 ls []) := by
  have hx := C.1.1
  have hb := C.1.2.1
  intro N
  induction N with
  | zero => intro μ a1 a2 a3 h_a0 hf; cases hf
  | succ N ih =>
    intro μ a1 a2 a3 h_a0 hf H locs ls hI hl
    rw [f_X10_chain_b24] at hf
    refine lv_iload_n hx hb dX10_chain_24 rfl (lv_at hl 3 rfl) ?_
    refine lv_iconst (v := (1 : Int32)) hx hb dX10_chain_25 kc_1 ?_
    refine lv_iadd hx hb dX10_chain_26 ?_
    refine lv_aload_n hx hb dX10_chain_27 rfl (lv_at hl 0 rfl) ?_
    refine gf_10_7 C hI h_a0.1 fl_X10_29 dX10_chain_28 ?_
    refine lv_aload_n hx hb dX10_chain_31 rfl (lv_at hl 0 rfl) ?_
    refine gf_10_33 C hI h_a0.1 fl_X10_164 dX10_chain_32 ?_
    obtain ⟨v17, e18, hf⟩ := ob hf
    refine m_iald C hI h_a0.2.2.2.2.1 (ce_1008 E _ _ _) e18 dX10_chain_35 ?_
    refine lv_icmp_ge (tgt := 84) hx hb dX10_chain_36 rfl (fun hc => ?_) (fun hc => ?_)
    · replace hf := it hf hc
      refine lv_iload_n hx hb dX10_chain_84 rfl (lv_at hl 2 rfl) ?_
      obtain rfl := Option.some.inj hf
      exact m_iret C hr hlk hI dX10_chain_85
    · replace hf := ie hf hc
      refine lv_aload_n hx hb dX10_chain_39 rfl (lv_at hl 0 rfl) ?_
      refine lv_iload_n hx hb dX10_chain_40 rfl (lv_at hl 3 rfl) ?_
      obtain ⟨q19, e20, hf⟩ := ob hf
      refine mcV (As := [.int a3]) (rest := []) C hI (c_X10_doesMark l E h_a0 e20) ml_X10_200 kv_X10_doesMark (m_recv C hI h_a0.1 (ce_1000 E _ _ _) rfl) rfl rfl ⟨Nat.le_of_ble_eq_true rfl, Nat.le_of_ble_eq_true rfl⟩ ⟨Nat.zero_le _, Nat.zero_le _⟩ rfl rfl hl.1 (Nat.le_of_ble_eq_true rfl) dX10_chain_41 (st1 := []) rfl (fun H locs hI => ?_)
      refine lv_aload_n hx hb dX10_chain_44 rfl (lv_at hl 0 rfl) ?_
      refine lv_iload_n hx hb dX10_chain_45 rfl (lv_at hl 1 rfl) ?_
      refine lv_aload_n hx hb dX10_chain_46 rfl (lv_at hl 0 rfl) ?_
      refine lv_iload_n hx hb dX10_chain_47 rfl (lv_at hl 3 rfl) ?_
      obtain ⟨q21, e22, hf⟩ := ob hf
      refine mcV (As := [.int a3]) (rest := [.int a1, .ref (ad E 1000 0)]) C hI (c_X10_isDark l E h_a0 e22) ml_X10_221 kv_X10_isDark (m_recv C hI h_a0.1 (ce_1000 E _ _ _) rfl) rfl rfl ⟨Nat.le_of_ble_eq_true rfl, Nat.le_of_ble_eq_true rfl⟩ ⟨Nat.zero_le _, Nat.zero_le _⟩ rfl rfl hl.1 (Nat.le_of_ble_eq_true rfl) dX10_chain_48 (st1 := [.int q21, .int a1, .ref (ad E 1000 0)]) rfl (fun H locs hI => ?_)
      obtain ⟨q23, e24, hf⟩ := ob hf
      refine mcV (As := [.int a1, .int q21]) (rest := []) C hI (c_X10_countsAs l E h_a0 e24) ml_X10_224 kv_X10_countsAs (m_recv C hI h_a0.1 (ce_1000 E _ _ _) rfl) rfl rfl ⟨Nat.le_of_ble_eq_true rfl, Nat.le_of_ble_eq_true rfl⟩ ⟨Nat.zero_le _, Nat.zero_le _⟩ rfl rfl hl.1 (Nat.le_of_ble_eq_true rfl) dX10_chain_51 (st1 := [.int q23]) rfl (fun H locs hI => ?_)
      refine lv_iconst (v := (3 : Int32)) hx hb dX10_chain_54 kc_3 ?_
      refine lv_icmp_ne (tgt := 78) hx hb dX10_chain_55 rfl (fun hc => ?_) (fun hc => ?_)
      · replace hf := ie hf hc
        refine lv_iinc (v := a3 + (1 : Int32)) hx hb dX10_chain_78 hl (k := 3) rfl (ki_1 _) (by decide) rfl (fun ls hl => ?_)
        have hl : lv_has ls 5 [(3, .int (a3 + (1 : Int32))), (0, .ref (ad E 1000 0)), (1, .int a1), (2, .int a2)] := hl
        refine lv_goto (tgt := 24) hx hb dX10_chain_81 rfl ?_
        exact ih _ _ _ _ h_a0 hf hI (lv_sub hl [1, 2, 3, 0] rfl)
      · replace hf := it hf hc
        refine lv_aload_n hx hb dX10_chain_58 rfl (lv_at hl 0 rfl) ?_
        refine lv_iload_n hx hb dX10_chain_59 rfl (lv_at hl 1 rfl) ?_
        obtain ⟨q25, e26, hf⟩ := ob hf
        refine mcV (As := [.int a1]) (rest := []) C hI (c_X10_chainOf l E h_a0 e26) ml_X10_248 kv_X10_chainOf (m_recv C hI h_a0.1 (ce_1000 E _ _ _) rfl) rfl rfl ⟨Nat.le_of_ble_eq_true rfl, Nat.le_of_ble_eq_true rfl⟩ ⟨Nat.zero_le _, Nat.zero_le _⟩ rfl rfl hl.1 (Nat.le_of_ble_eq_true rfl) dX10_chain_60 (st1 := [.int q25]) rfl (fun H locs hI => ?_)
        refine lv_istore hx hb dX10_chain_63 hl (by decide) rfl (fun ls hl => ?_)
        have hl : lv_has ls 5 [(4, .int q25), (0, .ref (ad E 1000 0)), (1, .int a1), (2, .int a2), (3, .int a3)] := hl
        refine lv_iload hx hb dX10_chain_65 (lv_at hl 0 rfl) ?_
        refine lv_iload_n hx hb dX10_chain_67 rfl (lv_at hl 3 rfl) ?_
        refine lv_icmp_le (tgt := 76) hx hb dX10_chain_68 rfl (fun hc => ?_) (fun hc => ?_)
        · replace hf := it hf hc
          refine lv_iload_n hx hb dX10_chain_76 rfl (lv_at hl 3 rfl) ?_
          refine lv_istore_n hx hb dX10_chain_77 rfl hl (by decide) rfl (fun ls hl => ?_)
          have hl : lv_has ls 5 [(2, .int a2), (4, .int q25), (0, .ref (ad E 1000 0)), (1, .int a1), (3, .int a3)] := hl
          refine lv_iinc (v := a3 + (1 : Int32)) hx hb dX10_chain_78 hl (k := 4) rfl (ki_1 _) (by decide) rfl (fun ls hl => ?_)
          have hl : lv_has ls 5 [(3, .int (a3 + (1 : Int32))), (2, .int a2), (4, .int q25), (0, .ref (ad E 1000 0)), (1, .int a1)] := hl
          refine lv_goto (tgt := 24) hx hb dX10_chain_81 rfl ?_
          exact ih _ _ _ _ h_a0 hf hI (lv_sub hl [3, 4, 1, 0] rfl)
        · replace hf := ie hf hc
          refine lv_iload hx hb dX10_chain_71 (lv_at hl 0 rfl) ?_
          refine lv_goto (tgt := 77) hx hb dX10_chain_73 rfl ?_
          refine lv_istore_n hx hb dX10_chain_77 rfl hl (by decide) rfl (fun ls hl => ?_)
          have hl : lv_has ls 5 [(2, .int q25), (4, .int q25), (0, .ref (ad E 1000 0)), (1, .int a1), (3, .int a3)] := hl
          refine lv_iinc (v := a3 + (1 : Int32)) hx hb dX10_chain_78 hl (k := 4) rfl (ki_1 _) (by decide) rfl (fun ls hl => ?_)
          have hl : lv_has ls 5 [(3, .int (a3 + (1 : Int32))), (2, .int q25), (4, .int q25), (0, .ref (ad E 1000 0)), (1, .int a1)] := hl
          refine lv_goto (tgt := 24) hx hb dX10_chain_81 rfl ?_
          exact ih _ _ _ _ h_a0 hf hI (lv_sub hl [3, 4, 1, 0] rfl)
def f_X10_chain (F : Nat) (μ : Mm) (p1 : Int32) : Option (Int32 × Mm) :=
 (f_X10_isTask μ p1).bind fun q27 =>
 if q27 = 0 then
 some ((-1 : Int32), μ)
 else
 (ra μ 1005 0 8 p1).bind fun v29 =>
 (f_X10_startsNow F μ v29).bind fun q31 =>
 f_X10_chain_b24 F F q31 p1 (0 : Int32) (0 : Int32)
set_option maxHeartbeats 4000000 in
set_option maxRecDepth 100000 in
theorem c_X10_chain (l : Launch) (E : En) {F : Nat} {μ : Mm} {p1 : Int32} (h0 : l10 E 0) {z : Int32 × Mm} (hf : f_X10_chain F μ p1 = some z) : Met l yX10_chain (wt yX10_chain cX10_chain 5 (some .int)) { frames := 3, cells := 0, slots := 0, locals := 65 } (Pm E [.ref (ad E 1000 0), .int p1] μ) (Qm E (some (.int z.1)) z.2) 0 0 (Ad E) := by
  unfold f_X10_chain at hf
  refine met_of (cc := cX10_chain) (nL := 5) (ret := (some .int)) (by decide) _ (Nat.le_of_ble_eq_true rfl) ?_
  intro p e s m below meth c C hr hlk hI ls hl
  have hx := C.1.1
  have hb := C.1.2.1
  have hl : lv_has ls 5 [(0, .ref (ad E 1000 0)), (1, .int p1)] := hl
  refine lv_aload_n hx hb dX10_chain_0 rfl (lv_at hl 0 rfl) ?_
  refine lv_iload_n hx hb dX10_chain_1 rfl (lv_at hl 1 rfl) ?_
  obtain ⟨q27, e28, hf⟩ := ob hf
  refine mcV (As := [.int p1]) (rest := []) C hI (c_X10_isTask l E h0 e28) ml_X10_149 kv_X10_isTask (m_recv C hI h0.1 (ce_1000 E _ _ _) rfl) rfl rfl ⟨Nat.le_of_ble_eq_true rfl, Nat.le_of_ble_eq_true rfl⟩ ⟨Nat.zero_le _, Nat.zero_le _⟩ rfl rfl hl.1 (Nat.le_of_ble_eq_true rfl) dX10_chain_2 (st1 := [.int q27]) rfl (fun H locs hI => ?_)
  refine lv_if_ne (tgt := 10) hx hb dX10_chain_5 rfl (fun hc => ?_) (fun hc => ?_)
  · replace hf := ie hf hc
    refine lv_aload_n hx hb dX10_chain_10 rfl (lv_at hl 0 rfl) ?_
    refine lv_aload_n hx hb dX10_chain_11 rfl (lv_at hl 0 rfl) ?_
    refine gf_10_4 C hI h0.1 fl_X10_19 dX10_chain_12 ?_
    refine lv_iload_n hx hb dX10_chain_15 rfl (lv_at hl 1 rfl) ?_
    obtain ⟨v29, e30, hf⟩ := ob hf
    refine m_iald C hI h0.2.1 (ce_1005 E _ _ _) e30 dX10_chain_16 ?_
    obtain ⟨q31, e32, hf⟩ := ob hf
    refine mcV (As := [.int v29]) (rest := []) C hI (c_X10_startsNow l E h0 e32) ml_X10_196 kv_X10_startsNow (m_recv C hI h0.1 (ce_1000 E _ _ _) rfl) rfl rfl ⟨Nat.le_of_ble_eq_true rfl, Nat.le_of_ble_eq_true rfl⟩ ⟨Nat.zero_le _, Nat.zero_le _⟩ rfl rfl hl.1 (Nat.le_of_ble_eq_true rfl) dX10_chain_17 (st1 := []) rfl (fun H locs hI => ?_)
    refine lv_iconst (v := (0 : Int32)) hx hb dX10_chain_20 kc_0 ?_
    refine lv_istore_n hx hb dX10_chain_21 rfl hl (by decide) rfl (fun ls hl => ?_)
    have hl : lv_has ls 5 [(2, .int (0 : Int32)), (0, .ref (ad E 1000 0)), (1, .int p1)] := hl
    refine lv_iconst (v := (0 : Int32)) hx hb dX10_chain_22 kc_0 ?_
    refine lv_istore_n hx hb dX10_chain_23 rfl hl (by decide) rfl (fun ls hl => ?_)
    have hl : lv_has ls 5 [(3, .int (0 : Int32)), (2, .int (0 : Int32)), (0, .ref (ad E 1000 0)), (1, .int p1)] := hl
    exact cb_X10_chain_24 C hr hlk  _ _ _ _ _ h0 hf hI (lv_sub hl [2, 3, 1, 0] rfl)
  · replace hf := it hf hc
    refine lv_iconst (v := (-1 : Int32)) hx hb dX10_chain_8 kc_m1 ?_
    obtain rfl := Option.some.inj hf
    exact m_iret C hr hlk hI dX10_chain_9

theorem dX10_seeks_0 : decode cX10_seeks 0 = .ok (.aload_n 0, 1) := by decide +kernel
theorem dX10_seeks_1 : decode cX10_seeks 1 = .ok (.aload_n 0, 1) := by decide +kernel
theorem dX10_seeks_2 : decode cX10_seeks 2 = .ok (.getfield 19, 3) := by decide +kernel
theorem dX10_seeks_5 : decode cX10_seeks 5 = .ok (.iload_n 1, 1) := by decide +kernel
theorem dX10_seeks_6 : decode cX10_seeks 6 = .ok (.iaload, 1) := by decide +kernel
theorem dX10_seeks_7 : decode cX10_seeks 7 = .ok (.invokevirtual 196, 3) := by decide +kernel
theorem dX10_seeks_10 : decode cX10_seeks 10 = .ok (.aload_n 0, 1) := by decide +kernel
theorem dX10_seeks_11 : decode cX10_seeks 11 = .ok (.iconst 0, 1) := by decide +kernel
theorem dX10_seeks_12 : decode cX10_seeks 12 = .ok (.putfield 251, 3) := by decide +kernel
theorem dX10_seeks_15 : decode cX10_seeks 15 = .ok (.iconst 0, 1) := by decide +kernel
theorem dX10_seeks_16 : decode cX10_seeks 16 = .ok (.istore_n 2, 1) := by decide +kernel
theorem dX10_seeks_17 : decode cX10_seeks 17 = .ok (.iconst 0, 1) := by decide +kernel
theorem dX10_seeks_18 : decode cX10_seeks 18 = .ok (.istore_n 3, 1) := by decide +kernel
theorem dX10_seeks_19 : decode cX10_seeks 19 = .ok (.iconst 0, 1) := by decide +kernel
theorem dX10_seeks_20 : decode cX10_seeks 20 = .ok (.istore 4, 2) := by decide +kernel
theorem dX10_seeks_22 : decode cX10_seeks 22 = .ok (.iconst 0, 1) := by decide +kernel
theorem dX10_seeks_23 : decode cX10_seeks 23 = .ok (.istore 5, 2) := by decide +kernel
theorem dX10_seeks_25 : decode cX10_seeks 25 = .ok (.iconst 0, 1) := by decide +kernel
theorem dX10_seeks_26 : decode cX10_seeks 26 = .ok (.istore 6, 2) := by decide +kernel
theorem dX10_seeks_28 : decode cX10_seeks 28 = .ok (.iload 6, 2) := by decide +kernel
theorem dX10_seeks_30 : decode cX10_seeks 30 = .ok (.aload_n 0, 1) := by decide +kernel
theorem dX10_seeks_31 : decode cX10_seeks 31 = .ok (.getfield 29, 3) := by decide +kernel
theorem dX10_seeks_34 : decode cX10_seeks 34 = .ok (.aload_n 0, 1) := by decide +kernel
theorem dX10_seeks_35 : decode cX10_seeks 35 = .ok (.getfield 164, 3) := by decide +kernel
theorem dX10_seeks_38 : decode cX10_seeks 38 = .ok (.iaload, 1) := by decide +kernel
theorem dX10_seeks_39 : decode cX10_seeks 39 = .ok (.if_icmp .ge 233, 3) := by decide +kernel
theorem dX10_seeks_42 : decode cX10_seeks 42 = .ok (.aload_n 0, 1) := by decide +kernel
theorem dX10_seeks_43 : decode cX10_seeks 43 = .ok (.getfield 36, 3) := by decide +kernel
theorem dX10_seeks_46 : decode cX10_seeks 46 = .ok (.aload_n 0, 1) := by decide +kernel
theorem dX10_seeks_47 : decode cX10_seeks 47 = .ok (.iload 6, 2) := by decide +kernel
theorem dX10_seeks_49 : decode cX10_seeks 49 = .ok (.invokevirtual 190, 3) := by decide +kernel
theorem dX10_seeks_52 : decode cX10_seeks 52 = .ok (.baload, 1) := by decide +kernel
theorem dX10_seeks_53 : decode cX10_seeks 53 = .ok (.iload_n 1, 1) := by decide +kernel
theorem dX10_seeks_54 : decode cX10_seeks 54 = .ok (.if_icmp .ne 7, 3) := by decide +kernel
theorem dX10_seeks_57 : decode cX10_seeks 57 = .ok (.iconst 1, 1) := by decide +kernel
theorem dX10_seeks_58 : decode cX10_seeks 58 = .ok (.goto 4, 3) := by decide +kernel
theorem dX10_seeks_61 : decode cX10_seeks 61 = .ok (.iconst 0, 1) := by decide +kernel
theorem dX10_seeks_62 : decode cX10_seeks 62 = .ok (.istore 7, 2) := by decide +kernel
theorem dX10_seeks_64 : decode cX10_seeks 64 = .ok (.aload_n 0, 1) := by decide +kernel
theorem dX10_seeks_65 : decode cX10_seeks 65 = .ok (.getfield 32, 3) := by decide +kernel
theorem dX10_seeks_68 : decode cX10_seeks 68 = .ok (.aload_n 0, 1) := by decide +kernel
theorem dX10_seeks_69 : decode cX10_seeks 69 = .ok (.iload 6, 2) := by decide +kernel
theorem dX10_seeks_71 : decode cX10_seeks 71 = .ok (.invokevirtual 190, 3) := by decide +kernel
theorem dX10_seeks_74 : decode cX10_seeks 74 = .ok (.baload, 1) := by decide +kernel
theorem dX10_seeks_75 : decode cX10_seeks 75 = .ok (.iconst 2, 1) := by decide +kernel
theorem dX10_seeks_76 : decode cX10_seeks 76 = .ok (.if_icmp .ne 67, 3) := by decide +kernel
theorem dX10_seeks_79 : decode cX10_seeks 79 = .ok (.iload 7, 2) := by decide +kernel
theorem dX10_seeks_81 : decode cX10_seeks 81 = .ok (.ifCond .eq 62, 3) := by decide +kernel
theorem dX10_seeks_84 : decode cX10_seeks 84 = .ok (.iload_n 2, 1) := by decide +kernel
theorem dX10_seeks_85 : decode cX10_seeks 85 = .ok (.ifCond .eq 58, 3) := by decide +kernel
theorem dX10_seeks_88 : decode cX10_seeks 88 = .ok (.aload_n 0, 1) := by decide +kernel
theorem dX10_seeks_89 : decode cX10_seeks 89 = .ok (.getfield 94, 3) := by decide +kernel
theorem dX10_seeks_92 : decode cX10_seeks 92 = .ok (.aload_n 0, 1) := by decide +kernel
theorem dX10_seeks_93 : decode cX10_seeks 93 = .ok (.getfield 251, 3) := by decide +kernel
theorem dX10_seeks_96 : decode cX10_seeks 96 = .ok (.iload_n 3, 1) := by decide +kernel
theorem dX10_seeks_97 : decode cX10_seeks 97 = .ok (.iastore, 1) := by decide +kernel
theorem dX10_seeks_98 : decode cX10_seeks 98 = .ok (.aload_n 0, 1) := by decide +kernel
theorem dX10_seeks_99 : decode cX10_seeks 99 = .ok (.getfield 97, 3) := by decide +kernel
theorem dX10_seeks_102 : decode cX10_seeks 102 = .ok (.aload_n 0, 1) := by decide +kernel
theorem dX10_seeks_103 : decode cX10_seeks 103 = .ok (.getfield 251, 3) := by decide +kernel
theorem dX10_seeks_106 : decode cX10_seeks 106 = .ok (.iload 6, 2) := by decide +kernel
theorem dX10_seeks_108 : decode cX10_seeks 108 = .ok (.iastore, 1) := by decide +kernel
theorem dX10_seeks_109 : decode cX10_seeks 109 = .ok (.aload_n 0, 1) := by decide +kernel
theorem dX10_seeks_110 : decode cX10_seeks 110 = .ok (.getfield 100, 3) := by decide +kernel
theorem dX10_seeks_113 : decode cX10_seeks 113 = .ok (.aload_n 0, 1) := by decide +kernel
theorem dX10_seeks_114 : decode cX10_seeks 114 = .ok (.getfield 251, 3) := by decide +kernel
theorem dX10_seeks_117 : decode cX10_seeks 117 = .ok (.iload 4, 2) := by decide +kernel
theorem dX10_seeks_119 : decode cX10_seeks 119 = .ok (.iastore, 1) := by decide +kernel
theorem dX10_seeks_120 : decode cX10_seeks 120 = .ok (.aload_n 0, 1) := by decide +kernel
theorem dX10_seeks_121 : decode cX10_seeks 121 = .ok (.getfield 103, 3) := by decide +kernel
theorem dX10_seeks_124 : decode cX10_seeks 124 = .ok (.aload_n 0, 1) := by decide +kernel
theorem dX10_seeks_125 : decode cX10_seeks 125 = .ok (.getfield 251, 3) := by decide +kernel
theorem dX10_seeks_128 : decode cX10_seeks 128 = .ok (.iload 5, 2) := by decide +kernel
theorem dX10_seeks_130 : decode cX10_seeks 130 = .ok (.iastore, 1) := by decide +kernel
theorem dX10_seeks_131 : decode cX10_seeks 131 = .ok (.aload_n 0, 1) := by decide +kernel
theorem dX10_seeks_132 : decode cX10_seeks 132 = .ok (.dup, 1) := by decide +kernel
theorem dX10_seeks_133 : decode cX10_seeks 133 = .ok (.getfield 251, 3) := by decide +kernel
theorem dX10_seeks_136 : decode cX10_seeks 136 = .ok (.iconst 1, 1) := by decide +kernel
theorem dX10_seeks_137 : decode cX10_seeks 137 = .ok (.iadd, 1) := by decide +kernel
theorem dX10_seeks_138 : decode cX10_seeks 138 = .ok (.putfield 251, 3) := by decide +kernel
theorem dX10_seeks_141 : decode cX10_seeks 141 = .ok (.iconst 0, 1) := by decide +kernel
theorem dX10_seeks_142 : decode cX10_seeks 142 = .ok (.istore_n 2, 1) := by decide +kernel
theorem dX10_seeks_143 : decode cX10_seeks 143 = .ok (.aload_n 0, 1) := by decide +kernel
theorem dX10_seeks_144 : decode cX10_seeks 144 = .ok (.iload 6, 2) := by decide +kernel
theorem dX10_seeks_146 : decode cX10_seeks 146 = .ok (.invokevirtual 200, 3) := by decide +kernel
theorem dX10_seeks_149 : decode cX10_seeks 149 = .ok (.aload_n 0, 1) := by decide +kernel
theorem dX10_seeks_150 : decode cX10_seeks 150 = .ok (.getfield 32, 3) := by decide +kernel
theorem dX10_seeks_153 : decode cX10_seeks 153 = .ok (.aload_n 0, 1) := by decide +kernel
theorem dX10_seeks_154 : decode cX10_seeks 154 = .ok (.iload 6, 2) := by decide +kernel
theorem dX10_seeks_156 : decode cX10_seeks 156 = .ok (.invokevirtual 190, 3) := by decide +kernel
theorem dX10_seeks_159 : decode cX10_seeks 159 = .ok (.baload, 1) := by decide +kernel
theorem dX10_seeks_160 : decode cX10_seeks 160 = .ok (.ifCond .ne 19, 3) := by decide +kernel
theorem dX10_seeks_163 : decode cX10_seeks 163 = .ok (.iload 7, 2) := by decide +kernel
theorem dX10_seeks_165 : decode cX10_seeks 165 = .ok (.ifCond .eq 14, 3) := by decide +kernel
theorem dX10_seeks_168 : decode cX10_seeks 168 = .ok (.iconst 1, 1) := by decide +kernel
theorem dX10_seeks_169 : decode cX10_seeks 169 = .ok (.istore_n 2, 1) := by decide +kernel
theorem dX10_seeks_170 : decode cX10_seeks 170 = .ok (.iload 6, 2) := by decide +kernel
theorem dX10_seeks_172 : decode cX10_seeks 172 = .ok (.istore_n 3, 1) := by decide +kernel
theorem dX10_seeks_173 : decode cX10_seeks 173 = .ok (.iconst 0, 1) := by decide +kernel
theorem dX10_seeks_174 : decode cX10_seeks 174 = .ok (.istore 4, 2) := by decide +kernel
theorem dX10_seeks_176 : decode cX10_seeks 176 = .ok (.iconst 0, 1) := by decide +kernel
theorem dX10_seeks_177 : decode cX10_seeks 177 = .ok (.istore 5, 2) := by decide +kernel
theorem dX10_seeks_179 : decode cX10_seeks 179 = .ok (.iload 6, 2) := by decide +kernel
theorem dX10_seeks_181 : decode cX10_seeks 181 = .ok (.iconst 1, 1) := by decide +kernel
theorem dX10_seeks_182 : decode cX10_seeks 182 = .ok (.iadd, 1) := by decide +kernel
theorem dX10_seeks_183 : decode cX10_seeks 183 = .ok (.aload_n 0, 1) := by decide +kernel
theorem dX10_seeks_184 : decode cX10_seeks 184 = .ok (.getfield 29, 3) := by decide +kernel
theorem dX10_seeks_187 : decode cX10_seeks 187 = .ok (.aload_n 0, 1) := by decide +kernel
theorem dX10_seeks_188 : decode cX10_seeks 188 = .ok (.getfield 164, 3) := by decide +kernel
theorem dX10_seeks_191 : decode cX10_seeks 191 = .ok (.iaload, 1) := by decide +kernel
theorem dX10_seeks_192 : decode cX10_seeks 192 = .ok (.if_icmp .ge 74, 3) := by decide +kernel
theorem dX10_seeks_195 : decode cX10_seeks 195 = .ok (.aload_n 0, 1) := by decide +kernel
theorem dX10_seeks_196 : decode cX10_seeks 196 = .ok (.iload_n 1, 1) := by decide +kernel
theorem dX10_seeks_197 : decode cX10_seeks 197 = .ok (.aload_n 0, 1) := by decide +kernel
theorem dX10_seeks_198 : decode cX10_seeks 198 = .ok (.iload 6, 2) := by decide +kernel
theorem dX10_seeks_200 : decode cX10_seeks 200 = .ok (.invokevirtual 221, 3) := by decide +kernel
theorem dX10_seeks_203 : decode cX10_seeks 203 = .ok (.invokevirtual 224, 3) := by decide +kernel
theorem dX10_seeks_206 : decode cX10_seeks 206 = .ok (.istore 8, 2) := by decide +kernel
theorem dX10_seeks_208 : decode cX10_seeks 208 = .ok (.iload_n 2, 1) := by decide +kernel
theorem dX10_seeks_209 : decode cX10_seeks 209 = .ok (.ifCond .eq 13, 3) := by decide +kernel
theorem dX10_seeks_212 : decode cX10_seeks 212 = .ok (.iload 8, 2) := by decide +kernel
theorem dX10_seeks_214 : decode cX10_seeks 214 = .ok (.iconst 4, 1) := by decide +kernel
theorem dX10_seeks_215 : decode cX10_seeks 215 = .ok (.if_icmp .eq 7, 3) := by decide +kernel
theorem dX10_seeks_218 : decode cX10_seeks 218 = .ok (.iconst 1, 1) := by decide +kernel
theorem dX10_seeks_219 : decode cX10_seeks 219 = .ok (.goto 4, 3) := by decide +kernel
theorem dX10_seeks_222 : decode cX10_seeks 222 = .ok (.iconst 0, 1) := by decide +kernel
theorem dX10_seeks_223 : decode cX10_seeks 223 = .ok (.istore_n 2, 1) := by decide +kernel
theorem dX10_seeks_224 : decode cX10_seeks 224 = .ok (.iload 4, 2) := by decide +kernel
theorem dX10_seeks_226 : decode cX10_seeks 226 = .ok (.iload 8, 2) := by decide +kernel
theorem dX10_seeks_228 : decode cX10_seeks 228 = .ok (.iconst 2, 1) := by decide +kernel
theorem dX10_seeks_229 : decode cX10_seeks 229 = .ok (.if_icmp .ne 12, 3) := by decide +kernel
theorem dX10_seeks_232 : decode cX10_seeks 232 = .ok (.aload_n 0, 1) := by decide +kernel
theorem dX10_seeks_233 : decode cX10_seeks 233 = .ok (.iload 6, 2) := by decide +kernel
theorem dX10_seeks_235 : decode cX10_seeks 235 = .ok (.invokevirtual 228, 3) := by decide +kernel
theorem dX10_seeks_238 : decode cX10_seeks 238 = .ok (.goto 4, 3) := by decide +kernel
theorem dX10_seeks_241 : decode cX10_seeks 241 = .ok (.iconst 0, 1) := by decide +kernel
theorem dX10_seeks_242 : decode cX10_seeks 242 = .ok (.iadd, 1) := by decide +kernel
theorem dX10_seeks_243 : decode cX10_seeks 243 = .ok (.istore 4, 2) := by decide +kernel
theorem dX10_seeks_245 : decode cX10_seeks 245 = .ok (.iload 5, 2) := by decide +kernel
theorem dX10_seeks_247 : decode cX10_seeks 247 = .ok (.iload 8, 2) := by decide +kernel
theorem dX10_seeks_249 : decode cX10_seeks 249 = .ok (.iconst 3, 1) := by decide +kernel
theorem dX10_seeks_250 : decode cX10_seeks 250 = .ok (.if_icmp .ne 12, 3) := by decide +kernel
theorem dX10_seeks_253 : decode cX10_seeks 253 = .ok (.aload_n 0, 1) := by decide +kernel
theorem dX10_seeks_254 : decode cX10_seeks 254 = .ok (.iload 6, 2) := by decide +kernel
theorem dX10_seeks_256 : decode cX10_seeks 256 = .ok (.invokevirtual 228, 3) := by decide +kernel
theorem dX10_seeks_259 : decode cX10_seeks 259 = .ok (.goto 4, 3) := by decide +kernel
theorem dX10_seeks_262 : decode cX10_seeks 262 = .ok (.iconst 0, 1) := by decide +kernel
theorem dX10_seeks_263 : decode cX10_seeks 263 = .ok (.iadd, 1) := by decide +kernel
theorem dX10_seeks_264 : decode cX10_seeks 264 = .ok (.istore 5, 2) := by decide +kernel
theorem dX10_seeks_266 : decode cX10_seeks 266 = .ok (.iinc 6 1, 3) := by decide +kernel
theorem dX10_seeks_269 : decode cX10_seeks 269 = .ok (.goto (-241), 3) := by decide +kernel
theorem dX10_seeks_272 : decode cX10_seeks 272 = .ok (.return_, 1) := by decide +kernel
def f_X10_seeks_b242 (F : Nat) (K28 : Mm → Int32 → Int32 → Int32 → Int32 → Int32 → Int32 → Option Mm) (μ : Mm) (a1 : Int32) (a2 : Int32) (a3 : Int32) (a5 : Int32) (a6 : Int32) (a8 : Int32) (s0 : Int32) (s1 : Int32) : Option Mm :=
 if a8 = (3 : Int32) then
 (f_X10_stretch μ a6).bind fun q43 =>
 K28 μ a1 a2 a3 (s1 + s0) (a5 + q43) (a6 + (1 : Int32))
 else
 K28 μ a1 a2 a3 (s1 + s0) (a5 + (0 : Int32)) (a6 + (1 : Int32))
set_option maxHeartbeats 4000000 in
set_option maxRecDepth 100000 in
theorem cb_X10_seeks_242 {l : Launch} {E : En} {p : Program} {e : Env} {s : State} {m : MethodId} {av : Array Value} {below : List Frame} {meth : Method} {c : Code} (C : Cx E p s m av c cX10_seeks 9 yX10_seeks.cls) (hr : meth.sig.returnType = (none : Option FieldType)) (hlk : meth.locks = false) {F : Nat} {K28 : Mm → Int32 → Int32 → Int32 → Int32 → Int32 → Int32 → Option Mm} {z : Mm} (hK28 : ∀ (μ : Mm) (a1 : Int32) (a2 : Int32) (a3 : Int32) (a4 : Int32) (a5 : Int32) (a6 : Int32) (h_a0 : l10 E 0), K28 μ a1 a2 a3 a4 a5 a6 = some z → ∀ {H : Heap} {locs : List Loc} {ls : Array Slot}, Iv E s μ H locs → lv_has ls 9 [(0, .ref (ad E 1000 0)), (1, .int a1), (2, .int a2), (3, .int a3), (4, .int a4), (5, .int a5), (6, .int a6)] → W p l e { frames := 3, cells := 0, slots := 0, locals := 65 } s m av below meth c H locs 0 0 (MQ below (Qm E none z) av s 0 0 (Ad E)) (F0 m 28 ls [])) : ∀ (μ : Mm) (a1 : Int32) (a2 : Int32) (a3 : Int32) (a5 : Int32) (a6 : Int32) (a8 : Int32) (s0 : Int32) (s1 : Int32) (h_a0 : l10 E 0), f_X10_seeks_b242 F K28 μ a1 a2 a3 a5 a6 a8 s0 s1 = some z → ∀ {H : Heap} {locs : List Loc} {ls : Array Slot}, Iv E s μ H locs → lv_has ls 9 [(0, .ref (ad E 1000 0)), (1, .int a1), (2, .int a2), (3, .int a3), (5, .int a5), (6, .int a6), (8, .int a8)] → W p l e { frames := 3, cells := 0, slots := 0, locals := 65 } s m av below meth c H locs 0 0 (MQ below (Qm E none z) av s 0 0 (Ad E)) (F0 m 242 ls [.int s0, .int s1]) := by
  have hx := C.1.1
  have hb := C.1.2.1
  intro μ a1 a2 a3 a5 a6 a8 s0 s1 h_a0 hf H locs ls hI hl
  unfold f_X10_seeks_b242 at hf
  refine lv_iadd hx hb dX10_seeks_242 ?_
  refine lv_istore hx hb dX10_seeks_243 hl (by decide) rfl (fun ls hl => ?_)
  have hl : lv_has ls 9 [(4, .int (s1 + s0)), (0, .ref (ad E 1000 0)), (1, .int a1), (2, .int a2), (3, .int a3), (5, .int a5), (6, .int a6), (8, .int a8)] := hl
  refine lv_iload hx hb dX10_seeks_245 (lv_at hl 5 rfl) ?_
  refine lv_iload hx hb dX10_seeks_247 (lv_at hl 7 rfl) ?_
  refine lv_iconst (v := (3 : Int32)) hx hb dX10_seeks_249 kc_3 ?_
  refine lv_icmp_ne (tgt := 262) hx hb dX10_seeks_250 rfl (fun hc => ?_) (fun hc => ?_)
  · replace hf := ie hf hc
    refine lv_iconst (v := (0 : Int32)) hx hb dX10_seeks_262 kc_0 ?_
    refine lv_iadd hx hb dX10_seeks_263 ?_
    refine lv_istore hx hb dX10_seeks_264 hl (by decide) rfl (fun ls hl => ?_)
    have hl : lv_has ls 9 [(5, .int (a5 + (0 : Int32))), (4, .int (s1 + s0)), (0, .ref (ad E 1000 0)), (1, .int a1), (2, .int a2), (3, .int a3), (6, .int a6), (8, .int a8)] := hl
    refine lv_iinc (v := a6 + (1 : Int32)) hx hb dX10_seeks_266 hl (k := 6) rfl (ki_1 _) (by decide) rfl (fun ls hl => ?_)
    have hl : lv_has ls 9 [(6, .int (a6 + (1 : Int32))), (5, .int (a5 + (0 : Int32))), (4, .int (s1 + s0)), (0, .ref (ad E 1000 0)), (1, .int a1), (2, .int a2), (3, .int a3), (8, .int a8)] := hl
    refine lv_goto (tgt := 28) hx hb dX10_seeks_269 rfl ?_
    exact hK28 _ _ _ _ _ _ _ h_a0 hf hI (lv_sub hl [3, 4, 5, 6, 2, 1, 0] rfl)
  · replace hf := it hf hc
    refine lv_aload_n hx hb dX10_seeks_253 rfl (lv_at hl 1 rfl) ?_
    refine lv_iload hx hb dX10_seeks_254 (lv_at hl 6 rfl) ?_
    obtain ⟨q43, e44, hf⟩ := ob hf
    refine mcV (As := [.int a6]) (rest := [.int a5]) C hI (c_X10_stretch l E h_a0 e44) ml_X10_228 kv_X10_stretch (m_recv C hI h_a0.1 (ce_1000 E _ _ _) rfl) rfl rfl ⟨Nat.le_of_ble_eq_true rfl, Nat.le_of_ble_eq_true rfl⟩ ⟨Nat.zero_le _, Nat.zero_le _⟩ rfl rfl hl.1 (Nat.le_of_ble_eq_true rfl) dX10_seeks_256 (st1 := [.int q43, .int a5]) rfl (fun H locs hI => ?_)
    refine lv_goto (tgt := 263) hx hb dX10_seeks_259 rfl ?_
    refine lv_iadd hx hb dX10_seeks_263 ?_
    refine lv_istore hx hb dX10_seeks_264 hl (by decide) rfl (fun ls hl => ?_)
    have hl : lv_has ls 9 [(5, .int (a5 + q43)), (4, .int (s1 + s0)), (0, .ref (ad E 1000 0)), (1, .int a1), (2, .int a2), (3, .int a3), (6, .int a6), (8, .int a8)] := hl
    refine lv_iinc (v := a6 + (1 : Int32)) hx hb dX10_seeks_266 hl (k := 6) rfl (ki_1 _) (by decide) rfl (fun ls hl => ?_)
    have hl : lv_has ls 9 [(6, .int (a6 + (1 : Int32))), (5, .int (a5 + q43)), (4, .int (s1 + s0)), (0, .ref (ad E 1000 0)), (1, .int a1), (2, .int a2), (3, .int a3), (8, .int a8)] := hl
    refine lv_goto (tgt := 28) hx hb dX10_seeks_269 rfl ?_
    exact hK28 _ _ _ _ _ _ _ h_a0 hf hI (lv_sub hl [3, 4, 5, 6, 2, 1, 0] rfl)
def f_X10_seeks_b223 (F : Nat) (K28 : Mm → Int32 → Int32 → Int32 → Int32 → Int32 → Int32 → Option Mm) (μ : Mm) (a1 : Int32) (a3 : Int32) (a4 : Int32) (a5 : Int32) (a6 : Int32) (a8 : Int32) (s0 : Int32) : Option Mm :=
 if a8 = (2 : Int32) then
 (f_X10_stretch μ a6).bind fun q45 =>
 f_X10_seeks_b242 F K28 μ a1 s0 a3 a5 a6 a8 q45 a4
 else
 f_X10_seeks_b242 F K28 μ a1 s0 a3 a5 a6 a8 (0 : Int32) a4
set_option maxHeartbeats 4000000 in
set_option maxRecDepth 100000 in
theorem cb_X10_seeks_223 {l : Launch} {E : En} {p : Program} {e : Env} {s : State} {m : MethodId} {av : Array Value} {below : List Frame} {meth : Method} {c : Code} (C : Cx E p s m av c cX10_seeks 9 yX10_seeks.cls) (hr : meth.sig.returnType = (none : Option FieldType)) (hlk : meth.locks = false) {F : Nat} {K28 : Mm → Int32 → Int32 → Int32 → Int32 → Int32 → Int32 → Option Mm} {z : Mm} (hK28 : ∀ (μ : Mm) (a1 : Int32) (a2 : Int32) (a3 : Int32) (a4 : Int32) (a5 : Int32) (a6 : Int32) (h_a0 : l10 E 0), K28 μ a1 a2 a3 a4 a5 a6 = some z → ∀ {H : Heap} {locs : List Loc} {ls : Array Slot}, Iv E s μ H locs → lv_has ls 9 [(0, .ref (ad E 1000 0)), (1, .int a1), (2, .int a2), (3, .int a3), (4, .int a4), (5, .int a5), (6, .int a6)] → W p l e { frames := 3, cells := 0, slots := 0, locals := 65 } s m av below meth c H locs 0 0 (MQ below (Qm E none z) av s 0 0 (Ad E)) (F0 m 28 ls [])) : ∀ (μ : Mm) (a1 : Int32) (a3 : Int32) (a4 : Int32) (a5 : Int32) (a6 : Int32) (a8 : Int32) (s0 : Int32) (h_a0 : l10 E 0), f_X10_seeks_b223 F K28 μ a1 a3 a4 a5 a6 a8 s0 = some z → ∀ {H : Heap} {locs : List Loc} {ls : Array Slot}, Iv E s μ H locs → lv_has ls 9 [(0, .ref (ad E 1000 0)), (1, .int a1), (3, .int a3), (4, .int a4), (5, .int a5), (6, .int a6), (8, .int a8)] → W p l e { frames := 3, cells := 0, slots := 0, locals := 65 } s m av below meth c H locs 0 0 (MQ below (Qm E none z) av s 0 0 (Ad E)) (F0 m 223 ls [.int s0]) := by
  have hx := C.1.1
  have hb := C.1.2.1
  intro μ a1 a3 a4 a5 a6 a8 s0 h_a0 hf H locs ls hI hl
  unfold f_X10_seeks_b223 at hf
  refine lv_istore_n hx hb dX10_seeks_223 rfl hl (by decide) rfl (fun ls hl => ?_)
  have hl : lv_has ls 9 [(2, .int s0), (0, .ref (ad E 1000 0)), (1, .int a1), (3, .int a3), (4, .int a4), (5, .int a5), (6, .int a6), (8, .int a8)] := hl
  refine lv_iload hx hb dX10_seeks_224 (lv_at hl 4 rfl) ?_
  refine lv_iload hx hb dX10_seeks_226 (lv_at hl 7 rfl) ?_
  refine lv_iconst (v := (2 : Int32)) hx hb dX10_seeks_228 kc_2 ?_
  refine lv_icmp_ne (tgt := 241) hx hb dX10_seeks_229 rfl (fun hc => ?_) (fun hc => ?_)
  · replace hf := ie hf hc
    refine lv_iconst (v := (0 : Int32)) hx hb dX10_seeks_241 kc_0 ?_
    exact cb_X10_seeks_242 C hr hlk hK28 _ _ _ _ _ _ _ _ _ h_a0 hf hI (lv_sub hl [1, 2, 0, 3, 5, 6, 7] rfl)
  · replace hf := it hf hc
    refine lv_aload_n hx hb dX10_seeks_232 rfl (lv_at hl 1 rfl) ?_
    refine lv_iload hx hb dX10_seeks_233 (lv_at hl 6 rfl) ?_
    obtain ⟨q45, e46, hf⟩ := ob hf
    refine mcV (As := [.int a6]) (rest := [.int a4]) C hI (c_X10_stretch l E h_a0 e46) ml_X10_228 kv_X10_stretch (m_recv C hI h_a0.1 (ce_1000 E _ _ _) rfl) rfl rfl ⟨Nat.le_of_ble_eq_true rfl, Nat.le_of_ble_eq_true rfl⟩ ⟨Nat.zero_le _, Nat.zero_le _⟩ rfl rfl hl.1 (Nat.le_of_ble_eq_true rfl) dX10_seeks_235 (st1 := [.int q45, .int a4]) rfl (fun H locs hI => ?_)
    refine lv_goto (tgt := 242) hx hb dX10_seeks_238 rfl ?_
    exact cb_X10_seeks_242 C hr hlk hK28 _ _ _ _ _ _ _ _ _ h_a0 hf hI (lv_sub hl [1, 2, 0, 3, 5, 6, 7] rfl)
def f_X10_seeks_b179 (F : Nat) (K28 : Mm → Int32 → Int32 → Int32 → Int32 → Int32 → Int32 → Option Mm) (μ : Mm) (a1 : Int32) (a2 : Int32) (a3 : Int32) (a4 : Int32) (a5 : Int32) (a6 : Int32) : Option Mm :=
 (ra μ 1008 0 21 (μ.1 1000 0 33)).bind fun v47 =>
 if v47 ≤ (a6 + (1 : Int32)) then
 K28 μ a1 a2 a3 a4 a5 (a6 + (1 : Int32))
 else
 (f_X10_isDark μ a6).bind fun q49 =>
 (f_X10_countsAs μ a1 q49).bind fun q51 =>
 if a2 = 0 then
 f_X10_seeks_b223 F K28 μ a1 a3 a4 a5 a6 q51 (0 : Int32)
 else
 if q51 = (4 : Int32) then
 f_X10_seeks_b223 F K28 μ a1 a3 a4 a5 a6 q51 (0 : Int32)
 else
 f_X10_seeks_b223 F K28 μ a1 a3 a4 a5 a6 q51 (1 : Int32)
set_option maxHeartbeats 4000000 in
set_option maxRecDepth 100000 in
theorem cb_X10_seeks_179 {l : Launch} {E : En} {p : Program} {e : Env} {s : State} {m : MethodId} {av : Array Value} {below : List Frame} {meth : Method} {c : Code} (C : Cx E p s m av c cX10_seeks 9 yX10_seeks.cls) (hr : meth.sig.returnType = (none : Option FieldType)) (hlk : meth.locks = false) {F : Nat} {K28 : Mm → Int32 → Int32 → Int32 → Int32 → Int32 → Int32 → Option Mm} {z : Mm} (hK28 : ∀ (μ : Mm) (a1 : Int32) (a2 : Int32) (a3 : Int32) (a4 : Int32) (a5 : Int32) (a6 : Int32) (h_a0 : l10 E 0), K28 μ a1 a2 a3 a4 a5 a6 = some z → ∀ {H : Heap} {locs : List Loc} {ls : Array Slot}, Iv E s μ H locs → lv_has ls 9 [(0, .ref (ad E 1000 0)), (1, .int a1), (2, .int a2), (3, .int a3), (4, .int a4), (5, .int a5), (6, .int a6)] → W p l e { frames := 3, cells := 0, slots := 0, locals := 65 } s m av below meth c H locs 0 0 (MQ below (Qm E none z) av s 0 0 (Ad E)) (F0 m 28 ls [])) : ∀ (μ : Mm) (a1 : Int32) (a2 : Int32) (a3 : Int32) (a4 : Int32) (a5 : Int32) (a6 : Int32) (h_a0 : l10 E 0), f_X10_seeks_b179 F K28 μ a1 a2 a3 a4 a5 a6 = some z → ∀ {H : Heap} {locs : List Loc} {ls : Array Slot}, Iv E s μ H locs → lv_has ls 9 [(0, .ref (ad E 1000 0)), (1, .int a1), (2, .int a2), (3, .int a3), (4, .int a4), (5, .int a5), (6, .int a6)] → W p l e { frames := 3, cells := 0, slots := 0, locals := 65 } s m av below meth c H locs 0 0 (MQ below (Qm E none z) av s 0 0 (Ad E)) (F0 m 179 ls []) := by
  have hx := C.1.1
  have hb := C.1.2.1
  intro μ a1 a2 a3 a4 a5 a6 h_a0 hf H locs ls hI hl
  unfold f_X10_seeks_b179 at hf
  refine lv_iload hx hb dX10_seeks_179 (lv_at hl 6 rfl) ?_
  refine lv_iconst (v := (1 : Int32)) hx hb dX10_seeks_181 kc_1 ?_
  refine lv_iadd hx hb dX10_seeks_182 ?_
  refine lv_aload_n hx hb dX10_seeks_183 rfl (lv_at hl 0 rfl) ?_
  refine gf_10_7 C hI h_a0.1 fl_X10_29 dX10_seeks_184 ?_
  refine lv_aload_n hx hb dX10_seeks_187 rfl (lv_at hl 0 rfl) ?_
  refine gf_10_33 C hI h_a0.1 fl_X10_164 dX10_seeks_188 ?_
  obtain ⟨v47, e48, hf⟩ := ob hf
  refine m_iald C hI h_a0.2.2.2.2.1 (ce_1008 E _ _ _) e48 dX10_seeks_191 ?_
  refine lv_icmp_ge (tgt := 266) hx hb dX10_seeks_192 rfl (fun hc => ?_) (fun hc => ?_)
  · replace hf := it hf hc
    refine lv_iinc (v := a6 + (1 : Int32)) hx hb dX10_seeks_266 hl (k := 6) rfl (ki_1 _) (by decide) rfl (fun ls hl => ?_)
    have hl : lv_has ls 9 [(6, .int (a6 + (1 : Int32))), (0, .ref (ad E 1000 0)), (1, .int a1), (2, .int a2), (3, .int a3), (4, .int a4), (5, .int a5)] := hl
    refine lv_goto (tgt := 28) hx hb dX10_seeks_269 rfl ?_
    exact hK28 _ _ _ _ _ _ _ h_a0 hf hI (lv_sub hl [1, 2, 3, 4, 5, 6, 0] rfl)
  · replace hf := ie hf hc
    refine lv_aload_n hx hb dX10_seeks_195 rfl (lv_at hl 0 rfl) ?_
    refine lv_iload_n hx hb dX10_seeks_196 rfl (lv_at hl 1 rfl) ?_
    refine lv_aload_n hx hb dX10_seeks_197 rfl (lv_at hl 0 rfl) ?_
    refine lv_iload hx hb dX10_seeks_198 (lv_at hl 6 rfl) ?_
    obtain ⟨q49, e50, hf⟩ := ob hf
    refine mcV (As := [.int a6]) (rest := [.int a1, .ref (ad E 1000 0)]) C hI (c_X10_isDark l E h_a0 e50) ml_X10_221 kv_X10_isDark (m_recv C hI h_a0.1 (ce_1000 E _ _ _) rfl) rfl rfl ⟨Nat.le_of_ble_eq_true rfl, Nat.le_of_ble_eq_true rfl⟩ ⟨Nat.zero_le _, Nat.zero_le _⟩ rfl rfl hl.1 (Nat.le_of_ble_eq_true rfl) dX10_seeks_200 (st1 := [.int q49, .int a1, .ref (ad E 1000 0)]) rfl (fun H locs hI => ?_)
    obtain ⟨q51, e52, hf⟩ := ob hf
    refine mcV (As := [.int a1, .int q49]) (rest := []) C hI (c_X10_countsAs l E h_a0 e52) ml_X10_224 kv_X10_countsAs (m_recv C hI h_a0.1 (ce_1000 E _ _ _) rfl) rfl rfl ⟨Nat.le_of_ble_eq_true rfl, Nat.le_of_ble_eq_true rfl⟩ ⟨Nat.zero_le _, Nat.zero_le _⟩ rfl rfl hl.1 (Nat.le_of_ble_eq_true rfl) dX10_seeks_203 (st1 := [.int q51]) rfl (fun H locs hI => ?_)
    refine lv_istore hx hb dX10_seeks_206 hl (by decide) rfl (fun ls hl => ?_)
    have hl : lv_has ls 9 [(8, .int q51), (0, .ref (ad E 1000 0)), (1, .int a1), (2, .int a2), (3, .int a3), (4, .int a4), (5, .int a5), (6, .int a6)] := hl
    refine lv_iload_n hx hb dX10_seeks_208 rfl (lv_at hl 3 rfl) ?_
    refine lv_if_eq (tgt := 222) hx hb dX10_seeks_209 rfl (fun hc => ?_) (fun hc => ?_)
    · replace hf := it hf hc
      refine lv_iconst (v := (0 : Int32)) hx hb dX10_seeks_222 kc_0 ?_
      exact cb_X10_seeks_223 C hr hlk hK28 _ _ _ _ _ _ _ _ h_a0 hf hI (lv_sub hl [1, 2, 4, 5, 6, 7, 0] rfl)
    · replace hf := ie hf hc
      refine lv_iload hx hb dX10_seeks_212 (lv_at hl 0 rfl) ?_
      refine lv_iconst (v := (4 : Int32)) hx hb dX10_seeks_214 kc_4 ?_
      refine lv_icmp_eq (tgt := 222) hx hb dX10_seeks_215 rfl (fun hc => ?_) (fun hc => ?_)
      · replace hf := it hf hc
        refine lv_iconst (v := (0 : Int32)) hx hb dX10_seeks_222 kc_0 ?_
        exact cb_X10_seeks_223 C hr hlk hK28 _ _ _ _ _ _ _ _ h_a0 hf hI (lv_sub hl [1, 2, 4, 5, 6, 7, 0] rfl)
      · replace hf := ie hf hc
        refine lv_iconst (v := (1 : Int32)) hx hb dX10_seeks_218 kc_1 ?_
        refine lv_goto (tgt := 223) hx hb dX10_seeks_219 rfl ?_
        exact cb_X10_seeks_223 C hr hlk hK28 _ _ _ _ _ _ _ _ h_a0 hf hI (lv_sub hl [1, 2, 4, 5, 6, 7, 0] rfl)
def f_X10_seeks_b143 (F : Nat) (K28 : Mm → Int32 → Int32 → Int32 → Int32 → Int32 → Int32 → Option Mm) (μ : Mm) (a1 : Int32) (a2 : Int32) (a3 : Int32) (a4 : Int32) (a5 : Int32) (a6 : Int32) (a7 : Int32) : Option Mm :=
 (f_X10_doesMark F μ a6).bind fun q53 =>
 (f_X10_spot q53 a6).bind fun q55 =>
 (ra q53 1009 0 4200 q55).bind fun v57 =>
 if v57 = 0 then
 if a7 = 0 then
 f_X10_seeks_b179 F K28 q53 a1 a2 a3 a4 a5 a6
 else
 f_X10_seeks_b179 F K28 q53 a1 (1 : Int32) a6 (0 : Int32) (0 : Int32) a6
 else
 f_X10_seeks_b179 F K28 q53 a1 a2 a3 a4 a5 a6
set_option maxHeartbeats 4000000 in
set_option maxRecDepth 100000 in
theorem cb_X10_seeks_143 {l : Launch} {E : En} {p : Program} {e : Env} {s : State} {m : MethodId} {av : Array Value} {below : List Frame} {meth : Method} {c : Code} (C : Cx E p s m av c cX10_seeks 9 yX10_seeks.cls) (hr : meth.sig.returnType = (none : Option FieldType)) (hlk : meth.locks = false) {F : Nat} {K28 : Mm → Int32 → Int32 → Int32 → Int32 → Int32 → Int32 → Option Mm} {z : Mm} (hK28 : ∀ (μ : Mm) (a1 : Int32) (a2 : Int32) (a3 : Int32) (a4 : Int32) (a5 : Int32) (a6 : Int32) (h_a0 : l10 E 0), K28 μ a1 a2 a3 a4 a5 a6 = some z → ∀ {H : Heap} {locs : List Loc} {ls : Array Slot}, Iv E s μ H locs → lv_has ls 9 [(0, .ref (ad E 1000 0)), (1, .int a1), (2, .int a2), (3, .int a3), (4, .int a4), (5, .int a5), (6, .int a6)] → W p l e { frames := 3, cells := 0, slots := 0, locals := 65 } s m av below meth c H locs 0 0 (MQ below (Qm E none z) av s 0 0 (Ad E)) (F0 m 28 ls [])) : ∀ (μ : Mm) (a1 : Int32) (a2 : Int32) (a3 : Int32) (a4 : Int32) (a5 : Int32) (a6 : Int32) (a7 : Int32) (h_a0 : l10 E 0), f_X10_seeks_b143 F K28 μ a1 a2 a3 a4 a5 a6 a7 = some z → ∀ {H : Heap} {locs : List Loc} {ls : Array Slot}, Iv E s μ H locs → lv_has ls 9 [(0, .ref (ad E 1000 0)), (1, .int a1), (2, .int a2), (3, .int a3), (4, .int a4), (5, .int a5), (6, .int a6), (7, .int a7)] → W p l e { frames := 3, cells := 0, slots := 0, locals := 65 } s m av below meth c H locs 0 0 (MQ below (Qm E none z) av s 0 0 (Ad E)) (F0 m 143 ls []) := by
  have hx := C.1.1
  have hb := C.1.2.1
  intro μ a1 a2 a3 a4 a5 a6 a7 h_a0 hf H locs ls hI hl
  unfold f_X10_seeks_b143 at hf
  refine lv_aload_n hx hb dX10_seeks_143 rfl (lv_at hl 0 rfl) ?_
  refine lv_iload hx hb dX10_seeks_144 (lv_at hl 6 rfl) ?_
  obtain ⟨q53, e54, hf⟩ := ob hf
  refine mcV (As := [.int a6]) (rest := []) C hI (c_X10_doesMark l E h_a0 e54) ml_X10_200 kv_X10_doesMark (m_recv C hI h_a0.1 (ce_1000 E _ _ _) rfl) rfl rfl ⟨Nat.le_of_ble_eq_true rfl, Nat.le_of_ble_eq_true rfl⟩ ⟨Nat.zero_le _, Nat.zero_le _⟩ rfl rfl hl.1 (Nat.le_of_ble_eq_true rfl) dX10_seeks_146 (st1 := []) rfl (fun H locs hI => ?_)
  refine lv_aload_n hx hb dX10_seeks_149 rfl (lv_at hl 0 rfl) ?_
  refine gf_10_8 C hI h_a0.1 fl_X10_32 dX10_seeks_150 ?_
  refine lv_aload_n hx hb dX10_seeks_153 rfl (lv_at hl 0 rfl) ?_
  refine lv_iload hx hb dX10_seeks_154 (lv_at hl 6 rfl) ?_
  obtain ⟨q55, e56, hf⟩ := ob hf
  refine mcV (As := [.int a6]) (rest := [.ref (ad E 1009 0)]) C hI (c_X10_spot l E h_a0 e56) ml_X10_190 kv_X10_spot (m_recv C hI h_a0.1 (ce_1000 E _ _ _) rfl) rfl rfl ⟨Nat.le_of_ble_eq_true rfl, Nat.le_of_ble_eq_true rfl⟩ ⟨Nat.zero_le _, Nat.zero_le _⟩ rfl rfl hl.1 (Nat.le_of_ble_eq_true rfl) dX10_seeks_156 (st1 := [.int q55, .ref (ad E 1009 0)]) rfl (fun H locs hI => ?_)
  obtain ⟨v57, e58, hf⟩ := ob hf
  refine m_bald C hI h_a0.2.2.2.2.2.1 (ce_1009 E _ _ _) e58 dX10_seeks_159 ?_
  refine lv_if_ne (tgt := 179) hx hb dX10_seeks_160 rfl (fun hc => ?_) (fun hc => ?_)
  · replace hf := ie hf hc
    exact cb_X10_seeks_179 C hr hlk hK28 _ _ _ _ _ _ _ h_a0 hf hI (lv_sub hl [0, 1, 2, 3, 4, 5, 6] rfl)
  · replace hf := it hf hc
    refine lv_iload hx hb dX10_seeks_163 (lv_at hl 7 rfl) ?_
    refine lv_if_eq (tgt := 179) hx hb dX10_seeks_165 rfl (fun hc => ?_) (fun hc => ?_)
    · replace hf := it hf hc
      exact cb_X10_seeks_179 C hr hlk hK28 _ _ _ _ _ _ _ h_a0 hf hI (lv_sub hl [0, 1, 2, 3, 4, 5, 6] rfl)
    · replace hf := ie hf hc
      refine lv_iconst (v := (1 : Int32)) hx hb dX10_seeks_168 kc_1 ?_
      refine lv_istore_n hx hb dX10_seeks_169 rfl hl (by decide) rfl (fun ls hl => ?_)
      have hl : lv_has ls 9 [(2, .int (1 : Int32)), (0, .ref (ad E 1000 0)), (1, .int a1), (3, .int a3), (4, .int a4), (5, .int a5), (6, .int a6), (7, .int a7)] := hl
      refine lv_iload hx hb dX10_seeks_170 (lv_at hl 6 rfl) ?_
      refine lv_istore_n hx hb dX10_seeks_172 rfl hl (by decide) rfl (fun ls hl => ?_)
      have hl : lv_has ls 9 [(3, .int a6), (2, .int (1 : Int32)), (0, .ref (ad E 1000 0)), (1, .int a1), (4, .int a4), (5, .int a5), (6, .int a6), (7, .int a7)] := hl
      refine lv_iconst (v := (0 : Int32)) hx hb dX10_seeks_173 kc_0 ?_
      refine lv_istore hx hb dX10_seeks_174 hl (by decide) rfl (fun ls hl => ?_)
      have hl : lv_has ls 9 [(4, .int (0 : Int32)), (3, .int a6), (2, .int (1 : Int32)), (0, .ref (ad E 1000 0)), (1, .int a1), (5, .int a5), (6, .int a6), (7, .int a7)] := hl
      refine lv_iconst (v := (0 : Int32)) hx hb dX10_seeks_176 kc_0 ?_
      refine lv_istore hx hb dX10_seeks_177 hl (by decide) rfl (fun ls hl => ?_)
      have hl : lv_has ls 9 [(5, .int (0 : Int32)), (4, .int (0 : Int32)), (3, .int a6), (2, .int (1 : Int32)), (0, .ref (ad E 1000 0)), (1, .int a1), (6, .int a6), (7, .int a7)] := hl
      exact cb_X10_seeks_179 C hr hlk hK28 _ _ _ _ _ _ _ h_a0 hf hI (lv_sub hl [4, 5, 3, 2, 1, 0, 6] rfl)
def f_X10_seeks_b62 (F : Nat) (K28 : Mm → Int32 → Int32 → Int32 → Int32 → Int32 → Int32 → Option Mm) (μ : Mm) (a1 : Int32) (a2 : Int32) (a3 : Int32) (a4 : Int32) (a5 : Int32) (a6 : Int32) (s0 : Int32) : Option Mm :=
 (f_X10_spot μ a6).bind fun q59 =>
 (ra μ 1009 0 4200 q59).bind fun v61 =>
 if v61 = (2 : Int32) then
 if s0 = 0 then
 f_X10_seeks_b143 F K28 μ a1 a2 a3 a4 a5 a6 s0
 else
 if a2 = 0 then
 f_X10_seeks_b143 F K28 μ a1 a2 a3 a4 a5 a6 s0
 else
 (wa μ 1038 0 100 (μ.1 1000 0 36) a3).bind fun m63 =>
 (wa m63 1039 0 100 (m63.1 1000 0 36) a6).bind fun m65 =>
 (wa m65 1040 0 100 (m65.1 1000 0 36) a4).bind fun m67 =>
 (wa m67 1041 0 100 (m67.1 1000 0 36) a5).bind fun m69 =>
 (wf m69 1000 0 36 ((m69.1 1000 0 36) + (1 : Int32))).bind fun m71 =>
 f_X10_seeks_b143 F K28 m71 a1 (0 : Int32) a3 a4 a5 a6 s0
 else
 f_X10_seeks_b143 F K28 μ a1 a2 a3 a4 a5 a6 s0
set_option maxHeartbeats 4000000 in
set_option maxRecDepth 100000 in
theorem cb_X10_seeks_62 {l : Launch} {E : En} {p : Program} {e : Env} {s : State} {m : MethodId} {av : Array Value} {below : List Frame} {meth : Method} {c : Code} (C : Cx E p s m av c cX10_seeks 9 yX10_seeks.cls) (hr : meth.sig.returnType = (none : Option FieldType)) (hlk : meth.locks = false) {F : Nat} {K28 : Mm → Int32 → Int32 → Int32 → Int32 → Int32 → Int32 → Option Mm} {z : Mm} (hK28 : ∀ (μ : Mm) (a1 : Int32) (a2 : Int32) (a3 : Int32) (a4 : Int32) (a5 : Int32) (a6 : Int32) (h_a0 : l10 E 0), K28 μ a1 a2 a3 a4 a5 a6 = some z → ∀ {H : Heap} {locs : List Loc} {ls : Array Slot}, Iv E s μ H locs → lv_has ls 9 [(0, .ref (ad E 1000 0)), (1, .int a1), (2, .int a2), (3, .int a3), (4, .int a4), (5, .int a5), (6, .int a6)] → W p l e { frames := 3, cells := 0, slots := 0, locals := 65 } s m av below meth c H locs 0 0 (MQ below (Qm E none z) av s 0 0 (Ad E)) (F0 m 28 ls [])) : ∀ (μ : Mm) (a1 : Int32) (a2 : Int32) (a3 : Int32) (a4 : Int32) (a5 : Int32) (a6 : Int32) (s0 : Int32) (h_a0 : l10 E 0), f_X10_seeks_b62 F K28 μ a1 a2 a3 a4 a5 a6 s0 = some z → ∀ {H : Heap} {locs : List Loc} {ls : Array Slot}, Iv E s μ H locs → lv_has ls 9 [(0, .ref (ad E 1000 0)), (1, .int a1), (2, .int a2), (3, .int a3), (4, .int a4), (5, .int a5), (6, .int a6)] → W p l e { frames := 3, cells := 0, slots := 0, locals := 65 } s m av below meth c H locs 0 0 (MQ below (Qm E none z) av s 0 0 (Ad E)) (F0 m 62 ls [.int s0]) := by
  have hx := C.1.1
  have hb := C.1.2.1
  intro μ a1 a2 a3 a4 a5 a6 s0 h_a0 hf H locs ls hI hl
  unfold f_X10_seeks_b62 at hf
  refine lv_istore hx hb dX10_seeks_62 hl (by decide) rfl (fun ls hl => ?_)
  have hl : lv_has ls 9 [(7, .int s0), (0, .ref (ad E 1000 0)), (1, .int a1), (2, .int a2), (3, .int a3), (4, .int a4), (5, .int a5), (6, .int a6)] := hl
  refine lv_aload_n hx hb dX10_seeks_64 rfl (lv_at hl 1 rfl) ?_
  refine gf_10_8 C hI h_a0.1 fl_X10_32 dX10_seeks_65 ?_
  refine lv_aload_n hx hb dX10_seeks_68 rfl (lv_at hl 1 rfl) ?_
  refine lv_iload hx hb dX10_seeks_69 (lv_at hl 7 rfl) ?_
  obtain ⟨q59, e60, hf⟩ := ob hf
  refine mcV (As := [.int a6]) (rest := [.ref (ad E 1009 0)]) C hI (c_X10_spot l E h_a0 e60) ml_X10_190 kv_X10_spot (m_recv C hI h_a0.1 (ce_1000 E _ _ _) rfl) rfl rfl ⟨Nat.le_of_ble_eq_true rfl, Nat.le_of_ble_eq_true rfl⟩ ⟨Nat.zero_le _, Nat.zero_le _⟩ rfl rfl hl.1 (Nat.le_of_ble_eq_true rfl) dX10_seeks_71 (st1 := [.int q59, .ref (ad E 1009 0)]) rfl (fun H locs hI => ?_)
  obtain ⟨v61, e62, hf⟩ := ob hf
  refine m_bald C hI h_a0.2.2.2.2.2.1 (ce_1009 E _ _ _) e62 dX10_seeks_74 ?_
  refine lv_iconst (v := (2 : Int32)) hx hb dX10_seeks_75 kc_2 ?_
  refine lv_icmp_ne (tgt := 143) hx hb dX10_seeks_76 rfl (fun hc => ?_) (fun hc => ?_)
  · replace hf := ie hf hc
    exact cb_X10_seeks_143 C hr hlk hK28 _ _ _ _ _ _ _ _ h_a0 hf hI (lv_sub hl [1, 2, 3, 4, 5, 6, 7, 0] rfl)
  · replace hf := it hf hc
    refine lv_iload hx hb dX10_seeks_79 (lv_at hl 0 rfl) ?_
    refine lv_if_eq (tgt := 143) hx hb dX10_seeks_81 rfl (fun hc => ?_) (fun hc => ?_)
    · replace hf := it hf hc
      exact cb_X10_seeks_143 C hr hlk hK28 _ _ _ _ _ _ _ _ h_a0 hf hI (lv_sub hl [1, 2, 3, 4, 5, 6, 7, 0] rfl)
    · replace hf := ie hf hc
      refine lv_iload_n hx hb dX10_seeks_84 rfl (lv_at hl 3 rfl) ?_
      refine lv_if_eq (tgt := 143) hx hb dX10_seeks_85 rfl (fun hc => ?_) (fun hc => ?_)
      · replace hf := it hf hc
        exact cb_X10_seeks_143 C hr hlk hK28 _ _ _ _ _ _ _ _ h_a0 hf hI (lv_sub hl [1, 2, 3, 4, 5, 6, 7, 0] rfl)
      · replace hf := ie hf hc
        refine lv_aload_n hx hb dX10_seeks_88 rfl (lv_at hl 1 rfl) ?_
        refine gf_10_37 C hI h_a0.1 fl_X10_94 dX10_seeks_89 ?_
        refine lv_aload_n hx hb dX10_seeks_92 rfl (lv_at hl 1 rfl) ?_
        refine gf_10_36 C hI h_a0.1 fl_X10_251 dX10_seeks_93 ?_
        refine lv_iload_n hx hb dX10_seeks_96 rfl (lv_at hl 4 rfl) ?_
        obtain ⟨m63, e64, hf⟩ := ob hf
        refine m_iast C hI h_a0.2.2.2.2.2.2.2.2.2.2.2.2.2.2.2.2.2.2.2.2.2.2.2.2.2.1 (ce_1038 E _) e64 dX10_seeks_97 (fun H locs hI => ?_)
        refine lv_aload_n hx hb dX10_seeks_98 rfl (lv_at hl 1 rfl) ?_
        refine gf_10_38 C hI h_a0.1 fl_X10_97 dX10_seeks_99 ?_
        refine lv_aload_n hx hb dX10_seeks_102 rfl (lv_at hl 1 rfl) ?_
        refine gf_10_36 C hI h_a0.1 fl_X10_251 dX10_seeks_103 ?_
        refine lv_iload hx hb dX10_seeks_106 (lv_at hl 7 rfl) ?_
        obtain ⟨m65, e66, hf⟩ := ob hf
        refine m_iast C hI h_a0.2.2.2.2.2.2.2.2.2.2.2.2.2.2.2.2.2.2.2.2.2.2.2.2.2.2.1 (ce_1039 E _) e66 dX10_seeks_108 (fun H locs hI => ?_)
        refine lv_aload_n hx hb dX10_seeks_109 rfl (lv_at hl 1 rfl) ?_
        refine gf_10_39 C hI h_a0.1 fl_X10_100 dX10_seeks_110 ?_
        refine lv_aload_n hx hb dX10_seeks_113 rfl (lv_at hl 1 rfl) ?_
        refine gf_10_36 C hI h_a0.1 fl_X10_251 dX10_seeks_114 ?_
        refine lv_iload hx hb dX10_seeks_117 (lv_at hl 5 rfl) ?_
        obtain ⟨m67, e68, hf⟩ := ob hf
        refine m_iast C hI h_a0.2.2.2.2.2.2.2.2.2.2.2.2.2.2.2.2.2.2.2.2.2.2.2.2.2.2.2.1 (ce_1040 E _) e68 dX10_seeks_119 (fun H locs hI => ?_)
        refine lv_aload_n hx hb dX10_seeks_120 rfl (lv_at hl 1 rfl) ?_
        refine gf_10_40 C hI h_a0.1 fl_X10_103 dX10_seeks_121 ?_
        refine lv_aload_n hx hb dX10_seeks_124 rfl (lv_at hl 1 rfl) ?_
        refine gf_10_36 C hI h_a0.1 fl_X10_251 dX10_seeks_125 ?_
        refine lv_iload hx hb dX10_seeks_128 (lv_at hl 6 rfl) ?_
        obtain ⟨m69, e70, hf⟩ := ob hf
        refine m_iast C hI h_a0.2.2.2.2.2.2.2.2.2.2.2.2.2.2.2.2.2.2.2.2.2.2.2.2.2.2.2.2.1 (ce_1041 E _) e70 dX10_seeks_130 (fun H locs hI => ?_)
        refine lv_aload_n hx hb dX10_seeks_131 rfl (lv_at hl 1 rfl) ?_
        refine lv_dup hx hb dX10_seeks_132 rfl ?_
        refine gf_10_36 C hI h_a0.1 fl_X10_251 dX10_seeks_133 ?_
        refine lv_iconst (v := (1 : Int32)) hx hb dX10_seeks_136 kc_1 ?_
        refine lv_iadd hx hb dX10_seeks_137 ?_
        obtain ⟨m71, e72, hf⟩ := ob hf
        refine pf_10_36 C hI h_a0.1 fl_X10_251 e72 dX10_seeks_138 (fun H locs hI => ?_)
        refine lv_iconst (v := (0 : Int32)) hx hb dX10_seeks_141 kc_0 ?_
        refine lv_istore_n hx hb dX10_seeks_142 rfl hl (by decide) rfl (fun ls hl => ?_)
        have hl : lv_has ls 9 [(2, .int (0 : Int32)), (7, .int s0), (0, .ref (ad E 1000 0)), (1, .int a1), (3, .int a3), (4, .int a4), (5, .int a5), (6, .int a6)] := hl
        exact cb_X10_seeks_143 C hr hlk hK28 _ _ _ _ _ _ _ _ h_a0 hf hI (lv_sub hl [2, 3, 0, 4, 5, 6, 7, 1] rfl)
def f_X10_seeks_b28 (F : Nat) : Nat → Mm → Int32 → Int32 → Int32 → Int32 → Int32 → Int32 → Option Mm
 | 0, _, _, _, _, _, _, _ => none
 | N + 1, μ, a1, a2, a3, a4, a5, a6 =>
 (ra μ 1008 0 21 (μ.1 1000 0 33)).bind fun v73 =>
 if v73 ≤ a6 then
 some μ
 else
 (f_X10_spot μ a6).bind fun q75 =>
 (ra μ 1010 0 4200 q75).bind fun v77 =>
 if v77 = a1 then
 f_X10_seeks_b62 F (fun μ a1 a2 a3 a4 a5 a6 => f_X10_seeks_b28 F N μ a1 a2 a3 a4 a5 a6) μ a1 a2 a3 a4 a5 a6 (1 : Int32)
 else
 f_X10_seeks_b62 F (fun μ a1 a2 a3 a4 a5 a6 => f_X10_seeks_b28 F N μ a1 a2 a3 a4 a5 a6) μ a1 a2 a3 a4 a5 a6 (0 : Int32)
set_option maxHeartbeats 4000000 in
set_option maxRecDepth 100000 in
theorem cb_X10_seeks_28 {l : Launch} {E : En} {p : Program} {e : Env} {s : State} {m : MethodId} {av : Array Value} {below : List Frame} {meth : Method} {c : Code} (C : Cx E p s m av c cX10_seeks 9 yX10_seeks.cls) (hr : meth.sig.returnType = (none : Option FieldType)) (hlk : meth.locks = false) {F : Nat} {z : Mm} : ∀ (N : Nat) (μ : Mm) (a1 : Int32) (a2 : Int32) (a3 : Int32) (a4 : Int32) (a5 : Int32) (a6 : Int32) (h_a0 : l10 E 0), f_X10_seeks_b28 F N μ a1 a2 a3 a4 a5 a6 = some z → ∀ {H : Heap} {locs : List Loc} {ls : Array Slot}, Iv E s μ H locs → lv_has ls 9 [(0, .ref (ad E 1000 0)), (1, .int a1), (2, .int a2), (3, .int a3), (4, .int a4), (5, .int a5), (6, .int a6)] → W p l e { frames := 3, cells := 0, slots := 0, locals := 65 } s m av below meth c H locs 0 0 (MQ below (Qm E none z) av s 0 0 (Ad E)) (F0 m 28 ls []) := by
  have hx := C.1.1
  have hb := C.1.2.1
  intro N
  induction N with
  | zero => intro μ a1 a2 a3 a4 a5 a6 h_a0 hf; cases hf
  | succ N ih =>
    intro μ a1 a2 a3 a4 a5 a6 h_a0 hf H locs ls hI hl
    rw [f_X10_seeks_b28] at hf
    refine lv_iload hx hb dX10_seeks_28 (lv_at hl 6 rfl) ?_
    refine lv_aload_n hx hb dX10_seeks_30 rfl (lv_at hl 0 rfl) ?_
    refine gf_10_7 C hI h_a0.1 fl_X10_29 dX10_seeks_31 ?_
    refine lv_aload_n hx hb dX10_seeks_34 rfl (lv_at hl 0 rfl) ?_
    refine gf_10_33 C hI h_a0.1 fl_X10_164 dX10_seeks_35 ?_
    obtain ⟨v73, e74, hf⟩ := ob hf
    refine m_iald C hI h_a0.2.2.2.2.1 (ce_1008 E _ _ _) e74 dX10_seeks_38 ?_
    refine lv_icmp_ge (tgt := 272) hx hb dX10_seeks_39 rfl (fun hc => ?_) (fun hc => ?_)
    · replace hf := it hf hc
      obtain rfl := Option.some.inj hf
      exact m_vret C hr hlk hI dX10_seeks_272
    · replace hf := ie hf hc
      refine lv_aload_n hx hb dX10_seeks_42 rfl (lv_at hl 0 rfl) ?_
      refine gf_10_9 C hI h_a0.1 fl_X10_36 dX10_seeks_43 ?_
      refine lv_aload_n hx hb dX10_seeks_46 rfl (lv_at hl 0 rfl) ?_
      refine lv_iload hx hb dX10_seeks_47 (lv_at hl 6 rfl) ?_
      obtain ⟨q75, e76, hf⟩ := ob hf
      refine mcV (As := [.int a6]) (rest := [.ref (ad E 1010 0)]) C hI (c_X10_spot l E h_a0 e76) ml_X10_190 kv_X10_spot (m_recv C hI h_a0.1 (ce_1000 E _ _ _) rfl) rfl rfl ⟨Nat.le_of_ble_eq_true rfl, Nat.le_of_ble_eq_true rfl⟩ ⟨Nat.zero_le _, Nat.zero_le _⟩ rfl rfl hl.1 (Nat.le_of_ble_eq_true rfl) dX10_seeks_49 (st1 := [.int q75, .ref (ad E 1010 0)]) rfl (fun H locs hI => ?_)
      obtain ⟨v77, e78, hf⟩ := ob hf
      refine m_bald C hI h_a0.2.2.2.2.2.2.1 (ce_1010 E _ _ _) e78 dX10_seeks_52 ?_
      refine lv_iload_n hx hb dX10_seeks_53 rfl (lv_at hl 1 rfl) ?_
      refine lv_icmp_ne (tgt := 61) hx hb dX10_seeks_54 rfl (fun hc => ?_) (fun hc => ?_)
      · replace hf := ie hf hc
        refine lv_iconst (v := (0 : Int32)) hx hb dX10_seeks_61 kc_0 ?_
        exact cb_X10_seeks_62 C hr hlk ih _ _ _ _ _ _ _ _ h_a0 hf hI (lv_sub hl [0, 1, 2, 3, 4, 5, 6] rfl)
      · replace hf := it hf hc
        refine lv_iconst (v := (1 : Int32)) hx hb dX10_seeks_57 kc_1 ?_
        refine lv_goto (tgt := 62) hx hb dX10_seeks_58 rfl ?_
        exact cb_X10_seeks_62 C hr hlk ih _ _ _ _ _ _ _ _ h_a0 hf hI (lv_sub hl [0, 1, 2, 3, 4, 5, 6] rfl)
def f_X10_seeks (F : Nat) (μ : Mm) (p1 : Int32) : Option Mm :=
 (ra μ 1005 0 8 p1).bind fun v79 =>
 (f_X10_startsNow F μ v79).bind fun q81 =>
 (wf q81 1000 0 36 (0 : Int32)).bind fun m83 =>
 f_X10_seeks_b28 F F m83 p1 (0 : Int32) (0 : Int32) (0 : Int32) (0 : Int32) (0 : Int32)
set_option maxHeartbeats 4000000 in
set_option maxRecDepth 100000 in
theorem c_X10_seeks (l : Launch) (E : En) {F : Nat} {μ : Mm} {p1 : Int32} (h0 : l10 E 0) {z : Mm} (hf : f_X10_seeks F μ p1 = some z) : Met l yX10_seeks (wt yX10_seeks cX10_seeks 9 (none : Option FieldType)) { frames := 3, cells := 0, slots := 0, locals := 65 } (Pm E [.ref (ad E 1000 0), .int p1] μ) (Qm E none z) 0 0 (Ad E) := by
  unfold f_X10_seeks at hf
  refine met_of (cc := cX10_seeks) (nL := 9) (ret := (none : Option FieldType)) (by decide) _ (Nat.le_of_ble_eq_true rfl) ?_
  intro p e s m below meth c C hr hlk hI ls hl
  have hx := C.1.1
  have hb := C.1.2.1
  have hl : lv_has ls 9 [(0, .ref (ad E 1000 0)), (1, .int p1)] := hl
  refine lv_aload_n hx hb dX10_seeks_0 rfl (lv_at hl 0 rfl) ?_
  refine lv_aload_n hx hb dX10_seeks_1 rfl (lv_at hl 0 rfl) ?_
  refine gf_10_4 C hI h0.1 fl_X10_19 dX10_seeks_2 ?_
  refine lv_iload_n hx hb dX10_seeks_5 rfl (lv_at hl 1 rfl) ?_
  obtain ⟨v79, e80, hf⟩ := ob hf
  refine m_iald C hI h0.2.1 (ce_1005 E _ _ _) e80 dX10_seeks_6 ?_
  obtain ⟨q81, e82, hf⟩ := ob hf
  refine mcV (As := [.int v79]) (rest := []) C hI (c_X10_startsNow l E h0 e82) ml_X10_196 kv_X10_startsNow (m_recv C hI h0.1 (ce_1000 E _ _ _) rfl) rfl rfl ⟨Nat.le_of_ble_eq_true rfl, Nat.le_of_ble_eq_true rfl⟩ ⟨Nat.zero_le _, Nat.zero_le _⟩ rfl rfl hl.1 (Nat.le_of_ble_eq_true rfl) dX10_seeks_7 (st1 := []) rfl (fun H locs hI => ?_)
  refine lv_aload_n hx hb dX10_seeks_10 rfl (lv_at hl 0 rfl) ?_
  refine lv_iconst (v := (0 : Int32)) hx hb dX10_seeks_11 kc_0 ?_
  obtain ⟨m83, e84, hf⟩ := ob hf
  refine pf_10_36 C hI h0.1 fl_X10_251 e84 dX10_seeks_12 (fun H locs hI => ?_)
  refine lv_iconst (v := (0 : Int32)) hx hb dX10_seeks_15 kc_0 ?_
  refine lv_istore_n hx hb dX10_seeks_16 rfl hl (by decide) rfl (fun ls hl => ?_)
  have hl : lv_has ls 9 [(2, .int (0 : Int32)), (0, .ref (ad E 1000 0)), (1, .int p1)] := hl
  refine lv_iconst (v := (0 : Int32)) hx hb dX10_seeks_17 kc_0 ?_
  refine lv_istore_n hx hb dX10_seeks_18 rfl hl (by decide) rfl (fun ls hl => ?_)
  have hl : lv_has ls 9 [(3, .int (0 : Int32)), (2, .int (0 : Int32)), (0, .ref (ad E 1000 0)), (1, .int p1)] := hl
  refine lv_iconst (v := (0 : Int32)) hx hb dX10_seeks_19 kc_0 ?_
  refine lv_istore hx hb dX10_seeks_20 hl (by decide) rfl (fun ls hl => ?_)
  have hl : lv_has ls 9 [(4, .int (0 : Int32)), (3, .int (0 : Int32)), (2, .int (0 : Int32)), (0, .ref (ad E 1000 0)), (1, .int p1)] := hl
  refine lv_iconst (v := (0 : Int32)) hx hb dX10_seeks_22 kc_0 ?_
  refine lv_istore hx hb dX10_seeks_23 hl (by decide) rfl (fun ls hl => ?_)
  have hl : lv_has ls 9 [(5, .int (0 : Int32)), (4, .int (0 : Int32)), (3, .int (0 : Int32)), (2, .int (0 : Int32)), (0, .ref (ad E 1000 0)), (1, .int p1)] := hl
  refine lv_iconst (v := (0 : Int32)) hx hb dX10_seeks_25 kc_0 ?_
  refine lv_istore hx hb dX10_seeks_26 hl (by decide) rfl (fun ls hl => ?_)
  have hl : lv_has ls 9 [(6, .int (0 : Int32)), (5, .int (0 : Int32)), (4, .int (0 : Int32)), (3, .int (0 : Int32)), (2, .int (0 : Int32)), (0, .ref (ad E 1000 0)), (1, .int p1)] := hl
  exact cb_X10_seeks_28 C hr hlk  _ _ _ _ _ _ _ _ h0 hf hI (lv_sub hl [5, 6, 4, 3, 2, 1, 0] rfl)

theorem dX10_jobs_0 : decode cX10_jobs 0 = .ok (.aload_n 0, 1) := by decide +kernel
theorem dX10_jobs_1 : decode cX10_jobs 1 = .ok (.iload_n 1, 1) := by decide +kernel
theorem dX10_jobs_2 : decode cX10_jobs 2 = .ok (.invokevirtual 149, 3) := by decide +kernel
theorem dX10_jobs_5 : decode cX10_jobs 5 = .ok (.ifCond .ne 5, 3) := by decide +kernel
theorem dX10_jobs_8 : decode cX10_jobs 8 = .ok (.iconst (-1), 1) := by decide +kernel
theorem dX10_jobs_9 : decode cX10_jobs 9 = .ok (.ireturn, 1) := by decide +kernel
theorem dX10_jobs_10 : decode cX10_jobs 10 = .ok (.aload_n 0, 1) := by decide +kernel
theorem dX10_jobs_11 : decode cX10_jobs 11 = .ok (.iload_n 1, 1) := by decide +kernel
theorem dX10_jobs_12 : decode cX10_jobs 12 = .ok (.invokevirtual 254, 3) := by decide +kernel
theorem dX10_jobs_15 : decode cX10_jobs 15 = .ok (.aload_n 0, 1) := by decide +kernel
theorem dX10_jobs_16 : decode cX10_jobs 16 = .ok (.getfield 251, 3) := by decide +kernel
theorem dX10_jobs_19 : decode cX10_jobs 19 = .ok (.ireturn, 1) := by decide +kernel
def f_X10_jobs (F : Nat) (μ : Mm) (p1 : Int32) : Option (Int32 × Mm) :=
 (f_X10_isTask μ p1).bind fun q5 =>
 if q5 = 0 then
 some ((-1 : Int32), μ)
 else
 (f_X10_seeks F μ p1).bind fun q7 =>
 some (q7.1 1000 0 36, q7)
set_option maxHeartbeats 4000000 in
set_option maxRecDepth 100000 in
theorem c_X10_jobs (l : Launch) (E : En) {F : Nat} {μ : Mm} {p1 : Int32} (h0 : l10 E 0) {z : Int32 × Mm} (hf : f_X10_jobs F μ p1 = some z) : Met l yX10_jobs (wt yX10_jobs cX10_jobs 2 (some .int)) { frames := 4, cells := 0, slots := 0, locals := 93 } (Pm E [.ref (ad E 1000 0), .int p1] μ) (Qm E (some (.int z.1)) z.2) 0 0 (Ad E) := by
  unfold f_X10_jobs at hf
  refine met_of (cc := cX10_jobs) (nL := 2) (ret := (some .int)) (by decide) _ (Nat.le_of_ble_eq_true rfl) ?_
  intro p e s m below meth c C hr hlk hI ls hl
  have hx := C.1.1
  have hb := C.1.2.1
  have hl : lv_has ls 2 [(0, .ref (ad E 1000 0)), (1, .int p1)] := hl
  refine lv_aload_n hx hb dX10_jobs_0 rfl (lv_at hl 0 rfl) ?_
  refine lv_iload_n hx hb dX10_jobs_1 rfl (lv_at hl 1 rfl) ?_
  obtain ⟨q5, e6, hf⟩ := ob hf
  refine mcV (As := [.int p1]) (rest := []) C hI (c_X10_isTask l E h0 e6) ml_X10_149 kv_X10_isTask (m_recv C hI h0.1 (ce_1000 E _ _ _) rfl) rfl rfl ⟨Nat.le_of_ble_eq_true rfl, Nat.le_of_ble_eq_true rfl⟩ ⟨Nat.zero_le _, Nat.zero_le _⟩ rfl rfl hl.1 (Nat.le_of_ble_eq_true rfl) dX10_jobs_2 (st1 := [.int q5]) rfl (fun H locs hI => ?_)
  refine lv_if_ne (tgt := 10) hx hb dX10_jobs_5 rfl (fun hc => ?_) (fun hc => ?_)
  · replace hf := ie hf hc
    refine lv_aload_n hx hb dX10_jobs_10 rfl (lv_at hl 0 rfl) ?_
    refine lv_iload_n hx hb dX10_jobs_11 rfl (lv_at hl 1 rfl) ?_
    obtain ⟨q7, e8, hf⟩ := ob hf
    refine mcV (As := [.int p1]) (rest := []) C hI (c_X10_seeks l E h0 e8) ml_X10_254 kv_X10_seeks (m_recv C hI h0.1 (ce_1000 E _ _ _) rfl) rfl rfl ⟨Nat.le_of_ble_eq_true rfl, Nat.le_of_ble_eq_true rfl⟩ ⟨Nat.zero_le _, Nat.zero_le _⟩ rfl rfl hl.1 (Nat.le_of_ble_eq_true rfl) dX10_jobs_12 (st1 := []) rfl (fun H locs hI => ?_)
    refine lv_aload_n hx hb dX10_jobs_15 rfl (lv_at hl 0 rfl) ?_
    refine gf_10_36 C hI h0.1 fl_X10_251 dX10_jobs_16 ?_
    obtain rfl := Option.some.inj hf
    exact m_iret C hr hlk hI dX10_jobs_19
  · replace hf := it hf hc
    refine lv_iconst (v := (-1 : Int32)) hx hb dX10_jobs_8 kc_m1 ?_
    obtain rfl := Option.some.inj hf
    exact m_iret C hr hlk hI dX10_jobs_9

theorem dX10_job_0 : decode cX10_job 0 = .ok (.aload_n 0, 1) := by decide +kernel
theorem dX10_job_1 : decode cX10_job 1 = .ok (.iload_n 1, 1) := by decide +kernel
theorem dX10_job_2 : decode cX10_job 2 = .ok (.invokevirtual 149, 3) := by decide +kernel
theorem dX10_job_5 : decode cX10_job 5 = .ok (.ifCond .ne 5, 3) := by decide +kernel
theorem dX10_job_8 : decode cX10_job 8 = .ok (.iconst (-1), 1) := by decide +kernel
theorem dX10_job_9 : decode cX10_job 9 = .ok (.ireturn, 1) := by decide +kernel
theorem dX10_job_10 : decode cX10_job 10 = .ok (.aload_n 0, 1) := by decide +kernel
theorem dX10_job_11 : decode cX10_job 11 = .ok (.iload_n 1, 1) := by decide +kernel
theorem dX10_job_12 : decode cX10_job 12 = .ok (.invokevirtual 254, 3) := by decide +kernel
theorem dX10_job_15 : decode cX10_job 15 = .ok (.iload_n 2, 1) := by decide +kernel
theorem dX10_job_16 : decode cX10_job 16 = .ok (.iconst 0, 1) := by decide +kernel
theorem dX10_job_17 : decode cX10_job 17 = .ok (.aload_n 0, 1) := by decide +kernel
theorem dX10_job_18 : decode cX10_job 18 = .ok (.getfield 251, 3) := by decide +kernel
theorem dX10_job_21 : decode cX10_job 21 = .ok (.iconst 1, 1) := by decide +kernel
theorem dX10_job_22 : decode cX10_job 22 = .ok (.isub, 1) := by decide +kernel
theorem dX10_job_23 : decode cX10_job 23 = .ok (.invokestatic 136, 3) := by decide +kernel
theorem dX10_job_26 : decode cX10_job 26 = .ok (.ifCond .ne 5, 3) := by decide +kernel
theorem dX10_job_29 : decode cX10_job 29 = .ok (.iconst (-1), 1) := by decide +kernel
theorem dX10_job_30 : decode cX10_job 30 = .ok (.ireturn, 1) := by decide +kernel
theorem dX10_job_31 : decode cX10_job 31 = .ok (.iload_n 3, 1) := by decide +kernel
theorem dX10_job_32 : decode cX10_job 32 = .ok (.tableswitch 88 0 4 #[36, 52, 68, 74, 81], 36) := by decide +kernel
theorem dX10_job_68 : decode cX10_job 68 = .ok (.aload_n 0, 1) := by decide +kernel
theorem dX10_job_69 : decode cX10_job 69 = .ok (.getfield 42, 3) := by decide +kernel
theorem dX10_job_72 : decode cX10_job 72 = .ok (.aload_n 0, 1) := by decide +kernel
theorem dX10_job_73 : decode cX10_job 73 = .ok (.aload_n 0, 1) := by decide +kernel
theorem dX10_job_74 : decode cX10_job 74 = .ok (.getfield 94, 3) := by decide +kernel
theorem dX10_job_77 : decode cX10_job 77 = .ok (.iload_n 2, 1) := by decide +kernel
theorem dX10_job_78 : decode cX10_job 78 = .ok (.iaload, 1) := by decide +kernel
theorem dX10_job_79 : decode cX10_job 79 = .ok (.invokevirtual 190, 3) := by decide +kernel
theorem dX10_job_82 : decode cX10_job 82 = .ok (.iaload, 1) := by decide +kernel
theorem dX10_job_83 : decode cX10_job 83 = .ok (.ireturn, 1) := by decide +kernel
theorem dX10_job_84 : decode cX10_job 84 = .ok (.aload_n 0, 1) := by decide +kernel
theorem dX10_job_85 : decode cX10_job 85 = .ok (.getfield 42, 3) := by decide +kernel
theorem dX10_job_88 : decode cX10_job 88 = .ok (.aload_n 0, 1) := by decide +kernel
theorem dX10_job_89 : decode cX10_job 89 = .ok (.aload_n 0, 1) := by decide +kernel
theorem dX10_job_90 : decode cX10_job 90 = .ok (.getfield 97, 3) := by decide +kernel
theorem dX10_job_93 : decode cX10_job 93 = .ok (.iload_n 2, 1) := by decide +kernel
theorem dX10_job_94 : decode cX10_job 94 = .ok (.iaload, 1) := by decide +kernel
theorem dX10_job_95 : decode cX10_job 95 = .ok (.invokevirtual 190, 3) := by decide +kernel
theorem dX10_job_98 : decode cX10_job 98 = .ok (.iaload, 1) := by decide +kernel
theorem dX10_job_99 : decode cX10_job 99 = .ok (.ireturn, 1) := by decide +kernel
theorem dX10_job_100 : decode cX10_job 100 = .ok (.aload_n 0, 1) := by decide +kernel
theorem dX10_job_101 : decode cX10_job 101 = .ok (.iload_n 2, 1) := by decide +kernel
theorem dX10_job_102 : decode cX10_job 102 = .ok (.invokevirtual 257, 3) := by decide +kernel
theorem dX10_job_105 : decode cX10_job 105 = .ok (.ireturn, 1) := by decide +kernel
theorem dX10_job_106 : decode cX10_job 106 = .ok (.aload_n 0, 1) := by decide +kernel
theorem dX10_job_107 : decode cX10_job 107 = .ok (.getfield 100, 3) := by decide +kernel
theorem dX10_job_110 : decode cX10_job 110 = .ok (.iload_n 2, 1) := by decide +kernel
theorem dX10_job_111 : decode cX10_job 111 = .ok (.iaload, 1) := by decide +kernel
theorem dX10_job_112 : decode cX10_job 112 = .ok (.ireturn, 1) := by decide +kernel
theorem dX10_job_113 : decode cX10_job 113 = .ok (.aload_n 0, 1) := by decide +kernel
theorem dX10_job_114 : decode cX10_job 114 = .ok (.getfield 103, 3) := by decide +kernel
theorem dX10_job_117 : decode cX10_job 117 = .ok (.iload_n 2, 1) := by decide +kernel
theorem dX10_job_118 : decode cX10_job 118 = .ok (.iaload, 1) := by decide +kernel
theorem dX10_job_119 : decode cX10_job 119 = .ok (.ireturn, 1) := by decide +kernel
theorem dX10_job_120 : decode cX10_job 120 = .ok (.iconst (-1), 1) := by decide +kernel
theorem dX10_job_121 : decode cX10_job 121 = .ok (.ireturn, 1) := by decide +kernel
def f_X10_job (F : Nat) (μ : Mm) (p1 : Int32) (p2 : Int32) (p3 : Int32) : Option (Int32 × Mm) :=
 (f_X10_isTask μ p1).bind fun q25 =>
 if q25 = 0 then
 some ((-1 : Int32), μ)
 else
 (f_X10_seeks F μ p1).bind fun q27 =>
 (f_X10_in q27 p2 (0 : Int32) ((q27.1 1000 0 36) - (1 : Int32))).bind fun q29 =>
 if q29 = 0 then
 some ((-1 : Int32), q27)
 else
 if p3 = (0 : Int32) then
 (ra q27 1038 0 100 p2).bind fun v31 =>
 (f_X10_spot q27 v31).bind fun q33 =>
 (ra q27 1012 0 4200 q33).bind fun v35 =>
 some (v35, q27)
 else
 if p3 = (1 : Int32) then
 (ra q27 1039 0 100 p2).bind fun v37 =>
 (f_X10_spot q27 v37).bind fun q39 =>
 (ra q27 1012 0 4200 q39).bind fun v41 =>
 some (v41, q27)
 else
 if p3 = (2 : Int32) then
 (f_X10_response q27 p2).bind fun q43 =>
 some (q43, q27)
 else
 if p3 = (3 : Int32) then
 (ra q27 1040 0 100 p2).bind fun v45 =>
 some (v45, q27)
 else
 if p3 = (4 : Int32) then
 (ra q27 1041 0 100 p2).bind fun v47 =>
 some (v47, q27)
 else
 some ((-1 : Int32), q27)
set_option maxHeartbeats 4000000 in
set_option maxRecDepth 100000 in
theorem c_X10_job (l : Launch) (E : En) {F : Nat} {μ : Mm} {p1 : Int32} {p2 : Int32} {p3 : Int32} (h0 : l10 E 0) {z : Int32 × Mm} (hf : f_X10_job F μ p1 p2 p3 = some z) : Met l yX10_job (wt yX10_job cX10_job 4 (some .int)) { frames := 4, cells := 0, slots := 0, locals := 93 } (Pm E [.ref (ad E 1000 0), .int p1, .int p2, .int p3] μ) (Qm E (some (.int z.1)) z.2) 0 0 (Ad E) := by
  unfold f_X10_job at hf
  refine met_of (cc := cX10_job) (nL := 4) (ret := (some .int)) (by decide) _ (Nat.le_of_ble_eq_true rfl) ?_
  intro p e s m below meth c C hr hlk hI ls hl
  have hx := C.1.1
  have hb := C.1.2.1
  have hl : lv_has ls 4 [(0, .ref (ad E 1000 0)), (1, .int p1), (2, .int p2), (3, .int p3)] := hl
  refine lv_aload_n hx hb dX10_job_0 rfl (lv_at hl 0 rfl) ?_
  refine lv_iload_n hx hb dX10_job_1 rfl (lv_at hl 1 rfl) ?_
  obtain ⟨q25, e26, hf⟩ := ob hf
  refine mcV (As := [.int p1]) (rest := []) C hI (c_X10_isTask l E h0 e26) ml_X10_149 kv_X10_isTask (m_recv C hI h0.1 (ce_1000 E _ _ _) rfl) rfl rfl ⟨Nat.le_of_ble_eq_true rfl, Nat.le_of_ble_eq_true rfl⟩ ⟨Nat.zero_le _, Nat.zero_le _⟩ rfl rfl hl.1 (Nat.le_of_ble_eq_true rfl) dX10_job_2 (st1 := [.int q25]) rfl (fun H locs hI => ?_)
  refine lv_if_ne (tgt := 10) hx hb dX10_job_5 rfl (fun hc => ?_) (fun hc => ?_)
  · replace hf := ie hf hc
    refine lv_aload_n hx hb dX10_job_10 rfl (lv_at hl 0 rfl) ?_
    refine lv_iload_n hx hb dX10_job_11 rfl (lv_at hl 1 rfl) ?_
    obtain ⟨q27, e28, hf⟩ := ob hf
    refine mcV (As := [.int p1]) (rest := []) C hI (c_X10_seeks l E h0 e28) ml_X10_254 kv_X10_seeks (m_recv C hI h0.1 (ce_1000 E _ _ _) rfl) rfl rfl ⟨Nat.le_of_ble_eq_true rfl, Nat.le_of_ble_eq_true rfl⟩ ⟨Nat.zero_le _, Nat.zero_le _⟩ rfl rfl hl.1 (Nat.le_of_ble_eq_true rfl) dX10_job_12 (st1 := []) rfl (fun H locs hI => ?_)
    refine lv_iload_n hx hb dX10_job_15 rfl (lv_at hl 2 rfl) ?_
    refine lv_iconst (v := (0 : Int32)) hx hb dX10_job_16 kc_0 ?_
    refine lv_aload_n hx hb dX10_job_17 rfl (lv_at hl 0 rfl) ?_
    refine gf_10_36 C hI h0.1 fl_X10_251 dX10_job_18 ?_
    refine lv_iconst (v := (1 : Int32)) hx hb dX10_job_21 kc_1 ?_
    refine lv_isub hx hb dX10_job_22 ?_
    obtain ⟨q29, e30, hf⟩ := ob hf
    refine mcS (As := [.int p2, .int (0 : Int32), .int ((q27.1 1000 0 36) - (1 : Int32))]) (rest := []) C hI (c_X10_in l E  e30) ml_X10_136 ks_X10_in rfl rfl ⟨Nat.le_of_ble_eq_true rfl, Nat.le_of_ble_eq_true rfl⟩ ⟨Nat.zero_le _, Nat.zero_le _⟩ rfl rfl hl.1 (Nat.le_of_ble_eq_true rfl) dX10_job_23 (st1 := [.int q29]) rfl (fun H locs hI => ?_)
    refine lv_if_ne (tgt := 31) hx hb dX10_job_26 rfl (fun hc => ?_) (fun hc => ?_)
    · replace hf := ie hf hc
      refine lv_iload_n hx hb dX10_job_31 rfl (lv_at hl 3 rfl) ?_
      by_cases hn0 : p3 = (0 : Int32)
      · replace hf := it hf hn0
        refine lv_tableIn (tgt := 68) (off := 36) hx hb dX10_job_32 (by rw [hn0]; decide) (by rw [hn0]; decide) (by rw [hn0]; rfl) rfl ?_
        refine lv_aload_n hx hb dX10_job_68 rfl (lv_at hl 0 rfl) ?_
        refine gf_10_11 C hI h0.1 fl_X10_42 dX10_job_69 ?_
        refine lv_aload_n hx hb dX10_job_72 rfl (lv_at hl 0 rfl) ?_
        refine lv_aload_n hx hb dX10_job_73 rfl (lv_at hl 0 rfl) ?_
        refine gf_10_37 C hI h0.1 fl_X10_94 dX10_job_74 ?_
        refine lv_iload_n hx hb dX10_job_77 rfl (lv_at hl 2 rfl) ?_
        obtain ⟨v31, e32, hf⟩ := ob hf
        refine m_iald C hI h0.2.2.2.2.2.2.2.2.2.2.2.2.2.2.2.2.2.2.2.2.2.2.2.2.2.1 (ce_1038 E _ _ _) e32 dX10_job_78 ?_
        obtain ⟨q33, e34, hf⟩ := ob hf
        refine mcV (As := [.int v31]) (rest := [.ref (ad E 1012 0)]) C hI (c_X10_spot l E h0 e34) ml_X10_190 kv_X10_spot (m_recv C hI h0.1 (ce_1000 E _ _ _) rfl) rfl rfl ⟨Nat.le_of_ble_eq_true rfl, Nat.le_of_ble_eq_true rfl⟩ ⟨Nat.zero_le _, Nat.zero_le _⟩ rfl rfl hl.1 (Nat.le_of_ble_eq_true rfl) dX10_job_79 (st1 := [.int q33, .ref (ad E 1012 0)]) rfl (fun H locs hI => ?_)
        obtain ⟨v35, e36, hf⟩ := ob hf
        refine m_iald C hI h0.2.2.2.2.2.2.2.2.1 (ce_1012 E _ _ _) e36 dX10_job_82 ?_
        obtain rfl := Option.some.inj hf
        exact m_iret C hr hlk hI dX10_job_83
      replace hf := ie hf hn0
      by_cases hn1 : p3 = (1 : Int32)
      · replace hf := it hf hn1
        refine lv_tableIn (tgt := 84) (off := 52) hx hb dX10_job_32 (by rw [hn1]; decide) (by rw [hn1]; decide) (by rw [hn1]; rfl) rfl ?_
        refine lv_aload_n hx hb dX10_job_84 rfl (lv_at hl 0 rfl) ?_
        refine gf_10_11 C hI h0.1 fl_X10_42 dX10_job_85 ?_
        refine lv_aload_n hx hb dX10_job_88 rfl (lv_at hl 0 rfl) ?_
        refine lv_aload_n hx hb dX10_job_89 rfl (lv_at hl 0 rfl) ?_
        refine gf_10_38 C hI h0.1 fl_X10_97 dX10_job_90 ?_
        refine lv_iload_n hx hb dX10_job_93 rfl (lv_at hl 2 rfl) ?_
        obtain ⟨v37, e38, hf⟩ := ob hf
        refine m_iald C hI h0.2.2.2.2.2.2.2.2.2.2.2.2.2.2.2.2.2.2.2.2.2.2.2.2.2.2.1 (ce_1039 E _ _ _) e38 dX10_job_94 ?_
        obtain ⟨q39, e40, hf⟩ := ob hf
        refine mcV (As := [.int v37]) (rest := [.ref (ad E 1012 0)]) C hI (c_X10_spot l E h0 e40) ml_X10_190 kv_X10_spot (m_recv C hI h0.1 (ce_1000 E _ _ _) rfl) rfl rfl ⟨Nat.le_of_ble_eq_true rfl, Nat.le_of_ble_eq_true rfl⟩ ⟨Nat.zero_le _, Nat.zero_le _⟩ rfl rfl hl.1 (Nat.le_of_ble_eq_true rfl) dX10_job_95 (st1 := [.int q39, .ref (ad E 1012 0)]) rfl (fun H locs hI => ?_)
        obtain ⟨v41, e42, hf⟩ := ob hf
        refine m_iald C hI h0.2.2.2.2.2.2.2.2.1 (ce_1012 E _ _ _) e42 dX10_job_98 ?_
        obtain rfl := Option.some.inj hf
        exact m_iret C hr hlk hI dX10_job_99
      replace hf := ie hf hn1
      by_cases hn2 : p3 = (2 : Int32)
      · replace hf := it hf hn2
        refine lv_tableIn (tgt := 100) (off := 68) hx hb dX10_job_32 (by rw [hn2]; decide) (by rw [hn2]; decide) (by rw [hn2]; rfl) rfl ?_
        refine lv_aload_n hx hb dX10_job_100 rfl (lv_at hl 0 rfl) ?_
        refine lv_iload_n hx hb dX10_job_101 rfl (lv_at hl 2 rfl) ?_
        obtain ⟨q43, e44, hf⟩ := ob hf
        refine mcV (As := [.int p2]) (rest := []) C hI (c_X10_response l E h0 e44) ml_X10_257 kv_X10_response (m_recv C hI h0.1 (ce_1000 E _ _ _) rfl) rfl rfl ⟨Nat.le_of_ble_eq_true rfl, Nat.le_of_ble_eq_true rfl⟩ ⟨Nat.zero_le _, Nat.zero_le _⟩ rfl rfl hl.1 (Nat.le_of_ble_eq_true rfl) dX10_job_102 (st1 := [.int q43]) rfl (fun H locs hI => ?_)
        obtain rfl := Option.some.inj hf
        exact m_iret C hr hlk hI dX10_job_105
      replace hf := ie hf hn2
      by_cases hn3 : p3 = (3 : Int32)
      · replace hf := it hf hn3
        refine lv_tableIn (tgt := 106) (off := 74) hx hb dX10_job_32 (by rw [hn3]; decide) (by rw [hn3]; decide) (by rw [hn3]; rfl) rfl ?_
        refine lv_aload_n hx hb dX10_job_106 rfl (lv_at hl 0 rfl) ?_
        refine gf_10_39 C hI h0.1 fl_X10_100 dX10_job_107 ?_
        refine lv_iload_n hx hb dX10_job_110 rfl (lv_at hl 2 rfl) ?_
        obtain ⟨v45, e46, hf⟩ := ob hf
        refine m_iald C hI h0.2.2.2.2.2.2.2.2.2.2.2.2.2.2.2.2.2.2.2.2.2.2.2.2.2.2.2.1 (ce_1040 E _ _ _) e46 dX10_job_111 ?_
        obtain rfl := Option.some.inj hf
        exact m_iret C hr hlk hI dX10_job_112
      replace hf := ie hf hn3
      by_cases hn4 : p3 = (4 : Int32)
      · replace hf := it hf hn4
        refine lv_tableIn (tgt := 113) (off := 81) hx hb dX10_job_32 (by rw [hn4]; decide) (by rw [hn4]; decide) (by rw [hn4]; rfl) rfl ?_
        refine lv_aload_n hx hb dX10_job_113 rfl (lv_at hl 0 rfl) ?_
        refine gf_10_40 C hI h0.1 fl_X10_103 dX10_job_114 ?_
        refine lv_iload_n hx hb dX10_job_117 rfl (lv_at hl 2 rfl) ?_
        obtain ⟨v47, e48, hf⟩ := ob hf
        refine m_iald C hI h0.2.2.2.2.2.2.2.2.2.2.2.2.2.2.2.2.2.2.2.2.2.2.2.2.2.2.2.2.1 (ce_1041 E _ _ _) e48 dX10_job_118 ?_
        obtain rfl := Option.some.inj hf
        exact m_iret C hr hlk hI dX10_job_119
      replace hf := ie hf hn4
      have a0_ := ts_ne (n := 0) hn0 (by decide)
      have a1_ := ts_ne (n := 1) hn1 (by decide)
      have a2_ := ts_ne (n := 2) hn2 (by decide)
      have a3_ := ts_ne (n := 3) hn3 (by decide)
      have a4_ := ts_ne (n := 4) hn4 (by decide)
      refine lv_tableOut (tgt := 120) hx hb dX10_job_32 (by omega) rfl ?_
      refine lv_iconst (v := (-1 : Int32)) hx hb dX10_job_120 kc_m1 ?_
      obtain rfl := Option.some.inj hf
      exact m_iret C hr hlk hI dX10_job_121
    · replace hf := it hf hc
      refine lv_iconst (v := (-1 : Int32)) hx hb dX10_job_29 kc_m1 ?_
      obtain rfl := Option.some.inj hf
      exact m_iret C hr hlk hI dX10_job_30
  · replace hf := it hf hc
    refine lv_iconst (v := (-1 : Int32)) hx hb dX10_job_8 kc_m1 ?_
    obtain rfl := Option.some.inj hf
    exact m_iret C hr hlk hI dX10_job_9

theorem dX10_worst_0 : decode cX10_worst 0 = .ok (.aload_n 0, 1) := by decide +kernel
theorem dX10_worst_1 : decode cX10_worst 1 = .ok (.iload_n 1, 1) := by decide +kernel
theorem dX10_worst_2 : decode cX10_worst 2 = .ok (.invokevirtual 149, 3) := by decide +kernel
theorem dX10_worst_5 : decode cX10_worst 5 = .ok (.ifCond .ne 5, 3) := by decide +kernel
theorem dX10_worst_8 : decode cX10_worst 8 = .ok (.iconst (-1), 1) := by decide +kernel
theorem dX10_worst_9 : decode cX10_worst 9 = .ok (.ireturn, 1) := by decide +kernel
theorem dX10_worst_10 : decode cX10_worst 10 = .ok (.aload_n 0, 1) := by decide +kernel
theorem dX10_worst_11 : decode cX10_worst 11 = .ok (.iload_n 1, 1) := by decide +kernel
theorem dX10_worst_12 : decode cX10_worst 12 = .ok (.invokevirtual 254, 3) := by decide +kernel
theorem dX10_worst_15 : decode cX10_worst 15 = .ok (.iconst (-1), 1) := by decide +kernel
theorem dX10_worst_16 : decode cX10_worst 16 = .ok (.istore_n 2, 1) := by decide +kernel
theorem dX10_worst_17 : decode cX10_worst 17 = .ok (.iconst 0, 1) := by decide +kernel
theorem dX10_worst_18 : decode cX10_worst 18 = .ok (.istore_n 3, 1) := by decide +kernel
theorem dX10_worst_19 : decode cX10_worst 19 = .ok (.iload_n 3, 1) := by decide +kernel
theorem dX10_worst_20 : decode cX10_worst 20 = .ok (.aload_n 0, 1) := by decide +kernel
theorem dX10_worst_21 : decode cX10_worst 21 = .ok (.getfield 251, 3) := by decide +kernel
theorem dX10_worst_24 : decode cX10_worst 24 = .ok (.if_icmp .ge 33, 3) := by decide +kernel
theorem dX10_worst_27 : decode cX10_worst 27 = .ok (.iload_n 2, 1) := by decide +kernel
theorem dX10_worst_28 : decode cX10_worst 28 = .ok (.iconst (-1), 1) := by decide +kernel
theorem dX10_worst_29 : decode cX10_worst 29 = .ok (.if_icmp .eq 16, 3) := by decide +kernel
theorem dX10_worst_32 : decode cX10_worst 32 = .ok (.aload_n 0, 1) := by decide +kernel
theorem dX10_worst_33 : decode cX10_worst 33 = .ok (.iload_n 3, 1) := by decide +kernel
theorem dX10_worst_34 : decode cX10_worst 34 = .ok (.invokevirtual 257, 3) := by decide +kernel
theorem dX10_worst_37 : decode cX10_worst 37 = .ok (.aload_n 0, 1) := by decide +kernel
theorem dX10_worst_38 : decode cX10_worst 38 = .ok (.iload_n 2, 1) := by decide +kernel
theorem dX10_worst_39 : decode cX10_worst 39 = .ok (.invokevirtual 257, 3) := by decide +kernel
theorem dX10_worst_42 : decode cX10_worst 42 = .ok (.if_icmp .le 7, 3) := by decide +kernel
theorem dX10_worst_45 : decode cX10_worst 45 = .ok (.iload_n 3, 1) := by decide +kernel
theorem dX10_worst_46 : decode cX10_worst 46 = .ok (.goto 4, 3) := by decide +kernel
theorem dX10_worst_49 : decode cX10_worst 49 = .ok (.iload_n 2, 1) := by decide +kernel
theorem dX10_worst_50 : decode cX10_worst 50 = .ok (.istore_n 2, 1) := by decide +kernel
theorem dX10_worst_51 : decode cX10_worst 51 = .ok (.iinc 3 1, 3) := by decide +kernel
theorem dX10_worst_54 : decode cX10_worst 54 = .ok (.goto (-35), 3) := by decide +kernel
theorem dX10_worst_57 : decode cX10_worst 57 = .ok (.iload_n 2, 1) := by decide +kernel
theorem dX10_worst_58 : decode cX10_worst 58 = .ok (.ireturn, 1) := by decide +kernel
def f_X10_worst_b19 (F : Nat) : Nat → Mm → Int32 → Int32 → Option (Int32 × Mm)
 | 0, _, _, _ => none
 | N + 1, μ, a2, a3 =>
 if (μ.1 1000 0 36) ≤ a3 then
 some (a2, μ)
 else
 if a2 = (-1 : Int32) then
 f_X10_worst_b19 F N μ a3 (a3 + (1 : Int32))
 else
 (f_X10_response μ a3).bind fun q9 =>
 (f_X10_response μ a2).bind fun q11 =>
 if q9 ≤ q11 then
 f_X10_worst_b19 F N μ a2 (a3 + (1 : Int32))
 else
 f_X10_worst_b19 F N μ a3 (a3 + (1 : Int32))
set_option maxHeartbeats 4000000 in
set_option maxRecDepth 100000 in
theorem cb_X10_worst_19 {l : Launch} {E : En} {p : Program} {e : Env} {s : State} {m : MethodId} {av : Array Value} {below : List Frame} {meth : Method} {c : Code} (C : Cx E p s m av c cX10_worst 4 yX10_worst.cls) (hr : meth.sig.returnType = (some .int)) (hlk : meth.locks = false) {F : Nat} {z : Int32 × Mm} : ∀ (N : Nat) (μ : Mm) (a2 : Int32) (a3 : Int32) (h_a0 : l10 E 0), f_X10_worst_b19 F N μ a2 a3 = some z → ∀ {H : Heap} {locs : List Loc} {ls : Array Slot}, Iv E s μ H locs → lv_has ls 4 [(0, .ref (ad E 1000 0)), (2, .int a2), (3, .int a3)] → W p l e { frames := 4, cells := 0, slots := 0, locals := 93 } s m av below meth c H locs 0 0 (MQ below (Qm E (some (.int z.1)) z.2) av s 0 0 (Ad E)) (F0 m 19 ls []) := by
  have hx := C.1.1
  have hb := C.1.2.1
  intro N
  induction N with
  | zero => intro μ a2 a3 h_a0 hf; cases hf
  | succ N ih =>
    intro μ a2 a3 h_a0 hf H locs ls hI hl
    rw [f_X10_worst_b19] at hf
    refine lv_iload_n hx hb dX10_worst_19 rfl (lv_at hl 2 rfl) ?_
    refine lv_aload_n hx hb dX10_worst_20 rfl (lv_at hl 0 rfl) ?_
    refine gf_10_36 C hI h_a0.1 fl_X10_251 dX10_worst_21 ?_
    refine lv_icmp_ge (tgt := 57) hx hb dX10_worst_24 rfl (fun hc => ?_) (fun hc => ?_)
    · replace hf := it hf hc
      refine lv_iload_n hx hb dX10_worst_57 rfl (lv_at hl 1 rfl) ?_
      obtain rfl := Option.some.inj hf
      exact m_iret C hr hlk hI dX10_worst_58
    · replace hf := ie hf hc
      refine lv_iload_n hx hb dX10_worst_27 rfl (lv_at hl 1 rfl) ?_
      refine lv_iconst (v := (-1 : Int32)) hx hb dX10_worst_28 kc_m1 ?_
      refine lv_icmp_eq (tgt := 45) hx hb dX10_worst_29 rfl (fun hc => ?_) (fun hc => ?_)
      · replace hf := it hf hc
        refine lv_iload_n hx hb dX10_worst_45 rfl (lv_at hl 2 rfl) ?_
        refine lv_goto (tgt := 50) hx hb dX10_worst_46 rfl ?_
        refine lv_istore_n hx hb dX10_worst_50 rfl hl (by decide) rfl (fun ls hl => ?_)
        have hl : lv_has ls 4 [(2, .int a3), (0, .ref (ad E 1000 0)), (3, .int a3)] := hl
        refine lv_iinc (v := a3 + (1 : Int32)) hx hb dX10_worst_51 hl (k := 2) rfl (ki_1 _) (by decide) rfl (fun ls hl => ?_)
        have hl : lv_has ls 4 [(3, .int (a3 + (1 : Int32))), (2, .int a3), (0, .ref (ad E 1000 0))] := hl
        refine lv_goto (tgt := 19) hx hb dX10_worst_54 rfl ?_
        exact ih _ _ _ h_a0 hf hI (lv_sub hl [2, 1, 0] rfl)
      · replace hf := ie hf hc
        refine lv_aload_n hx hb dX10_worst_32 rfl (lv_at hl 0 rfl) ?_
        refine lv_iload_n hx hb dX10_worst_33 rfl (lv_at hl 2 rfl) ?_
        obtain ⟨q9, e10, hf⟩ := ob hf
        refine mcV (As := [.int a3]) (rest := []) C hI (c_X10_response l E h_a0 e10) ml_X10_257 kv_X10_response (m_recv C hI h_a0.1 (ce_1000 E _ _ _) rfl) rfl rfl ⟨Nat.le_of_ble_eq_true rfl, Nat.le_of_ble_eq_true rfl⟩ ⟨Nat.zero_le _, Nat.zero_le _⟩ rfl rfl hl.1 (Nat.le_of_ble_eq_true rfl) dX10_worst_34 (st1 := [.int q9]) rfl (fun H locs hI => ?_)
        refine lv_aload_n hx hb dX10_worst_37 rfl (lv_at hl 0 rfl) ?_
        refine lv_iload_n hx hb dX10_worst_38 rfl (lv_at hl 1 rfl) ?_
        obtain ⟨q11, e12, hf⟩ := ob hf
        refine mcV (As := [.int a2]) (rest := [.int q9]) C hI (c_X10_response l E h_a0 e12) ml_X10_257 kv_X10_response (m_recv C hI h_a0.1 (ce_1000 E _ _ _) rfl) rfl rfl ⟨Nat.le_of_ble_eq_true rfl, Nat.le_of_ble_eq_true rfl⟩ ⟨Nat.zero_le _, Nat.zero_le _⟩ rfl rfl hl.1 (Nat.le_of_ble_eq_true rfl) dX10_worst_39 (st1 := [.int q11, .int q9]) rfl (fun H locs hI => ?_)
        refine lv_icmp_le (tgt := 49) hx hb dX10_worst_42 rfl (fun hc => ?_) (fun hc => ?_)
        · replace hf := it hf hc
          refine lv_iload_n hx hb dX10_worst_49 rfl (lv_at hl 1 rfl) ?_
          refine lv_istore_n hx hb dX10_worst_50 rfl hl (by decide) rfl (fun ls hl => ?_)
          have hl : lv_has ls 4 [(2, .int a2), (0, .ref (ad E 1000 0)), (3, .int a3)] := hl
          refine lv_iinc (v := a3 + (1 : Int32)) hx hb dX10_worst_51 hl (k := 2) rfl (ki_1 _) (by decide) rfl (fun ls hl => ?_)
          have hl : lv_has ls 4 [(3, .int (a3 + (1 : Int32))), (2, .int a2), (0, .ref (ad E 1000 0))] := hl
          refine lv_goto (tgt := 19) hx hb dX10_worst_54 rfl ?_
          exact ih _ _ _ h_a0 hf hI (lv_sub hl [2, 1, 0] rfl)
        · replace hf := ie hf hc
          refine lv_iload_n hx hb dX10_worst_45 rfl (lv_at hl 2 rfl) ?_
          refine lv_goto (tgt := 50) hx hb dX10_worst_46 rfl ?_
          refine lv_istore_n hx hb dX10_worst_50 rfl hl (by decide) rfl (fun ls hl => ?_)
          have hl : lv_has ls 4 [(2, .int a3), (0, .ref (ad E 1000 0)), (3, .int a3)] := hl
          refine lv_iinc (v := a3 + (1 : Int32)) hx hb dX10_worst_51 hl (k := 2) rfl (ki_1 _) (by decide) rfl (fun ls hl => ?_)
          have hl : lv_has ls 4 [(3, .int (a3 + (1 : Int32))), (2, .int a3), (0, .ref (ad E 1000 0))] := hl
          refine lv_goto (tgt := 19) hx hb dX10_worst_54 rfl ?_
          exact ih _ _ _ h_a0 hf hI (lv_sub hl [2, 1, 0] rfl)
def f_X10_worst (F : Nat) (μ : Mm) (p1 : Int32) : Option (Int32 × Mm) :=
 (f_X10_isTask μ p1).bind fun q13 =>
 if q13 = 0 then
 some ((-1 : Int32), μ)
 else
 (f_X10_seeks F μ p1).bind fun q15 =>
 f_X10_worst_b19 F F q15 (-1 : Int32) (0 : Int32)
set_option maxHeartbeats 4000000 in
set_option maxRecDepth 100000 in
theorem c_X10_worst (l : Launch) (E : En) {F : Nat} {μ : Mm} {p1 : Int32} (h0 : l10 E 0) {z : Int32 × Mm} (hf : f_X10_worst F μ p1 = some z) : Met l yX10_worst (wt yX10_worst cX10_worst 4 (some .int)) { frames := 4, cells := 0, slots := 0, locals := 93 } (Pm E [.ref (ad E 1000 0), .int p1] μ) (Qm E (some (.int z.1)) z.2) 0 0 (Ad E) := by
  unfold f_X10_worst at hf
  refine met_of (cc := cX10_worst) (nL := 4) (ret := (some .int)) (by decide) _ (Nat.le_of_ble_eq_true rfl) ?_
  intro p e s m below meth c C hr hlk hI ls hl
  have hx := C.1.1
  have hb := C.1.2.1
  have hl : lv_has ls 4 [(0, .ref (ad E 1000 0)), (1, .int p1)] := hl
  refine lv_aload_n hx hb dX10_worst_0 rfl (lv_at hl 0 rfl) ?_
  refine lv_iload_n hx hb dX10_worst_1 rfl (lv_at hl 1 rfl) ?_
  obtain ⟨q13, e14, hf⟩ := ob hf
  refine mcV (As := [.int p1]) (rest := []) C hI (c_X10_isTask l E h0 e14) ml_X10_149 kv_X10_isTask (m_recv C hI h0.1 (ce_1000 E _ _ _) rfl) rfl rfl ⟨Nat.le_of_ble_eq_true rfl, Nat.le_of_ble_eq_true rfl⟩ ⟨Nat.zero_le _, Nat.zero_le _⟩ rfl rfl hl.1 (Nat.le_of_ble_eq_true rfl) dX10_worst_2 (st1 := [.int q13]) rfl (fun H locs hI => ?_)
  refine lv_if_ne (tgt := 10) hx hb dX10_worst_5 rfl (fun hc => ?_) (fun hc => ?_)
  · replace hf := ie hf hc
    refine lv_aload_n hx hb dX10_worst_10 rfl (lv_at hl 0 rfl) ?_
    refine lv_iload_n hx hb dX10_worst_11 rfl (lv_at hl 1 rfl) ?_
    obtain ⟨q15, e16, hf⟩ := ob hf
    refine mcV (As := [.int p1]) (rest := []) C hI (c_X10_seeks l E h0 e16) ml_X10_254 kv_X10_seeks (m_recv C hI h0.1 (ce_1000 E _ _ _) rfl) rfl rfl ⟨Nat.le_of_ble_eq_true rfl, Nat.le_of_ble_eq_true rfl⟩ ⟨Nat.zero_le _, Nat.zero_le _⟩ rfl rfl hl.1 (Nat.le_of_ble_eq_true rfl) dX10_worst_12 (st1 := []) rfl (fun H locs hI => ?_)
    refine lv_iconst (v := (-1 : Int32)) hx hb dX10_worst_15 kc_m1 ?_
    refine lv_istore_n hx hb dX10_worst_16 rfl hl (by decide) rfl (fun ls hl => ?_)
    have hl : lv_has ls 4 [(2, .int (-1 : Int32)), (0, .ref (ad E 1000 0)), (1, .int p1)] := hl
    refine lv_iconst (v := (0 : Int32)) hx hb dX10_worst_17 kc_0 ?_
    refine lv_istore_n hx hb dX10_worst_18 rfl hl (by decide) rfl (fun ls hl => ?_)
    have hl : lv_has ls 4 [(3, .int (0 : Int32)), (2, .int (-1 : Int32)), (0, .ref (ad E 1000 0)), (1, .int p1)] := hl
    exact cb_X10_worst_19 C hr hlk  _ _ _ _ h0 hf hI (lv_sub hl [2, 1, 0] rfl)
  · replace hf := it hf hc
    refine lv_iconst (v := (-1 : Int32)) hx hb dX10_worst_8 kc_m1 ?_
    obtain rfl := Option.some.inj hf
    exact m_iret C hr hlk hI dX10_worst_9

theorem dX10_late_0 : decode cX10_late 0 = .ok (.aload_n 0, 1) := by decide +kernel
theorem dX10_late_1 : decode cX10_late 1 = .ok (.iload_n 1, 1) := by decide +kernel
theorem dX10_late_2 : decode cX10_late 2 = .ok (.invokevirtual 149, 3) := by decide +kernel
theorem dX10_late_5 : decode cX10_late 5 = .ok (.ifCond .eq 7, 3) := by decide +kernel
theorem dX10_late_8 : decode cX10_late 8 = .ok (.iload_n 2, 1) := by decide +kernel
theorem dX10_late_9 : decode cX10_late 9 = .ok (.ifCond .ge 5, 3) := by decide +kernel
theorem dX10_late_12 : decode cX10_late 12 = .ok (.iconst (-1), 1) := by decide +kernel
theorem dX10_late_13 : decode cX10_late 13 = .ok (.ireturn, 1) := by decide +kernel
theorem dX10_late_14 : decode cX10_late 14 = .ok (.aload_n 0, 1) := by decide +kernel
theorem dX10_late_15 : decode cX10_late 15 = .ok (.iload_n 1, 1) := by decide +kernel
theorem dX10_late_16 : decode cX10_late 16 = .ok (.invokevirtual 254, 3) := by decide +kernel
theorem dX10_late_19 : decode cX10_late 19 = .ok (.iconst 0, 1) := by decide +kernel
theorem dX10_late_20 : decode cX10_late 20 = .ok (.istore_n 3, 1) := by decide +kernel
theorem dX10_late_21 : decode cX10_late 21 = .ok (.iconst 0, 1) := by decide +kernel
theorem dX10_late_22 : decode cX10_late 22 = .ok (.istore 4, 2) := by decide +kernel
theorem dX10_late_24 : decode cX10_late 24 = .ok (.iload 4, 2) := by decide +kernel
theorem dX10_late_26 : decode cX10_late 26 = .ok (.aload_n 0, 1) := by decide +kernel
theorem dX10_late_27 : decode cX10_late 27 = .ok (.getfield 251, 3) := by decide +kernel
theorem dX10_late_30 : decode cX10_late 30 = .ok (.if_icmp .ge 27, 3) := by decide +kernel
theorem dX10_late_33 : decode cX10_late 33 = .ok (.iload_n 3, 1) := by decide +kernel
theorem dX10_late_34 : decode cX10_late 34 = .ok (.aload_n 0, 1) := by decide +kernel
theorem dX10_late_35 : decode cX10_late 35 = .ok (.iload 4, 2) := by decide +kernel
theorem dX10_late_37 : decode cX10_late 37 = .ok (.invokevirtual 257, 3) := by decide +kernel
theorem dX10_late_40 : decode cX10_late 40 = .ok (.iload_n 2, 1) := by decide +kernel
theorem dX10_late_41 : decode cX10_late 41 = .ok (.if_icmp .le 7, 3) := by decide +kernel
theorem dX10_late_44 : decode cX10_late 44 = .ok (.iconst 1, 1) := by decide +kernel
theorem dX10_late_45 : decode cX10_late 45 = .ok (.goto 4, 3) := by decide +kernel
theorem dX10_late_48 : decode cX10_late 48 = .ok (.iconst 0, 1) := by decide +kernel
theorem dX10_late_49 : decode cX10_late 49 = .ok (.iadd, 1) := by decide +kernel
theorem dX10_late_50 : decode cX10_late 50 = .ok (.istore_n 3, 1) := by decide +kernel
theorem dX10_late_51 : decode cX10_late 51 = .ok (.iinc 4 1, 3) := by decide +kernel
theorem dX10_late_54 : decode cX10_late 54 = .ok (.goto (-30), 3) := by decide +kernel
theorem dX10_late_57 : decode cX10_late 57 = .ok (.iload_n 3, 1) := by decide +kernel
theorem dX10_late_58 : decode cX10_late 58 = .ok (.ireturn, 1) := by decide +kernel
def f_X10_late_b24 (F : Nat) : Nat → Mm → Int32 → Int32 → Int32 → Option (Int32 × Mm)
 | 0, _, _, _, _ => none
 | N + 1, μ, a2, a3, a4 =>
 if (μ.1 1000 0 36) ≤ a4 then
 some (a3, μ)
 else
 (f_X10_response μ a4).bind fun q7 =>
 if q7 ≤ a2 then
 f_X10_late_b24 F N μ a2 (a3 + (0 : Int32)) (a4 + (1 : Int32))
 else
 f_X10_late_b24 F N μ a2 (a3 + (1 : Int32)) (a4 + (1 : Int32))
set_option maxHeartbeats 4000000 in
set_option maxRecDepth 100000 in
theorem cb_X10_late_24 {l : Launch} {E : En} {p : Program} {e : Env} {s : State} {m : MethodId} {av : Array Value} {below : List Frame} {meth : Method} {c : Code} (C : Cx E p s m av c cX10_late 5 yX10_late.cls) (hr : meth.sig.returnType = (some .int)) (hlk : meth.locks = false) {F : Nat} {z : Int32 × Mm} : ∀ (N : Nat) (μ : Mm) (a2 : Int32) (a3 : Int32) (a4 : Int32) (h_a0 : l10 E 0), f_X10_late_b24 F N μ a2 a3 a4 = some z → ∀ {H : Heap} {locs : List Loc} {ls : Array Slot}, Iv E s μ H locs → lv_has ls 5 [(0, .ref (ad E 1000 0)), (2, .int a2), (3, .int a3), (4, .int a4)] → W p l e { frames := 4, cells := 0, slots := 0, locals := 93 } s m av below meth c H locs 0 0 (MQ below (Qm E (some (.int z.1)) z.2) av s 0 0 (Ad E)) (F0 m 24 ls []) := by
  have hx := C.1.1
  have hb := C.1.2.1
  intro N
  induction N with
  | zero => intro μ a2 a3 a4 h_a0 hf; cases hf
  | succ N ih =>
    intro μ a2 a3 a4 h_a0 hf H locs ls hI hl
    rw [f_X10_late_b24] at hf
    refine lv_iload hx hb dX10_late_24 (lv_at hl 3 rfl) ?_
    refine lv_aload_n hx hb dX10_late_26 rfl (lv_at hl 0 rfl) ?_
    refine gf_10_36 C hI h_a0.1 fl_X10_251 dX10_late_27 ?_
    refine lv_icmp_ge (tgt := 57) hx hb dX10_late_30 rfl (fun hc => ?_) (fun hc => ?_)
    · replace hf := it hf hc
      refine lv_iload_n hx hb dX10_late_57 rfl (lv_at hl 2 rfl) ?_
      obtain rfl := Option.some.inj hf
      exact m_iret C hr hlk hI dX10_late_58
    · replace hf := ie hf hc
      refine lv_iload_n hx hb dX10_late_33 rfl (lv_at hl 2 rfl) ?_
      refine lv_aload_n hx hb dX10_late_34 rfl (lv_at hl 0 rfl) ?_
      refine lv_iload hx hb dX10_late_35 (lv_at hl 3 rfl) ?_
      obtain ⟨q7, e8, hf⟩ := ob hf
      refine mcV (As := [.int a4]) (rest := [.int a3]) C hI (c_X10_response l E h_a0 e8) ml_X10_257 kv_X10_response (m_recv C hI h_a0.1 (ce_1000 E _ _ _) rfl) rfl rfl ⟨Nat.le_of_ble_eq_true rfl, Nat.le_of_ble_eq_true rfl⟩ ⟨Nat.zero_le _, Nat.zero_le _⟩ rfl rfl hl.1 (Nat.le_of_ble_eq_true rfl) dX10_late_37 (st1 := [.int q7, .int a3]) rfl (fun H locs hI => ?_)
      refine lv_iload_n hx hb dX10_late_40 rfl (lv_at hl 1 rfl) ?_
      refine lv_icmp_le (tgt := 48) hx hb dX10_late_41 rfl (fun hc => ?_) (fun hc => ?_)
      · replace hf := it hf hc
        refine lv_iconst (v := (0 : Int32)) hx hb dX10_late_48 kc_0 ?_
        refine lv_iadd hx hb dX10_late_49 ?_
        refine lv_istore_n hx hb dX10_late_50 rfl hl (by decide) rfl (fun ls hl => ?_)
        have hl : lv_has ls 5 [(3, .int (a3 + (0 : Int32))), (0, .ref (ad E 1000 0)), (2, .int a2), (4, .int a4)] := hl
        refine lv_iinc (v := a4 + (1 : Int32)) hx hb dX10_late_51 hl (k := 3) rfl (ki_1 _) (by decide) rfl (fun ls hl => ?_)
        have hl : lv_has ls 5 [(4, .int (a4 + (1 : Int32))), (3, .int (a3 + (0 : Int32))), (0, .ref (ad E 1000 0)), (2, .int a2)] := hl
        refine lv_goto (tgt := 24) hx hb dX10_late_54 rfl ?_
        exact ih _ _ _ _ h_a0 hf hI (lv_sub hl [2, 3, 1, 0] rfl)
      · replace hf := ie hf hc
        refine lv_iconst (v := (1 : Int32)) hx hb dX10_late_44 kc_1 ?_
        refine lv_goto (tgt := 49) hx hb dX10_late_45 rfl ?_
        refine lv_iadd hx hb dX10_late_49 ?_
        refine lv_istore_n hx hb dX10_late_50 rfl hl (by decide) rfl (fun ls hl => ?_)
        have hl : lv_has ls 5 [(3, .int (a3 + (1 : Int32))), (0, .ref (ad E 1000 0)), (2, .int a2), (4, .int a4)] := hl
        refine lv_iinc (v := a4 + (1 : Int32)) hx hb dX10_late_51 hl (k := 3) rfl (ki_1 _) (by decide) rfl (fun ls hl => ?_)
        have hl : lv_has ls 5 [(4, .int (a4 + (1 : Int32))), (3, .int (a3 + (1 : Int32))), (0, .ref (ad E 1000 0)), (2, .int a2)] := hl
        refine lv_goto (tgt := 24) hx hb dX10_late_54 rfl ?_
        exact ih _ _ _ _ h_a0 hf hI (lv_sub hl [2, 3, 1, 0] rfl)
def f_X10_late (F : Nat) (μ : Mm) (p1 : Int32) (p2 : Int32) : Option (Int32 × Mm) :=
 (f_X10_isTask μ p1).bind fun q9 =>
 if q9 = 0 then
 some ((-1 : Int32), μ)
 else
 if 0 ≤ p2 then
 (f_X10_seeks F μ p1).bind fun q11 =>
 f_X10_late_b24 F F q11 p2 (0 : Int32) (0 : Int32)
 else
 some ((-1 : Int32), μ)
set_option maxHeartbeats 4000000 in
set_option maxRecDepth 100000 in
theorem c_X10_late (l : Launch) (E : En) {F : Nat} {μ : Mm} {p1 : Int32} {p2 : Int32} (h0 : l10 E 0) {z : Int32 × Mm} (hf : f_X10_late F μ p1 p2 = some z) : Met l yX10_late (wt yX10_late cX10_late 5 (some .int)) { frames := 4, cells := 0, slots := 0, locals := 93 } (Pm E [.ref (ad E 1000 0), .int p1, .int p2] μ) (Qm E (some (.int z.1)) z.2) 0 0 (Ad E) := by
  unfold f_X10_late at hf
  refine met_of (cc := cX10_late) (nL := 5) (ret := (some .int)) (by decide) _ (Nat.le_of_ble_eq_true rfl) ?_
  intro p e s m below meth c C hr hlk hI ls hl
  have hx := C.1.1
  have hb := C.1.2.1
  have hl : lv_has ls 5 [(0, .ref (ad E 1000 0)), (1, .int p1), (2, .int p2)] := hl
  refine lv_aload_n hx hb dX10_late_0 rfl (lv_at hl 0 rfl) ?_
  refine lv_iload_n hx hb dX10_late_1 rfl (lv_at hl 1 rfl) ?_
  obtain ⟨q9, e10, hf⟩ := ob hf
  refine mcV (As := [.int p1]) (rest := []) C hI (c_X10_isTask l E h0 e10) ml_X10_149 kv_X10_isTask (m_recv C hI h0.1 (ce_1000 E _ _ _) rfl) rfl rfl ⟨Nat.le_of_ble_eq_true rfl, Nat.le_of_ble_eq_true rfl⟩ ⟨Nat.zero_le _, Nat.zero_le _⟩ rfl rfl hl.1 (Nat.le_of_ble_eq_true rfl) dX10_late_2 (st1 := [.int q9]) rfl (fun H locs hI => ?_)
  refine lv_if_eq (tgt := 12) hx hb dX10_late_5 rfl (fun hc => ?_) (fun hc => ?_)
  · replace hf := it hf hc
    refine lv_iconst (v := (-1 : Int32)) hx hb dX10_late_12 kc_m1 ?_
    obtain rfl := Option.some.inj hf
    exact m_iret C hr hlk hI dX10_late_13
  · replace hf := ie hf hc
    refine lv_iload_n hx hb dX10_late_8 rfl (lv_at hl 2 rfl) ?_
    refine lv_if_ge (tgt := 14) hx hb dX10_late_9 rfl (fun hc => ?_) (fun hc => ?_)
    · replace hf := it hf hc
      refine lv_aload_n hx hb dX10_late_14 rfl (lv_at hl 0 rfl) ?_
      refine lv_iload_n hx hb dX10_late_15 rfl (lv_at hl 1 rfl) ?_
      obtain ⟨q11, e12, hf⟩ := ob hf
      refine mcV (As := [.int p1]) (rest := []) C hI (c_X10_seeks l E h0 e12) ml_X10_254 kv_X10_seeks (m_recv C hI h0.1 (ce_1000 E _ _ _) rfl) rfl rfl ⟨Nat.le_of_ble_eq_true rfl, Nat.le_of_ble_eq_true rfl⟩ ⟨Nat.zero_le _, Nat.zero_le _⟩ rfl rfl hl.1 (Nat.le_of_ble_eq_true rfl) dX10_late_16 (st1 := []) rfl (fun H locs hI => ?_)
      refine lv_iconst (v := (0 : Int32)) hx hb dX10_late_19 kc_0 ?_
      refine lv_istore_n hx hb dX10_late_20 rfl hl (by decide) rfl (fun ls hl => ?_)
      have hl : lv_has ls 5 [(3, .int (0 : Int32)), (0, .ref (ad E 1000 0)), (1, .int p1), (2, .int p2)] := hl
      refine lv_iconst (v := (0 : Int32)) hx hb dX10_late_21 kc_0 ?_
      refine lv_istore hx hb dX10_late_22 hl (by decide) rfl (fun ls hl => ?_)
      have hl : lv_has ls 5 [(4, .int (0 : Int32)), (3, .int (0 : Int32)), (0, .ref (ad E 1000 0)), (1, .int p1), (2, .int p2)] := hl
      exact cb_X10_late_24 C hr hlk  _ _ _ _ _ h0 hf hI (lv_sub hl [2, 4, 1, 0] rfl)
    · replace hf := ie hf hc
      refine lv_iconst (v := (-1 : Int32)) hx hb dX10_late_12 kc_m1 ?_
      obtain rfl := Option.some.inj hf
      exact m_iret C hr hlk hI dX10_late_13

theorem dX10_rests_0 : decode cX10_rests 0 = .ok (.aload_n 0, 1) := by decide +kernel
theorem dX10_rests_1 : decode cX10_rests 1 = .ok (.iload_n 1, 1) := by decide +kernel
theorem dX10_rests_2 : decode cX10_rests 2 = .ok (.invokevirtual 196, 3) := by decide +kernel
theorem dX10_rests_5 : decode cX10_rests 5 = .ok (.iconst 0, 1) := by decide +kernel
theorem dX10_rests_6 : decode cX10_rests 6 = .ok (.istore_n 2, 1) := by decide +kernel
theorem dX10_rests_7 : decode cX10_rests 7 = .ok (.iload_n 2, 1) := by decide +kernel
theorem dX10_rests_8 : decode cX10_rests 8 = .ok (.iconst 1, 1) := by decide +kernel
theorem dX10_rests_9 : decode cX10_rests 9 = .ok (.iadd, 1) := by decide +kernel
theorem dX10_rests_10 : decode cX10_rests 10 = .ok (.aload_n 0, 1) := by decide +kernel
theorem dX10_rests_11 : decode cX10_rests 11 = .ok (.getfield 29, 3) := by decide +kernel
theorem dX10_rests_14 : decode cX10_rests 14 = .ok (.iload_n 1, 1) := by decide +kernel
theorem dX10_rests_15 : decode cX10_rests 15 = .ok (.iaload, 1) := by decide +kernel
theorem dX10_rests_16 : decode cX10_rests 16 = .ok (.if_icmp .ge 101, 3) := by decide +kernel
theorem dX10_rests_19 : decode cX10_rests 19 = .ok (.aload_n 0, 1) := by decide +kernel
theorem dX10_rests_20 : decode cX10_rests 20 = .ok (.iload_n 2, 1) := by decide +kernel
theorem dX10_rests_21 : decode cX10_rests 21 = .ok (.invokevirtual 200, 3) := by decide +kernel
theorem dX10_rests_24 : decode cX10_rests 24 = .ok (.iconst 0, 1) := by decide +kernel
theorem dX10_rests_25 : decode cX10_rests 25 = .ok (.istore_n 3, 1) := by decide +kernel
theorem dX10_rests_26 : decode cX10_rests 26 = .ok (.iconst 0, 1) := by decide +kernel
theorem dX10_rests_27 : decode cX10_rests 27 = .ok (.istore 4, 2) := by decide +kernel
theorem dX10_rests_29 : decode cX10_rests 29 = .ok (.iload 4, 2) := by decide +kernel
theorem dX10_rests_31 : decode cX10_rests 31 = .ok (.aload_n 0, 1) := by decide +kernel
theorem dX10_rests_32 : decode cX10_rests 32 = .ok (.getfield 13, 3) := by decide +kernel
theorem dX10_rests_35 : decode cX10_rests 35 = .ok (.if_icmp .ge 41, 3) := by decide +kernel
theorem dX10_rests_38 : decode cX10_rests 38 = .ok (.iload_n 3, 1) := by decide +kernel
theorem dX10_rests_39 : decode cX10_rests 39 = .ok (.ifCond .ne 25, 3) := by decide +kernel
theorem dX10_rests_42 : decode cX10_rests 42 = .ok (.aload_n 0, 1) := by decide +kernel
theorem dX10_rests_43 : decode cX10_rests 43 = .ok (.getfield 19, 3) := by decide +kernel
theorem dX10_rests_46 : decode cX10_rests 46 = .ok (.iload 4, 2) := by decide +kernel
theorem dX10_rests_48 : decode cX10_rests 48 = .ok (.iaload, 1) := by decide +kernel
theorem dX10_rests_49 : decode cX10_rests 49 = .ok (.iload_n 1, 1) := by decide +kernel
theorem dX10_rests_50 : decode cX10_rests 50 = .ok (.if_icmp .ne 18, 3) := by decide +kernel
theorem dX10_rests_53 : decode cX10_rests 53 = .ok (.aload_n 0, 1) := by decide +kernel
theorem dX10_rests_54 : decode cX10_rests 54 = .ok (.getfield 82, 3) := by decide +kernel
theorem dX10_rests_57 : decode cX10_rests 57 = .ok (.iload 4, 2) := by decide +kernel
theorem dX10_rests_59 : decode cX10_rests 59 = .ok (.iaload, 1) := by decide +kernel
theorem dX10_rests_60 : decode cX10_rests 60 = .ok (.iconst 1, 1) := by decide +kernel
theorem dX10_rests_61 : decode cX10_rests 61 = .ok (.if_icmp .ne 7, 3) := by decide +kernel
theorem dX10_rests_64 : decode cX10_rests 64 = .ok (.iconst 1, 1) := by decide +kernel
theorem dX10_rests_65 : decode cX10_rests 65 = .ok (.goto 4, 3) := by decide +kernel
theorem dX10_rests_68 : decode cX10_rests 68 = .ok (.iconst 0, 1) := by decide +kernel
theorem dX10_rests_69 : decode cX10_rests 69 = .ok (.istore_n 3, 1) := by decide +kernel
theorem dX10_rests_70 : decode cX10_rests 70 = .ok (.iinc 4 1, 3) := by decide +kernel
theorem dX10_rests_73 : decode cX10_rests 73 = .ok (.goto (-44), 3) := by decide +kernel
theorem dX10_rests_76 : decode cX10_rests 76 = .ok (.aload_n 0, 1) := by decide +kernel
theorem dX10_rests_77 : decode cX10_rests 77 = .ok (.iload_n 2, 1) := by decide +kernel
theorem dX10_rests_78 : decode cX10_rests 78 = .ok (.invokevirtual 235, 3) := by decide +kernel
theorem dX10_rests_81 : decode cX10_rests 81 = .ok (.ifCond .ne 30, 3) := by decide +kernel
theorem dX10_rests_84 : decode cX10_rests 84 = .ok (.aload_n 0, 1) := by decide +kernel
theorem dX10_rests_85 : decode cX10_rests 85 = .ok (.iload_n 2, 1) := by decide +kernel
theorem dX10_rests_86 : decode cX10_rests 86 = .ok (.invokevirtual 228, 3) := by decide +kernel
theorem dX10_rests_89 : decode cX10_rests 89 = .ok (.ifCond .le 22, 3) := by decide +kernel
theorem dX10_rests_92 : decode cX10_rests 92 = .ok (.iload_n 3, 1) := by decide +kernel
theorem dX10_rests_93 : decode cX10_rests 93 = .ok (.ifCond .eq 18, 3) := by decide +kernel
theorem dX10_rests_96 : decode cX10_rests 96 = .ok (.aload_n 0, 1) := by decide +kernel
theorem dX10_rests_97 : decode cX10_rests 97 = .ok (.iconst 1, 1) := by decide +kernel
theorem dX10_rests_98 : decode cX10_rests 98 = .ok (.aload_n 0, 1) := by decide +kernel
theorem dX10_rests_99 : decode cX10_rests 99 = .ok (.getfield 42, 3) := by decide +kernel
theorem dX10_rests_102 : decode cX10_rests 102 = .ok (.aload_n 0, 1) := by decide +kernel
theorem dX10_rests_103 : decode cX10_rests 103 = .ok (.iload_n 2, 1) := by decide +kernel
theorem dX10_rests_104 : decode cX10_rests 104 = .ok (.invokevirtual 190, 3) := by decide +kernel
theorem dX10_rests_107 : decode cX10_rests 107 = .ok (.iaload, 1) := by decide +kernel
theorem dX10_rests_108 : decode cX10_rests 108 = .ok (.invokevirtual 270, 3) := by decide +kernel
theorem dX10_rests_111 : decode cX10_rests 111 = .ok (.iinc 2 1, 3) := by decide +kernel
theorem dX10_rests_114 : decode cX10_rests 114 = .ok (.goto (-107), 3) := by decide +kernel
theorem dX10_rests_117 : decode cX10_rests 117 = .ok (.return_, 1) := by decide +kernel
def f_X10_rests_b29 (F : Nat) (K7 : Mm → Int32 → Int32 → Option Mm) : Nat → Mm → Int32 → Int32 → Int32 → Int32 → Option Mm
 | 0, _, _, _, _, _ => none
 | N + 1, μ, a1, a2, a3, a4 =>
 if (μ.1 1000 0 2) ≤ a4 then
 (f_X10_busyWith μ a2).bind fun q21 =>
 if q21 = 0 then
 (f_X10_stretch μ a2).bind fun q23 =>
 if q23 ≤ 0 then
 K7 μ a1 (a2 + (1 : Int32))
 else
 if a3 = 0 then
 K7 μ a1 (a2 + (1 : Int32))
 else
 (f_X10_spot μ a2).bind fun q25 =>
 (ra μ 1012 0 4200 q25).bind fun v27 =>
 (f_X10_breaksAt μ (1 : Int32) v27).bind fun q29 =>
 K7 q29 a1 (a2 + (1 : Int32))
 else
 K7 μ a1 (a2 + (1 : Int32))
 else
 if a3 = 0 then
 (ra μ 1005 0 8 a4).bind fun v31 =>
 if v31 = a1 then
 (ra μ 1028 0 8 a4).bind fun v33 =>
 if v33 = (1 : Int32) then
 f_X10_rests_b29 F K7 N μ a1 a2 (1 : Int32) (a4 + (1 : Int32))
 else
 f_X10_rests_b29 F K7 N μ a1 a2 (0 : Int32) (a4 + (1 : Int32))
 else
 f_X10_rests_b29 F K7 N μ a1 a2 (0 : Int32) (a4 + (1 : Int32))
 else
 f_X10_rests_b29 F K7 N μ a1 a2 (1 : Int32) (a4 + (1 : Int32))
set_option maxHeartbeats 4000000 in
set_option maxRecDepth 100000 in
theorem cb_X10_rests_29 {l : Launch} {E : En} {p : Program} {e : Env} {s : State} {m : MethodId} {av : Array Value} {below : List Frame} {meth : Method} {c : Code} (C : Cx E p s m av c cX10_rests 5 yX10_rests.cls) (hr : meth.sig.returnType = (none : Option FieldType)) (hlk : meth.locks = false) {F : Nat} {K7 : Mm → Int32 → Int32 → Option Mm} {z : Mm} (hK7 : ∀ (μ : Mm) (a1 : Int32) (a2 : Int32) (h_a0 : l10 E 0), K7 μ a1 a2 = some z → ∀ {H : Heap} {locs : List Loc} {ls : Array Slot}, Iv E s μ H locs → lv_has ls 5 [(0, .ref (ad E 1000 0)), (1, .int a1), (2, .int a2)] → W p l e { frames := 3, cells := 0, slots := 0, locals := 65 } s m av below meth c H locs 0 0 (MQ below (Qm E none z) av s 0 0 (Ad E)) (F0 m 7 ls [])) : ∀ (N : Nat) (μ : Mm) (a1 : Int32) (a2 : Int32) (a3 : Int32) (a4 : Int32) (h_a0 : l10 E 0), f_X10_rests_b29 F K7 N μ a1 a2 a3 a4 = some z → ∀ {H : Heap} {locs : List Loc} {ls : Array Slot}, Iv E s μ H locs → lv_has ls 5 [(0, .ref (ad E 1000 0)), (1, .int a1), (2, .int a2), (3, .int a3), (4, .int a4)] → W p l e { frames := 3, cells := 0, slots := 0, locals := 65 } s m av below meth c H locs 0 0 (MQ below (Qm E none z) av s 0 0 (Ad E)) (F0 m 29 ls []) := by
  have hx := C.1.1
  have hb := C.1.2.1
  intro N
  induction N with
  | zero => intro μ a1 a2 a3 a4 h_a0 hf; cases hf
  | succ N ih =>
    intro μ a1 a2 a3 a4 h_a0 hf H locs ls hI hl
    rw [f_X10_rests_b29] at hf
    refine lv_iload hx hb dX10_rests_29 (lv_at hl 4 rfl) ?_
    refine lv_aload_n hx hb dX10_rests_31 rfl (lv_at hl 0 rfl) ?_
    refine gf_10_2 C hI h_a0.1 fl_X10_13 dX10_rests_32 ?_
    refine lv_icmp_ge (tgt := 76) hx hb dX10_rests_35 rfl (fun hc => ?_) (fun hc => ?_)
    · replace hf := it hf hc
      refine lv_aload_n hx hb dX10_rests_76 rfl (lv_at hl 0 rfl) ?_
      refine lv_iload_n hx hb dX10_rests_77 rfl (lv_at hl 2 rfl) ?_
      obtain ⟨q21, e22, hf⟩ := ob hf
      refine mcV (As := [.int a2]) (rest := []) C hI (c_X10_busyWith l E h_a0 e22) ml_X10_235 kv_X10_busyWith (m_recv C hI h_a0.1 (ce_1000 E _ _ _) rfl) rfl rfl ⟨Nat.le_of_ble_eq_true rfl, Nat.le_of_ble_eq_true rfl⟩ ⟨Nat.zero_le _, Nat.zero_le _⟩ rfl rfl hl.1 (Nat.le_of_ble_eq_true rfl) dX10_rests_78 (st1 := [.int q21]) rfl (fun H locs hI => ?_)
      refine lv_if_ne (tgt := 111) hx hb dX10_rests_81 rfl (fun hc => ?_) (fun hc => ?_)
      · replace hf := ie hf hc
        refine lv_iinc (v := a2 + (1 : Int32)) hx hb dX10_rests_111 hl (k := 2) rfl (ki_1 _) (by decide) rfl (fun ls hl => ?_)
        have hl : lv_has ls 5 [(2, .int (a2 + (1 : Int32))), (0, .ref (ad E 1000 0)), (1, .int a1), (3, .int a3), (4, .int a4)] := hl
        refine lv_goto (tgt := 7) hx hb dX10_rests_114 rfl ?_
        exact hK7 _ _ _ h_a0 hf hI (lv_sub hl [1, 2, 0] rfl)
      · replace hf := it hf hc
        refine lv_aload_n hx hb dX10_rests_84 rfl (lv_at hl 0 rfl) ?_
        refine lv_iload_n hx hb dX10_rests_85 rfl (lv_at hl 2 rfl) ?_
        obtain ⟨q23, e24, hf⟩ := ob hf
        refine mcV (As := [.int a2]) (rest := []) C hI (c_X10_stretch l E h_a0 e24) ml_X10_228 kv_X10_stretch (m_recv C hI h_a0.1 (ce_1000 E _ _ _) rfl) rfl rfl ⟨Nat.le_of_ble_eq_true rfl, Nat.le_of_ble_eq_true rfl⟩ ⟨Nat.zero_le _, Nat.zero_le _⟩ rfl rfl hl.1 (Nat.le_of_ble_eq_true rfl) dX10_rests_86 (st1 := [.int q23]) rfl (fun H locs hI => ?_)
        refine lv_if_le (tgt := 111) hx hb dX10_rests_89 rfl (fun hc => ?_) (fun hc => ?_)
        · replace hf := it hf hc
          refine lv_iinc (v := a2 + (1 : Int32)) hx hb dX10_rests_111 hl (k := 2) rfl (ki_1 _) (by decide) rfl (fun ls hl => ?_)
          have hl : lv_has ls 5 [(2, .int (a2 + (1 : Int32))), (0, .ref (ad E 1000 0)), (1, .int a1), (3, .int a3), (4, .int a4)] := hl
          refine lv_goto (tgt := 7) hx hb dX10_rests_114 rfl ?_
          exact hK7 _ _ _ h_a0 hf hI (lv_sub hl [1, 2, 0] rfl)
        · replace hf := ie hf hc
          refine lv_iload_n hx hb dX10_rests_92 rfl (lv_at hl 3 rfl) ?_
          refine lv_if_eq (tgt := 111) hx hb dX10_rests_93 rfl (fun hc => ?_) (fun hc => ?_)
          · replace hf := it hf hc
            refine lv_iinc (v := a2 + (1 : Int32)) hx hb dX10_rests_111 hl (k := 2) rfl (ki_1 _) (by decide) rfl (fun ls hl => ?_)
            have hl : lv_has ls 5 [(2, .int (a2 + (1 : Int32))), (0, .ref (ad E 1000 0)), (1, .int a1), (3, .int a3), (4, .int a4)] := hl
            refine lv_goto (tgt := 7) hx hb dX10_rests_114 rfl ?_
            exact hK7 _ _ _ h_a0 hf hI (lv_sub hl [1, 2, 0] rfl)
          · replace hf := ie hf hc
            refine lv_aload_n hx hb dX10_rests_96 rfl (lv_at hl 0 rfl) ?_
            refine lv_iconst (v := (1 : Int32)) hx hb dX10_rests_97 kc_1 ?_
            refine lv_aload_n hx hb dX10_rests_98 rfl (lv_at hl 0 rfl) ?_
            refine gf_10_11 C hI h_a0.1 fl_X10_42 dX10_rests_99 ?_
            refine lv_aload_n hx hb dX10_rests_102 rfl (lv_at hl 0 rfl) ?_
            refine lv_iload_n hx hb dX10_rests_103 rfl (lv_at hl 2 rfl) ?_
            obtain ⟨q25, e26, hf⟩ := ob hf
            refine mcV (As := [.int a2]) (rest := [.ref (ad E 1012 0), .int (1 : Int32), .ref (ad E 1000 0)]) C hI (c_X10_spot l E h_a0 e26) ml_X10_190 kv_X10_spot (m_recv C hI h_a0.1 (ce_1000 E _ _ _) rfl) rfl rfl ⟨Nat.le_of_ble_eq_true rfl, Nat.le_of_ble_eq_true rfl⟩ ⟨Nat.zero_le _, Nat.zero_le _⟩ rfl rfl hl.1 (Nat.le_of_ble_eq_true rfl) dX10_rests_104 (st1 := [.int q25, .ref (ad E 1012 0), .int (1 : Int32), .ref (ad E 1000 0)]) rfl (fun H locs hI => ?_)
            obtain ⟨v27, e28, hf⟩ := ob hf
            refine m_iald C hI h_a0.2.2.2.2.2.2.2.2.1 (ce_1012 E _ _ _) e28 dX10_rests_107 ?_
            obtain ⟨q29, e30, hf⟩ := ob hf
            refine mcV (As := [.int (1 : Int32), .int v27]) (rest := []) C hI (c_X10_breaksAt l E h_a0 e30) ml_X10_270 kv_X10_breaksAt (m_recv C hI h_a0.1 (ce_1000 E _ _ _) rfl) rfl rfl ⟨Nat.le_of_ble_eq_true rfl, Nat.le_of_ble_eq_true rfl⟩ ⟨Nat.zero_le _, Nat.zero_le _⟩ rfl rfl hl.1 (Nat.le_of_ble_eq_true rfl) dX10_rests_108 (st1 := []) rfl (fun H locs hI => ?_)
            refine lv_iinc (v := a2 + (1 : Int32)) hx hb dX10_rests_111 hl (k := 2) rfl (ki_1 _) (by decide) rfl (fun ls hl => ?_)
            have hl : lv_has ls 5 [(2, .int (a2 + (1 : Int32))), (0, .ref (ad E 1000 0)), (1, .int a1), (3, .int a3), (4, .int a4)] := hl
            refine lv_goto (tgt := 7) hx hb dX10_rests_114 rfl ?_
            exact hK7 _ _ _ h_a0 hf hI (lv_sub hl [1, 2, 0] rfl)
    · replace hf := ie hf hc
      refine lv_iload_n hx hb dX10_rests_38 rfl (lv_at hl 3 rfl) ?_
      refine lv_if_ne (tgt := 64) hx hb dX10_rests_39 rfl (fun hc => ?_) (fun hc => ?_)
      · replace hf := ie hf hc
        refine lv_iconst (v := (1 : Int32)) hx hb dX10_rests_64 kc_1 ?_
        refine lv_goto (tgt := 69) hx hb dX10_rests_65 rfl ?_
        refine lv_istore_n hx hb dX10_rests_69 rfl hl (by decide) rfl (fun ls hl => ?_)
        have hl : lv_has ls 5 [(3, .int (1 : Int32)), (0, .ref (ad E 1000 0)), (1, .int a1), (2, .int a2), (4, .int a4)] := hl
        refine lv_iinc (v := a4 + (1 : Int32)) hx hb dX10_rests_70 hl (k := 4) rfl (ki_1 _) (by decide) rfl (fun ls hl => ?_)
        have hl : lv_has ls 5 [(4, .int (a4 + (1 : Int32))), (3, .int (1 : Int32)), (0, .ref (ad E 1000 0)), (1, .int a1), (2, .int a2)] := hl
        refine lv_goto (tgt := 29) hx hb dX10_rests_73 rfl ?_
        exact ih _ _ _ _ _ h_a0 hf hI (lv_sub hl [2, 3, 4, 1, 0] rfl)
      · replace hf := it hf hc
        refine lv_aload_n hx hb dX10_rests_42 rfl (lv_at hl 0 rfl) ?_
        refine gf_10_4 C hI h_a0.1 fl_X10_19 dX10_rests_43 ?_
        refine lv_iload hx hb dX10_rests_46 (lv_at hl 4 rfl) ?_
        obtain ⟨v31, e32, hf⟩ := ob hf
        refine m_iald C hI h_a0.2.1 (ce_1005 E _ _ _) e32 dX10_rests_48 ?_
        refine lv_iload_n hx hb dX10_rests_49 rfl (lv_at hl 1 rfl) ?_
        refine lv_icmp_ne (tgt := 68) hx hb dX10_rests_50 rfl (fun hc => ?_) (fun hc => ?_)
        · replace hf := ie hf hc
          refine lv_iconst (v := (0 : Int32)) hx hb dX10_rests_68 kc_0 ?_
          refine lv_istore_n hx hb dX10_rests_69 rfl hl (by decide) rfl (fun ls hl => ?_)
          have hl : lv_has ls 5 [(3, .int (0 : Int32)), (0, .ref (ad E 1000 0)), (1, .int a1), (2, .int a2), (4, .int a4)] := hl
          refine lv_iinc (v := a4 + (1 : Int32)) hx hb dX10_rests_70 hl (k := 4) rfl (ki_1 _) (by decide) rfl (fun ls hl => ?_)
          have hl : lv_has ls 5 [(4, .int (a4 + (1 : Int32))), (3, .int (0 : Int32)), (0, .ref (ad E 1000 0)), (1, .int a1), (2, .int a2)] := hl
          refine lv_goto (tgt := 29) hx hb dX10_rests_73 rfl ?_
          exact ih _ _ _ _ _ h_a0 hf hI (lv_sub hl [2, 3, 4, 1, 0] rfl)
        · replace hf := it hf hc
          refine lv_aload_n hx hb dX10_rests_53 rfl (lv_at hl 0 rfl) ?_
          refine gf_10_27 C hI h_a0.1 fl_X10_82 dX10_rests_54 ?_
          refine lv_iload hx hb dX10_rests_57 (lv_at hl 4 rfl) ?_
          obtain ⟨v33, e34, hf⟩ := ob hf
          refine m_iald C hI h_a0.2.2.2.2.2.2.2.2.2.2.2.2.2.2.2.2.2.2.2.2.2.1 (ce_1028 E _ _ _) e34 dX10_rests_59 ?_
          refine lv_iconst (v := (1 : Int32)) hx hb dX10_rests_60 kc_1 ?_
          refine lv_icmp_ne (tgt := 68) hx hb dX10_rests_61 rfl (fun hc => ?_) (fun hc => ?_)
          · replace hf := ie hf hc
            refine lv_iconst (v := (0 : Int32)) hx hb dX10_rests_68 kc_0 ?_
            refine lv_istore_n hx hb dX10_rests_69 rfl hl (by decide) rfl (fun ls hl => ?_)
            have hl : lv_has ls 5 [(3, .int (0 : Int32)), (0, .ref (ad E 1000 0)), (1, .int a1), (2, .int a2), (4, .int a4)] := hl
            refine lv_iinc (v := a4 + (1 : Int32)) hx hb dX10_rests_70 hl (k := 4) rfl (ki_1 _) (by decide) rfl (fun ls hl => ?_)
            have hl : lv_has ls 5 [(4, .int (a4 + (1 : Int32))), (3, .int (0 : Int32)), (0, .ref (ad E 1000 0)), (1, .int a1), (2, .int a2)] := hl
            refine lv_goto (tgt := 29) hx hb dX10_rests_73 rfl ?_
            exact ih _ _ _ _ _ h_a0 hf hI (lv_sub hl [2, 3, 4, 1, 0] rfl)
          · replace hf := it hf hc
            refine lv_iconst (v := (1 : Int32)) hx hb dX10_rests_64 kc_1 ?_
            refine lv_goto (tgt := 69) hx hb dX10_rests_65 rfl ?_
            refine lv_istore_n hx hb dX10_rests_69 rfl hl (by decide) rfl (fun ls hl => ?_)
            have hl : lv_has ls 5 [(3, .int (1 : Int32)), (0, .ref (ad E 1000 0)), (1, .int a1), (2, .int a2), (4, .int a4)] := hl
            refine lv_iinc (v := a4 + (1 : Int32)) hx hb dX10_rests_70 hl (k := 4) rfl (ki_1 _) (by decide) rfl (fun ls hl => ?_)
            have hl : lv_has ls 5 [(4, .int (a4 + (1 : Int32))), (3, .int (1 : Int32)), (0, .ref (ad E 1000 0)), (1, .int a1), (2, .int a2)] := hl
            refine lv_goto (tgt := 29) hx hb dX10_rests_73 rfl ?_
            exact ih _ _ _ _ _ h_a0 hf hI (lv_sub hl [2, 3, 4, 1, 0] rfl)
def f_X10_rests_b7 (F : Nat) : Nat → Mm → Int32 → Int32 → Option Mm
 | 0, _, _, _ => none
 | N + 1, μ, a1, a2 =>
 (ra μ 1008 0 21 a1).bind fun v35 =>
 if v35 ≤ (a2 + (1 : Int32)) then
 some μ
 else
 (f_X10_doesMark F μ a2).bind fun q37 =>
 f_X10_rests_b29 F (fun μ a1 a2 => f_X10_rests_b7 F N μ a1 a2) F q37 a1 a2 (0 : Int32) (0 : Int32)
set_option maxHeartbeats 4000000 in
set_option maxRecDepth 100000 in
theorem cb_X10_rests_7 {l : Launch} {E : En} {p : Program} {e : Env} {s : State} {m : MethodId} {av : Array Value} {below : List Frame} {meth : Method} {c : Code} (C : Cx E p s m av c cX10_rests 5 yX10_rests.cls) (hr : meth.sig.returnType = (none : Option FieldType)) (hlk : meth.locks = false) {F : Nat} {z : Mm} : ∀ (N : Nat) (μ : Mm) (a1 : Int32) (a2 : Int32) (h_a0 : l10 E 0), f_X10_rests_b7 F N μ a1 a2 = some z → ∀ {H : Heap} {locs : List Loc} {ls : Array Slot}, Iv E s μ H locs → lv_has ls 5 [(0, .ref (ad E 1000 0)), (1, .int a1), (2, .int a2)] → W p l e { frames := 3, cells := 0, slots := 0, locals := 65 } s m av below meth c H locs 0 0 (MQ below (Qm E none z) av s 0 0 (Ad E)) (F0 m 7 ls []) := by
  have hx := C.1.1
  have hb := C.1.2.1
  intro N
  induction N with
  | zero => intro μ a1 a2 h_a0 hf; cases hf
  | succ N ih =>
    intro μ a1 a2 h_a0 hf H locs ls hI hl
    rw [f_X10_rests_b7] at hf
    refine lv_iload_n hx hb dX10_rests_7 rfl (lv_at hl 2 rfl) ?_
    refine lv_iconst (v := (1 : Int32)) hx hb dX10_rests_8 kc_1 ?_
    refine lv_iadd hx hb dX10_rests_9 ?_
    refine lv_aload_n hx hb dX10_rests_10 rfl (lv_at hl 0 rfl) ?_
    refine gf_10_7 C hI h_a0.1 fl_X10_29 dX10_rests_11 ?_
    refine lv_iload_n hx hb dX10_rests_14 rfl (lv_at hl 1 rfl) ?_
    obtain ⟨v35, e36, hf⟩ := ob hf
    refine m_iald C hI h_a0.2.2.2.2.1 (ce_1008 E _ _ _) e36 dX10_rests_15 ?_
    refine lv_icmp_ge (tgt := 117) hx hb dX10_rests_16 rfl (fun hc => ?_) (fun hc => ?_)
    · replace hf := it hf hc
      obtain rfl := Option.some.inj hf
      exact m_vret C hr hlk hI dX10_rests_117
    · replace hf := ie hf hc
      refine lv_aload_n hx hb dX10_rests_19 rfl (lv_at hl 0 rfl) ?_
      refine lv_iload_n hx hb dX10_rests_20 rfl (lv_at hl 2 rfl) ?_
      obtain ⟨q37, e38, hf⟩ := ob hf
      refine mcV (As := [.int a2]) (rest := []) C hI (c_X10_doesMark l E h_a0 e38) ml_X10_200 kv_X10_doesMark (m_recv C hI h_a0.1 (ce_1000 E _ _ _) rfl) rfl rfl ⟨Nat.le_of_ble_eq_true rfl, Nat.le_of_ble_eq_true rfl⟩ ⟨Nat.zero_le _, Nat.zero_le _⟩ rfl rfl hl.1 (Nat.le_of_ble_eq_true rfl) dX10_rests_21 (st1 := []) rfl (fun H locs hI => ?_)
      refine lv_iconst (v := (0 : Int32)) hx hb dX10_rests_24 kc_0 ?_
      refine lv_istore_n hx hb dX10_rests_25 rfl hl (by decide) rfl (fun ls hl => ?_)
      have hl : lv_has ls 5 [(3, .int (0 : Int32)), (0, .ref (ad E 1000 0)), (1, .int a1), (2, .int a2)] := hl
      refine lv_iconst (v := (0 : Int32)) hx hb dX10_rests_26 kc_0 ?_
      refine lv_istore hx hb dX10_rests_27 hl (by decide) rfl (fun ls hl => ?_)
      have hl : lv_has ls 5 [(4, .int (0 : Int32)), (3, .int (0 : Int32)), (0, .ref (ad E 1000 0)), (1, .int a1), (2, .int a2)] := hl
      exact cb_X10_rests_29 C hr hlk ih _ _ _ _ _ _ h_a0 hf hI (lv_sub hl [2, 3, 4, 1, 0] rfl)
def f_X10_rests (F : Nat) (μ : Mm) (p1 : Int32) : Option Mm :=
 (f_X10_startsNow F μ p1).bind fun q39 =>
 f_X10_rests_b7 F F q39 p1 (0 : Int32)
set_option maxHeartbeats 4000000 in
set_option maxRecDepth 100000 in
theorem c_X10_rests (l : Launch) (E : En) {F : Nat} {μ : Mm} {p1 : Int32} (h0 : l10 E 0) {z : Mm} (hf : f_X10_rests F μ p1 = some z) : Met l yX10_rests (wt yX10_rests cX10_rests 5 (none : Option FieldType)) { frames := 3, cells := 0, slots := 0, locals := 65 } (Pm E [.ref (ad E 1000 0), .int p1] μ) (Qm E none z) 0 0 (Ad E) := by
  unfold f_X10_rests at hf
  refine met_of (cc := cX10_rests) (nL := 5) (ret := (none : Option FieldType)) (by decide) _ (Nat.le_of_ble_eq_true rfl) ?_
  intro p e s m below meth c C hr hlk hI ls hl
  have hx := C.1.1
  have hb := C.1.2.1
  have hl : lv_has ls 5 [(0, .ref (ad E 1000 0)), (1, .int p1)] := hl
  refine lv_aload_n hx hb dX10_rests_0 rfl (lv_at hl 0 rfl) ?_
  refine lv_iload_n hx hb dX10_rests_1 rfl (lv_at hl 1 rfl) ?_
  obtain ⟨q39, e40, hf⟩ := ob hf
  refine mcV (As := [.int p1]) (rest := []) C hI (c_X10_startsNow l E h0 e40) ml_X10_196 kv_X10_startsNow (m_recv C hI h0.1 (ce_1000 E _ _ _) rfl) rfl rfl ⟨Nat.le_of_ble_eq_true rfl, Nat.le_of_ble_eq_true rfl⟩ ⟨Nat.zero_le _, Nat.zero_le _⟩ rfl rfl hl.1 (Nat.le_of_ble_eq_true rfl) dX10_rests_2 (st1 := []) rfl (fun H locs hI => ?_)
  refine lv_iconst (v := (0 : Int32)) hx hb dX10_rests_5 kc_0 ?_
  refine lv_istore_n hx hb dX10_rests_6 rfl hl (by decide) rfl (fun ls hl => ?_)
  have hl : lv_has ls 5 [(2, .int (0 : Int32)), (0, .ref (ad E 1000 0)), (1, .int p1)] := hl
  exact cb_X10_rests_7 C hr hlk  _ _ _ _ h0 hf hI (lv_sub hl [1, 2, 0] rfl)

