theorem dX9_gap_0 : decode cX9_gap 0 = .ok (.aload_n 0, 1) := by decide +kernel
theorem dX9_gap_1 : decode cX9_gap 1 = .ok (.getfield 12, 3) := by decide +kernel
theorem dX9_gap_4 : decode cX9_gap 4 = .ok (.iload_n 1, 1) := by decide +kernel
theorem dX9_gap_5 : decode cX9_gap 5 = .ok (.invokevirtual 89, 3) := by decide +kernel
theorem dX9_gap_8 : decode cX9_gap 8 = .ok (.ifCond .eq 23, 3) := by decide +kernel
theorem dX9_gap_11 : decode cX9_gap 11 = .ok (.aload_n 0, 1) := by decide +kernel
theorem dX9_gap_12 : decode cX9_gap 12 = .ok (.getfield 12, 3) := by decide +kernel
theorem dX9_gap_15 : decode cX9_gap 15 = .ok (.iload_n 2, 1) := by decide +kernel
theorem dX9_gap_16 : decode cX9_gap 16 = .ok (.invokevirtual 89, 3) := by decide +kernel
theorem dX9_gap_19 : decode cX9_gap 19 = .ok (.ifCond .eq 12, 3) := by decide +kernel
theorem dX9_gap_22 : decode cX9_gap 22 = .ok (.iload_n 3, 1) := by decide +kernel
theorem dX9_gap_23 : decode cX9_gap 23 = .ok (.ifCond .lt 8, 3) := by decide +kernel
theorem dX9_gap_26 : decode cX9_gap 26 = .ok (.iload_n 3, 1) := by decide +kernel
theorem dX9_gap_27 : decode cX9_gap 27 = .ok (.iconst 1, 1) := by decide +kernel
theorem dX9_gap_28 : decode cX9_gap 28 = .ok (.if_icmp .le 14, 3) := by decide +kernel
theorem dX9_gap_31 : decode cX9_gap 31 = .ok (.new 307, 3) := by decide +kernel
theorem dX9_gap_34 : decode cX9_gap 34 = .ok (.dup, 1) := by decide +kernel
theorem dX9_gap_35 : decode cX9_gap 35 = .ok (.ldc_w 309, 3) := by decide +kernel
theorem dX9_gap_38 : decode cX9_gap 38 = .ok (.invokespecial 311, 3) := by decide +kernel
theorem dX9_gap_41 : decode cX9_gap 41 = .ok (.athrow, 1) := by decide +kernel
theorem dX9_gap_42 : decode cX9_gap 42 = .ok (.aload_n 0, 1) := by decide +kernel
theorem dX9_gap_43 : decode cX9_gap 43 = .ok (.getfield 60, 3) := by decide +kernel
theorem dX9_gap_46 : decode cX9_gap 46 = .ok (.aload_n 0, 1) := by decide +kernel
theorem dX9_gap_47 : decode cX9_gap 47 = .ok (.getfield 12, 3) := by decide +kernel
theorem dX9_gap_50 : decode cX9_gap 50 = .ok (.invokevirtual 299, 3) := by decide +kernel
theorem dX9_gap_53 : decode cX9_gap 53 = .ok (.aload_n 0, 1) := by decide +kernel
theorem dX9_gap_54 : decode cX9_gap 54 = .ok (.getfield 60, 3) := by decide +kernel
theorem dX9_gap_57 : decode cX9_gap 57 = .ok (.iload_n 1, 1) := by decide +kernel
theorem dX9_gap_58 : decode cX9_gap 58 = .ok (.iload_n 2, 1) := by decide +kernel
theorem dX9_gap_59 : decode cX9_gap 59 = .ok (.iload_n 3, 1) := by decide +kernel
theorem dX9_gap_60 : decode cX9_gap 60 = .ok (.invokevirtual 314, 3) := by decide +kernel
theorem dX9_gap_63 : decode cX9_gap 63 = .ok (.ifCond .ne 14, 3) := by decide +kernel
theorem dX9_gap_66 : decode cX9_gap 66 = .ok (.new 318, 3) := by decide +kernel
theorem dX9_gap_69 : decode cX9_gap 69 = .ok (.dup, 1) := by decide +kernel
theorem dX9_gap_70 : decode cX9_gap 70 = .ok (.ldc_w 320, 3) := by decide +kernel
theorem dX9_gap_73 : decode cX9_gap 73 = .ok (.invokespecial 322, 3) := by decide +kernel
theorem dX9_gap_76 : decode cX9_gap 76 = .ok (.athrow, 1) := by decide +kernel
theorem dX9_gap_77 : decode cX9_gap 77 = .ok (.aload_n 0, 1) := by decide +kernel
theorem dX9_gap_78 : decode cX9_gap 78 = .ok (.getfield 60, 3) := by decide +kernel
theorem dX9_gap_81 : decode cX9_gap 81 = .ok (.iload_n 1, 1) := by decide +kernel
theorem dX9_gap_82 : decode cX9_gap 82 = .ok (.iload_n 2, 1) := by decide +kernel
theorem dX9_gap_83 : decode cX9_gap 83 = .ok (.iload_n 3, 1) := by decide +kernel
theorem dX9_gap_84 : decode cX9_gap 84 = .ok (.invokevirtual 323, 3) := by decide +kernel
theorem dX9_gap_87 : decode cX9_gap 87 = .ok (.ireturn, 1) := by decide +kernel
def f_X9_gap (F : Nat) (μ : Mm) (p1 : Int32) (p2 : Int32) (p3 : Int32) : Option (Int32 × Int32 × Mm) :=
 (f_X7_hasProcessor μ 0 p1).bind fun q11 =>
 if q11 = 0 then
 some (1, (0 : Int32), μ)
 else
 (f_X7_hasProcessor μ 0 p2).bind fun q13 =>
 if q13 = 0 then
 some (1, (0 : Int32), μ)
 else
 if p3 < 0 then
 some (1, (0 : Int32), μ)
 else
 if p3 ≤ (1 : Int32) then
 (f_X5_join F μ 0).bind fun q15 =>
 (f_X5_hasValue F q15 p1 p2 p3).bind fun q17 =>
 if q17 = 0 then
 some (2, (0 : Int32), q15)
 else
 (f_X5_valueOf q15 p1 p2 p3).bind fun q19 =>
 some (0, q19, q15)
 else
 some (1, (0 : Int32), μ)
set_option maxHeartbeats 4000000 in
set_option maxRecDepth 100000 in
theorem c_X9_gap (l : Launch) (hst : l.stackTraces = false) (E : En) {F : Nat} {μ : Mm} {p1 : Int32} {p2 : Int32} {p3 : Int32} (h0 : l9 E 0) {z : Int32 × Int32 × Mm} (hf : f_X9_gap F μ p1 p2 p3 = some z) : vx_Met l yX9_gap (wt yX9_gap cX9_gap 4 (some .int)) { frames := 6, cells := 1, slots := 6, locals := 110 } (Pmx E [.ref (ad E 900 0), .int p1, .int p2, .int p3] μ) (Qx E z.1 (.int z.2.1) z.2.2) (Xx E z.1 z.2.2) 1 6 (Ad E) := by
  unfold f_X9_gap at hf
  refine mx_of (cc := cX9_gap) (nL := 4) (ret := (some .int)) (by decide) _ (Nat.le_of_ble_eq_true rfl) ?_
  intro p e s m below meth c C hr hlk htb hXF hI ls hl
  have hx := C.1.1
  have hb := C.1.2.1
  have hl : lv_has ls 4 [(0, .ref (ad E 900 0)), (1, .int p1), (2, .int p2), (3, .int p3)] := hl
  refine lv_aload_n hx hb dX9_gap_0 rfl (lv_at hl 0 rfl) ?_
  refine gf_9_0 C hI h0.1 fl_X9_12 dX9_gap_1 ?_
  refine lv_iload_n hx hb dX9_gap_4 rfl (lv_at hl 1 rfl) ?_
  obtain ⟨q11, e12, hf⟩ := ob hf
  refine mcV (As := [.int p1]) (rest := []) C hI (c_X7_hasProcessor l E h0.2.2.2.2.1 e12) ml_X9_89 kv_X7_hasProcessor (m_recv C hI h0.2.2.2.2.1.1 (ce_700 E _ _ _) rfl) rfl rfl ⟨Nat.le_of_ble_eq_true rfl, Nat.le_of_ble_eq_true rfl⟩ ⟨Nat.zero_le _, Nat.zero_le _⟩ rfl rfl hl.1 (Nat.le_of_ble_eq_true rfl) dX9_gap_5 (st1 := [.int q11]) rfl (fun H locs hI => ?_)
  refine lv_if_eq (tgt := 31) hx hb dX9_gap_8 rfl (fun hc => ?_) (fun hc => ?_)
  · replace hf := it hf hc
    obtain rfl := Option.some.inj hf
    exact mx_throw (text := "no such processor, or what is not 0 or 1") C hst hI hXF hl.1 (by decide +kernel) (by decide) xg_ia xn_ia xk_ia xo_ia dX9_gap_31 dX9_gap_34 dX9_gap_35 dX9_gap_38 dX9_gap_41 htb (Nat.le_of_ble_eq_true rfl) (Nat.le_of_ble_eq_true rfl) (Nat.le_of_ble_eq_true rfl) (Nat.le_of_ble_eq_true rfl) rfl rfl hlk (.inl ⟨rfl, rfl⟩)
  · replace hf := ie hf hc
    refine lv_aload_n hx hb dX9_gap_11 rfl (lv_at hl 0 rfl) ?_
    refine gf_9_0 C hI h0.1 fl_X9_12 dX9_gap_12 ?_
    refine lv_iload_n hx hb dX9_gap_15 rfl (lv_at hl 2 rfl) ?_
    obtain ⟨q13, e14, hf⟩ := ob hf
    refine mcV (As := [.int p2]) (rest := []) C hI (c_X7_hasProcessor l E h0.2.2.2.2.1 e14) ml_X9_89 kv_X7_hasProcessor (m_recv C hI h0.2.2.2.2.1.1 (ce_700 E _ _ _) rfl) rfl rfl ⟨Nat.le_of_ble_eq_true rfl, Nat.le_of_ble_eq_true rfl⟩ ⟨Nat.zero_le _, Nat.zero_le _⟩ rfl rfl hl.1 (Nat.le_of_ble_eq_true rfl) dX9_gap_16 (st1 := [.int q13]) rfl (fun H locs hI => ?_)
    refine lv_if_eq (tgt := 31) hx hb dX9_gap_19 rfl (fun hc => ?_) (fun hc => ?_)
    · replace hf := it hf hc
      obtain rfl := Option.some.inj hf
      exact mx_throw (text := "no such processor, or what is not 0 or 1") C hst hI hXF hl.1 (by decide +kernel) (by decide) xg_ia xn_ia xk_ia xo_ia dX9_gap_31 dX9_gap_34 dX9_gap_35 dX9_gap_38 dX9_gap_41 htb (Nat.le_of_ble_eq_true rfl) (Nat.le_of_ble_eq_true rfl) (Nat.le_of_ble_eq_true rfl) (Nat.le_of_ble_eq_true rfl) rfl rfl hlk (.inl ⟨rfl, rfl⟩)
    · replace hf := ie hf hc
      refine lv_iload_n hx hb dX9_gap_22 rfl (lv_at hl 3 rfl) ?_
      refine lv_if_lt (tgt := 31) hx hb dX9_gap_23 rfl (fun hc => ?_) (fun hc => ?_)
      · replace hf := it hf hc
        obtain rfl := Option.some.inj hf
        exact mx_throw (text := "no such processor, or what is not 0 or 1") C hst hI hXF hl.1 (by decide +kernel) (by decide) xg_ia xn_ia xk_ia xo_ia dX9_gap_31 dX9_gap_34 dX9_gap_35 dX9_gap_38 dX9_gap_41 htb (Nat.le_of_ble_eq_true rfl) (Nat.le_of_ble_eq_true rfl) (Nat.le_of_ble_eq_true rfl) (Nat.le_of_ble_eq_true rfl) rfl rfl hlk (.inl ⟨rfl, rfl⟩)
      · replace hf := ie hf hc
        refine lv_iload_n hx hb dX9_gap_26 rfl (lv_at hl 3 rfl) ?_
        refine lv_iconst (v := (1 : Int32)) hx hb dX9_gap_27 kc_1 ?_
        refine lv_icmp_le (tgt := 42) hx hb dX9_gap_28 rfl (fun hc => ?_) (fun hc => ?_)
        · replace hf := it hf hc
          refine lv_aload_n hx hb dX9_gap_42 rfl (lv_at hl 0 rfl) ?_
          refine gf_9_8 C hI h0.1 fl_X9_60 dX9_gap_43 ?_
          refine lv_aload_n hx hb dX9_gap_46 rfl (lv_at hl 0 rfl) ?_
          refine gf_9_0 C hI h0.1 fl_X9_12 dX9_gap_47 ?_
          obtain ⟨q15, e16, hf⟩ := ob hf
          refine mcV (As := [.ref (ad E 700 0)]) (rest := []) C hI (c_X5_join l E h0.2.2.2.2.2.2.2.2.2.1 h0.2.2.2.2.1 e16) ml_X9_299 kv_X5_join (m_recv C hI h0.2.2.2.2.2.2.2.2.2.1.1 (ce_500 E _ _ _) rfl) rfl rfl ⟨Nat.le_of_ble_eq_true rfl, Nat.le_of_ble_eq_true rfl⟩ ⟨Nat.zero_le _, Nat.zero_le _⟩ rfl rfl hl.1 (Nat.le_of_ble_eq_true rfl) dX9_gap_50 (st1 := []) rfl (fun H locs hI => ?_)
          refine lv_aload_n hx hb dX9_gap_53 rfl (lv_at hl 0 rfl) ?_
          refine gf_9_8 C hI h0.1 fl_X9_60 dX9_gap_54 ?_
          refine lv_iload_n hx hb dX9_gap_57 rfl (lv_at hl 1 rfl) ?_
          refine lv_iload_n hx hb dX9_gap_58 rfl (lv_at hl 2 rfl) ?_
          refine lv_iload_n hx hb dX9_gap_59 rfl (lv_at hl 3 rfl) ?_
          obtain ⟨q17, e18, hf⟩ := ob hf
          refine mcV (As := [.int p1, .int p2, .int p3]) (rest := []) C hI (c_X5_hasValue l E h0.2.2.2.2.2.2.2.2.2.1 e18) ml_X9_314 kv_X5_hasValue (m_recv C hI h0.2.2.2.2.2.2.2.2.2.1.1 (ce_500 E _ _ _) rfl) rfl rfl ⟨Nat.le_of_ble_eq_true rfl, Nat.le_of_ble_eq_true rfl⟩ ⟨Nat.zero_le _, Nat.zero_le _⟩ rfl rfl hl.1 (Nat.le_of_ble_eq_true rfl) dX9_gap_60 (st1 := [.int q17]) rfl (fun H locs hI => ?_)
          refine lv_if_ne (tgt := 77) hx hb dX9_gap_63 rfl (fun hc => ?_) (fun hc => ?_)
          · replace hf := ie hf hc
            refine lv_aload_n hx hb dX9_gap_77 rfl (lv_at hl 0 rfl) ?_
            refine gf_9_8 C hI h0.1 fl_X9_60 dX9_gap_78 ?_
            refine lv_iload_n hx hb dX9_gap_81 rfl (lv_at hl 1 rfl) ?_
            refine lv_iload_n hx hb dX9_gap_82 rfl (lv_at hl 2 rfl) ?_
            refine lv_iload_n hx hb dX9_gap_83 rfl (lv_at hl 3 rfl) ?_
            obtain ⟨q19, e20, hf⟩ := ob hf
            refine mcV (As := [.int p1, .int p2, .int p3]) (rest := []) C hI (c_X5_valueOf l E h0.2.2.2.2.2.2.2.2.2.1 e20) ml_X9_323 kv_X5_valueOf (m_recv C hI h0.2.2.2.2.2.2.2.2.2.1.1 (ce_500 E _ _ _) rfl) rfl rfl ⟨Nat.le_of_ble_eq_true rfl, Nat.le_of_ble_eq_true rfl⟩ ⟨Nat.zero_le _, Nat.zero_le _⟩ rfl rfl hl.1 (Nat.le_of_ble_eq_true rfl) dX9_gap_84 (st1 := [.int q19]) rfl (fun H locs hI => ?_)
            obtain rfl := Option.some.inj hf
            exact mx_ret rfl (Nat.le_of_ble_eq_true rfl) (Nat.le_of_ble_eq_true rfl) (m_iret C hr hlk hI dX9_gap_87)
          · replace hf := it hf hc
            obtain rfl := Option.some.inj hf
            exact mx_throw (text := "the offs don't agree, or there is no such value") C hst hI hXF hl.1 (by decide +kernel) (by decide) xg_is xn_is xk_is xo_is dX9_gap_66 dX9_gap_69 dX9_gap_70 dX9_gap_73 dX9_gap_76 htb (Nat.le_of_ble_eq_true rfl) (Nat.le_of_ble_eq_true rfl) (Nat.le_of_ble_eq_true rfl) (Nat.le_of_ble_eq_true rfl) rfl rfl hlk (.inr ⟨rfl, rfl⟩)
        · replace hf := ie hf hc
          obtain rfl := Option.some.inj hf
          exact mx_throw (text := "no such processor, or what is not 0 or 1") C hst hI hXF hl.1 (by decide +kernel) (by decide) xg_ia xn_ia xk_ia xo_ia dX9_gap_31 dX9_gap_34 dX9_gap_35 dX9_gap_38 dX9_gap_41 htb (Nat.le_of_ble_eq_true rfl) (Nat.le_of_ble_eq_true rfl) (Nat.le_of_ble_eq_true rfl) (Nat.le_of_ble_eq_true rfl) rfl rfl hlk (.inl ⟨rfl, rfl⟩)

theorem dX9_answer_0 : decode cX9_answer 0 = .ok (.iload_n 1, 1) := by decide +kernel
theorem dX9_answer_1 : decode cX9_answer 1 = .ok (.ifCond .lt 18, 3) := by decide +kernel
theorem dX9_answer_4 : decode cX9_answer 4 = .ok (.iload_n 1, 1) := by decide +kernel
theorem dX9_answer_5 : decode cX9_answer 5 = .ok (.bipush 64, 2) := by decide +kernel
theorem dX9_answer_7 : decode cX9_answer 7 = .ok (.if_icmp .ge 12, 3) := by decide +kernel
theorem dX9_answer_10 : decode cX9_answer 10 = .ok (.iload_n 2, 1) := by decide +kernel
theorem dX9_answer_11 : decode cX9_answer 11 = .ok (.ifCond .lt 8, 3) := by decide +kernel
theorem dX9_answer_14 : decode cX9_answer 14 = .ok (.iload_n 2, 1) := by decide +kernel
theorem dX9_answer_15 : decode cX9_answer 15 = .ok (.iconst 1, 1) := by decide +kernel
theorem dX9_answer_16 : decode cX9_answer 16 = .ok (.if_icmp .le 14, 3) := by decide +kernel
theorem dX9_answer_19 : decode cX9_answer 19 = .ok (.new 307, 3) := by decide +kernel
theorem dX9_answer_22 : decode cX9_answer 22 = .ok (.dup, 1) := by decide +kernel
theorem dX9_answer_23 : decode cX9_answer 23 = .ok (.ldc_w 327, 3) := by decide +kernel
theorem dX9_answer_26 : decode cX9_answer 26 = .ok (.invokespecial 311, 3) := by decide +kernel
theorem dX9_answer_29 : decode cX9_answer 29 = .ok (.athrow, 1) := by decide +kernel
theorem dX9_answer_30 : decode cX9_answer 30 = .ok (.aload_n 0, 1) := by decide +kernel
theorem dX9_answer_31 : decode cX9_answer 31 = .ok (.getfield 12, 3) := by decide +kernel
theorem dX9_answer_34 : decode cX9_answer 34 = .ok (.bipush 11, 2) := by decide +kernel
theorem dX9_answer_36 : decode cX9_answer 36 = .ok (.iload_n 1, 1) := by decide +kernel
theorem dX9_answer_37 : decode cX9_answer 37 = .ok (.invokevirtual 329, 3) := by decide +kernel
theorem dX9_answer_40 : decode cX9_answer 40 = .ok (.istore_n 3, 1) := by decide +kernel
theorem dX9_answer_41 : decode cX9_answer 41 = .ok (.aload_n 0, 1) := by decide +kernel
theorem dX9_answer_42 : decode cX9_answer 42 = .ok (.getfield 12, 3) := by decide +kernel
theorem dX9_answer_45 : decode cX9_answer 45 = .ok (.bipush 12, 2) := by decide +kernel
theorem dX9_answer_47 : decode cX9_answer 47 = .ok (.iload_n 1, 1) := by decide +kernel
theorem dX9_answer_48 : decode cX9_answer 48 = .ok (.invokevirtual 329, 3) := by decide +kernel
theorem dX9_answer_51 : decode cX9_answer 51 = .ok (.istore 4, 2) := by decide +kernel
theorem dX9_answer_53 : decode cX9_answer 53 = .ok (.iload_n 3, 1) := by decide +kernel
theorem dX9_answer_54 : decode cX9_answer 54 = .ok (.iconst (-1), 1) := by decide +kernel
theorem dX9_answer_55 : decode cX9_answer 55 = .ok (.if_icmp .eq 9, 3) := by decide +kernel
theorem dX9_answer_58 : decode cX9_answer 58 = .ok (.iload 4, 2) := by decide +kernel
theorem dX9_answer_60 : decode cX9_answer 60 = .ok (.iconst (-1), 1) := by decide +kernel
theorem dX9_answer_61 : decode cX9_answer 61 = .ok (.if_icmp .ne 14, 3) := by decide +kernel
theorem dX9_answer_64 : decode cX9_answer 64 = .ok (.new 318, 3) := by decide +kernel
theorem dX9_answer_67 : decode cX9_answer 67 = .ok (.dup, 1) := by decide +kernel
theorem dX9_answer_68 : decode cX9_answer 68 = .ok (.ldc_w 332, 3) := by decide +kernel
theorem dX9_answer_71 : decode cX9_answer 71 = .ok (.invokespecial 322, 3) := by decide +kernel
theorem dX9_answer_74 : decode cX9_answer 74 = .ok (.athrow, 1) := by decide +kernel
theorem dX9_answer_75 : decode cX9_answer 75 = .ok (.aload_n 0, 1) := by decide +kernel
theorem dX9_answer_76 : decode cX9_answer 76 = .ok (.getfield 12, 3) := by decide +kernel
theorem dX9_answer_79 : decode cX9_answer 79 = .ok (.iload 4, 2) := by decide +kernel
theorem dX9_answer_81 : decode cX9_answer 81 = .ok (.invokevirtual 334, 3) := by decide +kernel
theorem dX9_answer_84 : decode cX9_answer 84 = .ok (.aload_n 0, 1) := by decide +kernel
theorem dX9_answer_85 : decode cX9_answer 85 = .ok (.getfield 12, 3) := by decide +kernel
theorem dX9_answer_88 : decode cX9_answer 88 = .ok (.iload_n 3, 1) := by decide +kernel
theorem dX9_answer_89 : decode cX9_answer 89 = .ok (.invokevirtual 334, 3) := by decide +kernel
theorem dX9_answer_92 : decode cX9_answer 92 = .ok (.isub, 1) := by decide +kernel
theorem dX9_answer_93 : decode cX9_answer 93 = .ok (.istore 5, 2) := by decide +kernel
theorem dX9_answer_95 : decode cX9_answer 95 = .ok (.aload_n 0, 1) := by decide +kernel
theorem dX9_answer_96 : decode cX9_answer 96 = .ok (.getfield 12, 3) := by decide +kernel
theorem dX9_answer_99 : decode cX9_answer 99 = .ok (.iload_n 3, 1) := by decide +kernel
theorem dX9_answer_100 : decode cX9_answer 100 = .ok (.invokevirtual 337, 3) := by decide +kernel
theorem dX9_answer_103 : decode cX9_answer 103 = .ok (.istore 6, 2) := by decide +kernel
theorem dX9_answer_105 : decode cX9_answer 105 = .ok (.aload_n 0, 1) := by decide +kernel
theorem dX9_answer_106 : decode cX9_answer 106 = .ok (.getfield 12, 3) := by decide +kernel
theorem dX9_answer_109 : decode cX9_answer 109 = .ok (.iload 4, 2) := by decide +kernel
theorem dX9_answer_111 : decode cX9_answer 111 = .ok (.invokevirtual 337, 3) := by decide +kernel
theorem dX9_answer_114 : decode cX9_answer 114 = .ok (.istore 7, 2) := by decide +kernel
theorem dX9_answer_116 : decode cX9_answer 116 = .ok (.iload 6, 2) := by decide +kernel
theorem dX9_answer_118 : decode cX9_answer 118 = .ok (.iload 7, 2) := by decide +kernel
theorem dX9_answer_120 : decode cX9_answer 120 = .ok (.if_icmp .ne 6, 3) := by decide +kernel
theorem dX9_answer_123 : decode cX9_answer 123 = .ok (.iload 5, 2) := by decide +kernel
theorem dX9_answer_125 : decode cX9_answer 125 = .ok (.ireturn, 1) := by decide +kernel
theorem dX9_answer_126 : decode cX9_answer 126 = .ok (.aload_n 0, 1) := by decide +kernel
theorem dX9_answer_127 : decode cX9_answer 127 = .ok (.getfield 60, 3) := by decide +kernel
theorem dX9_answer_130 : decode cX9_answer 130 = .ok (.aload_n 0, 1) := by decide +kernel
theorem dX9_answer_131 : decode cX9_answer 131 = .ok (.getfield 12, 3) := by decide +kernel
theorem dX9_answer_134 : decode cX9_answer 134 = .ok (.invokevirtual 299, 3) := by decide +kernel
theorem dX9_answer_137 : decode cX9_answer 137 = .ok (.aload_n 0, 1) := by decide +kernel
theorem dX9_answer_138 : decode cX9_answer 138 = .ok (.getfield 60, 3) := by decide +kernel
theorem dX9_answer_141 : decode cX9_answer 141 = .ok (.iload 6, 2) := by decide +kernel
theorem dX9_answer_143 : decode cX9_answer 143 = .ok (.iload 7, 2) := by decide +kernel
theorem dX9_answer_145 : decode cX9_answer 145 = .ok (.iload_n 2, 1) := by decide +kernel
theorem dX9_answer_146 : decode cX9_answer 146 = .ok (.invokevirtual 314, 3) := by decide +kernel
theorem dX9_answer_149 : decode cX9_answer 149 = .ok (.ifCond .ne 14, 3) := by decide +kernel
theorem dX9_answer_152 : decode cX9_answer 152 = .ok (.new 318, 3) := by decide +kernel
theorem dX9_answer_155 : decode cX9_answer 155 = .ok (.dup, 1) := by decide +kernel
theorem dX9_answer_156 : decode cX9_answer 156 = .ok (.ldc_w 320, 3) := by decide +kernel
theorem dX9_answer_159 : decode cX9_answer 159 = .ok (.invokespecial 322, 3) := by decide +kernel
theorem dX9_answer_162 : decode cX9_answer 162 = .ok (.athrow, 1) := by decide +kernel
theorem dX9_answer_163 : decode cX9_answer 163 = .ok (.iload 5, 2) := by decide +kernel
theorem dX9_answer_165 : decode cX9_answer 165 = .ok (.aload_n 0, 1) := by decide +kernel
theorem dX9_answer_166 : decode cX9_answer 166 = .ok (.getfield 60, 3) := by decide +kernel
theorem dX9_answer_169 : decode cX9_answer 169 = .ok (.iload 6, 2) := by decide +kernel
theorem dX9_answer_171 : decode cX9_answer 171 = .ok (.iload 7, 2) := by decide +kernel
theorem dX9_answer_173 : decode cX9_answer 173 = .ok (.iload_n 2, 1) := by decide +kernel
theorem dX9_answer_174 : decode cX9_answer 174 = .ok (.invokevirtual 323, 3) := by decide +kernel
theorem dX9_answer_177 : decode cX9_answer 177 = .ok (.iadd, 1) := by decide +kernel
theorem dX9_answer_178 : decode cX9_answer 178 = .ok (.ireturn, 1) := by decide +kernel
def f_X9_answer (F : Nat) (μ : Mm) (p1 : Int32) (p2 : Int32) : Option (Int32 × Int32 × Mm) :=
 if p1 < 0 then
 some (1, (0 : Int32), μ)
 else
 if (64 : Int32) ≤ p1 then
 some (1, (0 : Int32), μ)
 else
 if p2 < 0 then
 some (1, (0 : Int32), μ)
 else
 if p2 ≤ (1 : Int32) then
 (f_X7_letterAt μ 0 (11 : Int32) p1).bind fun q19 =>
 (f_X7_letterAt μ 0 (12 : Int32) p1).bind fun q21 =>
 if q19 = (-1 : Int32) then
 some (2, (0 : Int32), μ)
 else
 if q21 = (-1 : Int32) then
 some (2, (0 : Int32), μ)
 else
 (f_X7_letterTime μ 0 q21).bind fun q23 =>
 (f_X7_letterTime μ 0 q19).bind fun q25 =>
 (f_X7_letterProcessor μ 0 q19).bind fun q27 =>
 (f_X7_letterProcessor μ 0 q21).bind fun q29 =>
 if q27 = q29 then
 some (0, q23 - q25, μ)
 else
 (f_X5_join F μ 0).bind fun q31 =>
 (f_X5_hasValue F q31 q27 q29 p2).bind fun q33 =>
 if q33 = 0 then
 some (2, (0 : Int32), q31)
 else
 (f_X5_valueOf q31 q27 q29 p2).bind fun q35 =>
 some (0, (q23 - q25) + q35, q31)
 else
 some (1, (0 : Int32), μ)
set_option maxHeartbeats 4000000 in
set_option maxRecDepth 100000 in
theorem c_X9_answer (l : Launch) (hst : l.stackTraces = false) (E : En) {F : Nat} {μ : Mm} {p1 : Int32} {p2 : Int32} (h0 : l9 E 0) {z : Int32 × Int32 × Mm} (hf : f_X9_answer F μ p1 p2 = some z) : vx_Met l yX9_answer (wt yX9_answer cX9_answer 8 (some .int)) { frames := 6, cells := 1, slots := 6, locals := 110 } (Pmx E [.ref (ad E 900 0), .int p1, .int p2] μ) (Qx E z.1 (.int z.2.1) z.2.2) (Xx E z.1 z.2.2) 1 6 (Ad E) := by
  unfold f_X9_answer at hf
  refine mx_of (cc := cX9_answer) (nL := 8) (ret := (some .int)) (by decide) _ (Nat.le_of_ble_eq_true rfl) ?_
  intro p e s m below meth c C hr hlk htb hXF hI ls hl
  have hx := C.1.1
  have hb := C.1.2.1
  have hl : lv_has ls 8 [(0, .ref (ad E 900 0)), (1, .int p1), (2, .int p2)] := hl
  refine lv_iload_n hx hb dX9_answer_0 rfl (lv_at hl 1 rfl) ?_
  refine lv_if_lt (tgt := 19) hx hb dX9_answer_1 rfl (fun hc => ?_) (fun hc => ?_)
  · replace hf := it hf hc
    obtain rfl := Option.some.inj hf
    exact mx_throw (text := "no such x, or what is not 0 or 1") C hst hI hXF hl.1 (by decide +kernel) (by decide) xg_ia xn_ia xk_ia xo_ia dX9_answer_19 dX9_answer_22 dX9_answer_23 dX9_answer_26 dX9_answer_29 htb (Nat.le_of_ble_eq_true rfl) (Nat.le_of_ble_eq_true rfl) (Nat.le_of_ble_eq_true rfl) (Nat.le_of_ble_eq_true rfl) rfl rfl hlk (.inl ⟨rfl, rfl⟩)
  · replace hf := ie hf hc
    refine lv_iload_n hx hb dX9_answer_4 rfl (lv_at hl 1 rfl) ?_
    refine lv_bipush (v := (64 : Int32)) hx hb dX9_answer_5 kb_64 ?_
    refine lv_icmp_ge (tgt := 19) hx hb dX9_answer_7 rfl (fun hc => ?_) (fun hc => ?_)
    · replace hf := it hf hc
      obtain rfl := Option.some.inj hf
      exact mx_throw (text := "no such x, or what is not 0 or 1") C hst hI hXF hl.1 (by decide +kernel) (by decide) xg_ia xn_ia xk_ia xo_ia dX9_answer_19 dX9_answer_22 dX9_answer_23 dX9_answer_26 dX9_answer_29 htb (Nat.le_of_ble_eq_true rfl) (Nat.le_of_ble_eq_true rfl) (Nat.le_of_ble_eq_true rfl) (Nat.le_of_ble_eq_true rfl) rfl rfl hlk (.inl ⟨rfl, rfl⟩)
    · replace hf := ie hf hc
      refine lv_iload_n hx hb dX9_answer_10 rfl (lv_at hl 2 rfl) ?_
      refine lv_if_lt (tgt := 19) hx hb dX9_answer_11 rfl (fun hc => ?_) (fun hc => ?_)
      · replace hf := it hf hc
        obtain rfl := Option.some.inj hf
        exact mx_throw (text := "no such x, or what is not 0 or 1") C hst hI hXF hl.1 (by decide +kernel) (by decide) xg_ia xn_ia xk_ia xo_ia dX9_answer_19 dX9_answer_22 dX9_answer_23 dX9_answer_26 dX9_answer_29 htb (Nat.le_of_ble_eq_true rfl) (Nat.le_of_ble_eq_true rfl) (Nat.le_of_ble_eq_true rfl) (Nat.le_of_ble_eq_true rfl) rfl rfl hlk (.inl ⟨rfl, rfl⟩)
      · replace hf := ie hf hc
        refine lv_iload_n hx hb dX9_answer_14 rfl (lv_at hl 2 rfl) ?_
        refine lv_iconst (v := (1 : Int32)) hx hb dX9_answer_15 kc_1 ?_
        refine lv_icmp_le (tgt := 30) hx hb dX9_answer_16 rfl (fun hc => ?_) (fun hc => ?_)
        · replace hf := it hf hc
          refine lv_aload_n hx hb dX9_answer_30 rfl (lv_at hl 0 rfl) ?_
          refine gf_9_0 C hI h0.1 fl_X9_12 dX9_answer_31 ?_
          refine lv_bipush (v := (11 : Int32)) hx hb dX9_answer_34 kb_11 ?_
          refine lv_iload_n hx hb dX9_answer_36 rfl (lv_at hl 1 rfl) ?_
          obtain ⟨q19, e20, hf⟩ := ob hf
          refine mcV (As := [.int (11 : Int32), .int p1]) (rest := []) C hI (c_X7_letterAt l E h0.2.2.2.2.1 e20) ml_X9_329 kv_X7_letterAt (m_recv C hI h0.2.2.2.2.1.1 (ce_700 E _ _ _) rfl) rfl rfl ⟨Nat.le_of_ble_eq_true rfl, Nat.le_of_ble_eq_true rfl⟩ ⟨Nat.zero_le _, Nat.zero_le _⟩ rfl rfl hl.1 (Nat.le_of_ble_eq_true rfl) dX9_answer_37 (st1 := [.int q19]) rfl (fun H locs hI => ?_)
          refine lv_istore_n hx hb dX9_answer_40 rfl hl (by decide) rfl (fun ls hl => ?_)
          have hl : lv_has ls 8 [(3, .int q19), (0, .ref (ad E 900 0)), (1, .int p1), (2, .int p2)] := hl
          refine lv_aload_n hx hb dX9_answer_41 rfl (lv_at hl 1 rfl) ?_
          refine gf_9_0 C hI h0.1 fl_X9_12 dX9_answer_42 ?_
          refine lv_bipush (v := (12 : Int32)) hx hb dX9_answer_45 kb_12 ?_
          refine lv_iload_n hx hb dX9_answer_47 rfl (lv_at hl 2 rfl) ?_
          obtain ⟨q21, e22, hf⟩ := ob hf
          refine mcV (As := [.int (12 : Int32), .int p1]) (rest := []) C hI (c_X7_letterAt l E h0.2.2.2.2.1 e22) ml_X9_329 kv_X7_letterAt (m_recv C hI h0.2.2.2.2.1.1 (ce_700 E _ _ _) rfl) rfl rfl ⟨Nat.le_of_ble_eq_true rfl, Nat.le_of_ble_eq_true rfl⟩ ⟨Nat.zero_le _, Nat.zero_le _⟩ rfl rfl hl.1 (Nat.le_of_ble_eq_true rfl) dX9_answer_48 (st1 := [.int q21]) rfl (fun H locs hI => ?_)
          refine lv_istore hx hb dX9_answer_51 hl (by decide) rfl (fun ls hl => ?_)
          have hl : lv_has ls 8 [(4, .int q21), (3, .int q19), (0, .ref (ad E 900 0)), (1, .int p1), (2, .int p2)] := hl
          refine lv_iload_n hx hb dX9_answer_53 rfl (lv_at hl 1 rfl) ?_
          refine lv_iconst (v := (-1 : Int32)) hx hb dX9_answer_54 kc_m1 ?_
          refine lv_icmp_eq (tgt := 64) hx hb dX9_answer_55 rfl (fun hc => ?_) (fun hc => ?_)
          · replace hf := it hf hc
            obtain rfl := Option.some.inj hf
            exact mx_throw (text := "its start or answer isn't told") C hst hI hXF hl.1 (by decide +kernel) (by decide) xg_is xn_is xk_is xo_is dX9_answer_64 dX9_answer_67 dX9_answer_68 dX9_answer_71 dX9_answer_74 htb (Nat.le_of_ble_eq_true rfl) (Nat.le_of_ble_eq_true rfl) (Nat.le_of_ble_eq_true rfl) (Nat.le_of_ble_eq_true rfl) rfl rfl hlk (.inr ⟨rfl, rfl⟩)
          · replace hf := ie hf hc
            refine lv_iload hx hb dX9_answer_58 (lv_at hl 0 rfl) ?_
            refine lv_iconst (v := (-1 : Int32)) hx hb dX9_answer_60 kc_m1 ?_
            refine lv_icmp_ne (tgt := 75) hx hb dX9_answer_61 rfl (fun hc => ?_) (fun hc => ?_)
            · replace hf := ie hf hc
              refine lv_aload_n hx hb dX9_answer_75 rfl (lv_at hl 2 rfl) ?_
              refine gf_9_0 C hI h0.1 fl_X9_12 dX9_answer_76 ?_
              refine lv_iload hx hb dX9_answer_79 (lv_at hl 0 rfl) ?_
              obtain ⟨q23, e24, hf⟩ := ob hf
              refine mcV (As := [.int q21]) (rest := []) C hI (c_X7_letterTime l E h0.2.2.2.2.1 e24) ml_X9_334 kv_X7_letterTime (m_recv C hI h0.2.2.2.2.1.1 (ce_700 E _ _ _) rfl) rfl rfl ⟨Nat.le_of_ble_eq_true rfl, Nat.le_of_ble_eq_true rfl⟩ ⟨Nat.zero_le _, Nat.zero_le _⟩ rfl rfl hl.1 (Nat.le_of_ble_eq_true rfl) dX9_answer_81 (st1 := [.int q23]) rfl (fun H locs hI => ?_)
              refine lv_aload_n hx hb dX9_answer_84 rfl (lv_at hl 2 rfl) ?_
              refine gf_9_0 C hI h0.1 fl_X9_12 dX9_answer_85 ?_
              refine lv_iload_n hx hb dX9_answer_88 rfl (lv_at hl 1 rfl) ?_
              obtain ⟨q25, e26, hf⟩ := ob hf
              refine mcV (As := [.int q19]) (rest := [.int q23]) C hI (c_X7_letterTime l E h0.2.2.2.2.1 e26) ml_X9_334 kv_X7_letterTime (m_recv C hI h0.2.2.2.2.1.1 (ce_700 E _ _ _) rfl) rfl rfl ⟨Nat.le_of_ble_eq_true rfl, Nat.le_of_ble_eq_true rfl⟩ ⟨Nat.zero_le _, Nat.zero_le _⟩ rfl rfl hl.1 (Nat.le_of_ble_eq_true rfl) dX9_answer_89 (st1 := [.int q25, .int q23]) rfl (fun H locs hI => ?_)
              refine lv_isub hx hb dX9_answer_92 ?_
              refine lv_istore hx hb dX9_answer_93 hl (by decide) rfl (fun ls hl => ?_)
              have hl : lv_has ls 8 [(5, .int (q23 - q25)), (4, .int q21), (3, .int q19), (0, .ref (ad E 900 0)), (1, .int p1), (2, .int p2)] := hl
              refine lv_aload_n hx hb dX9_answer_95 rfl (lv_at hl 3 rfl) ?_
              refine gf_9_0 C hI h0.1 fl_X9_12 dX9_answer_96 ?_
              refine lv_iload_n hx hb dX9_answer_99 rfl (lv_at hl 2 rfl) ?_
              obtain ⟨q27, e28, hf⟩ := ob hf
              refine mcV (As := [.int q19]) (rest := []) C hI (c_X7_letterProcessor l E h0.2.2.2.2.1 e28) ml_X9_337 kv_X7_letterProcessor (m_recv C hI h0.2.2.2.2.1.1 (ce_700 E _ _ _) rfl) rfl rfl ⟨Nat.le_of_ble_eq_true rfl, Nat.le_of_ble_eq_true rfl⟩ ⟨Nat.zero_le _, Nat.zero_le _⟩ rfl rfl hl.1 (Nat.le_of_ble_eq_true rfl) dX9_answer_100 (st1 := [.int q27]) rfl (fun H locs hI => ?_)
              refine lv_istore hx hb dX9_answer_103 hl (by decide) rfl (fun ls hl => ?_)
              have hl : lv_has ls 8 [(6, .int q27), (5, .int (q23 - q25)), (4, .int q21), (3, .int q19), (0, .ref (ad E 900 0)), (1, .int p1), (2, .int p2)] := hl
              refine lv_aload_n hx hb dX9_answer_105 rfl (lv_at hl 4 rfl) ?_
              refine gf_9_0 C hI h0.1 fl_X9_12 dX9_answer_106 ?_
              refine lv_iload hx hb dX9_answer_109 (lv_at hl 2 rfl) ?_
              obtain ⟨q29, e30, hf⟩ := ob hf
              refine mcV (As := [.int q21]) (rest := []) C hI (c_X7_letterProcessor l E h0.2.2.2.2.1 e30) ml_X9_337 kv_X7_letterProcessor (m_recv C hI h0.2.2.2.2.1.1 (ce_700 E _ _ _) rfl) rfl rfl ⟨Nat.le_of_ble_eq_true rfl, Nat.le_of_ble_eq_true rfl⟩ ⟨Nat.zero_le _, Nat.zero_le _⟩ rfl rfl hl.1 (Nat.le_of_ble_eq_true rfl) dX9_answer_111 (st1 := [.int q29]) rfl (fun H locs hI => ?_)
              refine lv_istore hx hb dX9_answer_114 hl (by decide) rfl (fun ls hl => ?_)
              have hl : lv_has ls 8 [(7, .int q29), (6, .int q27), (5, .int (q23 - q25)), (4, .int q21), (3, .int q19), (0, .ref (ad E 900 0)), (1, .int p1), (2, .int p2)] := hl
              refine lv_iload hx hb dX9_answer_116 (lv_at hl 1 rfl) ?_
              refine lv_iload hx hb dX9_answer_118 (lv_at hl 0 rfl) ?_
              refine lv_icmp_ne (tgt := 126) hx hb dX9_answer_120 rfl (fun hc => ?_) (fun hc => ?_)
              · replace hf := ie hf hc
                refine lv_aload_n hx hb dX9_answer_126 rfl (lv_at hl 5 rfl) ?_
                refine gf_9_8 C hI h0.1 fl_X9_60 dX9_answer_127 ?_
                refine lv_aload_n hx hb dX9_answer_130 rfl (lv_at hl 5 rfl) ?_
                refine gf_9_0 C hI h0.1 fl_X9_12 dX9_answer_131 ?_
                obtain ⟨q31, e32, hf⟩ := ob hf
                refine mcV (As := [.ref (ad E 700 0)]) (rest := []) C hI (c_X5_join l E h0.2.2.2.2.2.2.2.2.2.1 h0.2.2.2.2.1 e32) ml_X9_299 kv_X5_join (m_recv C hI h0.2.2.2.2.2.2.2.2.2.1.1 (ce_500 E _ _ _) rfl) rfl rfl ⟨Nat.le_of_ble_eq_true rfl, Nat.le_of_ble_eq_true rfl⟩ ⟨Nat.zero_le _, Nat.zero_le _⟩ rfl rfl hl.1 (Nat.le_of_ble_eq_true rfl) dX9_answer_134 (st1 := []) rfl (fun H locs hI => ?_)
                refine lv_aload_n hx hb dX9_answer_137 rfl (lv_at hl 5 rfl) ?_
                refine gf_9_8 C hI h0.1 fl_X9_60 dX9_answer_138 ?_
                refine lv_iload hx hb dX9_answer_141 (lv_at hl 1 rfl) ?_
                refine lv_iload hx hb dX9_answer_143 (lv_at hl 0 rfl) ?_
                refine lv_iload_n hx hb dX9_answer_145 rfl (lv_at hl 7 rfl) ?_
                obtain ⟨q33, e34, hf⟩ := ob hf
                refine mcV (As := [.int q27, .int q29, .int p2]) (rest := []) C hI (c_X5_hasValue l E h0.2.2.2.2.2.2.2.2.2.1 e34) ml_X9_314 kv_X5_hasValue (m_recv C hI h0.2.2.2.2.2.2.2.2.2.1.1 (ce_500 E _ _ _) rfl) rfl rfl ⟨Nat.le_of_ble_eq_true rfl, Nat.le_of_ble_eq_true rfl⟩ ⟨Nat.zero_le _, Nat.zero_le _⟩ rfl rfl hl.1 (Nat.le_of_ble_eq_true rfl) dX9_answer_146 (st1 := [.int q33]) rfl (fun H locs hI => ?_)
                refine lv_if_ne (tgt := 163) hx hb dX9_answer_149 rfl (fun hc => ?_) (fun hc => ?_)
                · replace hf := ie hf hc
                  refine lv_iload hx hb dX9_answer_163 (lv_at hl 2 rfl) ?_
                  refine lv_aload_n hx hb dX9_answer_165 rfl (lv_at hl 5 rfl) ?_
                  refine gf_9_8 C hI h0.1 fl_X9_60 dX9_answer_166 ?_
                  refine lv_iload hx hb dX9_answer_169 (lv_at hl 1 rfl) ?_
                  refine lv_iload hx hb dX9_answer_171 (lv_at hl 0 rfl) ?_
                  refine lv_iload_n hx hb dX9_answer_173 rfl (lv_at hl 7 rfl) ?_
                  obtain ⟨q35, e36, hf⟩ := ob hf
                  refine mcV (As := [.int q27, .int q29, .int p2]) (rest := [.int (q23 - q25)]) C hI (c_X5_valueOf l E h0.2.2.2.2.2.2.2.2.2.1 e36) ml_X9_323 kv_X5_valueOf (m_recv C hI h0.2.2.2.2.2.2.2.2.2.1.1 (ce_500 E _ _ _) rfl) rfl rfl ⟨Nat.le_of_ble_eq_true rfl, Nat.le_of_ble_eq_true rfl⟩ ⟨Nat.zero_le _, Nat.zero_le _⟩ rfl rfl hl.1 (Nat.le_of_ble_eq_true rfl) dX9_answer_174 (st1 := [.int q35, .int (q23 - q25)]) rfl (fun H locs hI => ?_)
                  refine lv_iadd hx hb dX9_answer_177 ?_
                  obtain rfl := Option.some.inj hf
                  exact mx_ret rfl (Nat.le_of_ble_eq_true rfl) (Nat.le_of_ble_eq_true rfl) (m_iret C hr hlk hI dX9_answer_178)
                · replace hf := it hf hc
                  obtain rfl := Option.some.inj hf
                  exact mx_throw (text := "the offs don't agree, or there is no such value") C hst hI hXF hl.1 (by decide +kernel) (by decide) xg_is xn_is xk_is xo_is dX9_answer_152 dX9_answer_155 dX9_answer_156 dX9_answer_159 dX9_answer_162 htb (Nat.le_of_ble_eq_true rfl) (Nat.le_of_ble_eq_true rfl) (Nat.le_of_ble_eq_true rfl) (Nat.le_of_ble_eq_true rfl) rfl rfl hlk (.inr ⟨rfl, rfl⟩)
              · replace hf := it hf hc
                refine lv_iload hx hb dX9_answer_123 (lv_at hl 2 rfl) ?_
                obtain rfl := Option.some.inj hf
                exact mx_ret rfl (Nat.le_of_ble_eq_true rfl) (Nat.le_of_ble_eq_true rfl) (m_iret C hr hlk hI dX9_answer_125)
            · replace hf := it hf hc
              obtain rfl := Option.some.inj hf
              exact mx_throw (text := "its start or answer isn't told") C hst hI hXF hl.1 (by decide +kernel) (by decide) xg_is xn_is xk_is xo_is dX9_answer_64 dX9_answer_67 dX9_answer_68 dX9_answer_71 dX9_answer_74 htb (Nat.le_of_ble_eq_true rfl) (Nat.le_of_ble_eq_true rfl) (Nat.le_of_ble_eq_true rfl) (Nat.le_of_ble_eq_true rfl) rfl rfl hlk (.inr ⟨rfl, rfl⟩)
        · replace hf := ie hf hc
          obtain rfl := Option.some.inj hf
          exact mx_throw (text := "no such x, or what is not 0 or 1") C hst hI hXF hl.1 (by decide +kernel) (by decide) xg_ia xn_ia xk_ia xo_ia dX9_answer_19 dX9_answer_22 dX9_answer_23 dX9_answer_26 dX9_answer_29 htb (Nat.le_of_ble_eq_true rfl) (Nat.le_of_ble_eq_true rfl) (Nat.le_of_ble_eq_true rfl) (Nat.le_of_ble_eq_true rfl) rfl rfl hlk (.inl ⟨rfl, rfl⟩)

theorem dX9_at_0 : decode cX9_at 0 = .ok (.iload_n 1, 1) := by decide +kernel
theorem dX9_at_1 : decode cX9_at 1 = .ok (.invokestatic 357, 3) := by decide +kernel
theorem dX9_at_4 : decode cX9_at 4 = .ok (.ifCond .ne 14, 3) := by decide +kernel
theorem dX9_at_7 : decode cX9_at 7 = .ok (.new 307, 3) := by decide +kernel
theorem dX9_at_10 : decode cX9_at 10 = .ok (.dup, 1) := by decide +kernel
theorem dX9_at_11 : decode cX9_at 11 = .ok (.ldc_w 405, 3) := by decide +kernel
theorem dX9_at_14 : decode cX9_at 14 = .ok (.invokespecial 311, 3) := by decide +kernel
theorem dX9_at_17 : decode cX9_at 17 = .ok (.athrow, 1) := by decide +kernel
theorem dX9_at_18 : decode cX9_at 18 = .ok (.aload_n 0, 1) := by decide +kernel
theorem dX9_at_19 : decode cX9_at 19 = .ok (.getfield 32, 3) := by decide +kernel
theorem dX9_at_22 : decode cX9_at 22 = .ok (.iload_n 1, 1) := by decide +kernel
theorem dX9_at_23 : decode cX9_at 23 = .ok (.aaload, 1) := by decide +kernel
theorem dX9_at_24 : decode cX9_at 24 = .ok (.astore_n 3, 1) := by decide +kernel
theorem dX9_at_25 : decode cX9_at 25 = .ok (.aload_n 3, 1) := by decide +kernel
theorem dX9_at_26 : decode cX9_at 26 = .ok (.invokevirtual 407, 3) := by decide +kernel
theorem dX9_at_29 : decode cX9_at 29 = .ok (.ifCond .eq 13, 3) := by decide +kernel
theorem dX9_at_32 : decode cX9_at 32 = .ok (.aload_n 3, 1) := by decide +kernel
theorem dX9_at_33 : decode cX9_at 33 = .ok (.iload_n 2, 1) := by decide +kernel
theorem dX9_at_34 : decode cX9_at 34 = .ok (.i2l, 1) := by decide +kernel
theorem dX9_at_35 : decode cX9_at 35 = .ok (.iconst 1, 1) := by decide +kernel
theorem dX9_at_36 : decode cX9_at 36 = .ok (.invokevirtual 388, 3) := by decide +kernel
theorem dX9_at_39 : decode cX9_at 39 = .ok (.ifCond .ne 14, 3) := by decide +kernel
theorem dX9_at_42 : decode cX9_at 42 = .ok (.new 318, 3) := by decide +kernel
theorem dX9_at_45 : decode cX9_at 45 = .ok (.dup, 1) := by decide +kernel
theorem dX9_at_46 : decode cX9_at 46 = .ok (.ldc_w 410, 3) := by decide +kernel
theorem dX9_at_49 : decode cX9_at 49 = .ok (.invokespecial 322, 3) := by decide +kernel
theorem dX9_at_52 : decode cX9_at 52 = .ok (.athrow, 1) := by decide +kernel
theorem dX9_at_53 : decode cX9_at 53 = .ok (.aload_n 3, 1) := by decide +kernel
theorem dX9_at_54 : decode cX9_at 54 = .ok (.getfield 397, 3) := by decide +kernel
theorem dX9_at_57 : decode cX9_at 57 = .ok (.iload_n 2, 1) := by decide +kernel
theorem dX9_at_58 : decode cX9_at 58 = .ok (.laload, 1) := by decide +kernel
theorem dX9_at_59 : decode cX9_at 59 = .ok (.lreturn, 1) := by decide +kernel
def f_X9_at (μ : Mm) (p1 : Int32) (p2 : Int32) : Option (Int32 × Int64 × Mm) :=
 (f_X9_isTape μ p1).bind fun q11 =>
 if q11 = 0 then
 some (1, (0 : Int64), μ)
 else
 (rq 6 p1).bind fun j13 =>
 (f_X6_hasRow μ j13).bind fun q15 =>
 if q15 = 0 then
 some (2, (0 : Int64), μ)
 else
 (f_X6_hasPlaces μ j13 p2.toInt64 (1 : Int32)).bind fun q17 =>
 if q17 = 0 then
 some (2, (0 : Int64), μ)
 else
 (rl μ 601 j13 100 p2).bind fun v19 =>
 some (0, v19, μ)
set_option maxHeartbeats 4000000 in
set_option maxRecDepth 100000 in
theorem c_X9_at (l : Launch) (hst : l.stackTraces = false) (E : En) {μ : Mm} {p1 : Int32} {p2 : Int32} (h0 : l9 E 0) {z : Int32 × Int64 × Mm} (hf : f_X9_at μ p1 p2 = some z) : vx_Met l yX9_at (wt yX9_at cX9_at 4 (some .long)) { frames := 6, cells := 1, slots := 6, locals := 110 } (Pmx E [.ref (ad E 900 0), .int p1, .int p2] μ) (Qx E z.1 (.long z.2.1) z.2.2) (Xx E z.1 z.2.2) 1 6 (Ad E) := by
  unfold f_X9_at at hf
  refine mx_of (cc := cX9_at) (nL := 4) (ret := (some .long)) (by decide) _ (Nat.le_of_ble_eq_true rfl) ?_
  intro p e s m below meth c C hr hlk htb hXF hI ls hl
  have hx := C.1.1
  have hb := C.1.2.1
  have hl : lv_has ls 4 [(0, .ref (ad E 900 0)), (1, .int p1), (2, .int p2)] := hl
  refine lv_iload_n hx hb dX9_at_0 rfl (lv_at hl 1 rfl) ?_
  obtain ⟨q11, e12, hf⟩ := ob hf
  refine mcS (As := [.int p1]) (rest := []) C hI (c_X9_isTape l E  e12) ml_X9_357 ks_X9_isTape rfl rfl ⟨Nat.le_of_ble_eq_true rfl, Nat.le_of_ble_eq_true rfl⟩ ⟨Nat.zero_le _, Nat.zero_le _⟩ rfl rfl hl.1 (Nat.le_of_ble_eq_true rfl) dX9_at_1 (st1 := [.int q11]) rfl (fun H locs hI => ?_)
  refine lv_if_ne (tgt := 18) hx hb dX9_at_4 rfl (fun hc => ?_) (fun hc => ?_)
  · replace hf := ie hf hc
    refine lv_aload_n hx hb dX9_at_18 rfl (lv_at hl 0 rfl) ?_
    refine gf_9_4 C hI h0.1 fl_X9_32 dX9_at_19 ?_
    refine lv_iload_n hx hb dX9_at_22 rfl (lv_at hl 1 rfl) ?_
    obtain ⟨j13, e14, hf⟩ := ob hf
    refine m_aald (t0 := 4) (Cn := RX6) (fun _ => rfl) C hI h0.2.2.2.1 (ce_905 E _ _ _) e14 dX9_at_23 ?_
    refine lv_astore_n hx hb dX9_at_24 rfl hl (by decide) rfl (fun ls hl => ?_)
    have hl : lv_has ls 4 [(3, .ref (ad E 600 j13)), (0, .ref (ad E 900 0)), (1, .int p1), (2, .int p2)] := hl
    refine lv_aload_n hx hb dX9_at_25 rfl (lv_at hl 0 rfl) ?_
    obtain ⟨q15, e16, hf⟩ := ob hf
    refine mcV (As := []) (rest := []) C hI (c_X6_hasRow l E (l9_tape h0 e14) e16) ml_X9_407 kv_X6_hasRow (m_recv C hI (l9_tape h0 e14).1 (ce_600 E _ _ _) rfl) rfl rfl ⟨Nat.le_of_ble_eq_true rfl, Nat.le_of_ble_eq_true rfl⟩ ⟨Nat.zero_le _, Nat.zero_le _⟩ rfl rfl hl.1 (Nat.le_of_ble_eq_true rfl) dX9_at_26 (st1 := [.int q15]) rfl (fun H locs hI => ?_)
    refine lv_if_eq (tgt := 42) hx hb dX9_at_29 rfl (fun hc => ?_) (fun hc => ?_)
    · replace hf := it hf hc
      obtain rfl := Option.some.inj hf
      exact mx_throw (text := "no row is held, or it has no such place") C hst hI hXF hl.1 (by decide +kernel) (by decide) xg_is xn_is xk_is xo_is dX9_at_42 dX9_at_45 dX9_at_46 dX9_at_49 dX9_at_52 htb (Nat.le_of_ble_eq_true rfl) (Nat.le_of_ble_eq_true rfl) (Nat.le_of_ble_eq_true rfl) (Nat.le_of_ble_eq_true rfl) rfl rfl hlk (.inr ⟨rfl, rfl⟩)
    · replace hf := ie hf hc
      refine lv_aload_n hx hb dX9_at_32 rfl (lv_at hl 0 rfl) ?_
      refine lv_iload_n hx hb dX9_at_33 rfl (lv_at hl 3 rfl) ?_
      refine lv_i2l (v := p2.toInt64) hx hb dX9_at_34 rfl ?_
      refine lv_iconst (v := (1 : Int32)) hx hb dX9_at_35 kc_1 ?_
      obtain ⟨q17, e18, hf⟩ := ob hf
      refine mcV (As := [.long p2.toInt64, .int (1 : Int32)]) (rest := []) C hI (c_X6_hasPlaces l E (l9_tape h0 e14) e18) ml_X9_388 kv_X6_hasPlaces (m_recv C hI (l9_tape h0 e14).1 (ce_600 E _ _ _) rfl) rfl rfl ⟨Nat.le_of_ble_eq_true rfl, Nat.le_of_ble_eq_true rfl⟩ ⟨Nat.zero_le _, Nat.zero_le _⟩ rfl rfl hl.1 (Nat.le_of_ble_eq_true rfl) dX9_at_36 (st1 := [.int q17]) rfl (fun H locs hI => ?_)
      refine lv_if_ne (tgt := 53) hx hb dX9_at_39 rfl (fun hc => ?_) (fun hc => ?_)
      · replace hf := ie hf hc
        refine lv_aload_n hx hb dX9_at_53 rfl (lv_at hl 0 rfl) ?_
        refine gf_6_0 C hI (l9_tape h0 e14).1 fl_X9_397 dX9_at_54 ?_
        refine lv_iload_n hx hb dX9_at_57 rfl (lv_at hl 3 rfl) ?_
        obtain ⟨v19, e20, hf⟩ := ob hf
        refine m_lald C hI (l9_tape h0 e14).2 (ce_601 E _ _ _) e20 dX9_at_58 ?_
        obtain rfl := Option.some.inj hf
        exact mx_ret rfl (Nat.le_of_ble_eq_true rfl) (Nat.le_of_ble_eq_true rfl) (m_lret C hr hlk hI dX9_at_59)
      · replace hf := it hf hc
        obtain rfl := Option.some.inj hf
        exact mx_throw (text := "no row is held, or it has no such place") C hst hI hXF hl.1 (by decide +kernel) (by decide) xg_is xn_is xk_is xo_is dX9_at_42 dX9_at_45 dX9_at_46 dX9_at_49 dX9_at_52 htb (Nat.le_of_ble_eq_true rfl) (Nat.le_of_ble_eq_true rfl) (Nat.le_of_ble_eq_true rfl) (Nat.le_of_ble_eq_true rfl) rfl rfl hlk (.inr ⟨rfl, rfl⟩)
  · replace hf := it hf hc
    obtain rfl := Option.some.inj hf
    exact mx_throw (text := "no such tape") C hst hI hXF hl.1 (by decide +kernel) (by decide) xg_ia xn_ia xk_ia xo_ia dX9_at_7 dX9_at_10 dX9_at_11 dX9_at_14 dX9_at_17 htb (Nat.le_of_ble_eq_true rfl) (Nat.le_of_ble_eq_true rfl) (Nat.le_of_ble_eq_true rfl) (Nat.le_of_ble_eq_true rfl) rfl rfl hlk (.inl ⟨rfl, rfl⟩)

theorem dX9_differ_0 : decode cX9_differ 0 = .ok (.iload_n 1, 1) := by decide +kernel
theorem dX9_differ_1 : decode cX9_differ 1 = .ok (.invokestatic 357, 3) := by decide +kernel
theorem dX9_differ_4 : decode cX9_differ 4 = .ok (.ifCond .eq 21, 3) := by decide +kernel
theorem dX9_differ_7 : decode cX9_differ 7 = .ok (.iload_n 3, 1) := by decide +kernel
theorem dX9_differ_8 : decode cX9_differ 8 = .ok (.invokestatic 164, 3) := by decide +kernel
theorem dX9_differ_11 : decode cX9_differ 11 = .ok (.ifCond .eq 14, 3) := by decide +kernel
theorem dX9_differ_14 : decode cX9_differ 14 = .ok (.aload_n 0, 1) := by decide +kernel
theorem dX9_differ_15 : decode cX9_differ 15 = .ok (.getfield 12, 3) := by decide +kernel
theorem dX9_differ_18 : decode cX9_differ 18 = .ok (.iload_n 2, 1) := by decide +kernel
theorem dX9_differ_19 : decode cX9_differ 19 = .ok (.invokevirtual 85, 3) := by decide +kernel
theorem dX9_differ_22 : decode cX9_differ 22 = .ok (.ifCond .ne 14, 3) := by decide +kernel
theorem dX9_differ_25 : decode cX9_differ 25 = .ok (.new 307, 3) := by decide +kernel
theorem dX9_differ_28 : decode cX9_differ 28 = .ok (.dup, 1) := by decide +kernel
theorem dX9_differ_29 : decode cX9_differ 29 = .ok (.ldc_w 379, 3) := by decide +kernel
theorem dX9_differ_32 : decode cX9_differ 32 = .ok (.invokespecial 311, 3) := by decide +kernel
theorem dX9_differ_35 : decode cX9_differ 35 = .ok (.athrow, 1) := by decide +kernel
theorem dX9_differ_36 : decode cX9_differ 36 = .ok (.aload_n 0, 1) := by decide +kernel
theorem dX9_differ_37 : decode cX9_differ 37 = .ok (.getfield 32, 3) := by decide +kernel
theorem dX9_differ_40 : decode cX9_differ 40 = .ok (.iload_n 1, 1) := by decide +kernel
theorem dX9_differ_41 : decode cX9_differ 41 = .ok (.aaload, 1) := by decide +kernel
theorem dX9_differ_42 : decode cX9_differ 42 = .ok (.getfield 373, 3) := by decide +kernel
theorem dX9_differ_45 : decode cX9_differ 45 = .ok (.astore 4, 2) := by decide +kernel
theorem dX9_differ_47 : decode cX9_differ 47 = .ok (.aload_n 0, 1) := by decide +kernel
theorem dX9_differ_48 : decode cX9_differ 48 = .ok (.getfield 32, 3) := by decide +kernel
theorem dX9_differ_51 : decode cX9_differ 51 = .ok (.iload_n 1, 1) := by decide +kernel
theorem dX9_differ_52 : decode cX9_differ 52 = .ok (.aaload, 1) := by decide +kernel
theorem dX9_differ_53 : decode cX9_differ 53 = .ok (.getfield 381, 3) := by decide +kernel
theorem dX9_differ_56 : decode cX9_differ 56 = .ok (.iconst 5, 1) := by decide +kernel
theorem dX9_differ_57 : decode cX9_differ 57 = .ok (.if_icmp .ne 8, 3) := by decide +kernel
theorem dX9_differ_60 : decode cX9_differ 60 = .ok (.aload 4, 2) := by decide +kernel
theorem dX9_differ_62 : decode cX9_differ 62 = .ok (.ifnonnull 14, 3) := by decide +kernel
theorem dX9_differ_65 : decode cX9_differ 65 = .ok (.new 318, 3) := by decide +kernel
theorem dX9_differ_68 : decode cX9_differ 68 = .ok (.dup, 1) := by decide +kernel
theorem dX9_differ_69 : decode cX9_differ 69 = .ok (.ldc_w 384, 3) := by decide +kernel
theorem dX9_differ_72 : decode cX9_differ 72 = .ok (.invokespecial 322, 3) := by decide +kernel
theorem dX9_differ_75 : decode cX9_differ 75 = .ok (.athrow, 1) := by decide +kernel
theorem dX9_differ_76 : decode cX9_differ 76 = .ok (.aload 4, 2) := by decide +kernel
theorem dX9_differ_78 : decode cX9_differ 78 = .ok (.iload_n 2, 1) := by decide +kernel
theorem dX9_differ_79 : decode cX9_differ 79 = .ok (.invokevirtual 85, 3) := by decide +kernel
theorem dX9_differ_82 : decode cX9_differ 82 = .ok (.ifCond .ne 14, 3) := by decide +kernel
theorem dX9_differ_85 : decode cX9_differ 85 = .ok (.new 307, 3) := by decide +kernel
theorem dX9_differ_88 : decode cX9_differ 88 = .ok (.dup, 1) := by decide +kernel
theorem dX9_differ_89 : decode cX9_differ 89 = .ok (.ldc_w 386, 3) := by decide +kernel
theorem dX9_differ_92 : decode cX9_differ 92 = .ok (.invokespecial 311, 3) := by decide +kernel
theorem dX9_differ_95 : decode cX9_differ 95 = .ok (.athrow, 1) := by decide +kernel
theorem dX9_differ_96 : decode cX9_differ 96 = .ok (.aload_n 0, 1) := by decide +kernel
theorem dX9_differ_97 : decode cX9_differ 97 = .ok (.aload_n 0, 1) := by decide +kernel
theorem dX9_differ_98 : decode cX9_differ 98 = .ok (.getfield 12, 3) := by decide +kernel
theorem dX9_differ_101 : decode cX9_differ 101 = .ok (.iload_n 2, 1) := by decide +kernel
theorem dX9_differ_102 : decode cX9_differ 102 = .ok (.iload_n 3, 1) := by decide +kernel
theorem dX9_differ_103 : decode cX9_differ 103 = .ok (.invokevirtual 167, 3) := by decide +kernel
theorem dX9_differ_106 : decode cX9_differ 106 = .ok (.aload_n 0, 1) := by decide +kernel
theorem dX9_differ_107 : decode cX9_differ 107 = .ok (.aload 4, 2) := by decide +kernel
theorem dX9_differ_109 : decode cX9_differ 109 = .ok (.iload_n 2, 1) := by decide +kernel
theorem dX9_differ_110 : decode cX9_differ 110 = .ok (.iload_n 3, 1) := by decide +kernel
theorem dX9_differ_111 : decode cX9_differ 111 = .ok (.invokevirtual 167, 3) := by decide +kernel
theorem dX9_differ_114 : decode cX9_differ 114 = .ok (.isub, 1) := by decide +kernel
theorem dX9_differ_115 : decode cX9_differ 115 = .ok (.ireturn, 1) := by decide +kernel
def f_X9_differ (F : Nat) (μ : Mm) (p1 : Int32) (p2 : Int32) (p3 : Int32) : Option (Int32 × Int32 × Mm) :=
 (f_X9_isTape μ p1).bind fun q17 =>
 if q17 = 0 then
 some (1, (0 : Int32), μ)
 else
 (f_X9_isSumWhat μ p3).bind fun q19 =>
 if q19 = 0 then
 some (1, (0 : Int32), μ)
 else
 (f_X7_hasTask μ 0 p2).bind fun q21 =>
 if q21 = 0 then
 some (1, (0 : Int32), μ)
 else
 (rq 6 p1).bind fun j23 =>
 if μ.1 600 j23 3 = 0 then
 (rq 6 p1).bind fun j26 =>
 if (μ.1 600 j26 1) = (5 : Int32) then
 some (2, (0 : Int32), μ)
 else
 some (2, (0 : Int32), μ)
 else
 (rq 6 p1).bind fun j28 =>
 if (μ.1 600 j28 1) = (5 : Int32) then
 (f_X7_hasTask μ (j23 + 1) p2).bind fun q30 =>
 if q30 = 0 then
 some (1, (0 : Int32), μ)
 else
 (f_X9_timeCountedAs F μ 0 p2 p3).bind fun q32 =>
 (f_X9_timeCountedAs F q32.2 (j23 + 1) p2 p3).bind fun q34 =>
 some (0, q32.1 - q34.1, q34.2)
 else
 some (2, (0 : Int32), μ)
set_option maxHeartbeats 4000000 in
set_option maxRecDepth 100000 in
theorem c_X9_differ (l : Launch) (hst : l.stackTraces = false) (E : En) {F : Nat} {μ : Mm} {p1 : Int32} {p2 : Int32} {p3 : Int32} (h0 : l9 E 0) {z : Int32 × Int32 × Mm} (hkp : ∀ d, d < 6 → ¬ μ.1 600 d 3 = 0 → l7 E (d + 1)) (hf : f_X9_differ F μ p1 p2 p3 = some z) : vx_Met l yX9_differ (wt yX9_differ cX9_differ 5 (some .int)) { frames := 6, cells := 1, slots := 6, locals := 115 } (Pmx E [.ref (ad E 900 0), .int p1, .int p2, .int p3] μ) (Qx E z.1 (.int z.2.1) z.2.2) (Xx E z.1 z.2.2) 1 6 (Ad E) := by
  unfold f_X9_differ at hf
  refine mx_of (cc := cX9_differ) (nL := 5) (ret := (some .int)) (by decide) _ (Nat.le_of_ble_eq_true rfl) ?_
  intro p e s m below meth c C hr hlk htb hXF hI ls hl
  have hx := C.1.1
  have hb := C.1.2.1
  have hl : lv_has ls 5 [(0, .ref (ad E 900 0)), (1, .int p1), (2, .int p2), (3, .int p3)] := hl
  refine lv_iload_n hx hb dX9_differ_0 rfl (lv_at hl 1 rfl) ?_
  obtain ⟨q17, e18, hf⟩ := ob hf
  refine mcS (As := [.int p1]) (rest := []) C hI (c_X9_isTape l E  e18) ml_X9_357 ks_X9_isTape rfl rfl ⟨Nat.le_of_ble_eq_true rfl, Nat.le_of_ble_eq_true rfl⟩ ⟨Nat.zero_le _, Nat.zero_le _⟩ rfl rfl hl.1 (Nat.le_of_ble_eq_true rfl) dX9_differ_1 (st1 := [.int q17]) rfl (fun H locs hI => ?_)
  refine lv_if_eq (tgt := 25) hx hb dX9_differ_4 rfl (fun hc => ?_) (fun hc => ?_)
  · replace hf := it hf hc
    obtain rfl := Option.some.inj hf
    exact mx_throw (text := "no such tape, what or task") C hst hI hXF hl.1 (by decide +kernel) (by decide) xg_ia xn_ia xk_ia xo_ia dX9_differ_25 dX9_differ_28 dX9_differ_29 dX9_differ_32 dX9_differ_35 htb (Nat.le_of_ble_eq_true rfl) (Nat.le_of_ble_eq_true rfl) (Nat.le_of_ble_eq_true rfl) (Nat.le_of_ble_eq_true rfl) rfl rfl hlk (.inl ⟨rfl, rfl⟩)
  · replace hf := ie hf hc
    refine lv_iload_n hx hb dX9_differ_7 rfl (lv_at hl 3 rfl) ?_
    obtain ⟨q19, e20, hf⟩ := ob hf
    refine mcS (As := [.int p3]) (rest := []) C hI (c_X9_isSumWhat l E  e20) ml_X9_164 ks_X9_isSumWhat rfl rfl ⟨Nat.le_of_ble_eq_true rfl, Nat.le_of_ble_eq_true rfl⟩ ⟨Nat.zero_le _, Nat.zero_le _⟩ rfl rfl hl.1 (Nat.le_of_ble_eq_true rfl) dX9_differ_8 (st1 := [.int q19]) rfl (fun H locs hI => ?_)
    refine lv_if_eq (tgt := 25) hx hb dX9_differ_11 rfl (fun hc => ?_) (fun hc => ?_)
    · replace hf := it hf hc
      obtain rfl := Option.some.inj hf
      exact mx_throw (text := "no such tape, what or task") C hst hI hXF hl.1 (by decide +kernel) (by decide) xg_ia xn_ia xk_ia xo_ia dX9_differ_25 dX9_differ_28 dX9_differ_29 dX9_differ_32 dX9_differ_35 htb (Nat.le_of_ble_eq_true rfl) (Nat.le_of_ble_eq_true rfl) (Nat.le_of_ble_eq_true rfl) (Nat.le_of_ble_eq_true rfl) rfl rfl hlk (.inl ⟨rfl, rfl⟩)
    · replace hf := ie hf hc
      refine lv_aload_n hx hb dX9_differ_14 rfl (lv_at hl 0 rfl) ?_
      refine gf_9_0 C hI h0.1 fl_X9_12 dX9_differ_15 ?_
      refine lv_iload_n hx hb dX9_differ_18 rfl (lv_at hl 2 rfl) ?_
      obtain ⟨q21, e22, hf⟩ := ob hf
      refine mcV (As := [.int p2]) (rest := []) C hI (c_X7_hasTask l E h0.2.2.2.2.1 e22) ml_X9_85 kv_X7_hasTask (m_recv C hI h0.2.2.2.2.1.1 (ce_700 E _ _ _) rfl) rfl rfl ⟨Nat.le_of_ble_eq_true rfl, Nat.le_of_ble_eq_true rfl⟩ ⟨Nat.zero_le _, Nat.zero_le _⟩ rfl rfl hl.1 (Nat.le_of_ble_eq_true rfl) dX9_differ_19 (st1 := [.int q21]) rfl (fun H locs hI => ?_)
      refine lv_if_ne (tgt := 36) hx hb dX9_differ_22 rfl (fun hc => ?_) (fun hc => ?_)
      · replace hf := ie hf hc
        refine lv_aload_n hx hb dX9_differ_36 rfl (lv_at hl 0 rfl) ?_
        refine gf_9_4 C hI h0.1 fl_X9_32 dX9_differ_37 ?_
        refine lv_iload_n hx hb dX9_differ_40 rfl (lv_at hl 1 rfl) ?_
        obtain ⟨j23, e24, hf⟩ := ob hf
        refine m_aald (t0 := 4) (Cn := RX6) (fun _ => rfl) C hI h0.2.2.2.1 (ce_905 E _ _ _) e24 dX9_differ_41 ?_
        refine gf_6_3 C hI (l9_tape h0 e24).1 fl_X9_373 dX9_differ_42 ?_
        by_cases hq25 : μ.1 600 j23 3 = 0
        · replace hf := it hf hq25
          rw [if_pos hq25]
          refine lv_astoreN hx hb dX9_differ_45 hl (by decide) rfl (fun ls hl => ?_)
          have hl : lv_has ls 5 [(4, .null), (0, .ref (ad E 900 0)), (1, .int p1), (2, .int p2), (3, .int p3)] := hl
          refine lv_aload_n hx hb dX9_differ_47 rfl (lv_at hl 1 rfl) ?_
          refine gf_9_4 C hI h0.1 fl_X9_32 dX9_differ_48 ?_
          refine lv_iload_n hx hb dX9_differ_51 rfl (lv_at hl 2 rfl) ?_
          obtain ⟨j26, e27, hf⟩ := ob hf
          refine m_aald (t0 := 4) (Cn := RX6) (fun _ => rfl) C hI h0.2.2.2.1 (ce_905 E _ _ _) e27 dX9_differ_52 ?_
          refine gf_6_1 C hI (l9_tape h0 e27).1 fl_X9_381 dX9_differ_53 ?_
          refine lv_iconst (v := (5 : Int32)) hx hb dX9_differ_56 kc_5 ?_
          refine lv_icmp_ne (tgt := 65) hx hb dX9_differ_57 rfl (fun hc => ?_) (fun hc => ?_)
          · replace hf := ie hf hc
            obtain rfl := Option.some.inj hf
            exact mx_throw (text := "no copy is held") C hst hI hXF hl.1 (by decide +kernel) (by decide) xg_is xn_is xk_is xo_is dX9_differ_65 dX9_differ_68 dX9_differ_69 dX9_differ_72 dX9_differ_75 htb (Nat.le_of_ble_eq_true rfl) (Nat.le_of_ble_eq_true rfl) (Nat.le_of_ble_eq_true rfl) (Nat.le_of_ble_eq_true rfl) rfl rfl hlk (.inr ⟨rfl, rfl⟩)
          · replace hf := it hf hc
            refine lv_aloadN hx hb dX9_differ_60 (lv_at hl 0 rfl) ?_
            refine lv_ifnonnullN hx hb dX9_differ_62 ?_
            obtain rfl := Option.some.inj hf
            exact mx_throw (text := "no copy is held") C hst hI hXF hl.1 (by decide +kernel) (by decide) xg_is xn_is xk_is xo_is dX9_differ_65 dX9_differ_68 dX9_differ_69 dX9_differ_72 dX9_differ_75 htb (Nat.le_of_ble_eq_true rfl) (Nat.le_of_ble_eq_true rfl) (Nat.le_of_ble_eq_true rfl) (Nat.le_of_ble_eq_true rfl) rfl rfl hlk (.inr ⟨rfl, rfl⟩)
        · replace hf := ie hf hq25
          rw [if_neg hq25]
          refine lv_astore hx hb dX9_differ_45 hl (by decide) rfl (fun ls hl => ?_)
          have hl : lv_has ls 5 [(4, .ref (ad E 700 (j23 + 1))), (0, .ref (ad E 900 0)), (1, .int p1), (2, .int p2), (3, .int p3)] := hl
          refine lv_aload_n hx hb dX9_differ_47 rfl (lv_at hl 1 rfl) ?_
          refine gf_9_4 C hI h0.1 fl_X9_32 dX9_differ_48 ?_
          refine lv_iload_n hx hb dX9_differ_51 rfl (lv_at hl 2 rfl) ?_
          obtain ⟨j28, e29, hf⟩ := ob hf
          refine m_aald (t0 := 4) (Cn := RX6) (fun _ => rfl) C hI h0.2.2.2.1 (ce_905 E _ _ _) e29 dX9_differ_52 ?_
          refine gf_6_1 C hI (l9_tape h0 e29).1 fl_X9_381 dX9_differ_53 ?_
          refine lv_iconst (v := (5 : Int32)) hx hb dX9_differ_56 kc_5 ?_
          refine lv_icmp_ne (tgt := 65) hx hb dX9_differ_57 rfl (fun hc => ?_) (fun hc => ?_)
          · replace hf := ie hf hc
            obtain rfl := Option.some.inj hf
            exact mx_throw (text := "no copy is held") C hst hI hXF hl.1 (by decide +kernel) (by decide) xg_is xn_is xk_is xo_is dX9_differ_65 dX9_differ_68 dX9_differ_69 dX9_differ_72 dX9_differ_75 htb (Nat.le_of_ble_eq_true rfl) (Nat.le_of_ble_eq_true rfl) (Nat.le_of_ble_eq_true rfl) (Nat.le_of_ble_eq_true rfl) rfl rfl hlk (.inr ⟨rfl, rfl⟩)
          · replace hf := it hf hc
            refine lv_aload hx hb dX9_differ_60 (lv_at hl 0 rfl) ?_
            refine lv_ifnonnull (tgt := 76) hx hb dX9_differ_62 rfl ?_
            refine lv_aload hx hb dX9_differ_76 (lv_at hl 0 rfl) ?_
            refine lv_iload_n hx hb dX9_differ_78 rfl (lv_at hl 3 rfl) ?_
            obtain ⟨q30, e31, hf⟩ := ob hf
            refine mcV (As := [.int p2]) (rest := []) C hI (c_X7_hasTask l E (hkp j23 (rq_lt e24) hq25) e31) ml_X9_85 kv_X7_hasTask (m_recv C hI (hkp j23 (rq_lt e24) hq25).1 (ce_700 E _ _ _) rfl) rfl rfl ⟨Nat.le_of_ble_eq_true rfl, Nat.le_of_ble_eq_true rfl⟩ ⟨Nat.zero_le _, Nat.zero_le _⟩ rfl rfl hl.1 (Nat.le_of_ble_eq_true rfl) dX9_differ_79 (st1 := [.int q30]) rfl (fun H locs hI => ?_)
            refine lv_if_ne (tgt := 96) hx hb dX9_differ_82 rfl (fun hc => ?_) (fun hc => ?_)
            · replace hf := ie hf hc
              refine lv_aload_n hx hb dX9_differ_96 rfl (lv_at hl 1 rfl) ?_
              refine lv_aload_n hx hb dX9_differ_97 rfl (lv_at hl 1 rfl) ?_
              refine gf_9_0 C hI h0.1 fl_X9_12 dX9_differ_98 ?_
              refine lv_iload_n hx hb dX9_differ_101 rfl (lv_at hl 3 rfl) ?_
              refine lv_iload_n hx hb dX9_differ_102 rfl (lv_at hl 4 rfl) ?_
              obtain ⟨q32, e33, hf⟩ := ob hf
              refine mcV (As := [.ref (ad E 700 0), .int p2, .int p3]) (rest := []) C hI (c_X9_timeCountedAs l E h0 h0.2.2.2.2.1 e33) ml_X9_167 kv_X9_timeCountedAs (m_recv C hI h0.1 (ce_900 E _ _ _) rfl) rfl rfl ⟨Nat.le_of_ble_eq_true rfl, Nat.le_of_ble_eq_true rfl⟩ ⟨Nat.zero_le _, Nat.zero_le _⟩ rfl rfl hl.1 (Nat.le_of_ble_eq_true rfl) dX9_differ_103 (st1 := [.int q32.1]) rfl (fun H locs hI => ?_)
              refine lv_aload_n hx hb dX9_differ_106 rfl (lv_at hl 1 rfl) ?_
              refine lv_aload hx hb dX9_differ_107 (lv_at hl 0 rfl) ?_
              refine lv_iload_n hx hb dX9_differ_109 rfl (lv_at hl 3 rfl) ?_
              refine lv_iload_n hx hb dX9_differ_110 rfl (lv_at hl 4 rfl) ?_
              obtain ⟨q34, e35, hf⟩ := ob hf
              refine mcV (As := [.ref (ad E 700 (j23 + 1)), .int p2, .int p3]) (rest := [.int q32.1]) C hI (c_X9_timeCountedAs l E h0 (hkp j23 (rq_lt e24) hq25) e35) ml_X9_167 kv_X9_timeCountedAs (m_recv C hI h0.1 (ce_900 E _ _ _) rfl) rfl rfl ⟨Nat.le_of_ble_eq_true rfl, Nat.le_of_ble_eq_true rfl⟩ ⟨Nat.zero_le _, Nat.zero_le _⟩ rfl rfl hl.1 (Nat.le_of_ble_eq_true rfl) dX9_differ_111 (st1 := [.int q34.1, .int q32.1]) rfl (fun H locs hI => ?_)
              refine lv_isub hx hb dX9_differ_114 ?_
              obtain rfl := Option.some.inj hf
              exact mx_ret rfl (Nat.le_of_ble_eq_true rfl) (Nat.le_of_ble_eq_true rfl) (m_iret C hr hlk hI dX9_differ_115)
            · replace hf := it hf hc
              obtain rfl := Option.some.inj hf
              exact mx_throw (text := "the copy has no such task") C hst hI hXF hl.1 (by decide +kernel) (by decide) xg_ia xn_ia xk_ia xo_ia dX9_differ_85 dX9_differ_88 dX9_differ_89 dX9_differ_92 dX9_differ_95 htb (Nat.le_of_ble_eq_true rfl) (Nat.le_of_ble_eq_true rfl) (Nat.le_of_ble_eq_true rfl) (Nat.le_of_ble_eq_true rfl) rfl rfl hlk (.inl ⟨rfl, rfl⟩)
      · replace hf := it hf hc
        obtain rfl := Option.some.inj hf
        exact mx_throw (text := "no such tape, what or task") C hst hI hXF hl.1 (by decide +kernel) (by decide) xg_ia xn_ia xk_ia xo_ia dX9_differ_25 dX9_differ_28 dX9_differ_29 dX9_differ_32 dX9_differ_35 htb (Nat.le_of_ble_eq_true rfl) (Nat.le_of_ble_eq_true rfl) (Nat.le_of_ble_eq_true rfl) (Nat.le_of_ble_eq_true rfl) rfl rfl hlk (.inl ⟨rfl, rfl⟩)
