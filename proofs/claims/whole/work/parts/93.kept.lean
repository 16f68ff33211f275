theorem kf_cf {μ : Mm} {x : Int32} {q : Int32 × Mm} (e : f_X9_copyFault μ x = some q) (d : Nat) : μ.1 600 d 3 = q.2.1 600 d 3 := (show sm μ q.2 600 d 3 from fr_X9_copyFault (by omega) e).1.symm
theorem dX9_back_0 : decode cX9_back 0 = .ok (.aload_n 0, 1) := by decide +kernel
theorem dX9_back_1 : decode cX9_back 1 = .ok (.iload_n 1, 1) := by decide +kernel
theorem dX9_back_2 : decode cX9_back 2 = .ok (.invokevirtual 370, 3) := by decide +kernel
theorem dX9_back_5 : decode cX9_back 5 = .ok (.istore_n 2, 1) := by decide +kernel
theorem dX9_back_6 : decode cX9_back 6 = .ok (.iload_n 2, 1) := by decide +kernel
theorem dX9_back_7 : decode cX9_back 7 = .ok (.ifCond .eq 5, 3) := by decide +kernel
theorem dX9_back_10 : decode cX9_back 10 = .ok (.iload_n 2, 1) := by decide +kernel
theorem dX9_back_11 : decode cX9_back 11 = .ok (.ireturn, 1) := by decide +kernel
theorem dX9_back_12 : decode cX9_back 12 = .ok (.aload_n 0, 1) := by decide +kernel
theorem dX9_back_13 : decode cX9_back 13 = .ok (.getfield 32, 3) := by decide +kernel
theorem dX9_back_16 : decode cX9_back 16 = .ok (.iload_n 1, 1) := by decide +kernel
theorem dX9_back_17 : decode cX9_back 17 = .ok (.aaload, 1) := by decide +kernel
theorem dX9_back_18 : decode cX9_back 18 = .ok (.getfield 373, 3) := by decide +kernel
theorem dX9_back_21 : decode cX9_back 21 = .ok (.astore_n 3, 1) := by decide +kernel
theorem dX9_back_22 : decode cX9_back 22 = .ok (.aload_n 3, 1) := by decide +kernel
theorem dX9_back_23 : decode cX9_back 23 = .ok (.ifnonnull 10, 3) := by decide +kernel
theorem dX9_back_26 : decode cX9_back 26 = .ok (.aload_n 0, 1) := by decide +kernel
theorem dX9_back_27 : decode cX9_back 27 = .ok (.bipush (-11), 2) := by decide +kernel
theorem dX9_back_29 : decode cX9_back 29 = .ok (.invokevirtual 360, 3) := by decide +kernel
theorem dX9_back_32 : decode cX9_back 32 = .ok (.ireturn, 1) := by decide +kernel
theorem dX9_back_33 : decode cX9_back 33 = .ok (.aload_n 0, 1) := by decide +kernel
theorem dX9_back_34 : decode cX9_back 34 = .ok (.getfield 12, 3) := by decide +kernel
theorem dX9_back_37 : decode cX9_back 37 = .ok (.aload_n 3, 1) := by decide +kernel
theorem dX9_back_38 : decode cX9_back 38 = .ok (.invokevirtual 376, 3) := by decide +kernel
theorem dX9_back_41 : decode cX9_back 41 = .ok (.aload_n 0, 1) := by decide +kernel
theorem dX9_back_42 : decode cX9_back 42 = .ok (.invokevirtual 82, 3) := by decide +kernel
theorem dX9_back_45 : decode cX9_back 45 = .ok (.aload_n 0, 1) := by decide +kernel
theorem dX9_back_46 : decode cX9_back 46 = .ok (.getfield 12, 3) := by decide +kernel
theorem dX9_back_49 : decode cX9_back 49 = .ok (.invokevirtual 92, 3) := by decide +kernel
theorem dX9_back_52 : decode cX9_back 52 = .ok (.ireturn, 1) := by decide +kernel
def f_X9_back (F : Nat) (μ : Mm) (p1 : Int32) : Option (Int32 × Mm) :=
 (f_X9_copyFault μ p1).bind fun q11 =>
 if q11.1 = 0 then
 (rq 6 p1).bind fun j13 =>
 if q11.2.1 600 j13 3 = 0 then
 (f_X9_refuse q11.2 (-11 : Int32)).bind fun q16 =>
 some (q16.1, q16.2)
 else
 (f_X7_become F q11.2 0 (j13 + 1)).bind fun q18 =>
 (f_X9_forgetLawsAndOthers q18).bind fun q20 =>
 (f_X7_allMarks F q20 0).bind fun q22 =>
 some (q22, q20)
 else
 some (q11.1, q11.2)
set_option maxHeartbeats 4000000 in
set_option maxRecDepth 100000 in
theorem c_X9_back (l : Launch) (E : En)  {F : Nat} {μ : Mm} {p1 : Int32} (h0 : l9 E 0) {z : Int32 × Mm} (hkp : ∀ d, d < 6 → ¬ μ.1 600 d 3 = 0 → l7 E (d + 1)) (hf : f_X9_back F μ p1 = some z) : Met l yX9_back (wt yX9_back cX9_back 4 (some .int)) { frames := 4, cells := 0, slots := 0, locals := 104 } (Pm E [.ref (ad E 900 0), .int p1] μ) (Qm E (some (.int z.1)) z.2) 0 0 (Ad E) := by
  unfold f_X9_back at hf
  refine met_of (cc := cX9_back) (nL := 4) (ret := (some .int)) (by decide) _ (Nat.le_of_ble_eq_true rfl) ?_
  intro p e s m below meth c C hr hlk hI ls hl
  have hx := C.1.1
  have hb := C.1.2.1
  have hl : lv_has ls 4 [(0, .ref (ad E 900 0)), (1, .int p1)] := hl
  refine lv_aload_n hx hb dX9_back_0 rfl (lv_at hl 0 rfl) ?_
  refine lv_iload_n hx hb dX9_back_1 rfl (lv_at hl 1 rfl) ?_
  obtain ⟨q11, e12, hf⟩ := ob hf
  refine mcV (As := [.int p1]) (rest := []) C hI (c_X9_copyFault l E h0 e12) ml_X9_370 kv_X9_copyFault (m_recv C hI h0.1 (ce_900 E _ _ _) rfl) rfl rfl ⟨Nat.le_of_ble_eq_true rfl, Nat.le_of_ble_eq_true rfl⟩ ⟨Nat.zero_le _, Nat.zero_le _⟩ rfl rfl hl.1 (Nat.le_of_ble_eq_true rfl) dX9_back_2 (st1 := [.int q11.1]) rfl (fun H locs hI => ?_)
  refine lv_istore_n hx hb dX9_back_5 rfl hl (by decide) rfl (fun ls hl => ?_)
  have hl : lv_has ls 4 [(2, .int q11.1), (0, .ref (ad E 900 0)), (1, .int p1)] := hl
  refine lv_iload_n hx hb dX9_back_6 rfl (lv_at hl 0 rfl) ?_
  refine lv_if_eq (tgt := 12) hx hb dX9_back_7 rfl (fun hc => ?_) (fun hc => ?_)
  · replace hf := it hf hc
    refine lv_aload_n hx hb dX9_back_12 rfl (lv_at hl 1 rfl) ?_
    refine gf_9_4 C hI h0.1 fl_X9_32 dX9_back_13 ?_
    refine lv_iload_n hx hb dX9_back_16 rfl (lv_at hl 2 rfl) ?_
    obtain ⟨j13, e14, hf⟩ := ob hf
    refine m_aald (t0 := 4) (Cn := RX6) (fun _ => rfl) C hI h0.2.2.2.1 (ce_905 E _ _ _) e14 dX9_back_17 ?_
    refine gf_6_3 C hI (l9_tape h0 e14).1 fl_X9_373 dX9_back_18 ?_
    by_cases hq15 : q11.2.1 600 j13 3 = 0
    · replace hf := it hf hq15
      rw [if_pos hq15]
      refine lv_astore_nN hx hb dX9_back_21 rfl hl (by decide) rfl (fun ls hl => ?_)
      have hl : lv_has ls 4 [(3, .null), (2, .int q11.1), (0, .ref (ad E 900 0)), (1, .int p1)] := hl
      refine lv_aload_nN hx hb dX9_back_22 rfl (lv_at hl 0 rfl) ?_
      refine lv_ifnonnullN hx hb dX9_back_23 ?_
      refine lv_aload_n hx hb dX9_back_26 rfl (lv_at hl 2 rfl) ?_
      refine lv_bipush (v := (-11 : Int32)) hx hb dX9_back_27 kb_m11 ?_
      obtain ⟨q16, e17, hf⟩ := ob hf
      refine mcV (As := [.int (-11 : Int32)]) (rest := []) C hI (c_X9_refuse l E h0 e17) ml_X9_360 kv_X9_refuse (m_recv C hI h0.1 (ce_900 E _ _ _) rfl) rfl rfl ⟨Nat.le_of_ble_eq_true rfl, Nat.le_of_ble_eq_true rfl⟩ ⟨Nat.zero_le _, Nat.zero_le _⟩ rfl rfl hl.1 (Nat.le_of_ble_eq_true rfl) dX9_back_29 (st1 := [.int q16.1]) rfl (fun H locs hI => ?_)
      obtain rfl := Option.some.inj hf
      exact m_iret C hr hlk hI dX9_back_32
    · replace hf := ie hf hq15
      rw [if_neg hq15]
      refine lv_astore_n hx hb dX9_back_21 rfl hl (by decide) rfl (fun ls hl => ?_)
      have hl : lv_has ls 4 [(3, .ref (ad E 700 (j13 + 1))), (2, .int q11.1), (0, .ref (ad E 900 0)), (1, .int p1)] := hl
      refine lv_aload_n hx hb dX9_back_22 rfl (lv_at hl 0 rfl) ?_
      refine lv_ifnonnull (tgt := 33) hx hb dX9_back_23 rfl ?_
      refine lv_aload_n hx hb dX9_back_33 rfl (lv_at hl 2 rfl) ?_
      refine gf_9_0 C hI h0.1 fl_X9_12 dX9_back_34 ?_
      refine lv_aload_n hx hb dX9_back_37 rfl (lv_at hl 0 rfl) ?_
      obtain ⟨q18, e19, hf⟩ := ob hf
      refine mcV (As := [.ref (ad E 700 (j13 + 1))]) (rest := []) C hI (c_X7_become l E h0.2.2.2.2.1 (hkp j13 (rq_lt e14) (fun z => hq15 ((kf_cf e12 _).symm.trans z))) e19) ml_X9_376 kv_X7_become (m_recv C hI h0.2.2.2.2.1.1 (ce_700 E _ _ _) rfl) rfl rfl ⟨Nat.le_of_ble_eq_true rfl, Nat.le_of_ble_eq_true rfl⟩ ⟨Nat.zero_le _, Nat.zero_le _⟩ rfl rfl hl.1 (Nat.le_of_ble_eq_true rfl) dX9_back_38 (st1 := []) rfl (fun H locs hI => ?_)
      refine lv_aload_n hx hb dX9_back_41 rfl (lv_at hl 2 rfl) ?_
      obtain ⟨q20, e21, hf⟩ := ob hf
      refine mcV (As := []) (rest := []) C hI (c_X9_forgetLawsAndOthers l E h0 e21) ml_X9_82 kv_X9_forgetLawsAndOthers (m_recv C hI h0.1 (ce_900 E _ _ _) rfl) rfl rfl ⟨Nat.le_of_ble_eq_true rfl, Nat.le_of_ble_eq_true rfl⟩ ⟨Nat.zero_le _, Nat.zero_le _⟩ rfl rfl hl.1 (Nat.le_of_ble_eq_true rfl) dX9_back_42 (st1 := []) rfl (fun H locs hI => ?_)
      refine lv_aload_n hx hb dX9_back_45 rfl (lv_at hl 2 rfl) ?_
      refine gf_9_0 C hI h0.1 fl_X9_12 dX9_back_46 ?_
      obtain ⟨q22, e23, hf⟩ := ob hf
      refine mcV (As := []) (rest := []) C hI (c_X7_allMarks l E h0.2.2.2.2.1 e23) ml_X9_92 kv_X7_allMarks (m_recv C hI h0.2.2.2.2.1.1 (ce_700 E _ _ _) rfl) rfl rfl ⟨Nat.le_of_ble_eq_true rfl, Nat.le_of_ble_eq_true rfl⟩ ⟨Nat.zero_le _, Nat.zero_le _⟩ rfl rfl hl.1 (Nat.le_of_ble_eq_true rfl) dX9_back_49 (st1 := [.int q22]) rfl (fun H locs hI => ?_)
      obtain rfl := Option.some.inj hf
      exact m_iret C hr hlk hI dX9_back_52
  · replace hf := ie hf hc
    refine lv_iload_n hx hb dX9_back_10 rfl (lv_at hl 0 rfl) ?_
    obtain rfl := Option.some.inj hf
    exact m_iret C hr hlk hI dX9_back_11

theorem dX9_toss_0 : decode cX9_toss 0 = .ok (.aload_n 0, 1) := by decide +kernel
theorem dX9_toss_1 : decode cX9_toss 1 = .ok (.iload_n 1, 1) := by decide +kernel
theorem dX9_toss_2 : decode cX9_toss 2 = .ok (.invokevirtual 370, 3) := by decide +kernel
theorem dX9_toss_5 : decode cX9_toss 5 = .ok (.istore_n 2, 1) := by decide +kernel
theorem dX9_toss_6 : decode cX9_toss 6 = .ok (.iload_n 2, 1) := by decide +kernel
theorem dX9_toss_7 : decode cX9_toss 7 = .ok (.ifCond .eq 5, 3) := by decide +kernel
theorem dX9_toss_10 : decode cX9_toss 10 = .ok (.iload_n 2, 1) := by decide +kernel
theorem dX9_toss_11 : decode cX9_toss 11 = .ok (.ireturn, 1) := by decide +kernel
theorem dX9_toss_12 : decode cX9_toss 12 = .ok (.aload_n 0, 1) := by decide +kernel
theorem dX9_toss_13 : decode cX9_toss 13 = .ok (.getfield 32, 3) := by decide +kernel
theorem dX9_toss_16 : decode cX9_toss 16 = .ok (.iload_n 1, 1) := by decide +kernel
theorem dX9_toss_17 : decode cX9_toss 17 = .ok (.aaload, 1) := by decide +kernel
theorem dX9_toss_18 : decode cX9_toss 18 = .ok (.getfield 373, 3) := by decide +kernel
theorem dX9_toss_21 : decode cX9_toss 21 = .ok (.astore_n 3, 1) := by decide +kernel
theorem dX9_toss_22 : decode cX9_toss 22 = .ok (.aload_n 3, 1) := by decide +kernel
theorem dX9_toss_23 : decode cX9_toss 23 = .ok (.ifnonnull 10, 3) := by decide +kernel
theorem dX9_toss_26 : decode cX9_toss 26 = .ok (.aload_n 0, 1) := by decide +kernel
theorem dX9_toss_27 : decode cX9_toss 27 = .ok (.bipush (-11), 2) := by decide +kernel
theorem dX9_toss_29 : decode cX9_toss 29 = .ok (.invokevirtual 360, 3) := by decide +kernel
theorem dX9_toss_32 : decode cX9_toss 32 = .ok (.ireturn, 1) := by decide +kernel
theorem dX9_toss_33 : decode cX9_toss 33 = .ok (.aload_n 3, 1) := by decide +kernel
theorem dX9_toss_34 : decode cX9_toss 34 = .ok (.invokevirtual 92, 3) := by decide +kernel
theorem dX9_toss_37 : decode cX9_toss 37 = .ok (.istore 4, 2) := by decide +kernel
theorem dX9_toss_39 : decode cX9_toss 39 = .ok (.iload 4, 2) := by decide +kernel
theorem dX9_toss_41 : decode cX9_toss 41 = .ok (.ifCond .ne 12, 3) := by decide +kernel
theorem dX9_toss_44 : decode cX9_toss 44 = .ok (.aload_n 0, 1) := by decide +kernel
theorem dX9_toss_45 : decode cX9_toss 45 = .ok (.bipush (-15), 2) := by decide +kernel
theorem dX9_toss_47 : decode cX9_toss 47 = .ok (.invokevirtual 360, 3) := by decide +kernel
theorem dX9_toss_50 : decode cX9_toss 50 = .ok (.goto 5, 3) := by decide +kernel
theorem dX9_toss_53 : decode cX9_toss 53 = .ok (.iload 4, 2) := by decide +kernel
theorem dX9_toss_55 : decode cX9_toss 55 = .ok (.ireturn, 1) := by decide +kernel
def f_X9_toss (F : Nat) (μ : Mm) (p1 : Int32) : Option (Int32 × Mm) :=
 (f_X9_copyFault μ p1).bind fun q9 =>
 if q9.1 = 0 then
 (rq 6 p1).bind fun j11 =>
 if q9.2.1 600 j11 3 = 0 then
 (f_X9_refuse q9.2 (-11 : Int32)).bind fun q14 =>
 some (q14.1, q14.2)
 else
 (f_X7_allMarks F q9.2 (j11 + 1)).bind fun q16 =>
 if q16 = 0 then
 (f_X9_refuse q9.2 (-15 : Int32)).bind fun q18 =>
 some (q18.1, q18.2)
 else
 some (q16, q9.2)
 else
 some (q9.1, q9.2)
set_option maxHeartbeats 4000000 in
set_option maxRecDepth 100000 in
theorem c_X9_toss (l : Launch) (E : En)  {F : Nat} {μ : Mm} {p1 : Int32} (h0 : l9 E 0) {z : Int32 × Mm} (hkp : ∀ d, d < 6 → ¬ μ.1 600 d 3 = 0 → l7 E (d + 1)) (hf : f_X9_toss F μ p1 = some z) : Met l yX9_toss (wt yX9_toss cX9_toss 5 (some .int)) { frames := 2, cells := 0, slots := 0, locals := 42 } (Pm E [.ref (ad E 900 0), .int p1] μ) (Qm E (some (.int z.1)) z.2) 0 0 (Ad E) := by
  unfold f_X9_toss at hf
  refine met_of (cc := cX9_toss) (nL := 5) (ret := (some .int)) (by decide) _ (Nat.le_of_ble_eq_true rfl) ?_
  intro p e s m below meth c C hr hlk hI ls hl
  have hx := C.1.1
  have hb := C.1.2.1
  have hl : lv_has ls 5 [(0, .ref (ad E 900 0)), (1, .int p1)] := hl
  refine lv_aload_n hx hb dX9_toss_0 rfl (lv_at hl 0 rfl) ?_
  refine lv_iload_n hx hb dX9_toss_1 rfl (lv_at hl 1 rfl) ?_
  obtain ⟨q9, e10, hf⟩ := ob hf
  refine mcV (As := [.int p1]) (rest := []) C hI (c_X9_copyFault l E h0 e10) ml_X9_370 kv_X9_copyFault (m_recv C hI h0.1 (ce_900 E _ _ _) rfl) rfl rfl ⟨Nat.le_of_ble_eq_true rfl, Nat.le_of_ble_eq_true rfl⟩ ⟨Nat.zero_le _, Nat.zero_le _⟩ rfl rfl hl.1 (Nat.le_of_ble_eq_true rfl) dX9_toss_2 (st1 := [.int q9.1]) rfl (fun H locs hI => ?_)
  refine lv_istore_n hx hb dX9_toss_5 rfl hl (by decide) rfl (fun ls hl => ?_)
  have hl : lv_has ls 5 [(2, .int q9.1), (0, .ref (ad E 900 0)), (1, .int p1)] := hl
  refine lv_iload_n hx hb dX9_toss_6 rfl (lv_at hl 0 rfl) ?_
  refine lv_if_eq (tgt := 12) hx hb dX9_toss_7 rfl (fun hc => ?_) (fun hc => ?_)
  · replace hf := it hf hc
    refine lv_aload_n hx hb dX9_toss_12 rfl (lv_at hl 1 rfl) ?_
    refine gf_9_4 C hI h0.1 fl_X9_32 dX9_toss_13 ?_
    refine lv_iload_n hx hb dX9_toss_16 rfl (lv_at hl 2 rfl) ?_
    obtain ⟨j11, e12, hf⟩ := ob hf
    refine m_aald (t0 := 4) (Cn := RX6) (fun _ => rfl) C hI h0.2.2.2.1 (ce_905 E _ _ _) e12 dX9_toss_17 ?_
    refine gf_6_3 C hI (l9_tape h0 e12).1 fl_X9_373 dX9_toss_18 ?_
    by_cases hq13 : q9.2.1 600 j11 3 = 0
    · replace hf := it hf hq13
      rw [if_pos hq13]
      refine lv_astore_nN hx hb dX9_toss_21 rfl hl (by decide) rfl (fun ls hl => ?_)
      have hl : lv_has ls 5 [(3, .null), (2, .int q9.1), (0, .ref (ad E 900 0)), (1, .int p1)] := hl
      refine lv_aload_nN hx hb dX9_toss_22 rfl (lv_at hl 0 rfl) ?_
      refine lv_ifnonnullN hx hb dX9_toss_23 ?_
      refine lv_aload_n hx hb dX9_toss_26 rfl (lv_at hl 2 rfl) ?_
      refine lv_bipush (v := (-11 : Int32)) hx hb dX9_toss_27 kb_m11 ?_
      obtain ⟨q14, e15, hf⟩ := ob hf
      refine mcV (As := [.int (-11 : Int32)]) (rest := []) C hI (c_X9_refuse l E h0 e15) ml_X9_360 kv_X9_refuse (m_recv C hI h0.1 (ce_900 E _ _ _) rfl) rfl rfl ⟨Nat.le_of_ble_eq_true rfl, Nat.le_of_ble_eq_true rfl⟩ ⟨Nat.zero_le _, Nat.zero_le _⟩ rfl rfl hl.1 (Nat.le_of_ble_eq_true rfl) dX9_toss_29 (st1 := [.int q14.1]) rfl (fun H locs hI => ?_)
      obtain rfl := Option.some.inj hf
      exact m_iret C hr hlk hI dX9_toss_32
    · replace hf := ie hf hq13
      rw [if_neg hq13]
      refine lv_astore_n hx hb dX9_toss_21 rfl hl (by decide) rfl (fun ls hl => ?_)
      have hl : lv_has ls 5 [(3, .ref (ad E 700 (j11 + 1))), (2, .int q9.1), (0, .ref (ad E 900 0)), (1, .int p1)] := hl
      refine lv_aload_n hx hb dX9_toss_22 rfl (lv_at hl 0 rfl) ?_
      refine lv_ifnonnull (tgt := 33) hx hb dX9_toss_23 rfl ?_
      refine lv_aload_n hx hb dX9_toss_33 rfl (lv_at hl 0 rfl) ?_
      obtain ⟨q16, e17, hf⟩ := ob hf
      refine mcV (As := []) (rest := []) C hI (c_X7_allMarks l E (hkp j11 (rq_lt e12) (fun z => hq13 ((kf_cf e10 _).symm.trans z))) e17) ml_X9_92 kv_X7_allMarks (m_recv C hI (hkp j11 (rq_lt e12) (fun z => hq13 ((kf_cf e10 _).symm.trans z))).1 (ce_700 E _ _ _) rfl) rfl rfl ⟨Nat.le_of_ble_eq_true rfl, Nat.le_of_ble_eq_true rfl⟩ ⟨Nat.zero_le _, Nat.zero_le _⟩ rfl rfl hl.1 (Nat.le_of_ble_eq_true rfl) dX9_toss_34 (st1 := [.int q16]) rfl (fun H locs hI => ?_)
      refine lv_istore hx hb dX9_toss_37 hl (by decide) rfl (fun ls hl => ?_)
      have hl : lv_has ls 5 [(4, .int q16), (3, .ref (ad E 700 (j11 + 1))), (2, .int q9.1), (0, .ref (ad E 900 0)), (1, .int p1)] := hl
      refine lv_iload hx hb dX9_toss_39 (lv_at hl 0 rfl) ?_
      refine lv_if_ne (tgt := 53) hx hb dX9_toss_41 rfl (fun hc => ?_) (fun hc => ?_)
      · replace hf := ie hf hc
        refine lv_iload hx hb dX9_toss_53 (lv_at hl 0 rfl) ?_
        obtain rfl := Option.some.inj hf
        exact m_iret C hr hlk hI dX9_toss_55
      · replace hf := it hf hc
        refine lv_aload_n hx hb dX9_toss_44 rfl (lv_at hl 3 rfl) ?_
        refine lv_bipush (v := (-15 : Int32)) hx hb dX9_toss_45 kb_m15 ?_
        obtain ⟨q18, e19, hf⟩ := ob hf
        refine mcV (As := [.int (-15 : Int32)]) (rest := []) C hI (c_X9_refuse l E h0 e19) ml_X9_360 kv_X9_refuse (m_recv C hI h0.1 (ce_900 E _ _ _) rfl) rfl rfl ⟨Nat.le_of_ble_eq_true rfl, Nat.le_of_ble_eq_true rfl⟩ ⟨Nat.zero_le _, Nat.zero_le _⟩ rfl rfl hl.1 (Nat.le_of_ble_eq_true rfl) dX9_toss_47 (st1 := [.int q18.1]) rfl (fun H locs hI => ?_)
        refine lv_goto (tgt := 55) hx hb dX9_toss_50 rfl ?_
        obtain rfl := Option.some.inj hf
        exact m_iret C hr hlk hI dX9_toss_55
  · replace hf := ie hf hc
    refine lv_iload_n hx hb dX9_toss_10 rfl (lv_at hl 0 rfl) ?_
    obtain rfl := Option.some.inj hf
    exact m_iret C hr hlk hI dX9_toss_11
