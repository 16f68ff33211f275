theorem dX1_has_0 : decode cX1_has 0 = .ok (.iload_n 1, 1) := by decide +kernel
theorem dX1_has_1 : decode cX1_has 1 = .ok (.ifCond .lt 21, 3) := by decide +kernel
theorem dX1_has_4 : decode cX1_has 4 = .ok (.iload_n 1, 1) := by decide +kernel
theorem dX1_has_5 : decode cX1_has 5 = .ok (.aload_n 0, 1) := by decide +kernel
theorem dX1_has_6 : decode cX1_has 6 = .ok (.getfield 45, 3) := by decide +kernel
theorem dX1_has_9 : decode cX1_has 9 = .ok (.if_icmp .ge 13, 3) := by decide +kernel
theorem dX1_has_12 : decode cX1_has 12 = .ok (.iload_n 1, 1) := by decide +kernel
theorem dX1_has_13 : decode cX1_has 13 = .ok (.bipush 67, 2) := by decide +kernel
theorem dX1_has_15 : decode cX1_has 15 = .ok (.if_icmp .ge 7, 3) := by decide +kernel
theorem dX1_has_18 : decode cX1_has 18 = .ok (.iconst 1, 1) := by decide +kernel
theorem dX1_has_19 : decode cX1_has 19 = .ok (.goto 4, 3) := by decide +kernel
theorem dX1_has_22 : decode cX1_has 22 = .ok (.iconst 0, 1) := by decide +kernel
theorem dX1_has_23 : decode cX1_has 23 = .ok (.ireturn, 1) := by decide +kernel
def f_X1_has (μ : Mm) (p1 : Int32) : Option Int32 :=
 if p1 < 0 then
 some (0 : Int32)
 else
 if (μ.1 100 0 11) ≤ p1 then
 some (0 : Int32)
 else
 if (67 : Int32) ≤ p1 then
 some (0 : Int32)
 else
 some (1 : Int32)
set_option maxHeartbeats 4000000 in
set_option maxRecDepth 100000 in
theorem c_X1_has (l : Launch) (E : En) {μ : Mm} {p1 : Int32} (h0 : l1 E 0) {z : Int32} (hf : f_X1_has μ p1 = some z) : Met l yX1_has (wt yX1_has cX1_has 2 (some .boolean)) { frames := 0, cells := 0, slots := 0, locals := 0 } (Pm E [.ref (ad E 100 0), .int p1] μ) (Qm E (some (.int z)) μ) 0 0 (Ad E) := by
  unfold f_X1_has at hf
  refine met_of (cc := cX1_has) (nL := 2) (ret := (some .boolean)) (by decide) _ (Nat.le_of_ble_eq_true rfl) ?_
  intro p e s m below meth c C hr hlk hI ls hl
  have hx := C.1.1
  have hb := C.1.2.1
  have hl : lv_has ls 2 [(0, .ref (ad E 100 0)), (1, .int p1)] := hl
  refine lv_iload_n hx hb dX1_has_0 rfl (lv_at hl 1 rfl) ?_
  refine lv_if_lt (tgt := 22) hx hb dX1_has_1 rfl (fun hc => ?_) (fun hc => ?_)
  · replace hf := it hf hc
    refine lv_iconst (v := (0 : Int32)) hx hb dX1_has_22 kc_0 ?_
    obtain rfl := Option.some.inj hf
    exact m_zret C hr hlk hI (by decide) dX1_has_23
  · replace hf := ie hf hc
    refine lv_iload_n hx hb dX1_has_4 rfl (lv_at hl 1 rfl) ?_
    refine lv_aload_n hx hb dX1_has_5 rfl (lv_at hl 0 rfl) ?_
    refine gf_1_11 C hI h0.1 fl_X1_45 dX1_has_6 ?_
    refine lv_icmp_ge (tgt := 22) hx hb dX1_has_9 rfl (fun hc => ?_) (fun hc => ?_)
    · replace hf := it hf hc
      refine lv_iconst (v := (0 : Int32)) hx hb dX1_has_22 kc_0 ?_
      obtain rfl := Option.some.inj hf
      exact m_zret C hr hlk hI (by decide) dX1_has_23
    · replace hf := ie hf hc
      refine lv_iload_n hx hb dX1_has_12 rfl (lv_at hl 1 rfl) ?_
      refine lv_bipush (v := (67 : Int32)) hx hb dX1_has_13 kb_67 ?_
      refine lv_icmp_ge (tgt := 22) hx hb dX1_has_15 rfl (fun hc => ?_) (fun hc => ?_)
      · replace hf := it hf hc
        refine lv_iconst (v := (0 : Int32)) hx hb dX1_has_22 kc_0 ?_
        obtain rfl := Option.some.inj hf
        exact m_zret C hr hlk hI (by decide) dX1_has_23
      · replace hf := ie hf hc
        refine lv_iconst (v := (1 : Int32)) hx hb dX1_has_18 kc_1 ?_
        refine lv_goto (tgt := 23) hx hb dX1_has_19 rfl ?_
        obtain rfl := Option.some.inj hf
        exact m_zret C hr hlk hI (by decide) dX1_has_23

theorem dX1_isOf_0 : decode cX1_isOf 0 = .ok (.aload_n 0, 1) := by decide +kernel
theorem dX1_isOf_1 : decode cX1_isOf 1 = .ok (.iload_n 1, 1) := by decide +kernel
theorem dX1_isOf_2 : decode cX1_isOf 2 = .ok (.invokevirtual 98, 3) := by decide +kernel
theorem dX1_isOf_5 : decode cX1_isOf 5 = .ok (.ifCond .eq 17, 3) := by decide +kernel
theorem dX1_isOf_8 : decode cX1_isOf 8 = .ok (.aload_n 0, 1) := by decide +kernel
theorem dX1_isOf_9 : decode cX1_isOf 9 = .ok (.getfield 9, 3) := by decide +kernel
theorem dX1_isOf_12 : decode cX1_isOf 12 = .ok (.iload_n 1, 1) := by decide +kernel
theorem dX1_isOf_13 : decode cX1_isOf 13 = .ok (.iaload, 1) := by decide +kernel
theorem dX1_isOf_14 : decode cX1_isOf 14 = .ok (.iload_n 2, 1) := by decide +kernel
theorem dX1_isOf_15 : decode cX1_isOf 15 = .ok (.if_icmp .ne 7, 3) := by decide +kernel
theorem dX1_isOf_18 : decode cX1_isOf 18 = .ok (.iconst 1, 1) := by decide +kernel
theorem dX1_isOf_19 : decode cX1_isOf 19 = .ok (.goto 4, 3) := by decide +kernel
theorem dX1_isOf_22 : decode cX1_isOf 22 = .ok (.iconst 0, 1) := by decide +kernel
theorem dX1_isOf_23 : decode cX1_isOf 23 = .ok (.ireturn, 1) := by decide +kernel
def f_X1_isOf (μ : Mm) (p1 : Int32) (p2 : Int32) : Option Int32 :=
 (f_X1_has μ p1).bind fun q5 =>
 if q5 = 0 then
 some (0 : Int32)
 else
 (ra μ 101 0 67 p1).bind fun v7 =>
 if v7 = p2 then
 some (1 : Int32)
 else
 some (0 : Int32)
set_option maxHeartbeats 4000000 in
set_option maxRecDepth 100000 in
theorem c_X1_isOf (l : Launch) (E : En) {μ : Mm} {p1 : Int32} {p2 : Int32} (h0 : l1 E 0) {z : Int32} (hf : f_X1_isOf μ p1 p2 = some z) : Met l yX1_isOf (wt yX1_isOf cX1_isOf 3 (some .boolean)) { frames := 1, cells := 0, slots := 0, locals := 21 } (Pm E [.ref (ad E 100 0), .int p1, .int p2] μ) (Qm E (some (.int z)) μ) 0 0 (Ad E) := by
  unfold f_X1_isOf at hf
  refine met_of (cc := cX1_isOf) (nL := 3) (ret := (some .boolean)) (by decide) _ (Nat.le_of_ble_eq_true rfl) ?_
  intro p e s m below meth c C hr hlk hI ls hl
  have hx := C.1.1
  have hb := C.1.2.1
  have hl : lv_has ls 3 [(0, .ref (ad E 100 0)), (1, .int p1), (2, .int p2)] := hl
  refine lv_aload_n hx hb dX1_isOf_0 rfl (lv_at hl 0 rfl) ?_
  refine lv_iload_n hx hb dX1_isOf_1 rfl (lv_at hl 1 rfl) ?_
  obtain ⟨q5, e6, hf⟩ := ob hf
  refine mcV (As := [.int p1]) (rest := []) C hI (c_X1_has l E h0 e6) ml_X1_98 kv_X1_has (m_recv C hI h0.1 (ce_100 E _ _ _) rfl) rfl rfl ⟨Nat.le_of_ble_eq_true rfl, Nat.le_of_ble_eq_true rfl⟩ ⟨Nat.zero_le _, Nat.zero_le _⟩ rfl rfl hl.1 (Nat.le_of_ble_eq_true rfl) dX1_isOf_2 (st1 := [.int q5]) rfl (fun H locs hI => ?_)
  refine lv_if_eq (tgt := 22) hx hb dX1_isOf_5 rfl (fun hc => ?_) (fun hc => ?_)
  · replace hf := it hf hc
    refine lv_iconst (v := (0 : Int32)) hx hb dX1_isOf_22 kc_0 ?_
    obtain rfl := Option.some.inj hf
    exact m_zret C hr hlk hI (by decide) dX1_isOf_23
  · replace hf := ie hf hc
    refine lv_aload_n hx hb dX1_isOf_8 rfl (lv_at hl 0 rfl) ?_
    refine gf_1_0 C hI h0.1 fl_X1_9 dX1_isOf_9 ?_
    refine lv_iload_n hx hb dX1_isOf_12 rfl (lv_at hl 1 rfl) ?_
    obtain ⟨v7, e8, hf⟩ := ob hf
    refine m_iald C hI h0.2.1 (ce_101 E _ _ _) e8 dX1_isOf_13 ?_
    refine lv_iload_n hx hb dX1_isOf_14 rfl (lv_at hl 2 rfl) ?_
    refine lv_icmp_ne (tgt := 22) hx hb dX1_isOf_15 rfl (fun hc => ?_) (fun hc => ?_)
    · replace hf := ie hf hc
      refine lv_iconst (v := (0 : Int32)) hx hb dX1_isOf_22 kc_0 ?_
      obtain rfl := Option.some.inj hf
      exact m_zret C hr hlk hI (by decide) dX1_isOf_23
    · replace hf := it hf hc
      refine lv_iconst (v := (1 : Int32)) hx hb dX1_isOf_18 kc_1 ?_
      refine lv_goto (tgt := 23) hx hb dX1_isOf_19 rfl ?_
      obtain rfl := Option.some.inj hf
      exact m_zret C hr hlk hI (by decide) dX1_isOf_23

theorem dX1_manyOf_0 : decode cX1_manyOf 0 = .ok (.iconst 0, 1) := by decide +kernel
theorem dX1_manyOf_1 : decode cX1_manyOf 1 = .ok (.istore_n 2, 1) := by decide +kernel
theorem dX1_manyOf_2 : decode cX1_manyOf 2 = .ok (.iconst 0, 1) := by decide +kernel
theorem dX1_manyOf_3 : decode cX1_manyOf 3 = .ok (.istore_n 3, 1) := by decide +kernel
theorem dX1_manyOf_4 : decode cX1_manyOf 4 = .ok (.iload_n 3, 1) := by decide +kernel
theorem dX1_manyOf_5 : decode cX1_manyOf 5 = .ok (.aload_n 0, 1) := by decide +kernel
theorem dX1_manyOf_6 : decode cX1_manyOf 6 = .ok (.getfield 45, 3) := by decide +kernel
theorem dX1_manyOf_9 : decode cX1_manyOf 9 = .ok (.if_icmp .ge 26, 3) := by decide +kernel
theorem dX1_manyOf_12 : decode cX1_manyOf 12 = .ok (.iload_n 2, 1) := by decide +kernel
theorem dX1_manyOf_13 : decode cX1_manyOf 13 = .ok (.aload_n 0, 1) := by decide +kernel
theorem dX1_manyOf_14 : decode cX1_manyOf 14 = .ok (.iload_n 3, 1) := by decide +kernel
theorem dX1_manyOf_15 : decode cX1_manyOf 15 = .ok (.iload_n 1, 1) := by decide +kernel
theorem dX1_manyOf_16 : decode cX1_manyOf 16 = .ok (.invokevirtual 102, 3) := by decide +kernel
theorem dX1_manyOf_19 : decode cX1_manyOf 19 = .ok (.ifCond .eq 7, 3) := by decide +kernel
theorem dX1_manyOf_22 : decode cX1_manyOf 22 = .ok (.iconst 1, 1) := by decide +kernel
theorem dX1_manyOf_23 : decode cX1_manyOf 23 = .ok (.goto 4, 3) := by decide +kernel
theorem dX1_manyOf_26 : decode cX1_manyOf 26 = .ok (.iconst 0, 1) := by decide +kernel
theorem dX1_manyOf_27 : decode cX1_manyOf 27 = .ok (.iadd, 1) := by decide +kernel
theorem dX1_manyOf_28 : decode cX1_manyOf 28 = .ok (.istore_n 2, 1) := by decide +kernel
theorem dX1_manyOf_29 : decode cX1_manyOf 29 = .ok (.iinc 3 1, 3) := by decide +kernel
theorem dX1_manyOf_32 : decode cX1_manyOf 32 = .ok (.goto (-28), 3) := by decide +kernel
theorem dX1_manyOf_35 : decode cX1_manyOf 35 = .ok (.iload_n 2, 1) := by decide +kernel
theorem dX1_manyOf_36 : decode cX1_manyOf 36 = .ok (.ireturn, 1) := by decide +kernel
def f_X1_manyOf_b4 (F : Nat) (μ : Mm) : Nat → Int32 → Int32 → Int32 → Option Int32
 | 0, _, _, _ => none
 | N + 1, a1, a2, a3 =>
 if (μ.1 100 0 11) ≤ a3 then
 some a2
 else
 (f_X1_isOf μ a3 a1).bind fun q3 =>
 if q3 = 0 then
 f_X1_manyOf_b4 F μ N a1 (a2 + (0 : Int32)) (a3 + (1 : Int32))
 else
 f_X1_manyOf_b4 F μ N a1 (a2 + (1 : Int32)) (a3 + (1 : Int32))
set_option maxHeartbeats 4000000 in
set_option maxRecDepth 100000 in
theorem cb_X1_manyOf_4 {l : Launch} {E : En} {p : Program} {e : Env} {s : State} {m : MethodId} {av : Array Value} {below : List Frame} {meth : Method} {c : Code} (C : Cx E p s m av c cX1_manyOf 4 yX1_manyOf.cls) (hr : meth.sig.returnType = (some .int)) (hlk : meth.locks = false) {F : Nat} {μ : Mm} {z : Int32} : ∀ (N : Nat) (a1 : Int32) (a2 : Int32) (a3 : Int32) (h_a0 : l1 E 0), f_X1_manyOf_b4 F μ N a1 a2 a3 = some z → ∀ {H : Heap} {locs : List Loc} {ls : Array Slot}, Iv E s μ H locs → lv_has ls 4 [(0, .ref (ad E 100 0)), (1, .int a1), (2, .int a2), (3, .int a3)] → W p l e { frames := 2, cells := 0, slots := 0, locals := 43 } s m av below meth c H locs 0 0 (MQ below (Qm E (some (.int z)) μ) av s 0 0 (Ad E)) (F0 m 4 ls []) := by
  have hx := C.1.1
  have hb := C.1.2.1
  intro N
  induction N with
  | zero => intro a1 a2 a3 h_a0 hf; cases hf
  | succ N ih =>
    intro a1 a2 a3 h_a0 hf H locs ls hI hl
    rw [f_X1_manyOf_b4] at hf
    refine lv_iload_n hx hb dX1_manyOf_4 rfl (lv_at hl 3 rfl) ?_
    refine lv_aload_n hx hb dX1_manyOf_5 rfl (lv_at hl 0 rfl) ?_
    refine gf_1_11 C hI h_a0.1 fl_X1_45 dX1_manyOf_6 ?_
    refine lv_icmp_ge (tgt := 35) hx hb dX1_manyOf_9 rfl (fun hc => ?_) (fun hc => ?_)
    · replace hf := it hf hc
      refine lv_iload_n hx hb dX1_manyOf_35 rfl (lv_at hl 2 rfl) ?_
      obtain rfl := Option.some.inj hf
      exact m_iret C hr hlk hI dX1_manyOf_36
    · replace hf := ie hf hc
      refine lv_iload_n hx hb dX1_manyOf_12 rfl (lv_at hl 2 rfl) ?_
      refine lv_aload_n hx hb dX1_manyOf_13 rfl (lv_at hl 0 rfl) ?_
      refine lv_iload_n hx hb dX1_manyOf_14 rfl (lv_at hl 3 rfl) ?_
      refine lv_iload_n hx hb dX1_manyOf_15 rfl (lv_at hl 1 rfl) ?_
      obtain ⟨q3, e4, hf⟩ := ob hf
      refine mcV (As := [.int a3, .int a1]) (rest := [.int a2]) C hI (c_X1_isOf l E h_a0 e4) ml_X1_102 kv_X1_isOf (m_recv C hI h_a0.1 (ce_100 E _ _ _) rfl) rfl rfl ⟨Nat.le_of_ble_eq_true rfl, Nat.le_of_ble_eq_true rfl⟩ ⟨Nat.zero_le _, Nat.zero_le _⟩ rfl rfl hl.1 (Nat.le_of_ble_eq_true rfl) dX1_manyOf_16 (st1 := [.int q3, .int a2]) rfl (fun H locs hI => ?_)
      refine lv_if_eq (tgt := 26) hx hb dX1_manyOf_19 rfl (fun hc => ?_) (fun hc => ?_)
      · replace hf := it hf hc
        refine lv_iconst (v := (0 : Int32)) hx hb dX1_manyOf_26 kc_0 ?_
        refine lv_iadd hx hb dX1_manyOf_27 ?_
        refine lv_istore_n hx hb dX1_manyOf_28 rfl hl (by decide) rfl (fun ls hl => ?_)
        have hl : lv_has ls 4 [(2, .int (a2 + (0 : Int32))), (0, .ref (ad E 100 0)), (1, .int a1), (3, .int a3)] := hl
        refine lv_iinc (v := a3 + (1 : Int32)) hx hb dX1_manyOf_29 hl (k := 3) rfl (ki_1 _) (by decide) rfl (fun ls hl => ?_)
        have hl : lv_has ls 4 [(3, .int (a3 + (1 : Int32))), (2, .int (a2 + (0 : Int32))), (0, .ref (ad E 100 0)), (1, .int a1)] := hl
        refine lv_goto (tgt := 4) hx hb dX1_manyOf_32 rfl ?_
        exact ih _ _ _ h_a0 hf hI (lv_sub hl [2, 3, 1, 0] rfl)
      · replace hf := ie hf hc
        refine lv_iconst (v := (1 : Int32)) hx hb dX1_manyOf_22 kc_1 ?_
        refine lv_goto (tgt := 27) hx hb dX1_manyOf_23 rfl ?_
        refine lv_iadd hx hb dX1_manyOf_27 ?_
        refine lv_istore_n hx hb dX1_manyOf_28 rfl hl (by decide) rfl (fun ls hl => ?_)
        have hl : lv_has ls 4 [(2, .int (a2 + (1 : Int32))), (0, .ref (ad E 100 0)), (1, .int a1), (3, .int a3)] := hl
        refine lv_iinc (v := a3 + (1 : Int32)) hx hb dX1_manyOf_29 hl (k := 3) rfl (ki_1 _) (by decide) rfl (fun ls hl => ?_)
        have hl : lv_has ls 4 [(3, .int (a3 + (1 : Int32))), (2, .int (a2 + (1 : Int32))), (0, .ref (ad E 100 0)), (1, .int a1)] := hl
        refine lv_goto (tgt := 4) hx hb dX1_manyOf_32 rfl ?_
        exact ih _ _ _ h_a0 hf hI (lv_sub hl [2, 3, 1, 0] rfl)
def f_X1_manyOf (F : Nat) (μ : Mm) (p1 : Int32) : Option Int32 :=
 f_X1_manyOf_b4 F μ F p1 (0 : Int32) (0 : Int32)
set_option maxHeartbeats 4000000 in
set_option maxRecDepth 100000 in
theorem c_X1_manyOf (l : Launch) (E : En) {F : Nat} {μ : Mm} {p1 : Int32} (h0 : l1 E 0) {z : Int32} (hf : f_X1_manyOf F μ p1 = some z) : Met l yX1_manyOf (wt yX1_manyOf cX1_manyOf 4 (some .int)) { frames := 2, cells := 0, slots := 0, locals := 43 } (Pm E [.ref (ad E 100 0), .int p1] μ) (Qm E (some (.int z)) μ) 0 0 (Ad E) := by
  unfold f_X1_manyOf at hf
  refine met_of (cc := cX1_manyOf) (nL := 4) (ret := (some .int)) (by decide) _ (Nat.le_of_ble_eq_true rfl) ?_
  intro p e s m below meth c C hr hlk hI ls hl
  have hx := C.1.1
  have hb := C.1.2.1
  have hl : lv_has ls 4 [(0, .ref (ad E 100 0)), (1, .int p1)] := hl
  refine lv_iconst (v := (0 : Int32)) hx hb dX1_manyOf_0 kc_0 ?_
  refine lv_istore_n hx hb dX1_manyOf_1 rfl hl (by decide) rfl (fun ls hl => ?_)
  have hl : lv_has ls 4 [(2, .int (0 : Int32)), (0, .ref (ad E 100 0)), (1, .int p1)] := hl
  refine lv_iconst (v := (0 : Int32)) hx hb dX1_manyOf_2 kc_0 ?_
  refine lv_istore_n hx hb dX1_manyOf_3 rfl hl (by decide) rfl (fun ls hl => ?_)
  have hl : lv_has ls 4 [(3, .int (0 : Int32)), (2, .int (0 : Int32)), (0, .ref (ad E 100 0)), (1, .int p1)] := hl
  exact cb_X1_manyOf_4 C hr hlk  _ _ _ _ h0 hf hI (lv_sub hl [2, 3, 1, 0] rfl)

theorem dX1_rowOf_0 : decode cX1_rowOf 0 = .ok (.iconst 0, 1) := by decide +kernel
theorem dX1_rowOf_1 : decode cX1_rowOf 1 = .ok (.istore_n 3, 1) := by decide +kernel
theorem dX1_rowOf_2 : decode cX1_rowOf 2 = .ok (.iconst 0, 1) := by decide +kernel
theorem dX1_rowOf_3 : decode cX1_rowOf 3 = .ok (.istore 4, 2) := by decide +kernel
theorem dX1_rowOf_5 : decode cX1_rowOf 5 = .ok (.iload 4, 2) := by decide +kernel
theorem dX1_rowOf_7 : decode cX1_rowOf 7 = .ok (.aload_n 0, 1) := by decide +kernel
theorem dX1_rowOf_8 : decode cX1_rowOf 8 = .ok (.getfield 45, 3) := by decide +kernel
theorem dX1_rowOf_11 : decode cX1_rowOf 11 = .ok (.if_icmp .ge 30, 3) := by decide +kernel
theorem dX1_rowOf_14 : decode cX1_rowOf 14 = .ok (.aload_n 0, 1) := by decide +kernel
theorem dX1_rowOf_15 : decode cX1_rowOf 15 = .ok (.iload 4, 2) := by decide +kernel
theorem dX1_rowOf_17 : decode cX1_rowOf 17 = .ok (.iload_n 1, 1) := by decide +kernel
theorem dX1_rowOf_18 : decode cX1_rowOf 18 = .ok (.invokevirtual 102, 3) := by decide +kernel
theorem dX1_rowOf_21 : decode cX1_rowOf 21 = .ok (.ifCond .eq 14, 3) := by decide +kernel
theorem dX1_rowOf_24 : decode cX1_rowOf 24 = .ok (.iload_n 3, 1) := by decide +kernel
theorem dX1_rowOf_25 : decode cX1_rowOf 25 = .ok (.iload_n 2, 1) := by decide +kernel
theorem dX1_rowOf_26 : decode cX1_rowOf 26 = .ok (.if_icmp .ne 6, 3) := by decide +kernel
theorem dX1_rowOf_29 : decode cX1_rowOf 29 = .ok (.iload 4, 2) := by decide +kernel
theorem dX1_rowOf_31 : decode cX1_rowOf 31 = .ok (.ireturn, 1) := by decide +kernel
theorem dX1_rowOf_32 : decode cX1_rowOf 32 = .ok (.iinc 3 1, 3) := by decide +kernel
theorem dX1_rowOf_35 : decode cX1_rowOf 35 = .ok (.iinc 4 1, 3) := by decide +kernel
theorem dX1_rowOf_38 : decode cX1_rowOf 38 = .ok (.goto (-33), 3) := by decide +kernel
theorem dX1_rowOf_41 : decode cX1_rowOf 41 = .ok (.iconst (-1), 1) := by decide +kernel
theorem dX1_rowOf_42 : decode cX1_rowOf 42 = .ok (.ireturn, 1) := by decide +kernel
def f_X1_rowOf_b5 (F : Nat) (μ : Mm) : Nat → Int32 → Int32 → Int32 → Int32 → Option Int32
 | 0, _, _, _, _ => none
 | N + 1, a1, a2, a3, a4 =>
 if (μ.1 100 0 11) ≤ a4 then
 some (-1 : Int32)
 else
 (f_X1_isOf μ a4 a1).bind fun q3 =>
 if q3 = 0 then
 f_X1_rowOf_b5 F μ N a1 a2 a3 (a4 + (1 : Int32))
 else
 if a3 = a2 then
 some a4
 else
 f_X1_rowOf_b5 F μ N a1 a2 (a3 + (1 : Int32)) (a4 + (1 : Int32))
set_option maxHeartbeats 4000000 in
set_option maxRecDepth 100000 in
theorem cb_X1_rowOf_5 {l : Launch} {E : En} {p : Program} {e : Env} {s : State} {m : MethodId} {av : Array Value} {below : List Frame} {meth : Method} {c : Code} (C : Cx E p s m av c cX1_rowOf 5 yX1_rowOf.cls) (hr : meth.sig.returnType = (some .int)) (hlk : meth.locks = false) {F : Nat} {μ : Mm} {z : Int32} : ∀ (N : Nat) (a1 : Int32) (a2 : Int32) (a3 : Int32) (a4 : Int32) (h_a0 : l1 E 0), f_X1_rowOf_b5 F μ N a1 a2 a3 a4 = some z → ∀ {H : Heap} {locs : List Loc} {ls : Array Slot}, Iv E s μ H locs → lv_has ls 5 [(0, .ref (ad E 100 0)), (1, .int a1), (2, .int a2), (3, .int a3), (4, .int a4)] → W p l e { frames := 2, cells := 0, slots := 0, locals := 43 } s m av below meth c H locs 0 0 (MQ below (Qm E (some (.int z)) μ) av s 0 0 (Ad E)) (F0 m 5 ls []) := by
  have hx := C.1.1
  have hb := C.1.2.1
  intro N
  induction N with
  | zero => intro a1 a2 a3 a4 h_a0 hf; cases hf
  | succ N ih =>
    intro a1 a2 a3 a4 h_a0 hf H locs ls hI hl
    rw [f_X1_rowOf_b5] at hf
    refine lv_iload hx hb dX1_rowOf_5 (lv_at hl 4 rfl) ?_
    refine lv_aload_n hx hb dX1_rowOf_7 rfl (lv_at hl 0 rfl) ?_
    refine gf_1_11 C hI h_a0.1 fl_X1_45 dX1_rowOf_8 ?_
    refine lv_icmp_ge (tgt := 41) hx hb dX1_rowOf_11 rfl (fun hc => ?_) (fun hc => ?_)
    · replace hf := it hf hc
      refine lv_iconst (v := (-1 : Int32)) hx hb dX1_rowOf_41 kc_m1 ?_
      obtain rfl := Option.some.inj hf
      exact m_iret C hr hlk hI dX1_rowOf_42
    · replace hf := ie hf hc
      refine lv_aload_n hx hb dX1_rowOf_14 rfl (lv_at hl 0 rfl) ?_
      refine lv_iload hx hb dX1_rowOf_15 (lv_at hl 4 rfl) ?_
      refine lv_iload_n hx hb dX1_rowOf_17 rfl (lv_at hl 1 rfl) ?_
      obtain ⟨q3, e4, hf⟩ := ob hf
      refine mcV (As := [.int a4, .int a1]) (rest := []) C hI (c_X1_isOf l E h_a0 e4) ml_X1_102 kv_X1_isOf (m_recv C hI h_a0.1 (ce_100 E _ _ _) rfl) rfl rfl ⟨Nat.le_of_ble_eq_true rfl, Nat.le_of_ble_eq_true rfl⟩ ⟨Nat.zero_le _, Nat.zero_le _⟩ rfl rfl hl.1 (Nat.le_of_ble_eq_true rfl) dX1_rowOf_18 (st1 := [.int q3]) rfl (fun H locs hI => ?_)
      refine lv_if_eq (tgt := 35) hx hb dX1_rowOf_21 rfl (fun hc => ?_) (fun hc => ?_)
      · replace hf := it hf hc
        refine lv_iinc (v := a4 + (1 : Int32)) hx hb dX1_rowOf_35 hl (k := 4) rfl (ki_1 _) (by decide) rfl (fun ls hl => ?_)
        have hl : lv_has ls 5 [(4, .int (a4 + (1 : Int32))), (0, .ref (ad E 100 0)), (1, .int a1), (2, .int a2), (3, .int a3)] := hl
        refine lv_goto (tgt := 5) hx hb dX1_rowOf_38 rfl ?_
        exact ih _ _ _ _ h_a0 hf hI (lv_sub hl [1, 2, 3, 4, 0] rfl)
      · replace hf := ie hf hc
        refine lv_iload_n hx hb dX1_rowOf_24 rfl (lv_at hl 3 rfl) ?_
        refine lv_iload_n hx hb dX1_rowOf_25 rfl (lv_at hl 2 rfl) ?_
        refine lv_icmp_ne (tgt := 32) hx hb dX1_rowOf_26 rfl (fun hc => ?_) (fun hc => ?_)
        · replace hf := ie hf hc
          refine lv_iinc (v := a3 + (1 : Int32)) hx hb dX1_rowOf_32 hl (k := 3) rfl (ki_1 _) (by decide) rfl (fun ls hl => ?_)
          have hl : lv_has ls 5 [(3, .int (a3 + (1 : Int32))), (0, .ref (ad E 100 0)), (1, .int a1), (2, .int a2), (4, .int a4)] := hl
          refine lv_iinc (v := a4 + (1 : Int32)) hx hb dX1_rowOf_35 hl (k := 4) rfl (ki_1 _) (by decide) rfl (fun ls hl => ?_)
          have hl : lv_has ls 5 [(4, .int (a4 + (1 : Int32))), (3, .int (a3 + (1 : Int32))), (0, .ref (ad E 100 0)), (1, .int a1), (2, .int a2)] := hl
          refine lv_goto (tgt := 5) hx hb dX1_rowOf_38 rfl ?_
          exact ih _ _ _ _ h_a0 hf hI (lv_sub hl [2, 3, 4, 1, 0] rfl)
        · replace hf := it hf hc
          refine lv_iload hx hb dX1_rowOf_29 (lv_at hl 4 rfl) ?_
          obtain rfl := Option.some.inj hf
          exact m_iret C hr hlk hI dX1_rowOf_31
def f_X1_rowOf (F : Nat) (μ : Mm) (p1 : Int32) (p2 : Int32) : Option Int32 :=
 f_X1_rowOf_b5 F μ F p1 p2 (0 : Int32) (0 : Int32)
set_option maxHeartbeats 4000000 in
set_option maxRecDepth 100000 in
theorem c_X1_rowOf (l : Launch) (E : En) {F : Nat} {μ : Mm} {p1 : Int32} {p2 : Int32} (h0 : l1 E 0) {z : Int32} (hf : f_X1_rowOf F μ p1 p2 = some z) : Met l yX1_rowOf (wt yX1_rowOf cX1_rowOf 5 (some .int)) { frames := 2, cells := 0, slots := 0, locals := 43 } (Pm E [.ref (ad E 100 0), .int p1, .int p2] μ) (Qm E (some (.int z)) μ) 0 0 (Ad E) := by
  unfold f_X1_rowOf at hf
  refine met_of (cc := cX1_rowOf) (nL := 5) (ret := (some .int)) (by decide) _ (Nat.le_of_ble_eq_true rfl) ?_
  intro p e s m below meth c C hr hlk hI ls hl
  have hx := C.1.1
  have hb := C.1.2.1
  have hl : lv_has ls 5 [(0, .ref (ad E 100 0)), (1, .int p1), (2, .int p2)] := hl
  refine lv_iconst (v := (0 : Int32)) hx hb dX1_rowOf_0 kc_0 ?_
  refine lv_istore_n hx hb dX1_rowOf_1 rfl hl (by decide) rfl (fun ls hl => ?_)
  have hl : lv_has ls 5 [(3, .int (0 : Int32)), (0, .ref (ad E 100 0)), (1, .int p1), (2, .int p2)] := hl
  refine lv_iconst (v := (0 : Int32)) hx hb dX1_rowOf_2 kc_0 ?_
  refine lv_istore hx hb dX1_rowOf_3 hl (by decide) rfl (fun ls hl => ?_)
  have hl : lv_has ls 5 [(4, .int (0 : Int32)), (3, .int (0 : Int32)), (0, .ref (ad E 100 0)), (1, .int p1), (2, .int p2)] := hl
  exact cb_X1_rowOf_5 C hr hlk  _ _ _ _ _ h0 hf hI (lv_sub hl [2, 3, 4, 1, 0] rfl)

theorem dX1_responseOf_0 : decode cX1_responseOf 0 = .ok (.aload_n 0, 1) := by decide +kernel
theorem dX1_responseOf_1 : decode cX1_responseOf 1 = .ok (.iload_n 1, 1) := by decide +kernel
theorem dX1_responseOf_2 : decode cX1_responseOf 2 = .ok (.invokevirtual 98, 3) := by decide +kernel
theorem dX1_responseOf_5 : decode cX1_responseOf 5 = .ok (.ifCond .eq 19, 3) := by decide +kernel
theorem dX1_responseOf_8 : decode cX1_responseOf 8 = .ok (.aload_n 0, 1) := by decide +kernel
theorem dX1_responseOf_9 : decode cX1_responseOf 9 = .ok (.getfield 21, 3) := by decide +kernel
theorem dX1_responseOf_12 : decode cX1_responseOf 12 = .ok (.iload_n 1, 1) := by decide +kernel
theorem dX1_responseOf_13 : decode cX1_responseOf 13 = .ok (.iaload, 1) := by decide +kernel
theorem dX1_responseOf_14 : decode cX1_responseOf 14 = .ok (.aload_n 0, 1) := by decide +kernel
theorem dX1_responseOf_15 : decode cX1_responseOf 15 = .ok (.getfield 18, 3) := by decide +kernel
theorem dX1_responseOf_18 : decode cX1_responseOf 18 = .ok (.iload_n 1, 1) := by decide +kernel
theorem dX1_responseOf_19 : decode cX1_responseOf 19 = .ok (.iaload, 1) := by decide +kernel
theorem dX1_responseOf_20 : decode cX1_responseOf 20 = .ok (.isub, 1) := by decide +kernel
theorem dX1_responseOf_21 : decode cX1_responseOf 21 = .ok (.goto 4, 3) := by decide +kernel
theorem dX1_responseOf_24 : decode cX1_responseOf 24 = .ok (.iconst 0, 1) := by decide +kernel
theorem dX1_responseOf_25 : decode cX1_responseOf 25 = .ok (.ireturn, 1) := by decide +kernel
def f_X1_responseOf (μ : Mm) (p1 : Int32) : Option Int32 :=
 (f_X1_has μ p1).bind fun q7 =>
 if q7 = 0 then
 some (0 : Int32)
 else
 (ra μ 104 0 67 p1).bind fun v9 =>
 (ra μ 103 0 67 p1).bind fun v11 =>
 some (v9 - v11)
set_option maxHeartbeats 4000000 in
set_option maxRecDepth 100000 in
theorem c_X1_responseOf (l : Launch) (E : En) {μ : Mm} {p1 : Int32} (h0 : l1 E 0) {z : Int32} (hf : f_X1_responseOf μ p1 = some z) : Met l yX1_responseOf (wt yX1_responseOf cX1_responseOf 2 (some .int)) { frames := 1, cells := 0, slots := 0, locals := 21 } (Pm E [.ref (ad E 100 0), .int p1] μ) (Qm E (some (.int z)) μ) 0 0 (Ad E) := by
  unfold f_X1_responseOf at hf
  refine met_of (cc := cX1_responseOf) (nL := 2) (ret := (some .int)) (by decide) _ (Nat.le_of_ble_eq_true rfl) ?_
  intro p e s m below meth c C hr hlk hI ls hl
  have hx := C.1.1
  have hb := C.1.2.1
  have hl : lv_has ls 2 [(0, .ref (ad E 100 0)), (1, .int p1)] := hl
  refine lv_aload_n hx hb dX1_responseOf_0 rfl (lv_at hl 0 rfl) ?_
  refine lv_iload_n hx hb dX1_responseOf_1 rfl (lv_at hl 1 rfl) ?_
  obtain ⟨q7, e8, hf⟩ := ob hf
  refine mcV (As := [.int p1]) (rest := []) C hI (c_X1_has l E h0 e8) ml_X1_98 kv_X1_has (m_recv C hI h0.1 (ce_100 E _ _ _) rfl) rfl rfl ⟨Nat.le_of_ble_eq_true rfl, Nat.le_of_ble_eq_true rfl⟩ ⟨Nat.zero_le _, Nat.zero_le _⟩ rfl rfl hl.1 (Nat.le_of_ble_eq_true rfl) dX1_responseOf_2 (st1 := [.int q7]) rfl (fun H locs hI => ?_)
  refine lv_if_eq (tgt := 24) hx hb dX1_responseOf_5 rfl (fun hc => ?_) (fun hc => ?_)
  · replace hf := it hf hc
    refine lv_iconst (v := (0 : Int32)) hx hb dX1_responseOf_24 kc_0 ?_
    obtain rfl := Option.some.inj hf
    exact m_iret C hr hlk hI dX1_responseOf_25
  · replace hf := ie hf hc
    refine lv_aload_n hx hb dX1_responseOf_8 rfl (lv_at hl 0 rfl) ?_
    refine gf_1_3 C hI h0.1 fl_X1_21 dX1_responseOf_9 ?_
    refine lv_iload_n hx hb dX1_responseOf_12 rfl (lv_at hl 1 rfl) ?_
    obtain ⟨v9, e10, hf⟩ := ob hf
    refine m_iald C hI h0.2.2.2.2.1 (ce_104 E _ _ _) e10 dX1_responseOf_13 ?_
    refine lv_aload_n hx hb dX1_responseOf_14 rfl (lv_at hl 0 rfl) ?_
    refine gf_1_2 C hI h0.1 fl_X1_18 dX1_responseOf_15 ?_
    refine lv_iload_n hx hb dX1_responseOf_18 rfl (lv_at hl 1 rfl) ?_
    obtain ⟨v11, e12, hf⟩ := ob hf
    refine m_iald C hI h0.2.2.2.1 (ce_103 E _ _ _) e12 dX1_responseOf_19 ?_
    refine lv_isub hx hb dX1_responseOf_20 ?_
    refine lv_goto (tgt := 25) hx hb dX1_responseOf_21 rfl ?_
    obtain rfl := Option.some.inj hf
    exact m_iret C hr hlk hI dX1_responseOf_25

theorem dX1_goesAhead_0 : decode cX1_goesAhead 0 = .ok (.aload_n 0, 1) := by decide +kernel
theorem dX1_goesAhead_1 : decode cX1_goesAhead 1 = .ok (.getfield 9, 3) := by decide +kernel
theorem dX1_goesAhead_4 : decode cX1_goesAhead 4 = .ok (.iload_n 1, 1) := by decide +kernel
theorem dX1_goesAhead_5 : decode cX1_goesAhead 5 = .ok (.iaload, 1) := by decide +kernel
theorem dX1_goesAhead_6 : decode cX1_goesAhead 6 = .ok (.istore 4, 2) := by decide +kernel
theorem dX1_goesAhead_8 : decode cX1_goesAhead 8 = .ok (.aload_n 0, 1) := by decide +kernel
theorem dX1_goesAhead_9 : decode cX1_goesAhead 9 = .ok (.getfield 9, 3) := by decide +kernel
theorem dX1_goesAhead_12 : decode cX1_goesAhead 12 = .ok (.iload_n 2, 1) := by decide +kernel
theorem dX1_goesAhead_13 : decode cX1_goesAhead 13 = .ok (.iaload, 1) := by decide +kernel
theorem dX1_goesAhead_14 : decode cX1_goesAhead 14 = .ok (.istore 5, 2) := by decide +kernel
theorem dX1_goesAhead_16 : decode cX1_goesAhead 16 = .ok (.iload 4, 2) := by decide +kernel
theorem dX1_goesAhead_18 : decode cX1_goesAhead 18 = .ok (.ifCond .lt 22, 3) := by decide +kernel
theorem dX1_goesAhead_21 : decode cX1_goesAhead 21 = .ok (.iload 4, 2) := by decide +kernel
theorem dX1_goesAhead_23 : decode cX1_goesAhead 23 = .ok (.aload_n 3, 1) := by decide +kernel
theorem dX1_goesAhead_24 : decode cX1_goesAhead 24 = .ok (.arraylength, 1) := by decide +kernel
theorem dX1_goesAhead_25 : decode cX1_goesAhead 25 = .ok (.if_icmp .ge 15, 3) := by decide +kernel
theorem dX1_goesAhead_28 : decode cX1_goesAhead 28 = .ok (.iload 5, 2) := by decide +kernel
theorem dX1_goesAhead_30 : decode cX1_goesAhead 30 = .ok (.ifCond .lt 10, 3) := by decide +kernel
theorem dX1_goesAhead_33 : decode cX1_goesAhead 33 = .ok (.iload 5, 2) := by decide +kernel
theorem dX1_goesAhead_35 : decode cX1_goesAhead 35 = .ok (.aload_n 3, 1) := by decide +kernel
theorem dX1_goesAhead_36 : decode cX1_goesAhead 36 = .ok (.arraylength, 1) := by decide +kernel
theorem dX1_goesAhead_37 : decode cX1_goesAhead 37 = .ok (.if_icmp .lt 5, 3) := by decide +kernel
theorem dX1_goesAhead_40 : decode cX1_goesAhead 40 = .ok (.iconst 0, 1) := by decide +kernel
theorem dX1_goesAhead_41 : decode cX1_goesAhead 41 = .ok (.ireturn, 1) := by decide +kernel
theorem dX1_goesAhead_42 : decode cX1_goesAhead 42 = .ok (.aload_n 3, 1) := by decide +kernel
theorem dX1_goesAhead_43 : decode cX1_goesAhead 43 = .ok (.iload 4, 2) := by decide +kernel
theorem dX1_goesAhead_45 : decode cX1_goesAhead 45 = .ok (.iaload, 1) := by decide +kernel
theorem dX1_goesAhead_46 : decode cX1_goesAhead 46 = .ok (.aload_n 3, 1) := by decide +kernel
theorem dX1_goesAhead_47 : decode cX1_goesAhead 47 = .ok (.iload 5, 2) := by decide +kernel
theorem dX1_goesAhead_49 : decode cX1_goesAhead 49 = .ok (.iaload, 1) := by decide +kernel
theorem dX1_goesAhead_50 : decode cX1_goesAhead 50 = .ok (.if_icmp .eq 20, 3) := by decide +kernel
theorem dX1_goesAhead_53 : decode cX1_goesAhead 53 = .ok (.aload_n 3, 1) := by decide +kernel
theorem dX1_goesAhead_54 : decode cX1_goesAhead 54 = .ok (.iload 4, 2) := by decide +kernel
theorem dX1_goesAhead_56 : decode cX1_goesAhead 56 = .ok (.iaload, 1) := by decide +kernel
theorem dX1_goesAhead_57 : decode cX1_goesAhead 57 = .ok (.aload_n 3, 1) := by decide +kernel
theorem dX1_goesAhead_58 : decode cX1_goesAhead 58 = .ok (.iload 5, 2) := by decide +kernel
theorem dX1_goesAhead_60 : decode cX1_goesAhead 60 = .ok (.iaload, 1) := by decide +kernel
theorem dX1_goesAhead_61 : decode cX1_goesAhead 61 = .ok (.if_icmp .le 7, 3) := by decide +kernel
theorem dX1_goesAhead_64 : decode cX1_goesAhead 64 = .ok (.iconst 1, 1) := by decide +kernel
theorem dX1_goesAhead_65 : decode cX1_goesAhead 65 = .ok (.goto 4, 3) := by decide +kernel
theorem dX1_goesAhead_68 : decode cX1_goesAhead 68 = .ok (.iconst 0, 1) := by decide +kernel
theorem dX1_goesAhead_69 : decode cX1_goesAhead 69 = .ok (.ireturn, 1) := by decide +kernel
theorem dX1_goesAhead_70 : decode cX1_goesAhead 70 = .ok (.iload 4, 2) := by decide +kernel
theorem dX1_goesAhead_72 : decode cX1_goesAhead 72 = .ok (.iload 5, 2) := by decide +kernel
theorem dX1_goesAhead_74 : decode cX1_goesAhead 74 = .ok (.if_icmp .eq 18, 3) := by decide +kernel
theorem dX1_goesAhead_77 : decode cX1_goesAhead 77 = .ok (.iload 4, 2) := by decide +kernel
theorem dX1_goesAhead_79 : decode cX1_goesAhead 79 = .ok (.iload 5, 2) := by decide +kernel
theorem dX1_goesAhead_81 : decode cX1_goesAhead 81 = .ok (.if_icmp .ge 7, 3) := by decide +kernel
theorem dX1_goesAhead_84 : decode cX1_goesAhead 84 = .ok (.iconst 1, 1) := by decide +kernel
theorem dX1_goesAhead_85 : decode cX1_goesAhead 85 = .ok (.goto 27, 3) := by decide +kernel
theorem dX1_goesAhead_88 : decode cX1_goesAhead 88 = .ok (.iconst 0, 1) := by decide +kernel
theorem dX1_goesAhead_89 : decode cX1_goesAhead 89 = .ok (.goto 23, 3) := by decide +kernel
theorem dX1_goesAhead_92 : decode cX1_goesAhead 92 = .ok (.aload_n 0, 1) := by decide +kernel
theorem dX1_goesAhead_93 : decode cX1_goesAhead 93 = .ok (.getfield 15, 3) := by decide +kernel
theorem dX1_goesAhead_96 : decode cX1_goesAhead 96 = .ok (.iload_n 1, 1) := by decide +kernel
theorem dX1_goesAhead_97 : decode cX1_goesAhead 97 = .ok (.iaload, 1) := by decide +kernel
theorem dX1_goesAhead_98 : decode cX1_goesAhead 98 = .ok (.aload_n 0, 1) := by decide +kernel
theorem dX1_goesAhead_99 : decode cX1_goesAhead 99 = .ok (.getfield 15, 3) := by decide +kernel
theorem dX1_goesAhead_102 : decode cX1_goesAhead 102 = .ok (.iload_n 2, 1) := by decide +kernel
theorem dX1_goesAhead_103 : decode cX1_goesAhead 103 = .ok (.iaload, 1) := by decide +kernel
theorem dX1_goesAhead_104 : decode cX1_goesAhead 104 = .ok (.if_icmp .ge 7, 3) := by decide +kernel
theorem dX1_goesAhead_107 : decode cX1_goesAhead 107 = .ok (.iconst 1, 1) := by decide +kernel
theorem dX1_goesAhead_108 : decode cX1_goesAhead 108 = .ok (.goto 4, 3) := by decide +kernel
theorem dX1_goesAhead_111 : decode cX1_goesAhead 111 = .ok (.iconst 0, 1) := by decide +kernel
theorem dX1_goesAhead_112 : decode cX1_goesAhead 112 = .ok (.ireturn, 1) := by decide +kernel
def f_X1_goesAhead (μ : Mm) (p1 : Int32) (p2 : Int32) : Option Int32 :=
 (ra μ 101 0 67 p1).bind fun v17 =>
 (ra μ 101 0 67 p2).bind fun v19 =>
 if v17 < 0 then
 some (0 : Int32)
 else
 if (8 : Int32) ≤ v17 then
 some (0 : Int32)
 else
 if v19 < 0 then
 some (0 : Int32)
 else
 if v19 < (8 : Int32) then
 (ra μ 903 0 8 v17).bind fun v21 =>
 (ra μ 903 0 8 v19).bind fun v23 =>
 if v21 = v23 then
 if v17 = v19 then
 (ra μ 102 0 67 p1).bind fun v25 =>
 (ra μ 102 0 67 p2).bind fun v27 =>
 if v27 ≤ v25 then
 some (0 : Int32)
 else
 some (1 : Int32)
 else
 if v19 ≤ v17 then
 some (0 : Int32)
 else
 some (1 : Int32)
 else
 (ra μ 903 0 8 v17).bind fun v29 =>
 (ra μ 903 0 8 v19).bind fun v31 =>
 if v29 ≤ v31 then
 some (0 : Int32)
 else
 some (1 : Int32)
 else
 some (0 : Int32)
set_option maxHeartbeats 4000000 in
set_option maxRecDepth 100000 in
theorem c_X1_goesAhead (l : Launch) (E : En) {μ : Mm} {p1 : Int32} {p2 : Int32} (h0 : l1 E 0) (h3 : (903, 0) ∈ eL E) {z : Int32} (hf : f_X1_goesAhead μ p1 p2 = some z) : Met l yX1_goesAhead (wt yX1_goesAhead cX1_goesAhead 6 (some .boolean)) { frames := 0, cells := 0, slots := 0, locals := 0 } (Pm E [.ref (ad E 100 0), .int p1, .int p2, .ref (ad E 903 0)] μ) (Qm E (some (.int z)) μ) 0 0 (Ad E) := by
  unfold f_X1_goesAhead at hf
  refine met_of (cc := cX1_goesAhead) (nL := 6) (ret := (some .boolean)) (by decide) _ (Nat.le_of_ble_eq_true rfl) ?_
  intro p e s m below meth c C hr hlk hI ls hl
  have hx := C.1.1
  have hb := C.1.2.1
  have hl : lv_has ls 6 [(0, .ref (ad E 100 0)), (1, .int p1), (2, .int p2), (3, .ref (ad E 903 0))] := hl
  refine lv_aload_n hx hb dX1_goesAhead_0 rfl (lv_at hl 0 rfl) ?_
  refine gf_1_0 C hI h0.1 fl_X1_9 dX1_goesAhead_1 ?_
  refine lv_iload_n hx hb dX1_goesAhead_4 rfl (lv_at hl 1 rfl) ?_
  obtain ⟨v17, e18, hf⟩ := ob hf
  refine m_iald C hI h0.2.1 (ce_101 E _ _ _) e18 dX1_goesAhead_5 ?_
  refine lv_istore hx hb dX1_goesAhead_6 hl (by decide) rfl (fun ls hl => ?_)
  have hl : lv_has ls 6 [(4, .int v17), (0, .ref (ad E 100 0)), (1, .int p1), (2, .int p2), (3, .ref (ad E 903 0))] := hl
  refine lv_aload_n hx hb dX1_goesAhead_8 rfl (lv_at hl 1 rfl) ?_
  refine gf_1_0 C hI h0.1 fl_X1_9 dX1_goesAhead_9 ?_
  refine lv_iload_n hx hb dX1_goesAhead_12 rfl (lv_at hl 3 rfl) ?_
  obtain ⟨v19, e20, hf⟩ := ob hf
  refine m_iald C hI h0.2.1 (ce_101 E _ _ _) e20 dX1_goesAhead_13 ?_
  refine lv_istore hx hb dX1_goesAhead_14 hl (by decide) rfl (fun ls hl => ?_)
  have hl : lv_has ls 6 [(5, .int v19), (4, .int v17), (0, .ref (ad E 100 0)), (1, .int p1), (2, .int p2), (3, .ref (ad E 903 0))] := hl
  refine lv_iload hx hb dX1_goesAhead_16 (lv_at hl 1 rfl) ?_
  refine lv_if_lt (tgt := 40) hx hb dX1_goesAhead_18 rfl (fun hc => ?_) (fun hc => ?_)
  · replace hf := it hf hc
    refine lv_iconst (v := (0 : Int32)) hx hb dX1_goesAhead_40 kc_0 ?_
    obtain rfl := Option.some.inj hf
    exact m_zret C hr hlk hI (by decide) dX1_goesAhead_41
  · replace hf := ie hf hc
    refine lv_iload hx hb dX1_goesAhead_21 (lv_at hl 1 rfl) ?_
    refine lv_aload_n hx hb dX1_goesAhead_23 rfl (lv_at hl 5 rfl) ?_
    refine m_alen (x := (8 : Int32)) (t0 := 0) (fun _ => rfl) C hI h3 (ce_903 E _ _ _) (by decide) dX1_goesAhead_24 ?_
    refine lv_icmp_ge (tgt := 40) hx hb dX1_goesAhead_25 rfl (fun hc => ?_) (fun hc => ?_)
    · replace hf := it hf hc
      refine lv_iconst (v := (0 : Int32)) hx hb dX1_goesAhead_40 kc_0 ?_
      obtain rfl := Option.some.inj hf
      exact m_zret C hr hlk hI (by decide) dX1_goesAhead_41
    · replace hf := ie hf hc
      refine lv_iload hx hb dX1_goesAhead_28 (lv_at hl 0 rfl) ?_
      refine lv_if_lt (tgt := 40) hx hb dX1_goesAhead_30 rfl (fun hc => ?_) (fun hc => ?_)
      · replace hf := it hf hc
        refine lv_iconst (v := (0 : Int32)) hx hb dX1_goesAhead_40 kc_0 ?_
        obtain rfl := Option.some.inj hf
        exact m_zret C hr hlk hI (by decide) dX1_goesAhead_41
      · replace hf := ie hf hc
        refine lv_iload hx hb dX1_goesAhead_33 (lv_at hl 0 rfl) ?_
        refine lv_aload_n hx hb dX1_goesAhead_35 rfl (lv_at hl 5 rfl) ?_
        refine m_alen (x := (8 : Int32)) (t0 := 0) (fun _ => rfl) C hI h3 (ce_903 E _ _ _) (by decide) dX1_goesAhead_36 ?_
        refine lv_icmp_lt (tgt := 42) hx hb dX1_goesAhead_37 rfl (fun hc => ?_) (fun hc => ?_)
        · replace hf := it hf hc
          refine lv_aload_n hx hb dX1_goesAhead_42 rfl (lv_at hl 5 rfl) ?_
          refine lv_iload hx hb dX1_goesAhead_43 (lv_at hl 1 rfl) ?_
          obtain ⟨v21, e22, hf⟩ := ob hf
          refine m_iald C hI h3 (ce_903 E _ _ _) e22 dX1_goesAhead_45 ?_
          refine lv_aload_n hx hb dX1_goesAhead_46 rfl (lv_at hl 5 rfl) ?_
          refine lv_iload hx hb dX1_goesAhead_47 (lv_at hl 0 rfl) ?_
          obtain ⟨v23, e24, hf⟩ := ob hf
          refine m_iald C hI h3 (ce_903 E _ _ _) e24 dX1_goesAhead_49 ?_
          refine lv_icmp_eq (tgt := 70) hx hb dX1_goesAhead_50 rfl (fun hc => ?_) (fun hc => ?_)
          · replace hf := it hf hc
            refine lv_iload hx hb dX1_goesAhead_70 (lv_at hl 1 rfl) ?_
            refine lv_iload hx hb dX1_goesAhead_72 (lv_at hl 0 rfl) ?_
            refine lv_icmp_eq (tgt := 92) hx hb dX1_goesAhead_74 rfl (fun hc => ?_) (fun hc => ?_)
            · replace hf := it hf hc
              refine lv_aload_n hx hb dX1_goesAhead_92 rfl (lv_at hl 2 rfl) ?_
              refine gf_1_1 C hI h0.1 fl_X1_15 dX1_goesAhead_93 ?_
              refine lv_iload_n hx hb dX1_goesAhead_96 rfl (lv_at hl 3 rfl) ?_
              obtain ⟨v25, e26, hf⟩ := ob hf
              refine m_iald C hI h0.2.2.1 (ce_102 E _ _ _) e26 dX1_goesAhead_97 ?_
              refine lv_aload_n hx hb dX1_goesAhead_98 rfl (lv_at hl 2 rfl) ?_
              refine gf_1_1 C hI h0.1 fl_X1_15 dX1_goesAhead_99 ?_
              refine lv_iload_n hx hb dX1_goesAhead_102 rfl (lv_at hl 4 rfl) ?_
              obtain ⟨v27, e28, hf⟩ := ob hf
              refine m_iald C hI h0.2.2.1 (ce_102 E _ _ _) e28 dX1_goesAhead_103 ?_
              refine lv_icmp_ge (tgt := 111) hx hb dX1_goesAhead_104 rfl (fun hc => ?_) (fun hc => ?_)
              · replace hf := it hf hc
                refine lv_iconst (v := (0 : Int32)) hx hb dX1_goesAhead_111 kc_0 ?_
                obtain rfl := Option.some.inj hf
                exact m_zret C hr hlk hI (by decide) dX1_goesAhead_112
              · replace hf := ie hf hc
                refine lv_iconst (v := (1 : Int32)) hx hb dX1_goesAhead_107 kc_1 ?_
                refine lv_goto (tgt := 112) hx hb dX1_goesAhead_108 rfl ?_
                obtain rfl := Option.some.inj hf
                exact m_zret C hr hlk hI (by decide) dX1_goesAhead_112
            · replace hf := ie hf hc
              refine lv_iload hx hb dX1_goesAhead_77 (lv_at hl 1 rfl) ?_
              refine lv_iload hx hb dX1_goesAhead_79 (lv_at hl 0 rfl) ?_
              refine lv_icmp_ge (tgt := 88) hx hb dX1_goesAhead_81 rfl (fun hc => ?_) (fun hc => ?_)
              · replace hf := it hf hc
                refine lv_iconst (v := (0 : Int32)) hx hb dX1_goesAhead_88 kc_0 ?_
                refine lv_goto (tgt := 112) hx hb dX1_goesAhead_89 rfl ?_
                obtain rfl := Option.some.inj hf
                exact m_zret C hr hlk hI (by decide) dX1_goesAhead_112
              · replace hf := ie hf hc
                refine lv_iconst (v := (1 : Int32)) hx hb dX1_goesAhead_84 kc_1 ?_
                refine lv_goto (tgt := 112) hx hb dX1_goesAhead_85 rfl ?_
                obtain rfl := Option.some.inj hf
                exact m_zret C hr hlk hI (by decide) dX1_goesAhead_112
          · replace hf := ie hf hc
            refine lv_aload_n hx hb dX1_goesAhead_53 rfl (lv_at hl 5 rfl) ?_
            refine lv_iload hx hb dX1_goesAhead_54 (lv_at hl 1 rfl) ?_
            obtain ⟨v29, e30, hf⟩ := ob hf
            refine m_iald C hI h3 (ce_903 E _ _ _) e30 dX1_goesAhead_56 ?_
            refine lv_aload_n hx hb dX1_goesAhead_57 rfl (lv_at hl 5 rfl) ?_
            refine lv_iload hx hb dX1_goesAhead_58 (lv_at hl 0 rfl) ?_
            obtain ⟨v31, e32, hf⟩ := ob hf
            refine m_iald C hI h3 (ce_903 E _ _ _) e32 dX1_goesAhead_60 ?_
            refine lv_icmp_le (tgt := 68) hx hb dX1_goesAhead_61 rfl (fun hc => ?_) (fun hc => ?_)
            · replace hf := it hf hc
              refine lv_iconst (v := (0 : Int32)) hx hb dX1_goesAhead_68 kc_0 ?_
              obtain rfl := Option.some.inj hf
              exact m_zret C hr hlk hI (by decide) dX1_goesAhead_69
            · replace hf := ie hf hc
              refine lv_iconst (v := (1 : Int32)) hx hb dX1_goesAhead_64 kc_1 ?_
              refine lv_goto (tgt := 69) hx hb dX1_goesAhead_65 rfl ?_
              obtain rfl := Option.some.inj hf
              exact m_zret C hr hlk hI (by decide) dX1_goesAhead_69
        · replace hf := ie hf hc
          refine lv_iconst (v := (0 : Int32)) hx hb dX1_goesAhead_40 kc_0 ?_
          obtain rfl := Option.some.inj hf
          exact m_zret C hr hlk hI (by decide) dX1_goesAhead_41

theorem dX1_firstReadyOf_0 : decode cX1_firstReadyOf 0 = .ok (.aload_n 0, 1) := by decide +kernel
theorem dX1_firstReadyOf_1 : decode cX1_firstReadyOf 1 = .ok (.iload_n 1, 1) := by decide +kernel
theorem dX1_firstReadyOf_2 : decode cX1_firstReadyOf 2 = .ok (.iconst 0, 1) := by decide +kernel
theorem dX1_firstReadyOf_3 : decode cX1_firstReadyOf 3 = .ok (.invokevirtual 142, 3) := by decide +kernel
theorem dX1_firstReadyOf_6 : decode cX1_firstReadyOf 6 = .ok (.istore_n 2, 1) := by decide +kernel
theorem dX1_firstReadyOf_7 : decode cX1_firstReadyOf 7 = .ok (.aload_n 0, 1) := by decide +kernel
theorem dX1_firstReadyOf_8 : decode cX1_firstReadyOf 8 = .ok (.iload_n 2, 1) := by decide +kernel
theorem dX1_firstReadyOf_9 : decode cX1_firstReadyOf 9 = .ok (.invokevirtual 98, 3) := by decide +kernel
theorem dX1_firstReadyOf_12 : decode cX1_firstReadyOf 12 = .ok (.ifCond .eq 12, 3) := by decide +kernel
theorem dX1_firstReadyOf_15 : decode cX1_firstReadyOf 15 = .ok (.aload_n 0, 1) := by decide +kernel
theorem dX1_firstReadyOf_16 : decode cX1_firstReadyOf 16 = .ok (.getfield 18, 3) := by decide +kernel
theorem dX1_firstReadyOf_19 : decode cX1_firstReadyOf 19 = .ok (.iload_n 2, 1) := by decide +kernel
theorem dX1_firstReadyOf_20 : decode cX1_firstReadyOf 20 = .ok (.iaload, 1) := by decide +kernel
theorem dX1_firstReadyOf_21 : decode cX1_firstReadyOf 21 = .ok (.goto 4, 3) := by decide +kernel
theorem dX1_firstReadyOf_24 : decode cX1_firstReadyOf 24 = .ok (.iconst 0, 1) := by decide +kernel
theorem dX1_firstReadyOf_25 : decode cX1_firstReadyOf 25 = .ok (.ireturn, 1) := by decide +kernel
def f_X1_firstReadyOf (F : Nat) (μ : Mm) (p1 : Int32) : Option Int32 :=
 (f_X1_rowOf F μ p1 (0 : Int32)).bind fun q7 =>
 (f_X1_has μ q7).bind fun q9 =>
 if q9 = 0 then
 some (0 : Int32)
 else
 (ra μ 103 0 67 q7).bind fun v11 =>
 some v11
set_option maxHeartbeats 4000000 in
set_option maxRecDepth 100000 in
theorem c_X1_firstReadyOf (l : Launch) (E : En) {F : Nat} {μ : Mm} {p1 : Int32} (h0 : l1 E 0) {z : Int32} (hf : f_X1_firstReadyOf F μ p1 = some z) : Met l yX1_firstReadyOf (wt yX1_firstReadyOf cX1_firstReadyOf 3 (some .int)) { frames := 3, cells := 0, slots := 0, locals := 67 } (Pm E [.ref (ad E 100 0), .int p1] μ) (Qm E (some (.int z)) μ) 0 0 (Ad E) := by
  unfold f_X1_firstReadyOf at hf
  refine met_of (cc := cX1_firstReadyOf) (nL := 3) (ret := (some .int)) (by decide) _ (Nat.le_of_ble_eq_true rfl) ?_
  intro p e s m below meth c C hr hlk hI ls hl
  have hx := C.1.1
  have hb := C.1.2.1
  have hl : lv_has ls 3 [(0, .ref (ad E 100 0)), (1, .int p1)] := hl
  refine lv_aload_n hx hb dX1_firstReadyOf_0 rfl (lv_at hl 0 rfl) ?_
  refine lv_iload_n hx hb dX1_firstReadyOf_1 rfl (lv_at hl 1 rfl) ?_
  refine lv_iconst (v := (0 : Int32)) hx hb dX1_firstReadyOf_2 kc_0 ?_
  obtain ⟨q7, e8, hf⟩ := ob hf
  refine mcV (As := [.int p1, .int (0 : Int32)]) (rest := []) C hI (c_X1_rowOf l E h0 e8) ml_X1_142 kv_X1_rowOf (m_recv C hI h0.1 (ce_100 E _ _ _) rfl) rfl rfl ⟨Nat.le_of_ble_eq_true rfl, Nat.le_of_ble_eq_true rfl⟩ ⟨Nat.zero_le _, Nat.zero_le _⟩ rfl rfl hl.1 (Nat.le_of_ble_eq_true rfl) dX1_firstReadyOf_3 (st1 := [.int q7]) rfl (fun H locs hI => ?_)
  refine lv_istore_n hx hb dX1_firstReadyOf_6 rfl hl (by decide) rfl (fun ls hl => ?_)
  have hl : lv_has ls 3 [(2, .int q7), (0, .ref (ad E 100 0)), (1, .int p1)] := hl
  refine lv_aload_n hx hb dX1_firstReadyOf_7 rfl (lv_at hl 1 rfl) ?_
  refine lv_iload_n hx hb dX1_firstReadyOf_8 rfl (lv_at hl 0 rfl) ?_
  obtain ⟨q9, e10, hf⟩ := ob hf
  refine mcV (As := [.int q7]) (rest := []) C hI (c_X1_has l E h0 e10) ml_X1_98 kv_X1_has (m_recv C hI h0.1 (ce_100 E _ _ _) rfl) rfl rfl ⟨Nat.le_of_ble_eq_true rfl, Nat.le_of_ble_eq_true rfl⟩ ⟨Nat.zero_le _, Nat.zero_le _⟩ rfl rfl hl.1 (Nat.le_of_ble_eq_true rfl) dX1_firstReadyOf_9 (st1 := [.int q9]) rfl (fun H locs hI => ?_)
  refine lv_if_eq (tgt := 24) hx hb dX1_firstReadyOf_12 rfl (fun hc => ?_) (fun hc => ?_)
  · replace hf := it hf hc
    refine lv_iconst (v := (0 : Int32)) hx hb dX1_firstReadyOf_24 kc_0 ?_
    obtain rfl := Option.some.inj hf
    exact m_iret C hr hlk hI dX1_firstReadyOf_25
  · replace hf := ie hf hc
    refine lv_aload_n hx hb dX1_firstReadyOf_15 rfl (lv_at hl 1 rfl) ?_
    refine gf_1_2 C hI h0.1 fl_X1_18 dX1_firstReadyOf_16 ?_
    refine lv_iload_n hx hb dX1_firstReadyOf_19 rfl (lv_at hl 0 rfl) ?_
    obtain ⟨v11, e12, hf⟩ := ob hf
    refine m_iald C hI h0.2.2.2.1 (ce_103 E _ _ _) e12 dX1_firstReadyOf_20 ?_
    refine lv_goto (tgt := 25) hx hb dX1_firstReadyOf_21 rfl ?_
    obtain rfl := Option.some.inj hf
    exact m_iret C hr hlk hI dX1_firstReadyOf_25

theorem dX1_lastReadyOf_0 : decode cX1_lastReadyOf 0 = .ok (.aload_n 0, 1) := by decide +kernel
theorem dX1_lastReadyOf_1 : decode cX1_lastReadyOf 1 = .ok (.iload_n 1, 1) := by decide +kernel
theorem dX1_lastReadyOf_2 : decode cX1_lastReadyOf 2 = .ok (.aload_n 0, 1) := by decide +kernel
theorem dX1_lastReadyOf_3 : decode cX1_lastReadyOf 3 = .ok (.iload_n 1, 1) := by decide +kernel
theorem dX1_lastReadyOf_4 : decode cX1_lastReadyOf 4 = .ok (.invokevirtual 145, 3) := by decide +kernel
theorem dX1_lastReadyOf_7 : decode cX1_lastReadyOf 7 = .ok (.iconst 1, 1) := by decide +kernel
theorem dX1_lastReadyOf_8 : decode cX1_lastReadyOf 8 = .ok (.isub, 1) := by decide +kernel
theorem dX1_lastReadyOf_9 : decode cX1_lastReadyOf 9 = .ok (.invokevirtual 142, 3) := by decide +kernel
theorem dX1_lastReadyOf_12 : decode cX1_lastReadyOf 12 = .ok (.istore_n 2, 1) := by decide +kernel
theorem dX1_lastReadyOf_13 : decode cX1_lastReadyOf 13 = .ok (.aload_n 0, 1) := by decide +kernel
theorem dX1_lastReadyOf_14 : decode cX1_lastReadyOf 14 = .ok (.iload_n 2, 1) := by decide +kernel
theorem dX1_lastReadyOf_15 : decode cX1_lastReadyOf 15 = .ok (.invokevirtual 98, 3) := by decide +kernel
theorem dX1_lastReadyOf_18 : decode cX1_lastReadyOf 18 = .ok (.ifCond .eq 12, 3) := by decide +kernel
theorem dX1_lastReadyOf_21 : decode cX1_lastReadyOf 21 = .ok (.aload_n 0, 1) := by decide +kernel
theorem dX1_lastReadyOf_22 : decode cX1_lastReadyOf 22 = .ok (.getfield 18, 3) := by decide +kernel
theorem dX1_lastReadyOf_25 : decode cX1_lastReadyOf 25 = .ok (.iload_n 2, 1) := by decide +kernel
theorem dX1_lastReadyOf_26 : decode cX1_lastReadyOf 26 = .ok (.iaload, 1) := by decide +kernel
theorem dX1_lastReadyOf_27 : decode cX1_lastReadyOf 27 = .ok (.goto 4, 3) := by decide +kernel
theorem dX1_lastReadyOf_30 : decode cX1_lastReadyOf 30 = .ok (.iconst 0, 1) := by decide +kernel
theorem dX1_lastReadyOf_31 : decode cX1_lastReadyOf 31 = .ok (.ireturn, 1) := by decide +kernel
def f_X1_lastReadyOf (F : Nat) (μ : Mm) (p1 : Int32) : Option Int32 :=
 (f_X1_manyOf F μ p1).bind fun q9 =>
 (f_X1_rowOf F μ p1 (q9 - (1 : Int32))).bind fun q11 =>
 (f_X1_has μ q11).bind fun q13 =>
 if q13 = 0 then
 some (0 : Int32)
 else
 (ra μ 103 0 67 q11).bind fun v15 =>
 some v15
set_option maxHeartbeats 4000000 in
set_option maxRecDepth 100000 in
theorem c_X1_lastReadyOf (l : Launch) (E : En) {F : Nat} {μ : Mm} {p1 : Int32} (h0 : l1 E 0) {z : Int32} (hf : f_X1_lastReadyOf F μ p1 = some z) : Met l yX1_lastReadyOf (wt yX1_lastReadyOf cX1_lastReadyOf 3 (some .int)) { frames := 3, cells := 0, slots := 0, locals := 67 } (Pm E [.ref (ad E 100 0), .int p1] μ) (Qm E (some (.int z)) μ) 0 0 (Ad E) := by
  unfold f_X1_lastReadyOf at hf
  refine met_of (cc := cX1_lastReadyOf) (nL := 3) (ret := (some .int)) (by decide) _ (Nat.le_of_ble_eq_true rfl) ?_
  intro p e s m below meth c C hr hlk hI ls hl
  have hx := C.1.1
  have hb := C.1.2.1
  have hl : lv_has ls 3 [(0, .ref (ad E 100 0)), (1, .int p1)] := hl
  refine lv_aload_n hx hb dX1_lastReadyOf_0 rfl (lv_at hl 0 rfl) ?_
  refine lv_iload_n hx hb dX1_lastReadyOf_1 rfl (lv_at hl 1 rfl) ?_
  refine lv_aload_n hx hb dX1_lastReadyOf_2 rfl (lv_at hl 0 rfl) ?_
  refine lv_iload_n hx hb dX1_lastReadyOf_3 rfl (lv_at hl 1 rfl) ?_
  obtain ⟨q9, e10, hf⟩ := ob hf
  refine mcV (As := [.int p1]) (rest := [.int p1, .ref (ad E 100 0)]) C hI (c_X1_manyOf l E h0 e10) ml_X1_145 kv_X1_manyOf (m_recv C hI h0.1 (ce_100 E _ _ _) rfl) rfl rfl ⟨Nat.le_of_ble_eq_true rfl, Nat.le_of_ble_eq_true rfl⟩ ⟨Nat.zero_le _, Nat.zero_le _⟩ rfl rfl hl.1 (Nat.le_of_ble_eq_true rfl) dX1_lastReadyOf_4 (st1 := [.int q9, .int p1, .ref (ad E 100 0)]) rfl (fun H locs hI => ?_)
  refine lv_iconst (v := (1 : Int32)) hx hb dX1_lastReadyOf_7 kc_1 ?_
  refine lv_isub hx hb dX1_lastReadyOf_8 ?_
  obtain ⟨q11, e12, hf⟩ := ob hf
  refine mcV (As := [.int p1, .int (q9 - (1 : Int32))]) (rest := []) C hI (c_X1_rowOf l E h0 e12) ml_X1_142 kv_X1_rowOf (m_recv C hI h0.1 (ce_100 E _ _ _) rfl) rfl rfl ⟨Nat.le_of_ble_eq_true rfl, Nat.le_of_ble_eq_true rfl⟩ ⟨Nat.zero_le _, Nat.zero_le _⟩ rfl rfl hl.1 (Nat.le_of_ble_eq_true rfl) dX1_lastReadyOf_9 (st1 := [.int q11]) rfl (fun H locs hI => ?_)
  refine lv_istore_n hx hb dX1_lastReadyOf_12 rfl hl (by decide) rfl (fun ls hl => ?_)
  have hl : lv_has ls 3 [(2, .int q11), (0, .ref (ad E 100 0)), (1, .int p1)] := hl
  refine lv_aload_n hx hb dX1_lastReadyOf_13 rfl (lv_at hl 1 rfl) ?_
  refine lv_iload_n hx hb dX1_lastReadyOf_14 rfl (lv_at hl 0 rfl) ?_
  obtain ⟨q13, e14, hf⟩ := ob hf
  refine mcV (As := [.int q11]) (rest := []) C hI (c_X1_has l E h0 e14) ml_X1_98 kv_X1_has (m_recv C hI h0.1 (ce_100 E _ _ _) rfl) rfl rfl ⟨Nat.le_of_ble_eq_true rfl, Nat.le_of_ble_eq_true rfl⟩ ⟨Nat.zero_le _, Nat.zero_le _⟩ rfl rfl hl.1 (Nat.le_of_ble_eq_true rfl) dX1_lastReadyOf_15 (st1 := [.int q13]) rfl (fun H locs hI => ?_)
  refine lv_if_eq (tgt := 30) hx hb dX1_lastReadyOf_18 rfl (fun hc => ?_) (fun hc => ?_)
  · replace hf := it hf hc
    refine lv_iconst (v := (0 : Int32)) hx hb dX1_lastReadyOf_30 kc_0 ?_
    obtain rfl := Option.some.inj hf
    exact m_iret C hr hlk hI dX1_lastReadyOf_31
  · replace hf := ie hf hc
    refine lv_aload_n hx hb dX1_lastReadyOf_21 rfl (lv_at hl 1 rfl) ?_
    refine gf_1_2 C hI h0.1 fl_X1_18 dX1_lastReadyOf_22 ?_
    refine lv_iload_n hx hb dX1_lastReadyOf_25 rfl (lv_at hl 0 rfl) ?_
    obtain ⟨v15, e16, hf⟩ := ob hf
    refine m_iald C hI h0.2.2.2.1 (ce_103 E _ _ _) e16 dX1_lastReadyOf_26 ?_
    refine lv_goto (tgt := 31) hx hb dX1_lastReadyOf_27 rfl ?_
    obtain rfl := Option.some.inj hf
    exact m_iret C hr hlk hI dX1_lastReadyOf_31

theorem dX1_jitterOf_0 : decode cX1_jitterOf 0 = .ok (.aload_n 0, 1) := by decide +kernel
theorem dX1_jitterOf_1 : decode cX1_jitterOf 1 = .ok (.iload_n 1, 1) := by decide +kernel
theorem dX1_jitterOf_2 : decode cX1_jitterOf 2 = .ok (.invokevirtual 132, 3) := by decide +kernel
theorem dX1_jitterOf_5 : decode cX1_jitterOf 5 = .ok (.i2l, 1) := by decide +kernel
theorem dX1_jitterOf_6 : decode cX1_jitterOf 6 = .ok (.lstore_n 3, 1) := by decide +kernel
theorem dX1_jitterOf_7 : decode cX1_jitterOf 7 = .ok (.lload_n 3, 1) := by decide +kernel
theorem dX1_jitterOf_8 : decode cX1_jitterOf 8 = .ok (.lstore 5, 2) := by decide +kernel
theorem dX1_jitterOf_10 : decode cX1_jitterOf 10 = .ok (.lconst 0, 1) := by decide +kernel
theorem dX1_jitterOf_11 : decode cX1_jitterOf 11 = .ok (.lstore 7, 2) := by decide +kernel
theorem dX1_jitterOf_13 : decode cX1_jitterOf 13 = .ok (.iconst 0, 1) := by decide +kernel
theorem dX1_jitterOf_14 : decode cX1_jitterOf 14 = .ok (.istore 9, 2) := by decide +kernel
theorem dX1_jitterOf_16 : decode cX1_jitterOf 16 = .ok (.iload 9, 2) := by decide +kernel
theorem dX1_jitterOf_18 : decode cX1_jitterOf 18 = .ok (.aload_n 0, 1) := by decide +kernel
theorem dX1_jitterOf_19 : decode cX1_jitterOf 19 = .ok (.getfield 45, 3) := by decide +kernel
theorem dX1_jitterOf_22 : decode cX1_jitterOf 22 = .ok (.if_icmp .ge 57, 3) := by decide +kernel
theorem dX1_jitterOf_25 : decode cX1_jitterOf 25 = .ok (.aload_n 0, 1) := by decide +kernel
theorem dX1_jitterOf_26 : decode cX1_jitterOf 26 = .ok (.iload 9, 2) := by decide +kernel
theorem dX1_jitterOf_28 : decode cX1_jitterOf 28 = .ok (.iload_n 1, 1) := by decide +kernel
theorem dX1_jitterOf_29 : decode cX1_jitterOf 29 = .ok (.invokevirtual 102, 3) := by decide +kernel
theorem dX1_jitterOf_32 : decode cX1_jitterOf 32 = .ok (.ifCond .eq 41, 3) := by decide +kernel
theorem dX1_jitterOf_35 : decode cX1_jitterOf 35 = .ok (.aload_n 0, 1) := by decide +kernel
theorem dX1_jitterOf_36 : decode cX1_jitterOf 36 = .ok (.getfield 18, 3) := by decide +kernel
theorem dX1_jitterOf_39 : decode cX1_jitterOf 39 = .ok (.iload 9, 2) := by decide +kernel
theorem dX1_jitterOf_41 : decode cX1_jitterOf 41 = .ok (.iaload, 1) := by decide +kernel
theorem dX1_jitterOf_42 : decode cX1_jitterOf 42 = .ok (.i2l, 1) := by decide +kernel
theorem dX1_jitterOf_43 : decode cX1_jitterOf 43 = .ok (.lload 7, 2) := by decide +kernel
theorem dX1_jitterOf_45 : decode cX1_jitterOf 45 = .ok (.iload_n 2, 1) := by decide +kernel
theorem dX1_jitterOf_46 : decode cX1_jitterOf 46 = .ok (.i2l, 1) := by decide +kernel
theorem dX1_jitterOf_47 : decode cX1_jitterOf 47 = .ok (.lmul, 1) := by decide +kernel
theorem dX1_jitterOf_48 : decode cX1_jitterOf 48 = .ok (.lsub, 1) := by decide +kernel
theorem dX1_jitterOf_49 : decode cX1_jitterOf 49 = .ok (.lstore 10, 2) := by decide +kernel
theorem dX1_jitterOf_51 : decode cX1_jitterOf 51 = .ok (.lload_n 3, 1) := by decide +kernel
theorem dX1_jitterOf_52 : decode cX1_jitterOf 52 = .ok (.lload 10, 2) := by decide +kernel
theorem dX1_jitterOf_54 : decode cX1_jitterOf 54 = .ok (.invokestatic 148, 3) := by decide +kernel
theorem dX1_jitterOf_57 : decode cX1_jitterOf 57 = .ok (.lstore_n 3, 1) := by decide +kernel
theorem dX1_jitterOf_58 : decode cX1_jitterOf 58 = .ok (.lload 5, 2) := by decide +kernel
theorem dX1_jitterOf_60 : decode cX1_jitterOf 60 = .ok (.lload 10, 2) := by decide +kernel
theorem dX1_jitterOf_62 : decode cX1_jitterOf 62 = .ok (.invokestatic 151, 3) := by decide +kernel
theorem dX1_jitterOf_65 : decode cX1_jitterOf 65 = .ok (.lstore 5, 2) := by decide +kernel
theorem dX1_jitterOf_67 : decode cX1_jitterOf 67 = .ok (.lload 7, 2) := by decide +kernel
theorem dX1_jitterOf_69 : decode cX1_jitterOf 69 = .ok (.lconst 1, 1) := by decide +kernel
theorem dX1_jitterOf_70 : decode cX1_jitterOf 70 = .ok (.ladd, 1) := by decide +kernel
theorem dX1_jitterOf_71 : decode cX1_jitterOf 71 = .ok (.lstore 7, 2) := by decide +kernel
theorem dX1_jitterOf_73 : decode cX1_jitterOf 73 = .ok (.iinc 9 1, 3) := by decide +kernel
theorem dX1_jitterOf_76 : decode cX1_jitterOf 76 = .ok (.goto (-60), 3) := by decide +kernel
theorem dX1_jitterOf_79 : decode cX1_jitterOf 79 = .ok (.lload 5, 2) := by decide +kernel
theorem dX1_jitterOf_81 : decode cX1_jitterOf 81 = .ok (.lload_n 3, 1) := by decide +kernel
theorem dX1_jitterOf_82 : decode cX1_jitterOf 82 = .ok (.lsub, 1) := by decide +kernel
theorem dX1_jitterOf_83 : decode cX1_jitterOf 83 = .ok (.lreturn, 1) := by decide +kernel
def f_X1_jitterOf_b16 (F : Nat) (μ : Mm) : Nat → Int32 → Int32 → Int64 → Int64 → Int64 → Int32 → Option Int64
 | 0, _, _, _, _, _, _ => none
 | N + 1, a1, a2, a3, a5, a7, a9 =>
 if (μ.1 100 0 11) ≤ a9 then
 some (a5 - a3)
 else
 (f_X1_isOf μ a9 a1).bind fun q7 =>
 if q7 = 0 then
 f_X1_jitterOf_b16 F μ N a1 a2 a3 a5 a7 (a9 + (1 : Int32))
 else
 (ra μ 103 0 67 a9).bind fun v9 =>
 f_X1_jitterOf_b16 F μ N a1 a2 (if (v9.toInt64 - (a7 * a2.toInt64)) < a3 then (v9.toInt64 - (a7 * a2.toInt64)) else a3) (if (v9.toInt64 - (a7 * a2.toInt64)) < a5 then a5 else (v9.toInt64 - (a7 * a2.toInt64))) (a7 + (1 : Int64)) (a9 + (1 : Int32))
set_option maxHeartbeats 4000000 in
set_option maxRecDepth 100000 in
theorem cb_X1_jitterOf_16 {l : Launch} {E : En} {p : Program} {e : Env} {s : State} {m : MethodId} {av : Array Value} {below : List Frame} {meth : Method} {c : Code} (C : Cx E p s m av c cX1_jitterOf 12 yX1_jitterOf.cls) (hr : meth.sig.returnType = (some .long)) (hlk : meth.locks = false) {F : Nat} {μ : Mm} {z : Int64} : ∀ (N : Nat) (a1 : Int32) (a2 : Int32) (a3 : Int64) (a5 : Int64) (a7 : Int64) (a9 : Int32) (h_a0 : l1 E 0), f_X1_jitterOf_b16 F μ N a1 a2 a3 a5 a7 a9 = some z → ∀ {H : Heap} {locs : List Loc} {ls : Array Slot}, Iv E s μ H locs → lv_has ls 12 [(0, .ref (ad E 100 0)), (1, .int a1), (2, .int a2), (3, .long a3), (5, .long a5), (7, .long a7), (9, .int a9)] → W p l e { frames := 4, cells := 0, slots := 0, locals := 89 } s m av below meth c H locs 0 0 (MQ below (Qm E (some (.long z)) μ) av s 0 0 (Ad E)) (F0 m 16 ls []) := by
  have hx := C.1.1
  have hb := C.1.2.1
  intro N
  induction N with
  | zero => intro a1 a2 a3 a5 a7 a9 h_a0 hf; cases hf
  | succ N ih =>
    intro a1 a2 a3 a5 a7 a9 h_a0 hf H locs ls hI hl
    rw [f_X1_jitterOf_b16] at hf
    refine lv_iload hx hb dX1_jitterOf_16 (lv_at hl 6 rfl) ?_
    refine lv_aload_n hx hb dX1_jitterOf_18 rfl (lv_at hl 0 rfl) ?_
    refine gf_1_11 C hI h_a0.1 fl_X1_45 dX1_jitterOf_19 ?_
    refine lv_icmp_ge (tgt := 79) hx hb dX1_jitterOf_22 rfl (fun hc => ?_) (fun hc => ?_)
    · replace hf := it hf hc
      refine lv_lload hx hb dX1_jitterOf_79 (lv_at hl 4 rfl) ?_
      refine lv_lload_n hx hb dX1_jitterOf_81 rfl (lv_at hl 3 rfl) ?_
      refine lv_lsub hx hb dX1_jitterOf_82 ?_
      obtain rfl := Option.some.inj hf
      exact m_lret C hr hlk hI dX1_jitterOf_83
    · replace hf := ie hf hc
      refine lv_aload_n hx hb dX1_jitterOf_25 rfl (lv_at hl 0 rfl) ?_
      refine lv_iload hx hb dX1_jitterOf_26 (lv_at hl 6 rfl) ?_
      refine lv_iload_n hx hb dX1_jitterOf_28 rfl (lv_at hl 1 rfl) ?_
      obtain ⟨q7, e8, hf⟩ := ob hf
      refine mcV (As := [.int a9, .int a1]) (rest := []) C hI (c_X1_isOf l E h_a0 e8) ml_X1_102 kv_X1_isOf (m_recv C hI h_a0.1 (ce_100 E _ _ _) rfl) rfl rfl ⟨Nat.le_of_ble_eq_true rfl, Nat.le_of_ble_eq_true rfl⟩ ⟨Nat.zero_le _, Nat.zero_le _⟩ rfl rfl hl.1 (Nat.le_of_ble_eq_true rfl) dX1_jitterOf_29 (st1 := [.int q7]) rfl (fun H locs hI => ?_)
      refine lv_if_eq (tgt := 73) hx hb dX1_jitterOf_32 rfl (fun hc => ?_) (fun hc => ?_)
      · replace hf := it hf hc
        refine lv_iinc (v := a9 + (1 : Int32)) hx hb dX1_jitterOf_73 hl (k := 6) rfl (ki_1 _) (by decide) rfl (fun ls hl => ?_)
        have hl : lv_has ls 12 [(9, .int (a9 + (1 : Int32))), (0, .ref (ad E 100 0)), (1, .int a1), (2, .int a2), (3, .long a3), (5, .long a5), (7, .long a7)] := hl
        refine lv_goto (tgt := 16) hx hb dX1_jitterOf_76 rfl ?_
        exact ih _ _ _ _ _ _ h_a0 hf hI (lv_sub hl [1, 2, 3, 4, 5, 6, 0] rfl)
      · replace hf := ie hf hc
        refine lv_aload_n hx hb dX1_jitterOf_35 rfl (lv_at hl 0 rfl) ?_
        refine gf_1_2 C hI h_a0.1 fl_X1_18 dX1_jitterOf_36 ?_
        refine lv_iload hx hb dX1_jitterOf_39 (lv_at hl 6 rfl) ?_
        obtain ⟨v9, e10, hf⟩ := ob hf
        refine m_iald C hI h_a0.2.2.2.1 (ce_103 E _ _ _) e10 dX1_jitterOf_41 ?_
        refine lv_i2l (v := v9.toInt64) hx hb dX1_jitterOf_42 rfl ?_
        refine lv_lload hx hb dX1_jitterOf_43 (lv_at hl 5 rfl) ?_
        refine lv_iload_n hx hb dX1_jitterOf_45 rfl (lv_at hl 2 rfl) ?_
        refine lv_i2l (v := a2.toInt64) hx hb dX1_jitterOf_46 rfl ?_
        refine lv_lmul hx hb dX1_jitterOf_47 ?_
        refine lv_lsub hx hb dX1_jitterOf_48 ?_
        refine lv_lstore hx hb dX1_jitterOf_49 hl (by decide) rfl (fun ls hl => ?_)
        have hl : lv_has ls 12 [(10, .long (v9.toInt64 - (a7 * a2.toInt64))), (0, .ref (ad E 100 0)), (1, .int a1), (2, .int a2), (3, .long a3), (5, .long a5), (7, .long a7), (9, .int a9)] := hl
        refine lv_lload_n hx hb dX1_jitterOf_51 rfl (lv_at hl 4 rfl) ?_
        refine lv_lload hx hb dX1_jitterOf_52 (lv_at hl 0 rfl) ?_
        refine mminL C hl.1 ml_X1_148 (Nat.le_of_ble_eq_true rfl) (Nat.le_of_ble_eq_true rfl) (Nat.zero_le _) (Nat.zero_le _) dX1_jitterOf_54 ?_
        refine lv_lstore_n hx hb dX1_jitterOf_57 rfl hl (by decide) rfl (fun ls hl => ?_)
        have hl : lv_has ls 12 [(3, .long (if (v9.toInt64 - (a7 * a2.toInt64)) < a3 then (v9.toInt64 - (a7 * a2.toInt64)) else a3)), (10, .long (v9.toInt64 - (a7 * a2.toInt64))), (0, .ref (ad E 100 0)), (1, .int a1), (2, .int a2), (5, .long a5), (7, .long a7), (9, .int a9)] := hl
        refine lv_lload hx hb dX1_jitterOf_58 (lv_at hl 5 rfl) ?_
        refine lv_lload hx hb dX1_jitterOf_60 (lv_at hl 1 rfl) ?_
        refine mmaxL C hl.1 ml_X1_151 (Nat.le_of_ble_eq_true rfl) (Nat.le_of_ble_eq_true rfl) (Nat.zero_le _) (Nat.zero_le _) dX1_jitterOf_62 ?_
        refine lv_lstore hx hb dX1_jitterOf_65 hl (by decide) rfl (fun ls hl => ?_)
        have hl : lv_has ls 12 [(5, .long (if (v9.toInt64 - (a7 * a2.toInt64)) < a5 then a5 else (v9.toInt64 - (a7 * a2.toInt64)))), (3, .long (if (v9.toInt64 - (a7 * a2.toInt64)) < a3 then (v9.toInt64 - (a7 * a2.toInt64)) else a3)), (10, .long (v9.toInt64 - (a7 * a2.toInt64))), (0, .ref (ad E 100 0)), (1, .int a1), (2, .int a2), (7, .long a7), (9, .int a9)] := hl
        refine lv_lload hx hb dX1_jitterOf_67 (lv_at hl 6 rfl) ?_
        refine lv_lconst (v := (1 : Int64)) hx hb dX1_jitterOf_69 kl_1 ?_
        refine lv_ladd hx hb dX1_jitterOf_70 ?_
        refine lv_lstore hx hb dX1_jitterOf_71 hl (by decide) rfl (fun ls hl => ?_)
        have hl : lv_has ls 12 [(7, .long (a7 + (1 : Int64))), (5, .long (if (v9.toInt64 - (a7 * a2.toInt64)) < a5 then a5 else (v9.toInt64 - (a7 * a2.toInt64)))), (3, .long (if (v9.toInt64 - (a7 * a2.toInt64)) < a3 then (v9.toInt64 - (a7 * a2.toInt64)) else a3)), (10, .long (v9.toInt64 - (a7 * a2.toInt64))), (0, .ref (ad E 100 0)), (1, .int a1), (2, .int a2), (9, .int a9)] := hl
        refine lv_iinc (v := a9 + (1 : Int32)) hx hb dX1_jitterOf_73 hl (k := 7) rfl (ki_1 _) (by decide) rfl (fun ls hl => ?_)
        have hl : lv_has ls 12 [(9, .int (a9 + (1 : Int32))), (7, .long (a7 + (1 : Int64))), (5, .long (if (v9.toInt64 - (a7 * a2.toInt64)) < a5 then a5 else (v9.toInt64 - (a7 * a2.toInt64)))), (3, .long (if (v9.toInt64 - (a7 * a2.toInt64)) < a3 then (v9.toInt64 - (a7 * a2.toInt64)) else a3)), (10, .long (v9.toInt64 - (a7 * a2.toInt64))), (0, .ref (ad E 100 0)), (1, .int a1), (2, .int a2)] := hl
        refine lv_goto (tgt := 16) hx hb dX1_jitterOf_76 rfl ?_
        exact ih _ _ _ _ _ _ h_a0 hf hI (lv_sub hl [5, 6, 7, 3, 2, 1, 0] rfl)
def f_X1_jitterOf (F : Nat) (μ : Mm) (p1 : Int32) (p2 : Int32) : Option Int64 :=
 (f_X1_firstReadyOf F μ p1).bind fun q11 =>
 f_X1_jitterOf_b16 F μ F p1 p2 q11.toInt64 q11.toInt64 (0 : Int64) (0 : Int32)
set_option maxHeartbeats 4000000 in
set_option maxRecDepth 100000 in
theorem c_X1_jitterOf (l : Launch) (E : En) {F : Nat} {μ : Mm} {p1 : Int32} {p2 : Int32} (h0 : l1 E 0) {z : Int64} (hf : f_X1_jitterOf F μ p1 p2 = some z) : Met l yX1_jitterOf (wt yX1_jitterOf cX1_jitterOf 12 (some .long)) { frames := 4, cells := 0, slots := 0, locals := 89 } (Pm E [.ref (ad E 100 0), .int p1, .int p2] μ) (Qm E (some (.long z)) μ) 0 0 (Ad E) := by
  unfold f_X1_jitterOf at hf
  refine met_of (cc := cX1_jitterOf) (nL := 12) (ret := (some .long)) (by decide) _ (Nat.le_of_ble_eq_true rfl) ?_
  intro p e s m below meth c C hr hlk hI ls hl
  have hx := C.1.1
  have hb := C.1.2.1
  have hl : lv_has ls 12 [(0, .ref (ad E 100 0)), (1, .int p1), (2, .int p2)] := hl
  refine lv_aload_n hx hb dX1_jitterOf_0 rfl (lv_at hl 0 rfl) ?_
  refine lv_iload_n hx hb dX1_jitterOf_1 rfl (lv_at hl 1 rfl) ?_
  obtain ⟨q11, e12, hf⟩ := ob hf
  refine mcV (As := [.int p1]) (rest := []) C hI (c_X1_firstReadyOf l E h0 e12) ml_X1_132 kv_X1_firstReadyOf (m_recv C hI h0.1 (ce_100 E _ _ _) rfl) rfl rfl ⟨Nat.le_of_ble_eq_true rfl, Nat.le_of_ble_eq_true rfl⟩ ⟨Nat.zero_le _, Nat.zero_le _⟩ rfl rfl hl.1 (Nat.le_of_ble_eq_true rfl) dX1_jitterOf_2 (st1 := [.int q11]) rfl (fun H locs hI => ?_)
  refine lv_i2l (v := q11.toInt64) hx hb dX1_jitterOf_5 rfl ?_
  refine lv_lstore_n hx hb dX1_jitterOf_6 rfl hl (by decide) rfl (fun ls hl => ?_)
  have hl : lv_has ls 12 [(3, .long q11.toInt64), (0, .ref (ad E 100 0)), (1, .int p1), (2, .int p2)] := hl
  refine lv_lload_n hx hb dX1_jitterOf_7 rfl (lv_at hl 0 rfl) ?_
  refine lv_lstore hx hb dX1_jitterOf_8 hl (by decide) rfl (fun ls hl => ?_)
  have hl : lv_has ls 12 [(5, .long q11.toInt64), (3, .long q11.toInt64), (0, .ref (ad E 100 0)), (1, .int p1), (2, .int p2)] := hl
  refine lv_lconst (v := (0 : Int64)) hx hb dX1_jitterOf_10 kl_0 ?_
  refine lv_lstore hx hb dX1_jitterOf_11 hl (by decide) rfl (fun ls hl => ?_)
  have hl : lv_has ls 12 [(7, .long (0 : Int64)), (5, .long q11.toInt64), (3, .long q11.toInt64), (0, .ref (ad E 100 0)), (1, .int p1), (2, .int p2)] := hl
  refine lv_iconst (v := (0 : Int32)) hx hb dX1_jitterOf_13 kc_0 ?_
  refine lv_istore hx hb dX1_jitterOf_14 hl (by decide) rfl (fun ls hl => ?_)
  have hl : lv_has ls 12 [(9, .int (0 : Int32)), (7, .long (0 : Int64)), (5, .long q11.toInt64), (3, .long q11.toInt64), (0, .ref (ad E 100 0)), (1, .int p1), (2, .int p2)] := hl
  exact cb_X1_jitterOf_16 C hr hlk  _ _ _ _ _ _ _ h0 hf hI (lv_sub hl [4, 5, 6, 3, 2, 1, 0] rfl)

theorem dX1_close_0 : decode cX1_close 0 = .ok (.iload_n 2, 1) := by decide +kernel
theorem dX1_close_1 : decode cX1_close 1 = .ok (.ifCond .lt 25, 3) := by decide +kernel
theorem dX1_close_4 : decode cX1_close 4 = .ok (.iload_n 2, 1) := by decide +kernel
theorem dX1_close_5 : decode cX1_close 5 = .ok (.bipush 8, 2) := by decide +kernel
theorem dX1_close_7 : decode cX1_close 7 = .ok (.if_icmp .ge 19, 3) := by decide +kernel
theorem dX1_close_10 : decode cX1_close 10 = .ok (.aload_n 0, 1) := by decide +kernel
theorem dX1_close_11 : decode cX1_close 11 = .ok (.getfield 45, 3) := by decide +kernel
theorem dX1_close_14 : decode cX1_close 14 = .ok (.ifCond .lt 12, 3) := by decide +kernel
theorem dX1_close_17 : decode cX1_close 17 = .ok (.aload_n 0, 1) := by decide +kernel
theorem dX1_close_18 : decode cX1_close 18 = .ok (.getfield 45, 3) := by decide +kernel
theorem dX1_close_21 : decode cX1_close 21 = .ok (.bipush 67, 2) := by decide +kernel
theorem dX1_close_23 : decode cX1_close 23 = .ok (.if_icmp .lt 4, 3) := by decide +kernel
theorem dX1_close_26 : decode cX1_close 26 = .ok (.return_, 1) := by decide +kernel
theorem dX1_close_27 : decode cX1_close 27 = .ok (.aload_n 0, 1) := by decide +kernel
theorem dX1_close_28 : decode cX1_close 28 = .ok (.getfield 9, 3) := by decide +kernel
theorem dX1_close_31 : decode cX1_close 31 = .ok (.aload_n 0, 1) := by decide +kernel
theorem dX1_close_32 : decode cX1_close 32 = .ok (.getfield 45, 3) := by decide +kernel
theorem dX1_close_35 : decode cX1_close 35 = .ok (.iload_n 2, 1) := by decide +kernel
theorem dX1_close_36 : decode cX1_close 36 = .ok (.iastore, 1) := by decide +kernel
theorem dX1_close_37 : decode cX1_close 37 = .ok (.aload_n 0, 1) := by decide +kernel
theorem dX1_close_38 : decode cX1_close 38 = .ok (.getfield 15, 3) := by decide +kernel
theorem dX1_close_41 : decode cX1_close 41 = .ok (.aload_n 0, 1) := by decide +kernel
theorem dX1_close_42 : decode cX1_close 42 = .ok (.getfield 45, 3) := by decide +kernel
theorem dX1_close_45 : decode cX1_close 45 = .ok (.aload_n 0, 1) := by decide +kernel
theorem dX1_close_46 : decode cX1_close 46 = .ok (.getfield 36, 3) := by decide +kernel
theorem dX1_close_49 : decode cX1_close 49 = .ok (.iload_n 2, 1) := by decide +kernel
theorem dX1_close_50 : decode cX1_close 50 = .ok (.iaload, 1) := by decide +kernel
theorem dX1_close_51 : decode cX1_close 51 = .ok (.iastore, 1) := by decide +kernel
theorem dX1_close_52 : decode cX1_close 52 = .ok (.aload_n 0, 1) := by decide +kernel
theorem dX1_close_53 : decode cX1_close 53 = .ok (.getfield 18, 3) := by decide +kernel
theorem dX1_close_56 : decode cX1_close 56 = .ok (.aload_n 0, 1) := by decide +kernel
theorem dX1_close_57 : decode cX1_close 57 = .ok (.getfield 45, 3) := by decide +kernel
theorem dX1_close_60 : decode cX1_close 60 = .ok (.aload_n 1, 1) := by decide +kernel
theorem dX1_close_61 : decode cX1_close 61 = .ok (.aload_n 0, 1) := by decide +kernel
theorem dX1_close_62 : decode cX1_close 62 = .ok (.getfield 36, 3) := by decide +kernel
theorem dX1_close_65 : decode cX1_close 65 = .ok (.iload_n 2, 1) := by decide +kernel
theorem dX1_close_66 : decode cX1_close 66 = .ok (.iaload, 1) := by decide +kernel
theorem dX1_close_67 : decode cX1_close 67 = .ok (.invokevirtual 89, 3) := by decide +kernel
theorem dX1_close_70 : decode cX1_close 70 = .ok (.iastore, 1) := by decide +kernel
theorem dX1_close_71 : decode cX1_close 71 = .ok (.aload_n 0, 1) := by decide +kernel
theorem dX1_close_72 : decode cX1_close 72 = .ok (.getfield 21, 3) := by decide +kernel
theorem dX1_close_75 : decode cX1_close 75 = .ok (.aload_n 0, 1) := by decide +kernel
theorem dX1_close_76 : decode cX1_close 76 = .ok (.getfield 45, 3) := by decide +kernel
theorem dX1_close_79 : decode cX1_close 79 = .ok (.aload_n 1, 1) := by decide +kernel
theorem dX1_close_80 : decode cX1_close 80 = .ok (.iload_n 3, 1) := by decide +kernel
theorem dX1_close_81 : decode cX1_close 81 = .ok (.invokevirtual 89, 3) := by decide +kernel
theorem dX1_close_84 : decode cX1_close 84 = .ok (.iastore, 1) := by decide +kernel
theorem dX1_close_85 : decode cX1_close 85 = .ok (.aload_n 0, 1) := by decide +kernel
theorem dX1_close_86 : decode cX1_close 86 = .ok (.getfield 24, 3) := by decide +kernel
theorem dX1_close_89 : decode cX1_close 89 = .ok (.aload_n 0, 1) := by decide +kernel
theorem dX1_close_90 : decode cX1_close 90 = .ok (.getfield 45, 3) := by decide +kernel
theorem dX1_close_93 : decode cX1_close 93 = .ok (.aload_n 0, 1) := by decide +kernel
theorem dX1_close_94 : decode cX1_close 94 = .ok (.getfield 39, 3) := by decide +kernel
theorem dX1_close_97 : decode cX1_close 97 = .ok (.iload_n 2, 1) := by decide +kernel
theorem dX1_close_98 : decode cX1_close 98 = .ok (.iaload, 1) := by decide +kernel
theorem dX1_close_99 : decode cX1_close 99 = .ok (.iastore, 1) := by decide +kernel
theorem dX1_close_100 : decode cX1_close 100 = .ok (.aload_n 0, 1) := by decide +kernel
theorem dX1_close_101 : decode cX1_close 101 = .ok (.getfield 27, 3) := by decide +kernel
theorem dX1_close_104 : decode cX1_close 104 = .ok (.aload_n 0, 1) := by decide +kernel
theorem dX1_close_105 : decode cX1_close 105 = .ok (.getfield 45, 3) := by decide +kernel
theorem dX1_close_108 : decode cX1_close 108 = .ok (.aload_n 0, 1) := by decide +kernel
theorem dX1_close_109 : decode cX1_close 109 = .ok (.getfield 42, 3) := by decide +kernel
theorem dX1_close_112 : decode cX1_close 112 = .ok (.iload_n 2, 1) := by decide +kernel
theorem dX1_close_113 : decode cX1_close 113 = .ok (.iaload, 1) := by decide +kernel
theorem dX1_close_114 : decode cX1_close 114 = .ok (.iastore, 1) := by decide +kernel
theorem dX1_close_115 : decode cX1_close 115 = .ok (.aload_n 0, 1) := by decide +kernel
theorem dX1_close_116 : decode cX1_close 116 = .ok (.dup, 1) := by decide +kernel
theorem dX1_close_117 : decode cX1_close 117 = .ok (.getfield 45, 3) := by decide +kernel
theorem dX1_close_120 : decode cX1_close 120 = .ok (.iconst 1, 1) := by decide +kernel
theorem dX1_close_121 : decode cX1_close 121 = .ok (.iadd, 1) := by decide +kernel
theorem dX1_close_122 : decode cX1_close 122 = .ok (.putfield 45, 3) := by decide +kernel
theorem dX1_close_125 : decode cX1_close 125 = .ok (.aload_n 0, 1) := by decide +kernel
theorem dX1_close_126 : decode cX1_close 126 = .ok (.getfield 36, 3) := by decide +kernel
theorem dX1_close_129 : decode cX1_close 129 = .ok (.iload_n 2, 1) := by decide +kernel
theorem dX1_close_130 : decode cX1_close 130 = .ok (.iconst (-1), 1) := by decide +kernel
theorem dX1_close_131 : decode cX1_close 131 = .ok (.iastore, 1) := by decide +kernel
theorem dX1_close_132 : decode cX1_close 132 = .ok (.return_, 1) := by decide +kernel
def f_X1_close (μ : Mm) (n1 : Nat) (p2 : Int32) (p3 : Int32) : Option Mm :=
 if p2 < 0 then
 some μ
 else
 if (8 : Int32) ≤ p2 then
 some μ
 else
 if (μ.1 100 0 11) < 0 then
 some μ
 else
 if (μ.1 100 0 11) < (67 : Int32) then
 (wa μ 101 0 67 (μ.1 100 0 11) p2).bind fun m29 =>
 (ra m29 109 0 8 p2).bind fun v31 =>
 (wa m29 102 0 67 (m29.1 100 0 11) v31).bind fun m33 =>
 (ra m33 109 0 8 p2).bind fun v35 =>
 (f_X2_timeOf m33 n1 v35).bind fun q37 =>
 (wa m33 103 0 67 (m33.1 100 0 11) q37).bind fun m39 =>
 (f_X2_timeOf m39 n1 p3).bind fun q41 =>
 (wa m39 104 0 67 (m39.1 100 0 11) q41).bind fun m43 =>
 (ra m43 110 0 8 p2).bind fun v45 =>
 (wa m43 105 0 67 (m43.1 100 0 11) v45).bind fun m47 =>
 (ra m47 111 0 8 p2).bind fun v49 =>
 (wa m47 106 0 67 (m47.1 100 0 11) v49).bind fun m51 =>
 (wf m51 100 0 11 ((m51.1 100 0 11) + (1 : Int32))).bind fun m53 =>
 (wa m53 109 0 8 p2 (-1 : Int32)).bind fun m55 =>
 some m55
 else
 some μ
set_option maxHeartbeats 4000000 in
set_option maxRecDepth 100000 in
theorem c_X1_close (l : Launch) (E : En) {μ : Mm} {n1 : Nat} {p2 : Int32} {p3 : Int32} (h0 : l1 E 0) (h1 : l2 E n1) {z : Mm} (hf : f_X1_close μ n1 p2 p3 = some z) : Met l yX1_close (wt yX1_close cX1_close 4 (none : Option FieldType)) { frames := 2, cells := 0, slots := 0, locals := 42 } (Pm E [.ref (ad E 100 0), .ref (ad E 200 n1), .int p2, .int p3] μ) (Qm E none z) 0 0 (Ad E) := by
  unfold f_X1_close at hf
  refine met_of (cc := cX1_close) (nL := 4) (ret := (none : Option FieldType)) (by decide) _ (Nat.le_of_ble_eq_true rfl) ?_
  intro p e s m below meth c C hr hlk hI ls hl
  have hx := C.1.1
  have hb := C.1.2.1
  have hl : lv_has ls 4 [(0, .ref (ad E 100 0)), (1, .ref (ad E 200 n1)), (2, .int p2), (3, .int p3)] := hl
  refine lv_iload_n hx hb dX1_close_0 rfl (lv_at hl 2 rfl) ?_
  refine lv_if_lt (tgt := 26) hx hb dX1_close_1 rfl (fun hc => ?_) (fun hc => ?_)
  · replace hf := it hf hc
    obtain rfl := Option.some.inj hf
    exact m_vret C hr hlk hI dX1_close_26
  · replace hf := ie hf hc
    refine lv_iload_n hx hb dX1_close_4 rfl (lv_at hl 2 rfl) ?_
    refine lv_bipush (v := (8 : Int32)) hx hb dX1_close_5 kb_8 ?_
    refine lv_icmp_ge (tgt := 26) hx hb dX1_close_7 rfl (fun hc => ?_) (fun hc => ?_)
    · replace hf := it hf hc
      obtain rfl := Option.some.inj hf
      exact m_vret C hr hlk hI dX1_close_26
    · replace hf := ie hf hc
      refine lv_aload_n hx hb dX1_close_10 rfl (lv_at hl 0 rfl) ?_
      refine gf_1_11 C hI h0.1 fl_X1_45 dX1_close_11 ?_
      refine lv_if_lt (tgt := 26) hx hb dX1_close_14 rfl (fun hc => ?_) (fun hc => ?_)
      · replace hf := it hf hc
        obtain rfl := Option.some.inj hf
        exact m_vret C hr hlk hI dX1_close_26
      · replace hf := ie hf hc
        refine lv_aload_n hx hb dX1_close_17 rfl (lv_at hl 0 rfl) ?_
        refine gf_1_11 C hI h0.1 fl_X1_45 dX1_close_18 ?_
        refine lv_bipush (v := (67 : Int32)) hx hb dX1_close_21 kb_67 ?_
        refine lv_icmp_lt (tgt := 27) hx hb dX1_close_23 rfl (fun hc => ?_) (fun hc => ?_)
        · replace hf := it hf hc
          refine lv_aload_n hx hb dX1_close_27 rfl (lv_at hl 0 rfl) ?_
          refine gf_1_0 C hI h0.1 fl_X1_9 dX1_close_28 ?_
          refine lv_aload_n hx hb dX1_close_31 rfl (lv_at hl 0 rfl) ?_
          refine gf_1_11 C hI h0.1 fl_X1_45 dX1_close_32 ?_
          refine lv_iload_n hx hb dX1_close_35 rfl (lv_at hl 2 rfl) ?_
          obtain ⟨m29, e30, hf⟩ := ob hf
          refine m_iast C hI h0.2.1 (ce_101 E _) e30 dX1_close_36 (fun H locs hI => ?_)
          refine lv_aload_n hx hb dX1_close_37 rfl (lv_at hl 0 rfl) ?_
          refine gf_1_1 C hI h0.1 fl_X1_15 dX1_close_38 ?_
          refine lv_aload_n hx hb dX1_close_41 rfl (lv_at hl 0 rfl) ?_
          refine gf_1_11 C hI h0.1 fl_X1_45 dX1_close_42 ?_
          refine lv_aload_n hx hb dX1_close_45 rfl (lv_at hl 0 rfl) ?_
          refine gf_1_8 C hI h0.1 fl_X1_36 dX1_close_46 ?_
          refine lv_iload_n hx hb dX1_close_49 rfl (lv_at hl 2 rfl) ?_
          obtain ⟨v31, e32, hf⟩ := ob hf
          refine m_iald C hI h0.2.2.2.2.2.2.2.2.2.1 (ce_109 E _ _ _) e32 dX1_close_50 ?_
          obtain ⟨m33, e34, hf⟩ := ob hf
          refine m_iast C hI h0.2.2.1 (ce_102 E _) e34 dX1_close_51 (fun H locs hI => ?_)
          refine lv_aload_n hx hb dX1_close_52 rfl (lv_at hl 0 rfl) ?_
          refine gf_1_2 C hI h0.1 fl_X1_18 dX1_close_53 ?_
          refine lv_aload_n hx hb dX1_close_56 rfl (lv_at hl 0 rfl) ?_
          refine gf_1_11 C hI h0.1 fl_X1_45 dX1_close_57 ?_
          refine lv_aload_n hx hb dX1_close_60 rfl (lv_at hl 1 rfl) ?_
          refine lv_aload_n hx hb dX1_close_61 rfl (lv_at hl 0 rfl) ?_
          refine gf_1_8 C hI h0.1 fl_X1_36 dX1_close_62 ?_
          refine lv_iload_n hx hb dX1_close_65 rfl (lv_at hl 2 rfl) ?_
          obtain ⟨v35, e36, hf⟩ := ob hf
          refine m_iald C hI h0.2.2.2.2.2.2.2.2.2.1 (ce_109 E _ _ _) e36 dX1_close_66 ?_
          obtain ⟨q37, e38, hf⟩ := ob hf
          refine mcV (As := [.int v35]) (rest := [.int (m33.1 100 0 11), .ref (ad E 103 0)]) C hI (c_X2_timeOf l E h1 e38) ml_X1_89 kv_X2_timeOf (m_recv C hI h1.1 (ce_200 E _ _ _) rfl) rfl rfl ⟨Nat.le_of_ble_eq_true rfl, Nat.le_of_ble_eq_true rfl⟩ ⟨Nat.zero_le _, Nat.zero_le _⟩ rfl rfl hl.1 (Nat.le_of_ble_eq_true rfl) dX1_close_67 (st1 := [.int q37, .int (m33.1 100 0 11), .ref (ad E 103 0)]) rfl (fun H locs hI => ?_)
          obtain ⟨m39, e40, hf⟩ := ob hf
          refine m_iast C hI h0.2.2.2.1 (ce_103 E _) e40 dX1_close_70 (fun H locs hI => ?_)
          refine lv_aload_n hx hb dX1_close_71 rfl (lv_at hl 0 rfl) ?_
          refine gf_1_3 C hI h0.1 fl_X1_21 dX1_close_72 ?_
          refine lv_aload_n hx hb dX1_close_75 rfl (lv_at hl 0 rfl) ?_
          refine gf_1_11 C hI h0.1 fl_X1_45 dX1_close_76 ?_
          refine lv_aload_n hx hb dX1_close_79 rfl (lv_at hl 1 rfl) ?_
          refine lv_iload_n hx hb dX1_close_80 rfl (lv_at hl 3 rfl) ?_
          obtain ⟨q41, e42, hf⟩ := ob hf
          refine mcV (As := [.int p3]) (rest := [.int (m39.1 100 0 11), .ref (ad E 104 0)]) C hI (c_X2_timeOf l E h1 e42) ml_X1_89 kv_X2_timeOf (m_recv C hI h1.1 (ce_200 E _ _ _) rfl) rfl rfl ⟨Nat.le_of_ble_eq_true rfl, Nat.le_of_ble_eq_true rfl⟩ ⟨Nat.zero_le _, Nat.zero_le _⟩ rfl rfl hl.1 (Nat.le_of_ble_eq_true rfl) dX1_close_81 (st1 := [.int q41, .int (m39.1 100 0 11), .ref (ad E 104 0)]) rfl (fun H locs hI => ?_)
          obtain ⟨m43, e44, hf⟩ := ob hf
          refine m_iast C hI h0.2.2.2.2.1 (ce_104 E _) e44 dX1_close_84 (fun H locs hI => ?_)
          refine lv_aload_n hx hb dX1_close_85 rfl (lv_at hl 0 rfl) ?_
          refine gf_1_4 C hI h0.1 fl_X1_24 dX1_close_86 ?_
          refine lv_aload_n hx hb dX1_close_89 rfl (lv_at hl 0 rfl) ?_
          refine gf_1_11 C hI h0.1 fl_X1_45 dX1_close_90 ?_
          refine lv_aload_n hx hb dX1_close_93 rfl (lv_at hl 0 rfl) ?_
          refine gf_1_9 C hI h0.1 fl_X1_39 dX1_close_94 ?_
          refine lv_iload_n hx hb dX1_close_97 rfl (lv_at hl 2 rfl) ?_
          obtain ⟨v45, e46, hf⟩ := ob hf
          refine m_iald C hI h0.2.2.2.2.2.2.2.2.2.2.1 (ce_110 E _ _ _) e46 dX1_close_98 ?_
          obtain ⟨m47, e48, hf⟩ := ob hf
          refine m_iast C hI h0.2.2.2.2.2.1 (ce_105 E _) e48 dX1_close_99 (fun H locs hI => ?_)
          refine lv_aload_n hx hb dX1_close_100 rfl (lv_at hl 0 rfl) ?_
          refine gf_1_5 C hI h0.1 fl_X1_27 dX1_close_101 ?_
          refine lv_aload_n hx hb dX1_close_104 rfl (lv_at hl 0 rfl) ?_
          refine gf_1_11 C hI h0.1 fl_X1_45 dX1_close_105 ?_
          refine lv_aload_n hx hb dX1_close_108 rfl (lv_at hl 0 rfl) ?_
          refine gf_1_10 C hI h0.1 fl_X1_42 dX1_close_109 ?_
          refine lv_iload_n hx hb dX1_close_112 rfl (lv_at hl 2 rfl) ?_
          obtain ⟨v49, e50, hf⟩ := ob hf
          refine m_iald C hI h0.2.2.2.2.2.2.2.2.2.2.2 (ce_111 E _ _ _) e50 dX1_close_113 ?_
          obtain ⟨m51, e52, hf⟩ := ob hf
          refine m_iast C hI h0.2.2.2.2.2.2.1 (ce_106 E _) e52 dX1_close_114 (fun H locs hI => ?_)
          refine lv_aload_n hx hb dX1_close_115 rfl (lv_at hl 0 rfl) ?_
          refine lv_dup hx hb dX1_close_116 rfl ?_
          refine gf_1_11 C hI h0.1 fl_X1_45 dX1_close_117 ?_
          refine lv_iconst (v := (1 : Int32)) hx hb dX1_close_120 kc_1 ?_
          refine lv_iadd hx hb dX1_close_121 ?_
          obtain ⟨m53, e54, hf⟩ := ob hf
          refine pf_1_11 C hI h0.1 fl_X1_45 e54 dX1_close_122 (fun H locs hI => ?_)
          refine lv_aload_n hx hb dX1_close_125 rfl (lv_at hl 0 rfl) ?_
          refine gf_1_8 C hI h0.1 fl_X1_36 dX1_close_126 ?_
          refine lv_iload_n hx hb dX1_close_129 rfl (lv_at hl 2 rfl) ?_
          refine lv_iconst (v := (-1 : Int32)) hx hb dX1_close_130 kc_m1 ?_
          obtain ⟨m55, e56, hf⟩ := ob hf
          refine m_iast C hI h0.2.2.2.2.2.2.2.2.2.1 (ce_109 E _) e56 dX1_close_131 (fun H locs hI => ?_)
          obtain rfl := Option.some.inj hf
          exact m_vret C hr hlk hI dX1_close_132
        · replace hf := ie hf hc
          obtain rfl := Option.some.inj hf
          exact m_vret C hr hlk hI dX1_close_26

theorem dX1_addStretch_0 : decode cX1_addStretch 0 = .ok (.iconst 0, 1) := by decide +kernel
theorem dX1_addStretch_1 : decode cX1_addStretch 1 = .ok (.istore_n 2, 1) := by decide +kernel
theorem dX1_addStretch_2 : decode cX1_addStretch 2 = .ok (.iload_n 2, 1) := by decide +kernel
theorem dX1_addStretch_3 : decode cX1_addStretch 3 = .ok (.bipush 8, 2) := by decide +kernel
theorem dX1_addStretch_5 : decode cX1_addStretch 5 = .ok (.if_icmp .ge 69, 3) := by decide +kernel
theorem dX1_addStretch_8 : decode cX1_addStretch 8 = .ok (.aload_n 0, 1) := by decide +kernel
theorem dX1_addStretch_9 : decode cX1_addStretch 9 = .ok (.getfield 36, 3) := by decide +kernel
theorem dX1_addStretch_12 : decode cX1_addStretch 12 = .ok (.iload_n 2, 1) := by decide +kernel
theorem dX1_addStretch_13 : decode cX1_addStretch 13 = .ok (.iaload, 1) := by decide +kernel
theorem dX1_addStretch_14 : decode cX1_addStretch 14 = .ok (.iconst (-1), 1) := by decide +kernel
theorem dX1_addStretch_15 : decode cX1_addStretch 15 = .ok (.if_icmp .eq 53, 3) := by decide +kernel
theorem dX1_addStretch_18 : decode cX1_addStretch 18 = .ok (.aload_n 1, 1) := by decide +kernel
theorem dX1_addStretch_19 : decode cX1_addStretch 19 = .ok (.iload_n 2, 1) := by decide +kernel
theorem dX1_addStretch_20 : decode cX1_addStretch 20 = .ok (.invokevirtual 92, 3) := by decide +kernel
theorem dX1_addStretch_23 : decode cX1_addStretch 23 = .ok (.istore_n 3, 1) := by decide +kernel
theorem dX1_addStretch_24 : decode cX1_addStretch 24 = .ok (.aload_n 0, 1) := by decide +kernel
theorem dX1_addStretch_25 : decode cX1_addStretch 25 = .ok (.getfield 39, 3) := by decide +kernel
theorem dX1_addStretch_28 : decode cX1_addStretch 28 = .ok (.iload_n 2, 1) := by decide +kernel
theorem dX1_addStretch_29 : decode cX1_addStretch 29 = .ok (.dup2, 1) := by decide +kernel
theorem dX1_addStretch_30 : decode cX1_addStretch 30 = .ok (.iaload, 1) := by decide +kernel
theorem dX1_addStretch_31 : decode cX1_addStretch 31 = .ok (.iload_n 3, 1) := by decide +kernel
theorem dX1_addStretch_32 : decode cX1_addStretch 32 = .ok (.iconst 2, 1) := by decide +kernel
theorem dX1_addStretch_33 : decode cX1_addStretch 33 = .ok (.if_icmp .ne 10, 3) := by decide +kernel
theorem dX1_addStretch_36 : decode cX1_addStretch 36 = .ok (.aload_n 1, 1) := by decide +kernel
theorem dX1_addStretch_37 : decode cX1_addStretch 37 = .ok (.getfield 95, 3) := by decide +kernel
theorem dX1_addStretch_40 : decode cX1_addStretch 40 = .ok (.goto 4, 3) := by decide +kernel
theorem dX1_addStretch_43 : decode cX1_addStretch 43 = .ok (.iconst 0, 1) := by decide +kernel
theorem dX1_addStretch_44 : decode cX1_addStretch 44 = .ok (.iadd, 1) := by decide +kernel
theorem dX1_addStretch_45 : decode cX1_addStretch 45 = .ok (.iastore, 1) := by decide +kernel
theorem dX1_addStretch_46 : decode cX1_addStretch 46 = .ok (.aload_n 0, 1) := by decide +kernel
theorem dX1_addStretch_47 : decode cX1_addStretch 47 = .ok (.getfield 42, 3) := by decide +kernel
theorem dX1_addStretch_50 : decode cX1_addStretch 50 = .ok (.iload_n 2, 1) := by decide +kernel
theorem dX1_addStretch_51 : decode cX1_addStretch 51 = .ok (.dup2, 1) := by decide +kernel
theorem dX1_addStretch_52 : decode cX1_addStretch 52 = .ok (.iaload, 1) := by decide +kernel
theorem dX1_addStretch_53 : decode cX1_addStretch 53 = .ok (.iload_n 3, 1) := by decide +kernel
theorem dX1_addStretch_54 : decode cX1_addStretch 54 = .ok (.iconst 3, 1) := by decide +kernel
theorem dX1_addStretch_55 : decode cX1_addStretch 55 = .ok (.if_icmp .ne 10, 3) := by decide +kernel
theorem dX1_addStretch_58 : decode cX1_addStretch 58 = .ok (.aload_n 1, 1) := by decide +kernel
theorem dX1_addStretch_59 : decode cX1_addStretch 59 = .ok (.getfield 95, 3) := by decide +kernel
theorem dX1_addStretch_62 : decode cX1_addStretch 62 = .ok (.goto 4, 3) := by decide +kernel
theorem dX1_addStretch_65 : decode cX1_addStretch 65 = .ok (.iconst 0, 1) := by decide +kernel
theorem dX1_addStretch_66 : decode cX1_addStretch 66 = .ok (.iadd, 1) := by decide +kernel
theorem dX1_addStretch_67 : decode cX1_addStretch 67 = .ok (.iastore, 1) := by decide +kernel
theorem dX1_addStretch_68 : decode cX1_addStretch 68 = .ok (.iinc 2 1, 3) := by decide +kernel
theorem dX1_addStretch_71 : decode cX1_addStretch 71 = .ok (.goto (-69), 3) := by decide +kernel
theorem dX1_addStretch_74 : decode cX1_addStretch 74 = .ok (.return_, 1) := by decide +kernel
def f_X1_addStretch_b44 (F : Nat) (K2 : Mm → Int32 → Option Mm) (μ : Mm) (a2 : Int32) (a3 : Int32) (s0 : Int32) (s1 : Int32) (s2 : Int32) : Option Mm :=
 (wa μ 110 0 8 s2 (s1 + s0)).bind fun m13 =>
 (ra m13 111 0 8 a2).bind fun v15 =>
 if a3 = (3 : Int32) then
 (wa m13 111 0 8 a2 (v15 + (m13.1 800 0 1))).bind fun m19 =>
 K2 m19 (a2 + (1 : Int32))
 else
 (wa m13 111 0 8 a2 (v15 + (0 : Int32))).bind fun m17 =>
 K2 m17 (a2 + (1 : Int32))
set_option maxHeartbeats 4000000 in
set_option maxRecDepth 100000 in
theorem cb_X1_addStretch_44 {l : Launch} {E : En} {p : Program} {e : Env} {s : State} {m : MethodId} {av : Array Value} {below : List Frame} {meth : Method} {c : Code} (C : Cx E p s m av c cX1_addStretch 4 yX1_addStretch.cls) (hr : meth.sig.returnType = (none : Option FieldType)) (hlk : meth.locks = false) {F : Nat} {K2 : Mm → Int32 → Option Mm} {z : Mm} (hK2 : ∀ (μ : Mm) (a2 : Int32) (h_a0 : l1 E 0) (h_a1 : l8 E 0), K2 μ a2 = some z → ∀ {H : Heap} {locs : List Loc} {ls : Array Slot}, Iv E s μ H locs → lv_has ls 4 [(0, .ref (ad E 100 0)), (1, .ref (ad E 800 0)), (2, .int a2)] → W p l e { frames := 2, cells := 0, slots := 0, locals := 43 } s m av below meth c H locs 0 0 (MQ below (Qm E none z) av s 0 0 (Ad E)) (F0 m 2 ls [])) : ∀ (μ : Mm) (a2 : Int32) (a3 : Int32) (s0 : Int32) (s1 : Int32) (s2 : Int32) (h_a0 : l1 E 0) (h_a1 : l8 E 0) (h_s3 : (110, 0) ∈ eL E), f_X1_addStretch_b44 F K2 μ a2 a3 s0 s1 s2 = some z → ∀ {H : Heap} {locs : List Loc} {ls : Array Slot}, Iv E s μ H locs → lv_has ls 4 [(0, .ref (ad E 100 0)), (1, .ref (ad E 800 0)), (2, .int a2), (3, .int a3)] → W p l e { frames := 2, cells := 0, slots := 0, locals := 43 } s m av below meth c H locs 0 0 (MQ below (Qm E none z) av s 0 0 (Ad E)) (F0 m 44 ls [.int s0, .int s1, .int s2, .ref (ad E 110 0)]) := by
  have hx := C.1.1
  have hb := C.1.2.1
  intro μ a2 a3 s0 s1 s2 h_a0 h_a1 h_s3 hf H locs ls hI hl
  unfold f_X1_addStretch_b44 at hf
  refine lv_iadd hx hb dX1_addStretch_44 ?_
  obtain ⟨m13, e14, hf⟩ := ob hf
  refine m_iast C hI h_s3 (ce_110 E _) e14 dX1_addStretch_45 (fun H locs hI => ?_)
  refine lv_aload_n hx hb dX1_addStretch_46 rfl (lv_at hl 0 rfl) ?_
  refine gf_1_10 C hI h_a0.1 fl_X1_42 dX1_addStretch_47 ?_
  refine lv_iload_n hx hb dX1_addStretch_50 rfl (lv_at hl 2 rfl) ?_
  refine lv_dup2_11 hx hb dX1_addStretch_51 rfl rfl ?_
  obtain ⟨v15, e16, hf⟩ := ob hf
  refine m_iald C hI h_a0.2.2.2.2.2.2.2.2.2.2.2 (ce_111 E _ _ _) e16 dX1_addStretch_52 ?_
  refine lv_iload_n hx hb dX1_addStretch_53 rfl (lv_at hl 3 rfl) ?_
  refine lv_iconst (v := (3 : Int32)) hx hb dX1_addStretch_54 kc_3 ?_
  refine lv_icmp_ne (tgt := 65) hx hb dX1_addStretch_55 rfl (fun hc => ?_) (fun hc => ?_)
  · replace hf := ie hf hc
    refine lv_iconst (v := (0 : Int32)) hx hb dX1_addStretch_65 kc_0 ?_
    refine lv_iadd hx hb dX1_addStretch_66 ?_
    obtain ⟨m17, e18, hf⟩ := ob hf
    refine m_iast C hI h_a0.2.2.2.2.2.2.2.2.2.2.2 (ce_111 E _) e18 dX1_addStretch_67 (fun H locs hI => ?_)
    refine lv_iinc (v := a2 + (1 : Int32)) hx hb dX1_addStretch_68 hl (k := 2) rfl (ki_1 _) (by decide) rfl (fun ls hl => ?_)
    have hl : lv_has ls 4 [(2, .int (a2 + (1 : Int32))), (0, .ref (ad E 100 0)), (1, .ref (ad E 800 0)), (3, .int a3)] := hl
    refine lv_goto (tgt := 2) hx hb dX1_addStretch_71 rfl ?_
    exact hK2 _ _ h_a0 h_a1 hf hI (lv_sub hl [1, 2, 0] rfl)
  · replace hf := it hf hc
    refine lv_aload_n hx hb dX1_addStretch_58 rfl (lv_at hl 1 rfl) ?_
    refine gf_8_1 C hI h_a1.1 fl_X1_95 dX1_addStretch_59 ?_
    refine lv_goto (tgt := 66) hx hb dX1_addStretch_62 rfl ?_
    refine lv_iadd hx hb dX1_addStretch_66 ?_
    obtain ⟨m19, e20, hf⟩ := ob hf
    refine m_iast C hI h_a0.2.2.2.2.2.2.2.2.2.2.2 (ce_111 E _) e20 dX1_addStretch_67 (fun H locs hI => ?_)
    refine lv_iinc (v := a2 + (1 : Int32)) hx hb dX1_addStretch_68 hl (k := 2) rfl (ki_1 _) (by decide) rfl (fun ls hl => ?_)
    have hl : lv_has ls 4 [(2, .int (a2 + (1 : Int32))), (0, .ref (ad E 100 0)), (1, .ref (ad E 800 0)), (3, .int a3)] := hl
    refine lv_goto (tgt := 2) hx hb dX1_addStretch_71 rfl ?_
    exact hK2 _ _ h_a0 h_a1 hf hI (lv_sub hl [1, 2, 0] rfl)
def f_X1_addStretch_b2 (F : Nat) : Nat → Mm → Int32 → Option Mm
 | 0, _, _ => none
 | N + 1, μ, a2 =>
 if (8 : Int32) ≤ a2 then
 some μ
 else
 (ra μ 109 0 8 a2).bind fun v21 =>
 if v21 = (-1 : Int32) then
 f_X1_addStretch_b2 F N μ (a2 + (1 : Int32))
 else
 (f_X8_countsAs μ a2).bind fun q23 =>
 (ra μ 110 0 8 a2).bind fun v25 =>
 if q23 = (2 : Int32) then
 f_X1_addStretch_b44 F (fun μ a2 => f_X1_addStretch_b2 F N μ a2) μ a2 q23 (μ.1 800 0 1) v25 a2
 else
 f_X1_addStretch_b44 F (fun μ a2 => f_X1_addStretch_b2 F N μ a2) μ a2 q23 (0 : Int32) v25 a2
set_option maxHeartbeats 4000000 in
set_option maxRecDepth 100000 in
theorem cb_X1_addStretch_2 {l : Launch} {E : En} {p : Program} {e : Env} {s : State} {m : MethodId} {av : Array Value} {below : List Frame} {meth : Method} {c : Code} (C : Cx E p s m av c cX1_addStretch 4 yX1_addStretch.cls) (hr : meth.sig.returnType = (none : Option FieldType)) (hlk : meth.locks = false) {F : Nat} {z : Mm} : ∀ (N : Nat) (μ : Mm) (a2 : Int32) (h_a0 : l1 E 0) (h_a1 : l8 E 0), f_X1_addStretch_b2 F N μ a2 = some z → ∀ {H : Heap} {locs : List Loc} {ls : Array Slot}, Iv E s μ H locs → lv_has ls 4 [(0, .ref (ad E 100 0)), (1, .ref (ad E 800 0)), (2, .int a2)] → W p l e { frames := 2, cells := 0, slots := 0, locals := 43 } s m av below meth c H locs 0 0 (MQ below (Qm E none z) av s 0 0 (Ad E)) (F0 m 2 ls []) := by
  have hx := C.1.1
  have hb := C.1.2.1
  intro N
  induction N with
  | zero => intro μ a2 h_a0 h_a1 hf; cases hf
  | succ N ih =>
    intro μ a2 h_a0 h_a1 hf H locs ls hI hl
    rw [f_X1_addStretch_b2] at hf
    refine lv_iload_n hx hb dX1_addStretch_2 rfl (lv_at hl 2 rfl) ?_
    refine lv_bipush (v := (8 : Int32)) hx hb dX1_addStretch_3 kb_8 ?_
    refine lv_icmp_ge (tgt := 74) hx hb dX1_addStretch_5 rfl (fun hc => ?_) (fun hc => ?_)
    · replace hf := it hf hc
      obtain rfl := Option.some.inj hf
      exact m_vret C hr hlk hI dX1_addStretch_74
    · replace hf := ie hf hc
      refine lv_aload_n hx hb dX1_addStretch_8 rfl (lv_at hl 0 rfl) ?_
      refine gf_1_8 C hI h_a0.1 fl_X1_36 dX1_addStretch_9 ?_
      refine lv_iload_n hx hb dX1_addStretch_12 rfl (lv_at hl 2 rfl) ?_
      obtain ⟨v21, e22, hf⟩ := ob hf
      refine m_iald C hI h_a0.2.2.2.2.2.2.2.2.2.1 (ce_109 E _ _ _) e22 dX1_addStretch_13 ?_
      refine lv_iconst (v := (-1 : Int32)) hx hb dX1_addStretch_14 kc_m1 ?_
      refine lv_icmp_eq (tgt := 68) hx hb dX1_addStretch_15 rfl (fun hc => ?_) (fun hc => ?_)
      · replace hf := it hf hc
        refine lv_iinc (v := a2 + (1 : Int32)) hx hb dX1_addStretch_68 hl (k := 2) rfl (ki_1 _) (by decide) rfl (fun ls hl => ?_)
        have hl : lv_has ls 4 [(2, .int (a2 + (1 : Int32))), (0, .ref (ad E 100 0)), (1, .ref (ad E 800 0))] := hl
        refine lv_goto (tgt := 2) hx hb dX1_addStretch_71 rfl ?_
        exact ih _ _ h_a0 h_a1 hf hI (lv_sub hl [1, 2, 0] rfl)
      · replace hf := ie hf hc
        refine lv_aload_n hx hb dX1_addStretch_18 rfl (lv_at hl 1 rfl) ?_
        refine lv_iload_n hx hb dX1_addStretch_19 rfl (lv_at hl 2 rfl) ?_
        obtain ⟨q23, e24, hf⟩ := ob hf
        refine mcV (As := [.int a2]) (rest := []) C hI (c_X8_countsAs l E h_a1 e24) ml_X1_92 kv_X8_countsAs (m_recv C hI h_a1.1 (ce_800 E _ _ _) rfl) rfl rfl ⟨Nat.le_of_ble_eq_true rfl, Nat.le_of_ble_eq_true rfl⟩ ⟨Nat.zero_le _, Nat.zero_le _⟩ rfl rfl hl.1 (Nat.le_of_ble_eq_true rfl) dX1_addStretch_20 (st1 := [.int q23]) rfl (fun H locs hI => ?_)
        refine lv_istore_n hx hb dX1_addStretch_23 rfl hl (by decide) rfl (fun ls hl => ?_)
        have hl : lv_has ls 4 [(3, .int q23), (0, .ref (ad E 100 0)), (1, .ref (ad E 800 0)), (2, .int a2)] := hl
        refine lv_aload_n hx hb dX1_addStretch_24 rfl (lv_at hl 1 rfl) ?_
        refine gf_1_9 C hI h_a0.1 fl_X1_39 dX1_addStretch_25 ?_
        refine lv_iload_n hx hb dX1_addStretch_28 rfl (lv_at hl 3 rfl) ?_
        refine lv_dup2_11 hx hb dX1_addStretch_29 rfl rfl ?_
        obtain ⟨v25, e26, hf⟩ := ob hf
        refine m_iald C hI h_a0.2.2.2.2.2.2.2.2.2.2.1 (ce_110 E _ _ _) e26 dX1_addStretch_30 ?_
        refine lv_iload_n hx hb dX1_addStretch_31 rfl (lv_at hl 0 rfl) ?_
        refine lv_iconst (v := (2 : Int32)) hx hb dX1_addStretch_32 kc_2 ?_
        refine lv_icmp_ne (tgt := 43) hx hb dX1_addStretch_33 rfl (fun hc => ?_) (fun hc => ?_)
        · replace hf := ie hf hc
          refine lv_iconst (v := (0 : Int32)) hx hb dX1_addStretch_43 kc_0 ?_
          exact cb_X1_addStretch_44 C hr hlk ih _ _ _ _ _ _ h_a0 h_a1 h_a0.2.2.2.2.2.2.2.2.2.2.1 hf hI (lv_sub hl [1, 2, 3, 0] rfl)
        · replace hf := it hf hc
          refine lv_aload_n hx hb dX1_addStretch_36 rfl (lv_at hl 2 rfl) ?_
          refine gf_8_1 C hI h_a1.1 fl_X1_95 dX1_addStretch_37 ?_
          refine lv_goto (tgt := 44) hx hb dX1_addStretch_40 rfl ?_
          exact cb_X1_addStretch_44 C hr hlk ih _ _ _ _ _ _ h_a0 h_a1 h_a0.2.2.2.2.2.2.2.2.2.2.1 hf hI (lv_sub hl [1, 2, 3, 0] rfl)
def f_X1_addStretch (F : Nat) (μ : Mm) : Option Mm :=
 f_X1_addStretch_b2 F F μ (0 : Int32)
set_option maxHeartbeats 4000000 in
set_option maxRecDepth 100000 in
theorem c_X1_addStretch (l : Launch) (E : En) {F : Nat} {μ : Mm} (h0 : l1 E 0) (h1 : l8 E 0) {z : Mm} (hf : f_X1_addStretch F μ = some z) : Met l yX1_addStretch (wt yX1_addStretch cX1_addStretch 4 (none : Option FieldType)) { frames := 2, cells := 0, slots := 0, locals := 43 } (Pm E [.ref (ad E 100 0), .ref (ad E 800 0)] μ) (Qm E none z) 0 0 (Ad E) := by
  unfold f_X1_addStretch at hf
  refine met_of (cc := cX1_addStretch) (nL := 4) (ret := (none : Option FieldType)) (by decide) _ (Nat.le_of_ble_eq_true rfl) ?_
  intro p e s m below meth c C hr hlk hI ls hl
  have hx := C.1.1
  have hb := C.1.2.1
  have hl : lv_has ls 4 [(0, .ref (ad E 100 0)), (1, .ref (ad E 800 0))] := hl
  refine lv_iconst (v := (0 : Int32)) hx hb dX1_addStretch_0 kc_0 ?_
  refine lv_istore_n hx hb dX1_addStretch_1 rfl hl (by decide) rfl (fun ls hl => ?_)
  have hl : lv_has ls 4 [(2, .int (0 : Int32)), (0, .ref (ad E 100 0)), (1, .ref (ad E 800 0))] := hl
  exact cb_X1_addStretch_2 C hr hlk  _ _ _ h0 h1 hf hI (lv_sub hl [1, 2, 0] rfl)

theorem dX1_foremost_0 : decode cX1_foremost 0 = .ok (.iconst (-1), 1) := by decide +kernel
theorem dX1_foremost_1 : decode cX1_foremost 1 = .ok (.istore_n 3, 1) := by decide +kernel
theorem dX1_foremost_2 : decode cX1_foremost 2 = .ok (.iconst 0, 1) := by decide +kernel
theorem dX1_foremost_3 : decode cX1_foremost 3 = .ok (.istore 4, 2) := by decide +kernel
theorem dX1_foremost_5 : decode cX1_foremost 5 = .ok (.iload 4, 2) := by decide +kernel
theorem dX1_foremost_7 : decode cX1_foremost 7 = .ok (.aload_n 0, 1) := by decide +kernel
theorem dX1_foremost_8 : decode cX1_foremost 8 = .ok (.getfield 45, 3) := by decide +kernel
theorem dX1_foremost_11 : decode cX1_foremost 11 = .ok (.if_icmp .ge 68, 3) := by decide +kernel
theorem dX1_foremost_14 : decode cX1_foremost 14 = .ok (.iload 4, 2) := by decide +kernel
theorem dX1_foremost_16 : decode cX1_foremost 16 = .ok (.bipush 67, 2) := by decide +kernel
theorem dX1_foremost_18 : decode cX1_foremost 18 = .ok (.if_icmp .ge 61, 3) := by decide +kernel
theorem dX1_foremost_21 : decode cX1_foremost 21 = .ok (.aload_n 0, 1) := by decide +kernel
theorem dX1_foremost_22 : decode cX1_foremost 22 = .ok (.getfield 15, 3) := by decide +kernel
theorem dX1_foremost_25 : decode cX1_foremost 25 = .ok (.iload 4, 2) := by decide +kernel
theorem dX1_foremost_27 : decode cX1_foremost 27 = .ok (.iaload, 1) := by decide +kernel
theorem dX1_foremost_28 : decode cX1_foremost 28 = .ok (.iload_n 1, 1) := by decide +kernel
theorem dX1_foremost_29 : decode cX1_foremost 29 = .ok (.if_icmp .gt 17, 3) := by decide +kernel
theorem dX1_foremost_32 : decode cX1_foremost 32 = .ok (.aload_n 0, 1) := by decide +kernel
theorem dX1_foremost_33 : decode cX1_foremost 33 = .ok (.getfield 30, 3) := by decide +kernel
theorem dX1_foremost_36 : decode cX1_foremost 36 = .ok (.iload 4, 2) := by decide +kernel
theorem dX1_foremost_38 : decode cX1_foremost 38 = .ok (.iaload, 1) := by decide +kernel
theorem dX1_foremost_39 : decode cX1_foremost 39 = .ok (.ifCond .le 7, 3) := by decide +kernel
theorem dX1_foremost_42 : decode cX1_foremost 42 = .ok (.iconst 1, 1) := by decide +kernel
theorem dX1_foremost_43 : decode cX1_foremost 43 = .ok (.goto 4, 3) := by decide +kernel
theorem dX1_foremost_46 : decode cX1_foremost 46 = .ok (.iconst 0, 1) := by decide +kernel
theorem dX1_foremost_47 : decode cX1_foremost 47 = .ok (.istore 5, 2) := by decide +kernel
theorem dX1_foremost_49 : decode cX1_foremost 49 = .ok (.iload 5, 2) := by decide +kernel
theorem dX1_foremost_51 : decode cX1_foremost 51 = .ok (.ifCond .eq 22, 3) := by decide +kernel
theorem dX1_foremost_54 : decode cX1_foremost 54 = .ok (.iload_n 3, 1) := by decide +kernel
theorem dX1_foremost_55 : decode cX1_foremost 55 = .ok (.iconst (-1), 1) := by decide +kernel
theorem dX1_foremost_56 : decode cX1_foremost 56 = .ok (.if_icmp .eq 14, 3) := by decide +kernel
theorem dX1_foremost_59 : decode cX1_foremost 59 = .ok (.aload_n 0, 1) := by decide +kernel
theorem dX1_foremost_60 : decode cX1_foremost 60 = .ok (.iload 4, 2) := by decide +kernel
theorem dX1_foremost_62 : decode cX1_foremost 62 = .ok (.iload_n 3, 1) := by decide +kernel
theorem dX1_foremost_63 : decode cX1_foremost 63 = .ok (.aload_n 2, 1) := by decide +kernel
theorem dX1_foremost_64 : decode cX1_foremost 64 = .ok (.invokevirtual 125, 3) := by decide +kernel
theorem dX1_foremost_67 : decode cX1_foremost 67 = .ok (.ifCond .eq 6, 3) := by decide +kernel
theorem dX1_foremost_70 : decode cX1_foremost 70 = .ok (.iload 4, 2) := by decide +kernel
theorem dX1_foremost_72 : decode cX1_foremost 72 = .ok (.istore_n 3, 1) := by decide +kernel
theorem dX1_foremost_73 : decode cX1_foremost 73 = .ok (.iinc 4 1, 3) := by decide +kernel
theorem dX1_foremost_76 : decode cX1_foremost 76 = .ok (.goto (-71), 3) := by decide +kernel
theorem dX1_foremost_79 : decode cX1_foremost 79 = .ok (.iload_n 3, 1) := by decide +kernel
theorem dX1_foremost_80 : decode cX1_foremost 80 = .ok (.ireturn, 1) := by decide +kernel
def f_X1_foremost_b47 (F : Nat) (μ : Mm) (K5 : Int32 → Int32 → Int32 → Option Int32) (a1 : Int32) (a3 : Int32) (a4 : Int32) (s0 : Int32) : Option Int32 :=
 if s0 = 0 then
 K5 a1 a3 (a4 + (1 : Int32))
 else
 if a3 = (-1 : Int32) then
 K5 a1 a4 (a4 + (1 : Int32))
 else
 (f_X1_goesAhead μ a4 a3).bind fun q7 =>
 if q7 = 0 then
 K5 a1 a3 (a4 + (1 : Int32))
 else
 K5 a1 a4 (a4 + (1 : Int32))
set_option maxHeartbeats 4000000 in
set_option maxRecDepth 100000 in
theorem cb_X1_foremost_47 {l : Launch} {E : En} {p : Program} {e : Env} {s : State} {m : MethodId} {av : Array Value} {below : List Frame} {meth : Method} {c : Code} (C : Cx E p s m av c cX1_foremost 6 yX1_foremost.cls) (hr : meth.sig.returnType = (some .int)) (hlk : meth.locks = false) {F : Nat} {μ : Mm} {K5 : Int32 → Int32 → Int32 → Option Int32} {z : Int32} (hK5 : ∀ (a1 : Int32) (a3 : Int32) (a4 : Int32) (h_a0 : l1 E 0) (h_a2 : (903, 0) ∈ eL E), K5 a1 a3 a4 = some z → ∀ {H : Heap} {locs : List Loc} {ls : Array Slot}, Iv E s μ H locs → lv_has ls 6 [(0, .ref (ad E 100 0)), (1, .int a1), (2, .ref (ad E 903 0)), (3, .int a3), (4, .int a4)] → W p l e { frames := 1, cells := 0, slots := 0, locals := 25 } s m av below meth c H locs 0 0 (MQ below (Qm E (some (.int z)) μ) av s 0 0 (Ad E)) (F0 m 5 ls [])) : ∀ (a1 : Int32) (a3 : Int32) (a4 : Int32) (s0 : Int32) (h_a0 : l1 E 0) (h_a2 : (903, 0) ∈ eL E), f_X1_foremost_b47 F μ K5 a1 a3 a4 s0 = some z → ∀ {H : Heap} {locs : List Loc} {ls : Array Slot}, Iv E s μ H locs → lv_has ls 6 [(0, .ref (ad E 100 0)), (1, .int a1), (2, .ref (ad E 903 0)), (3, .int a3), (4, .int a4)] → W p l e { frames := 1, cells := 0, slots := 0, locals := 25 } s m av below meth c H locs 0 0 (MQ below (Qm E (some (.int z)) μ) av s 0 0 (Ad E)) (F0 m 47 ls [.int s0]) := by
  have hx := C.1.1
  have hb := C.1.2.1
  intro a1 a3 a4 s0 h_a0 h_a2 hf H locs ls hI hl
  unfold f_X1_foremost_b47 at hf
  refine lv_istore hx hb dX1_foremost_47 hl (by decide) rfl (fun ls hl => ?_)
  have hl : lv_has ls 6 [(5, .int s0), (0, .ref (ad E 100 0)), (1, .int a1), (2, .ref (ad E 903 0)), (3, .int a3), (4, .int a4)] := hl
  refine lv_iload hx hb dX1_foremost_49 (lv_at hl 0 rfl) ?_
  refine lv_if_eq (tgt := 73) hx hb dX1_foremost_51 rfl (fun hc => ?_) (fun hc => ?_)
  · replace hf := it hf hc
    refine lv_iinc (v := a4 + (1 : Int32)) hx hb dX1_foremost_73 hl (k := 5) rfl (ki_1 _) (by decide) rfl (fun ls hl => ?_)
    have hl : lv_has ls 6 [(4, .int (a4 + (1 : Int32))), (5, .int s0), (0, .ref (ad E 100 0)), (1, .int a1), (2, .ref (ad E 903 0)), (3, .int a3)] := hl
    refine lv_goto (tgt := 5) hx hb dX1_foremost_76 rfl ?_
    exact hK5 _ _ _ h_a0 h_a2 hf hI (lv_sub hl [2, 3, 4, 5, 0] rfl)
  · replace hf := ie hf hc
    refine lv_iload_n hx hb dX1_foremost_54 rfl (lv_at hl 4 rfl) ?_
    refine lv_iconst (v := (-1 : Int32)) hx hb dX1_foremost_55 kc_m1 ?_
    refine lv_icmp_eq (tgt := 70) hx hb dX1_foremost_56 rfl (fun hc => ?_) (fun hc => ?_)
    · replace hf := it hf hc
      refine lv_iload hx hb dX1_foremost_70 (lv_at hl 5 rfl) ?_
      refine lv_istore_n hx hb dX1_foremost_72 rfl hl (by decide) rfl (fun ls hl => ?_)
      have hl : lv_has ls 6 [(3, .int a4), (5, .int s0), (0, .ref (ad E 100 0)), (1, .int a1), (2, .ref (ad E 903 0)), (4, .int a4)] := hl
      refine lv_iinc (v := a4 + (1 : Int32)) hx hb dX1_foremost_73 hl (k := 5) rfl (ki_1 _) (by decide) rfl (fun ls hl => ?_)
      have hl : lv_has ls 6 [(4, .int (a4 + (1 : Int32))), (3, .int a4), (5, .int s0), (0, .ref (ad E 100 0)), (1, .int a1), (2, .ref (ad E 903 0))] := hl
      refine lv_goto (tgt := 5) hx hb dX1_foremost_76 rfl ?_
      exact hK5 _ _ _ h_a0 h_a2 hf hI (lv_sub hl [3, 4, 5, 1, 0] rfl)
    · replace hf := ie hf hc
      refine lv_aload_n hx hb dX1_foremost_59 rfl (lv_at hl 1 rfl) ?_
      refine lv_iload hx hb dX1_foremost_60 (lv_at hl 5 rfl) ?_
      refine lv_iload_n hx hb dX1_foremost_62 rfl (lv_at hl 4 rfl) ?_
      refine lv_aload_n hx hb dX1_foremost_63 rfl (lv_at hl 3 rfl) ?_
      obtain ⟨q7, e8, hf⟩ := ob hf
      refine mcV (As := [.int a4, .int a3, .ref (ad E 903 0)]) (rest := []) C hI (c_X1_goesAhead l E h_a0 h_a2 e8) ml_X1_125 kv_X1_goesAhead (m_recv C hI h_a0.1 (ce_100 E _ _ _) rfl) rfl rfl ⟨Nat.le_of_ble_eq_true rfl, Nat.le_of_ble_eq_true rfl⟩ ⟨Nat.zero_le _, Nat.zero_le _⟩ rfl rfl hl.1 (Nat.le_of_ble_eq_true rfl) dX1_foremost_64 (st1 := [.int q7]) rfl (fun H locs hI => ?_)
      refine lv_if_eq (tgt := 73) hx hb dX1_foremost_67 rfl (fun hc => ?_) (fun hc => ?_)
      · replace hf := it hf hc
        refine lv_iinc (v := a4 + (1 : Int32)) hx hb dX1_foremost_73 hl (k := 5) rfl (ki_1 _) (by decide) rfl (fun ls hl => ?_)
        have hl : lv_has ls 6 [(4, .int (a4 + (1 : Int32))), (5, .int s0), (0, .ref (ad E 100 0)), (1, .int a1), (2, .ref (ad E 903 0)), (3, .int a3)] := hl
        refine lv_goto (tgt := 5) hx hb dX1_foremost_76 rfl ?_
        exact hK5 _ _ _ h_a0 h_a2 hf hI (lv_sub hl [2, 3, 4, 5, 0] rfl)
      · replace hf := ie hf hc
        refine lv_iload hx hb dX1_foremost_70 (lv_at hl 5 rfl) ?_
        refine lv_istore_n hx hb dX1_foremost_72 rfl hl (by decide) rfl (fun ls hl => ?_)
        have hl : lv_has ls 6 [(3, .int a4), (5, .int s0), (0, .ref (ad E 100 0)), (1, .int a1), (2, .ref (ad E 903 0)), (4, .int a4)] := hl
        refine lv_iinc (v := a4 + (1 : Int32)) hx hb dX1_foremost_73 hl (k := 5) rfl (ki_1 _) (by decide) rfl (fun ls hl => ?_)
        have hl : lv_has ls 6 [(4, .int (a4 + (1 : Int32))), (3, .int a4), (5, .int s0), (0, .ref (ad E 100 0)), (1, .int a1), (2, .ref (ad E 903 0))] := hl
        refine lv_goto (tgt := 5) hx hb dX1_foremost_76 rfl ?_
        exact hK5 _ _ _ h_a0 h_a2 hf hI (lv_sub hl [3, 4, 5, 1, 0] rfl)
def f_X1_foremost_b5 (F : Nat) (μ : Mm) : Nat → Int32 → Int32 → Int32 → Option Int32
 | 0, _, _, _ => none
 | N + 1, a1, a3, a4 =>
 if (μ.1 100 0 11) ≤ a4 then
 some a3
 else
 if (67 : Int32) ≤ a4 then
 some a3
 else
 (ra μ 102 0 67 a4).bind fun v9 =>
 if a1 < v9 then
 f_X1_foremost_b47 F μ (fun a1 a3 a4 => f_X1_foremost_b5 F μ N a1 a3 a4) a1 a3 a4 (0 : Int32)
 else
 (ra μ 107 0 67 a4).bind fun v11 =>
 if v11 ≤ 0 then
 f_X1_foremost_b47 F μ (fun a1 a3 a4 => f_X1_foremost_b5 F μ N a1 a3 a4) a1 a3 a4 (0 : Int32)
 else
 f_X1_foremost_b47 F μ (fun a1 a3 a4 => f_X1_foremost_b5 F μ N a1 a3 a4) a1 a3 a4 (1 : Int32)
set_option maxHeartbeats 4000000 in
set_option maxRecDepth 100000 in
theorem cb_X1_foremost_5 {l : Launch} {E : En} {p : Program} {e : Env} {s : State} {m : MethodId} {av : Array Value} {below : List Frame} {meth : Method} {c : Code} (C : Cx E p s m av c cX1_foremost 6 yX1_foremost.cls) (hr : meth.sig.returnType = (some .int)) (hlk : meth.locks = false) {F : Nat} {μ : Mm} {z : Int32} : ∀ (N : Nat) (a1 : Int32) (a3 : Int32) (a4 : Int32) (h_a0 : l1 E 0) (h_a2 : (903, 0) ∈ eL E), f_X1_foremost_b5 F μ N a1 a3 a4 = some z → ∀ {H : Heap} {locs : List Loc} {ls : Array Slot}, Iv E s μ H locs → lv_has ls 6 [(0, .ref (ad E 100 0)), (1, .int a1), (2, .ref (ad E 903 0)), (3, .int a3), (4, .int a4)] → W p l e { frames := 1, cells := 0, slots := 0, locals := 25 } s m av below meth c H locs 0 0 (MQ below (Qm E (some (.int z)) μ) av s 0 0 (Ad E)) (F0 m 5 ls []) := by
  have hx := C.1.1
  have hb := C.1.2.1
  intro N
  induction N with
  | zero => intro a1 a3 a4 h_a0 h_a2 hf; cases hf
  | succ N ih =>
    intro a1 a3 a4 h_a0 h_a2 hf H locs ls hI hl
    rw [f_X1_foremost_b5] at hf
    refine lv_iload hx hb dX1_foremost_5 (lv_at hl 4 rfl) ?_
    refine lv_aload_n hx hb dX1_foremost_7 rfl (lv_at hl 0 rfl) ?_
    refine gf_1_11 C hI h_a0.1 fl_X1_45 dX1_foremost_8 ?_
    refine lv_icmp_ge (tgt := 79) hx hb dX1_foremost_11 rfl (fun hc => ?_) (fun hc => ?_)
    · replace hf := it hf hc
      refine lv_iload_n hx hb dX1_foremost_79 rfl (lv_at hl 3 rfl) ?_
      obtain rfl := Option.some.inj hf
      exact m_iret C hr hlk hI dX1_foremost_80
    · replace hf := ie hf hc
      refine lv_iload hx hb dX1_foremost_14 (lv_at hl 4 rfl) ?_
      refine lv_bipush (v := (67 : Int32)) hx hb dX1_foremost_16 kb_67 ?_
      refine lv_icmp_ge (tgt := 79) hx hb dX1_foremost_18 rfl (fun hc => ?_) (fun hc => ?_)
      · replace hf := it hf hc
        refine lv_iload_n hx hb dX1_foremost_79 rfl (lv_at hl 3 rfl) ?_
        obtain rfl := Option.some.inj hf
        exact m_iret C hr hlk hI dX1_foremost_80
      · replace hf := ie hf hc
        refine lv_aload_n hx hb dX1_foremost_21 rfl (lv_at hl 0 rfl) ?_
        refine gf_1_1 C hI h_a0.1 fl_X1_15 dX1_foremost_22 ?_
        refine lv_iload hx hb dX1_foremost_25 (lv_at hl 4 rfl) ?_
        obtain ⟨v9, e10, hf⟩ := ob hf
        refine m_iald C hI h_a0.2.2.1 (ce_102 E _ _ _) e10 dX1_foremost_27 ?_
        refine lv_iload_n hx hb dX1_foremost_28 rfl (lv_at hl 1 rfl) ?_
        refine lv_icmp_gt (tgt := 46) hx hb dX1_foremost_29 rfl (fun hc => ?_) (fun hc => ?_)
        · replace hf := it hf hc
          refine lv_iconst (v := (0 : Int32)) hx hb dX1_foremost_46 kc_0 ?_
          exact cb_X1_foremost_47 C hr hlk ih _ _ _ _ h_a0 h_a2 hf hI (lv_sub hl [0, 1, 2, 3, 4] rfl)
        · replace hf := ie hf hc
          refine lv_aload_n hx hb dX1_foremost_32 rfl (lv_at hl 0 rfl) ?_
          refine gf_1_6 C hI h_a0.1 fl_X1_30 dX1_foremost_33 ?_
          refine lv_iload hx hb dX1_foremost_36 (lv_at hl 4 rfl) ?_
          obtain ⟨v11, e12, hf⟩ := ob hf
          refine m_iald C hI h_a0.2.2.2.2.2.2.2.1 (ce_107 E _ _ _) e12 dX1_foremost_38 ?_
          refine lv_if_le (tgt := 46) hx hb dX1_foremost_39 rfl (fun hc => ?_) (fun hc => ?_)
          · replace hf := it hf hc
            refine lv_iconst (v := (0 : Int32)) hx hb dX1_foremost_46 kc_0 ?_
            exact cb_X1_foremost_47 C hr hlk ih _ _ _ _ h_a0 h_a2 hf hI (lv_sub hl [0, 1, 2, 3, 4] rfl)
          · replace hf := ie hf hc
            refine lv_iconst (v := (1 : Int32)) hx hb dX1_foremost_42 kc_1 ?_
            refine lv_goto (tgt := 47) hx hb dX1_foremost_43 rfl ?_
            exact cb_X1_foremost_47 C hr hlk ih _ _ _ _ h_a0 h_a2 hf hI (lv_sub hl [0, 1, 2, 3, 4] rfl)
def f_X1_foremost (F : Nat) (μ : Mm) (p1 : Int32) : Option Int32 :=
 f_X1_foremost_b5 F μ F p1 (-1 : Int32) (0 : Int32)
set_option maxHeartbeats 4000000 in
set_option maxRecDepth 100000 in
theorem c_X1_foremost (l : Launch) (E : En) {F : Nat} {μ : Mm} {p1 : Int32} (h0 : l1 E 0) (h2 : (903, 0) ∈ eL E) {z : Int32} (hf : f_X1_foremost F μ p1 = some z) : Met l yX1_foremost (wt yX1_foremost cX1_foremost 6 (some .int)) { frames := 1, cells := 0, slots := 0, locals := 25 } (Pm E [.ref (ad E 100 0), .int p1, .ref (ad E 903 0)] μ) (Qm E (some (.int z)) μ) 0 0 (Ad E) := by
  unfold f_X1_foremost at hf
  refine met_of (cc := cX1_foremost) (nL := 6) (ret := (some .int)) (by decide) _ (Nat.le_of_ble_eq_true rfl) ?_
  intro p e s m below meth c C hr hlk hI ls hl
  have hx := C.1.1
  have hb := C.1.2.1
  have hl : lv_has ls 6 [(0, .ref (ad E 100 0)), (1, .int p1), (2, .ref (ad E 903 0))] := hl
  refine lv_iconst (v := (-1 : Int32)) hx hb dX1_foremost_0 kc_m1 ?_
  refine lv_istore_n hx hb dX1_foremost_1 rfl hl (by decide) rfl (fun ls hl => ?_)
  have hl : lv_has ls 6 [(3, .int (-1 : Int32)), (0, .ref (ad E 100 0)), (1, .int p1), (2, .ref (ad E 903 0))] := hl
  refine lv_iconst (v := (0 : Int32)) hx hb dX1_foremost_2 kc_0 ?_
  refine lv_istore hx hb dX1_foremost_3 hl (by decide) rfl (fun ls hl => ?_)
  have hl : lv_has ls 6 [(4, .int (0 : Int32)), (3, .int (-1 : Int32)), (0, .ref (ad E 100 0)), (1, .int p1), (2, .ref (ad E 903 0))] := hl
  exact cb_X1_foremost_5 C hr hlk  _ _ _ _ h0 h2 hf hI (lv_sub hl [2, 3, 4, 1, 0] rfl)

theorem dX1_periodOf_0 : decode cX1_periodOf 0 = .ok (.iconst 1, 1) := by decide +kernel
theorem dX1_periodOf_1 : decode cX1_periodOf 1 = .ok (.istore_n 2, 1) := by decide +kernel
theorem dX1_periodOf_2 : decode cX1_periodOf 2 = .ok (.iconst 1, 1) := by decide +kernel
theorem dX1_periodOf_3 : decode cX1_periodOf 3 = .ok (.aload_n 0, 1) := by decide +kernel
theorem dX1_periodOf_4 : decode cX1_periodOf 4 = .ok (.iload_n 1, 1) := by decide +kernel
theorem dX1_periodOf_5 : decode cX1_periodOf 5 = .ok (.invokevirtual 129, 3) := by decide +kernel
theorem dX1_periodOf_8 : decode cX1_periodOf 8 = .ok (.aload_n 0, 1) := by decide +kernel
theorem dX1_periodOf_9 : decode cX1_periodOf 9 = .ok (.iload_n 1, 1) := by decide +kernel
theorem dX1_periodOf_10 : decode cX1_periodOf 10 = .ok (.invokevirtual 132, 3) := by decide +kernel
theorem dX1_periodOf_13 : decode cX1_periodOf 13 = .ok (.isub, 1) := by decide +kernel
theorem dX1_periodOf_14 : decode cX1_periodOf 14 = .ok (.invokestatic 135, 3) := by decide +kernel
theorem dX1_periodOf_17 : decode cX1_periodOf 17 = .ok (.istore_n 3, 1) := by decide +kernel
theorem dX1_periodOf_18 : decode cX1_periodOf 18 = .ok (.iconst 0, 1) := by decide +kernel
theorem dX1_periodOf_19 : decode cX1_periodOf 19 = .ok (.istore 4, 2) := by decide +kernel
theorem dX1_periodOf_21 : decode cX1_periodOf 21 = .ok (.iload 4, 2) := by decide +kernel
theorem dX1_periodOf_23 : decode cX1_periodOf 23 = .ok (.bipush 32, 2) := by decide +kernel
theorem dX1_periodOf_25 : decode cX1_periodOf 25 = .ok (.if_icmp .ge 54, 3) := by decide +kernel
theorem dX1_periodOf_28 : decode cX1_periodOf 28 = .ok (.iload_n 2, 1) := by decide +kernel
theorem dX1_periodOf_29 : decode cX1_periodOf 29 = .ok (.iload_n 3, 1) := by decide +kernel
theorem dX1_periodOf_30 : decode cX1_periodOf 30 = .ok (.if_icmp .ge 49, 3) := by decide +kernel
theorem dX1_periodOf_33 : decode cX1_periodOf 33 = .ok (.iload_n 2, 1) := by decide +kernel
theorem dX1_periodOf_34 : decode cX1_periodOf 34 = .ok (.iload_n 3, 1) := by decide +kernel
theorem dX1_periodOf_35 : decode cX1_periodOf 35 = .ok (.iload_n 2, 1) := by decide +kernel
theorem dX1_periodOf_36 : decode cX1_periodOf 36 = .ok (.isub, 1) := by decide +kernel
theorem dX1_periodOf_37 : decode cX1_periodOf 37 = .ok (.iconst 2, 1) := by decide +kernel
theorem dX1_periodOf_38 : decode cX1_periodOf 38 = .ok (.idiv, 1) := by decide +kernel
theorem dX1_periodOf_39 : decode cX1_periodOf 39 = .ok (.iadd, 1) := by decide +kernel
theorem dX1_periodOf_40 : decode cX1_periodOf 40 = .ok (.istore 5, 2) := by decide +kernel
theorem dX1_periodOf_42 : decode cX1_periodOf 42 = .ok (.aload_n 0, 1) := by decide +kernel
theorem dX1_periodOf_43 : decode cX1_periodOf 43 = .ok (.iload_n 1, 1) := by decide +kernel
theorem dX1_periodOf_44 : decode cX1_periodOf 44 = .ok (.iload 5, 2) := by decide +kernel
theorem dX1_periodOf_46 : decode cX1_periodOf 46 = .ok (.iconst 1, 1) := by decide +kernel
theorem dX1_periodOf_47 : decode cX1_periodOf 47 = .ok (.iadd, 1) := by decide +kernel
theorem dX1_periodOf_48 : decode cX1_periodOf 48 = .ok (.invokevirtual 138, 3) := by decide +kernel
theorem dX1_periodOf_51 : decode cX1_periodOf 51 = .ok (.aload_n 0, 1) := by decide +kernel
theorem dX1_periodOf_52 : decode cX1_periodOf 52 = .ok (.iload_n 1, 1) := by decide +kernel
theorem dX1_periodOf_53 : decode cX1_periodOf 53 = .ok (.iload 5, 2) := by decide +kernel
theorem dX1_periodOf_55 : decode cX1_periodOf 55 = .ok (.invokevirtual 138, 3) := by decide +kernel
theorem dX1_periodOf_58 : decode cX1_periodOf 58 = .ok (.lcmp, 1) := by decide +kernel
theorem dX1_periodOf_59 : decode cX1_periodOf 59 = .ok (.ifCond .lt 9, 3) := by decide +kernel
theorem dX1_periodOf_62 : decode cX1_periodOf 62 = .ok (.iload 5, 2) := by decide +kernel
theorem dX1_periodOf_64 : decode cX1_periodOf 64 = .ok (.istore_n 3, 1) := by decide +kernel
theorem dX1_periodOf_65 : decode cX1_periodOf 65 = .ok (.goto 8, 3) := by decide +kernel
theorem dX1_periodOf_68 : decode cX1_periodOf 68 = .ok (.iload 5, 2) := by decide +kernel
theorem dX1_periodOf_70 : decode cX1_periodOf 70 = .ok (.iconst 1, 1) := by decide +kernel
theorem dX1_periodOf_71 : decode cX1_periodOf 71 = .ok (.iadd, 1) := by decide +kernel
theorem dX1_periodOf_72 : decode cX1_periodOf 72 = .ok (.istore_n 2, 1) := by decide +kernel
theorem dX1_periodOf_73 : decode cX1_periodOf 73 = .ok (.iinc 4 1, 3) := by decide +kernel
theorem dX1_periodOf_76 : decode cX1_periodOf 76 = .ok (.goto (-55), 3) := by decide +kernel
theorem dX1_periodOf_79 : decode cX1_periodOf 79 = .ok (.iload_n 2, 1) := by decide +kernel
theorem dX1_periodOf_80 : decode cX1_periodOf 80 = .ok (.ireturn, 1) := by decide +kernel
def f_X1_periodOf_b21 (F : Nat) (μ : Mm) : Nat → Int32 → Int32 → Int32 → Int32 → Option Int32
 | 0, _, _, _, _ => none
 | N + 1, a1, a2, a3, a4 =>
 if (32 : Int32) ≤ a4 then
 some a2
 else
 if a3 ≤ a2 then
 some a2
 else
 (f_X1_jitterOf F μ a1 ((a2 + ((a3 - a2) / (2 : Int32))) + (1 : Int32))).bind fun q9 =>
 (f_X1_jitterOf F μ a1 (a2 + ((a3 - a2) / (2 : Int32)))).bind fun q11 =>
 if (lg_cmp q9 q11) < 0 then
 f_X1_periodOf_b21 F μ N a1 ((a2 + ((a3 - a2) / (2 : Int32))) + (1 : Int32)) a3 (a4 + (1 : Int32))
 else
 f_X1_periodOf_b21 F μ N a1 a2 (a2 + ((a3 - a2) / (2 : Int32))) (a4 + (1 : Int32))
set_option maxHeartbeats 4000000 in
set_option maxRecDepth 100000 in
theorem cb_X1_periodOf_21 {l : Launch} {E : En} {p : Program} {e : Env} {s : State} {m : MethodId} {av : Array Value} {below : List Frame} {meth : Method} {c : Code} (C : Cx E p s m av c cX1_periodOf 6 yX1_periodOf.cls) (hr : meth.sig.returnType = (some .int)) (hlk : meth.locks = false) {F : Nat} {μ : Mm} {z : Int32} : ∀ (N : Nat) (a1 : Int32) (a2 : Int32) (a3 : Int32) (a4 : Int32) (h_a0 : l1 E 0), f_X1_periodOf_b21 F μ N a1 a2 a3 a4 = some z → ∀ {H : Heap} {locs : List Loc} {ls : Array Slot}, Iv E s μ H locs → lv_has ls 6 [(0, .ref (ad E 100 0)), (1, .int a1), (2, .int a2), (3, .int a3), (4, .int a4)] → W p l e { frames := 5, cells := 0, slots := 0, locals := 120 } s m av below meth c H locs 0 0 (MQ below (Qm E (some (.int z)) μ) av s 0 0 (Ad E)) (F0 m 21 ls []) := by
  have hx := C.1.1
  have hb := C.1.2.1
  intro N
  induction N with
  | zero => intro a1 a2 a3 a4 h_a0 hf; cases hf
  | succ N ih =>
    intro a1 a2 a3 a4 h_a0 hf H locs ls hI hl
    rw [f_X1_periodOf_b21] at hf
    refine lv_iload hx hb dX1_periodOf_21 (lv_at hl 4 rfl) ?_
    refine lv_bipush (v := (32 : Int32)) hx hb dX1_periodOf_23 kb_32 ?_
    refine lv_icmp_ge (tgt := 79) hx hb dX1_periodOf_25 rfl (fun hc => ?_) (fun hc => ?_)
    · replace hf := it hf hc
      refine lv_iload_n hx hb dX1_periodOf_79 rfl (lv_at hl 2 rfl) ?_
      obtain rfl := Option.some.inj hf
      exact m_iret C hr hlk hI dX1_periodOf_80
    · replace hf := ie hf hc
      refine lv_iload_n hx hb dX1_periodOf_28 rfl (lv_at hl 2 rfl) ?_
      refine lv_iload_n hx hb dX1_periodOf_29 rfl (lv_at hl 3 rfl) ?_
      refine lv_icmp_ge (tgt := 79) hx hb dX1_periodOf_30 rfl (fun hc => ?_) (fun hc => ?_)
      · replace hf := it hf hc
        refine lv_iload_n hx hb dX1_periodOf_79 rfl (lv_at hl 2 rfl) ?_
        obtain rfl := Option.some.inj hf
        exact m_iret C hr hlk hI dX1_periodOf_80
      · replace hf := ie hf hc
        refine lv_iload_n hx hb dX1_periodOf_33 rfl (lv_at hl 2 rfl) ?_
        refine lv_iload_n hx hb dX1_periodOf_34 rfl (lv_at hl 3 rfl) ?_
        refine lv_iload_n hx hb dX1_periodOf_35 rfl (lv_at hl 2 rfl) ?_
        refine lv_isub hx hb dX1_periodOf_36 ?_
        refine lv_iconst (v := (2 : Int32)) hx hb dX1_periodOf_37 kc_2 ?_
        refine lv_idiv hx hb dX1_periodOf_38 (by decide) ?_
        refine lv_iadd hx hb dX1_periodOf_39 ?_
        refine lv_istore hx hb dX1_periodOf_40 hl (by decide) rfl (fun ls hl => ?_)
        have hl : lv_has ls 6 [(5, .int (a2 + ((a3 - a2) / (2 : Int32)))), (0, .ref (ad E 100 0)), (1, .int a1), (2, .int a2), (3, .int a3), (4, .int a4)] := hl
        refine lv_aload_n hx hb dX1_periodOf_42 rfl (lv_at hl 1 rfl) ?_
        refine lv_iload_n hx hb dX1_periodOf_43 rfl (lv_at hl 2 rfl) ?_
        refine lv_iload hx hb dX1_periodOf_44 (lv_at hl 0 rfl) ?_
        refine lv_iconst (v := (1 : Int32)) hx hb dX1_periodOf_46 kc_1 ?_
        refine lv_iadd hx hb dX1_periodOf_47 ?_
        obtain ⟨q9, e10, hf⟩ := ob hf
        refine mcV (As := [.int a1, .int ((a2 + ((a3 - a2) / (2 : Int32))) + (1 : Int32))]) (rest := []) C hI (c_X1_jitterOf l E h_a0 e10) ml_X1_138 kv_X1_jitterOf (m_recv C hI h_a0.1 (ce_100 E _ _ _) rfl) rfl rfl ⟨Nat.le_of_ble_eq_true rfl, Nat.le_of_ble_eq_true rfl⟩ ⟨Nat.zero_le _, Nat.zero_le _⟩ rfl rfl hl.1 (Nat.le_of_ble_eq_true rfl) dX1_periodOf_48 (st1 := [.long q9]) rfl (fun H locs hI => ?_)
        refine lv_aload_n hx hb dX1_periodOf_51 rfl (lv_at hl 1 rfl) ?_
        refine lv_iload_n hx hb dX1_periodOf_52 rfl (lv_at hl 2 rfl) ?_
        refine lv_iload hx hb dX1_periodOf_53 (lv_at hl 0 rfl) ?_
        obtain ⟨q11, e12, hf⟩ := ob hf
        refine mcV (As := [.int a1, .int (a2 + ((a3 - a2) / (2 : Int32)))]) (rest := [.long q9]) C hI (c_X1_jitterOf l E h_a0 e12) ml_X1_138 kv_X1_jitterOf (m_recv C hI h_a0.1 (ce_100 E _ _ _) rfl) rfl rfl ⟨Nat.le_of_ble_eq_true rfl, Nat.le_of_ble_eq_true rfl⟩ ⟨Nat.zero_le _, Nat.zero_le _⟩ rfl rfl hl.1 (Nat.le_of_ble_eq_true rfl) dX1_periodOf_55 (st1 := [.long q11, .long q9]) rfl (fun H locs hI => ?_)
        refine W.lcmp hx hb dX1_periodOf_58 ?_
        refine lv_if_lt (tgt := 68) hx hb dX1_periodOf_59 rfl (fun hc => ?_) (fun hc => ?_)
        · replace hf := it hf hc
          refine lv_iload hx hb dX1_periodOf_68 (lv_at hl 0 rfl) ?_
          refine lv_iconst (v := (1 : Int32)) hx hb dX1_periodOf_70 kc_1 ?_
          refine lv_iadd hx hb dX1_periodOf_71 ?_
          refine lv_istore_n hx hb dX1_periodOf_72 rfl hl (by decide) rfl (fun ls hl => ?_)
          have hl : lv_has ls 6 [(2, .int ((a2 + ((a3 - a2) / (2 : Int32))) + (1 : Int32))), (5, .int (a2 + ((a3 - a2) / (2 : Int32)))), (0, .ref (ad E 100 0)), (1, .int a1), (3, .int a3), (4, .int a4)] := hl
          refine lv_iinc (v := a4 + (1 : Int32)) hx hb dX1_periodOf_73 hl (k := 5) rfl (ki_1 _) (by decide) rfl (fun ls hl => ?_)
          have hl : lv_has ls 6 [(4, .int (a4 + (1 : Int32))), (2, .int ((a2 + ((a3 - a2) / (2 : Int32))) + (1 : Int32))), (5, .int (a2 + ((a3 - a2) / (2 : Int32)))), (0, .ref (ad E 100 0)), (1, .int a1), (3, .int a3)] := hl
          refine lv_goto (tgt := 21) hx hb dX1_periodOf_76 rfl ?_
          exact ih _ _ _ _ h_a0 hf hI (lv_sub hl [3, 4, 1, 5, 0] rfl)
        · replace hf := ie hf hc
          refine lv_iload hx hb dX1_periodOf_62 (lv_at hl 0 rfl) ?_
          refine lv_istore_n hx hb dX1_periodOf_64 rfl hl (by decide) rfl (fun ls hl => ?_)
          have hl : lv_has ls 6 [(3, .int (a2 + ((a3 - a2) / (2 : Int32)))), (5, .int (a2 + ((a3 - a2) / (2 : Int32)))), (0, .ref (ad E 100 0)), (1, .int a1), (2, .int a2), (4, .int a4)] := hl
          refine lv_goto (tgt := 73) hx hb dX1_periodOf_65 rfl ?_
          refine lv_iinc (v := a4 + (1 : Int32)) hx hb dX1_periodOf_73 hl (k := 5) rfl (ki_1 _) (by decide) rfl (fun ls hl => ?_)
          have hl : lv_has ls 6 [(4, .int (a4 + (1 : Int32))), (3, .int (a2 + ((a3 - a2) / (2 : Int32)))), (5, .int (a2 + ((a3 - a2) / (2 : Int32)))), (0, .ref (ad E 100 0)), (1, .int a1), (2, .int a2)] := hl
          refine lv_goto (tgt := 21) hx hb dX1_periodOf_76 rfl ?_
          exact ih _ _ _ _ h_a0 hf hI (lv_sub hl [3, 4, 5, 1, 0] rfl)
def f_X1_periodOf (F : Nat) (μ : Mm) (p1 : Int32) : Option Int32 :=
 (f_X1_lastReadyOf F μ p1).bind fun q13 =>
 (f_X1_firstReadyOf F μ p1).bind fun q15 =>
 f_X1_periodOf_b21 F μ F p1 (1 : Int32) (if (1 : Int32) < (q13 - q15) then (q13 - q15) else (1 : Int32)) (0 : Int32)
set_option maxHeartbeats 4000000 in
set_option maxRecDepth 100000 in
theorem c_X1_periodOf (l : Launch) (E : En) {F : Nat} {μ : Mm} {p1 : Int32} (h0 : l1 E 0) {z : Int32} (hf : f_X1_periodOf F μ p1 = some z) : Met l yX1_periodOf (wt yX1_periodOf cX1_periodOf 6 (some .int)) { frames := 5, cells := 0, slots := 0, locals := 120 } (Pm E [.ref (ad E 100 0), .int p1] μ) (Qm E (some (.int z)) μ) 0 0 (Ad E) := by
  unfold f_X1_periodOf at hf
  refine met_of (cc := cX1_periodOf) (nL := 6) (ret := (some .int)) (by decide) _ (Nat.le_of_ble_eq_true rfl) ?_
  intro p e s m below meth c C hr hlk hI ls hl
  have hx := C.1.1
  have hb := C.1.2.1
  have hl : lv_has ls 6 [(0, .ref (ad E 100 0)), (1, .int p1)] := hl
  refine lv_iconst (v := (1 : Int32)) hx hb dX1_periodOf_0 kc_1 ?_
  refine lv_istore_n hx hb dX1_periodOf_1 rfl hl (by decide) rfl (fun ls hl => ?_)
  have hl : lv_has ls 6 [(2, .int (1 : Int32)), (0, .ref (ad E 100 0)), (1, .int p1)] := hl
  refine lv_iconst (v := (1 : Int32)) hx hb dX1_periodOf_2 kc_1 ?_
  refine lv_aload_n hx hb dX1_periodOf_3 rfl (lv_at hl 1 rfl) ?_
  refine lv_iload_n hx hb dX1_periodOf_4 rfl (lv_at hl 2 rfl) ?_
  obtain ⟨q13, e14, hf⟩ := ob hf
  refine mcV (As := [.int p1]) (rest := [.int (1 : Int32)]) C hI (c_X1_lastReadyOf l E h0 e14) ml_X1_129 kv_X1_lastReadyOf (m_recv C hI h0.1 (ce_100 E _ _ _) rfl) rfl rfl ⟨Nat.le_of_ble_eq_true rfl, Nat.le_of_ble_eq_true rfl⟩ ⟨Nat.zero_le _, Nat.zero_le _⟩ rfl rfl hl.1 (Nat.le_of_ble_eq_true rfl) dX1_periodOf_5 (st1 := [.int q13, .int (1 : Int32)]) rfl (fun H locs hI => ?_)
  refine lv_aload_n hx hb dX1_periodOf_8 rfl (lv_at hl 1 rfl) ?_
  refine lv_iload_n hx hb dX1_periodOf_9 rfl (lv_at hl 2 rfl) ?_
  obtain ⟨q15, e16, hf⟩ := ob hf
  refine mcV (As := [.int p1]) (rest := [.int q13, .int (1 : Int32)]) C hI (c_X1_firstReadyOf l E h0 e16) ml_X1_132 kv_X1_firstReadyOf (m_recv C hI h0.1 (ce_100 E _ _ _) rfl) rfl rfl ⟨Nat.le_of_ble_eq_true rfl, Nat.le_of_ble_eq_true rfl⟩ ⟨Nat.zero_le _, Nat.zero_le _⟩ rfl rfl hl.1 (Nat.le_of_ble_eq_true rfl) dX1_periodOf_10 (st1 := [.int q15, .int q13, .int (1 : Int32)]) rfl (fun H locs hI => ?_)
  refine lv_isub hx hb dX1_periodOf_13 ?_
  refine mmaxI C hl.1 ml_X1_135 (Nat.le_of_ble_eq_true rfl) (Nat.le_of_ble_eq_true rfl) (Nat.zero_le _) (Nat.zero_le _) dX1_periodOf_14 ?_
  refine lv_istore_n hx hb dX1_periodOf_17 rfl hl (by decide) rfl (fun ls hl => ?_)
  have hl : lv_has ls 6 [(3, .int (if (1 : Int32) < (q13 - q15) then (q13 - q15) else (1 : Int32))), (2, .int (1 : Int32)), (0, .ref (ad E 100 0)), (1, .int p1)] := hl
  refine lv_iconst (v := (0 : Int32)) hx hb dX1_periodOf_18 kc_0 ?_
  refine lv_istore hx hb dX1_periodOf_19 hl (by decide) rfl (fun ls hl => ?_)
  have hl : lv_has ls 6 [(4, .int (0 : Int32)), (3, .int (if (1 : Int32) < (q13 - q15) then (q13 - q15) else (1 : Int32))), (2, .int (1 : Int32)), (0, .ref (ad E 100 0)), (1, .int p1)] := hl
  exact cb_X1_periodOf_21 C hr hlk  _ _ _ _ _ h0 hf hI (lv_sub hl [3, 4, 2, 1, 0] rfl)

theorem dX1_meet_0 : decode cX1_meet 0 = .ok (.aload_n 1, 1) := by decide +kernel
theorem dX1_meet_1 : decode cX1_meet 1 = .ok (.iload_n 2, 1) := by decide +kernel
theorem dX1_meet_2 : decode cX1_meet 2 = .ok (.invokevirtual 78, 3) := by decide +kernel
theorem dX1_meet_5 : decode cX1_meet 5 = .ok (.istore_n 3, 1) := by decide +kernel
theorem dX1_meet_6 : decode cX1_meet 6 = .ok (.iload_n 3, 1) := by decide +kernel
theorem dX1_meet_7 : decode cX1_meet 7 = .ok (.ifCond .lt 9, 3) := by decide +kernel
theorem dX1_meet_10 : decode cX1_meet 10 = .ok (.iload_n 3, 1) := by decide +kernel
theorem dX1_meet_11 : decode cX1_meet 11 = .ok (.bipush 8, 2) := by decide +kernel
theorem dX1_meet_13 : decode cX1_meet 13 = .ok (.if_icmp .lt 4, 3) := by decide +kernel
theorem dX1_meet_16 : decode cX1_meet 16 = .ok (.return_, 1) := by decide +kernel
theorem dX1_meet_17 : decode cX1_meet 17 = .ok (.aload_n 1, 1) := by decide +kernel
theorem dX1_meet_18 : decode cX1_meet 18 = .ok (.iload_n 2, 1) := by decide +kernel
theorem dX1_meet_19 : decode cX1_meet 19 = .ok (.invokevirtual 82, 3) := by decide +kernel
theorem dX1_meet_22 : decode cX1_meet 22 = .ok (.ifCond .ne 24, 3) := by decide +kernel
theorem dX1_meet_25 : decode cX1_meet 25 = .ok (.aload_n 0, 1) := by decide +kernel
theorem dX1_meet_26 : decode cX1_meet 26 = .ok (.getfield 36, 3) := by decide +kernel
theorem dX1_meet_29 : decode cX1_meet 29 = .ok (.iload_n 3, 1) := by decide +kernel
theorem dX1_meet_30 : decode cX1_meet 30 = .ok (.iload_n 2, 1) := by decide +kernel
theorem dX1_meet_31 : decode cX1_meet 31 = .ok (.iastore, 1) := by decide +kernel
theorem dX1_meet_32 : decode cX1_meet 32 = .ok (.aload_n 0, 1) := by decide +kernel
theorem dX1_meet_33 : decode cX1_meet 33 = .ok (.getfield 39, 3) := by decide +kernel
theorem dX1_meet_36 : decode cX1_meet 36 = .ok (.iload_n 3, 1) := by decide +kernel
theorem dX1_meet_37 : decode cX1_meet 37 = .ok (.iconst 0, 1) := by decide +kernel
theorem dX1_meet_38 : decode cX1_meet 38 = .ok (.iastore, 1) := by decide +kernel
theorem dX1_meet_39 : decode cX1_meet 39 = .ok (.aload_n 0, 1) := by decide +kernel
theorem dX1_meet_40 : decode cX1_meet 40 = .ok (.getfield 42, 3) := by decide +kernel
theorem dX1_meet_43 : decode cX1_meet 43 = .ok (.iload_n 3, 1) := by decide +kernel
theorem dX1_meet_44 : decode cX1_meet 44 = .ok (.iconst 0, 1) := by decide +kernel
theorem dX1_meet_45 : decode cX1_meet 45 = .ok (.iastore, 1) := by decide +kernel
theorem dX1_meet_46 : decode cX1_meet 46 = .ok (.aload_n 1, 1) := by decide +kernel
theorem dX1_meet_47 : decode cX1_meet 47 = .ok (.iload_n 2, 1) := by decide +kernel
theorem dX1_meet_48 : decode cX1_meet 48 = .ok (.invokevirtual 82, 3) := by decide +kernel
theorem dX1_meet_51 : decode cX1_meet 51 = .ok (.iconst 2, 1) := by decide +kernel
theorem dX1_meet_52 : decode cX1_meet 52 = .ok (.if_icmp .ne 20, 3) := by decide +kernel
theorem dX1_meet_55 : decode cX1_meet 55 = .ok (.aload_n 0, 1) := by decide +kernel
theorem dX1_meet_56 : decode cX1_meet 56 = .ok (.getfield 36, 3) := by decide +kernel
theorem dX1_meet_59 : decode cX1_meet 59 = .ok (.iload_n 3, 1) := by decide +kernel
theorem dX1_meet_60 : decode cX1_meet 60 = .ok (.iaload, 1) := by decide +kernel
theorem dX1_meet_61 : decode cX1_meet 61 = .ok (.iconst (-1), 1) := by decide +kernel
theorem dX1_meet_62 : decode cX1_meet 62 = .ok (.if_icmp .eq 10, 3) := by decide +kernel
theorem dX1_meet_65 : decode cX1_meet 65 = .ok (.aload_n 0, 1) := by decide +kernel
theorem dX1_meet_66 : decode cX1_meet 66 = .ok (.aload_n 1, 1) := by decide +kernel
theorem dX1_meet_67 : decode cX1_meet 67 = .ok (.iload_n 3, 1) := by decide +kernel
theorem dX1_meet_68 : decode cX1_meet 68 = .ok (.iload_n 2, 1) := by decide +kernel
theorem dX1_meet_69 : decode cX1_meet 69 = .ok (.invokevirtual 85, 3) := by decide +kernel
theorem dX1_meet_72 : decode cX1_meet 72 = .ok (.return_, 1) := by decide +kernel
def f_X1_meet_b46 (μ : Mm) (a1 : Nat) (a2 : Int32) (a3 : Int32) : Option Mm :=
 (f_X2_kindOf μ a1 a2).bind fun q17 =>
 if q17 = (2 : Int32) then
 (ra μ 109 0 8 a3).bind fun v19 =>
 if v19 = (-1 : Int32) then
 some μ
 else
 (f_X1_close μ a1 a3 a2).bind fun q21 =>
 some q21
 else
 some μ
set_option maxHeartbeats 4000000 in
set_option maxRecDepth 100000 in
theorem cb_X1_meet_46 {l : Launch} {E : En} {p : Program} {e : Env} {s : State} {m : MethodId} {av : Array Value} {below : List Frame} {meth : Method} {c : Code} (C : Cx E p s m av c cX1_meet 4 yX1_meet.cls) (hr : meth.sig.returnType = (none : Option FieldType)) (hlk : meth.locks = false) {z : Mm} : ∀ (μ : Mm) (a1 : Nat) (a2 : Int32) (a3 : Int32) (h_a0 : l1 E 0) (h_a1 : l2 E a1), f_X1_meet_b46 μ a1 a2 a3 = some z → ∀ {H : Heap} {locs : List Loc} {ls : Array Slot}, Iv E s μ H locs → lv_has ls 4 [(0, .ref (ad E 100 0)), (1, .ref (ad E 200 a1)), (2, .int a2), (3, .int a3)] → W p l e { frames := 3, cells := 0, slots := 0, locals := 65 } s m av below meth c H locs 0 0 (MQ below (Qm E none z) av s 0 0 (Ad E)) (F0 m 46 ls []) := by
  have hx := C.1.1
  have hb := C.1.2.1
  intro μ a1 a2 a3 h_a0 h_a1 hf H locs ls hI hl
  unfold f_X1_meet_b46 at hf
  refine lv_aload_n hx hb dX1_meet_46 rfl (lv_at hl 1 rfl) ?_
  refine lv_iload_n hx hb dX1_meet_47 rfl (lv_at hl 2 rfl) ?_
  obtain ⟨q17, e18, hf⟩ := ob hf
  refine mcV (As := [.int a2]) (rest := []) C hI (c_X2_kindOf l E h_a1 e18) ml_X1_82 kv_X2_kindOf (m_recv C hI h_a1.1 (ce_200 E _ _ _) rfl) rfl rfl ⟨Nat.le_of_ble_eq_true rfl, Nat.le_of_ble_eq_true rfl⟩ ⟨Nat.zero_le _, Nat.zero_le _⟩ rfl rfl hl.1 (Nat.le_of_ble_eq_true rfl) dX1_meet_48 (st1 := [.int q17]) rfl (fun H locs hI => ?_)
  refine lv_iconst (v := (2 : Int32)) hx hb dX1_meet_51 kc_2 ?_
  refine lv_icmp_ne (tgt := 72) hx hb dX1_meet_52 rfl (fun hc => ?_) (fun hc => ?_)
  · replace hf := ie hf hc
    obtain rfl := Option.some.inj hf
    exact m_vret C hr hlk hI dX1_meet_72
  · replace hf := it hf hc
    refine lv_aload_n hx hb dX1_meet_55 rfl (lv_at hl 0 rfl) ?_
    refine gf_1_8 C hI h_a0.1 fl_X1_36 dX1_meet_56 ?_
    refine lv_iload_n hx hb dX1_meet_59 rfl (lv_at hl 3 rfl) ?_
    obtain ⟨v19, e20, hf⟩ := ob hf
    refine m_iald C hI h_a0.2.2.2.2.2.2.2.2.2.1 (ce_109 E _ _ _) e20 dX1_meet_60 ?_
    refine lv_iconst (v := (-1 : Int32)) hx hb dX1_meet_61 kc_m1 ?_
    refine lv_icmp_eq (tgt := 72) hx hb dX1_meet_62 rfl (fun hc => ?_) (fun hc => ?_)
    · replace hf := it hf hc
      obtain rfl := Option.some.inj hf
      exact m_vret C hr hlk hI dX1_meet_72
    · replace hf := ie hf hc
      refine lv_aload_n hx hb dX1_meet_65 rfl (lv_at hl 0 rfl) ?_
      refine lv_aload_n hx hb dX1_meet_66 rfl (lv_at hl 1 rfl) ?_
      refine lv_iload_n hx hb dX1_meet_67 rfl (lv_at hl 3 rfl) ?_
      refine lv_iload_n hx hb dX1_meet_68 rfl (lv_at hl 2 rfl) ?_
      obtain ⟨q21, e22, hf⟩ := ob hf
      refine mcV (As := [.ref (ad E 200 a1), .int a3, .int a2]) (rest := []) C hI (c_X1_close l E h_a0 h_a1 e22) ml_X1_85 kv_X1_close (m_recv C hI h_a0.1 (ce_100 E _ _ _) rfl) rfl rfl ⟨Nat.le_of_ble_eq_true rfl, Nat.le_of_ble_eq_true rfl⟩ ⟨Nat.zero_le _, Nat.zero_le _⟩ rfl rfl hl.1 (Nat.le_of_ble_eq_true rfl) dX1_meet_69 (st1 := []) rfl (fun H locs hI => ?_)
      obtain rfl := Option.some.inj hf
      exact m_vret C hr hlk hI dX1_meet_72
def f_X1_meet (μ : Mm) (n1 : Nat) (p2 : Int32) : Option Mm :=
 (f_X2_taskOf μ n1 p2).bind fun q23 =>
 if q23 < 0 then
 some μ
 else
 if q23 < (8 : Int32) then
 (f_X2_kindOf μ n1 p2).bind fun q25 =>
 if q25 = 0 then
 (wa μ 109 0 8 q23 p2).bind fun m27 =>
 (wa m27 110 0 8 q23 (0 : Int32)).bind fun m29 =>
 (wa m29 111 0 8 q23 (0 : Int32)).bind fun m31 =>
 f_X1_meet_b46 m31 n1 p2 q23
 else
 f_X1_meet_b46 μ n1 p2 q23
 else
 some μ
set_option maxHeartbeats 4000000 in
set_option maxRecDepth 100000 in
theorem c_X1_meet (l : Launch) (E : En) {μ : Mm} {n1 : Nat} {p2 : Int32} (h0 : l1 E 0) (h1 : l2 E n1) {z : Mm} (hf : f_X1_meet μ n1 p2 = some z) : Met l yX1_meet (wt yX1_meet cX1_meet 4 (none : Option FieldType)) { frames := 3, cells := 0, slots := 0, locals := 65 } (Pm E [.ref (ad E 100 0), .ref (ad E 200 n1), .int p2] μ) (Qm E none z) 0 0 (Ad E) := by
  unfold f_X1_meet at hf
  refine met_of (cc := cX1_meet) (nL := 4) (ret := (none : Option FieldType)) (by decide) _ (Nat.le_of_ble_eq_true rfl) ?_
  intro p e s m below meth c C hr hlk hI ls hl
  have hx := C.1.1
  have hb := C.1.2.1
  have hl : lv_has ls 4 [(0, .ref (ad E 100 0)), (1, .ref (ad E 200 n1)), (2, .int p2)] := hl
  refine lv_aload_n hx hb dX1_meet_0 rfl (lv_at hl 1 rfl) ?_
  refine lv_iload_n hx hb dX1_meet_1 rfl (lv_at hl 2 rfl) ?_
  obtain ⟨q23, e24, hf⟩ := ob hf
  refine mcV (As := [.int p2]) (rest := []) C hI (c_X2_taskOf l E h1 e24) ml_X1_78 kv_X2_taskOf (m_recv C hI h1.1 (ce_200 E _ _ _) rfl) rfl rfl ⟨Nat.le_of_ble_eq_true rfl, Nat.le_of_ble_eq_true rfl⟩ ⟨Nat.zero_le _, Nat.zero_le _⟩ rfl rfl hl.1 (Nat.le_of_ble_eq_true rfl) dX1_meet_2 (st1 := [.int q23]) rfl (fun H locs hI => ?_)
  refine lv_istore_n hx hb dX1_meet_5 rfl hl (by decide) rfl (fun ls hl => ?_)
  have hl : lv_has ls 4 [(3, .int q23), (0, .ref (ad E 100 0)), (1, .ref (ad E 200 n1)), (2, .int p2)] := hl
  refine lv_iload_n hx hb dX1_meet_6 rfl (lv_at hl 0 rfl) ?_
  refine lv_if_lt (tgt := 16) hx hb dX1_meet_7 rfl (fun hc => ?_) (fun hc => ?_)
  · replace hf := it hf hc
    obtain rfl := Option.some.inj hf
    exact m_vret C hr hlk hI dX1_meet_16
  · replace hf := ie hf hc
    refine lv_iload_n hx hb dX1_meet_10 rfl (lv_at hl 0 rfl) ?_
    refine lv_bipush (v := (8 : Int32)) hx hb dX1_meet_11 kb_8 ?_
    refine lv_icmp_lt (tgt := 17) hx hb dX1_meet_13 rfl (fun hc => ?_) (fun hc => ?_)
    · replace hf := it hf hc
      refine lv_aload_n hx hb dX1_meet_17 rfl (lv_at hl 2 rfl) ?_
      refine lv_iload_n hx hb dX1_meet_18 rfl (lv_at hl 3 rfl) ?_
      obtain ⟨q25, e26, hf⟩ := ob hf
      refine mcV (As := [.int p2]) (rest := []) C hI (c_X2_kindOf l E h1 e26) ml_X1_82 kv_X2_kindOf (m_recv C hI h1.1 (ce_200 E _ _ _) rfl) rfl rfl ⟨Nat.le_of_ble_eq_true rfl, Nat.le_of_ble_eq_true rfl⟩ ⟨Nat.zero_le _, Nat.zero_le _⟩ rfl rfl hl.1 (Nat.le_of_ble_eq_true rfl) dX1_meet_19 (st1 := [.int q25]) rfl (fun H locs hI => ?_)
      refine lv_if_ne (tgt := 46) hx hb dX1_meet_22 rfl (fun hc => ?_) (fun hc => ?_)
      · replace hf := ie hf hc
        exact cb_X1_meet_46 C hr hlk  _ _ _ _ h0 h1 hf hI (lv_sub hl [1, 2, 3, 0] rfl)
      · replace hf := it hf hc
        refine lv_aload_n hx hb dX1_meet_25 rfl (lv_at hl 1 rfl) ?_
        refine gf_1_8 C hI h0.1 fl_X1_36 dX1_meet_26 ?_
        refine lv_iload_n hx hb dX1_meet_29 rfl (lv_at hl 0 rfl) ?_
        refine lv_iload_n hx hb dX1_meet_30 rfl (lv_at hl 3 rfl) ?_
        obtain ⟨m27, e28, hf⟩ := ob hf
        refine m_iast C hI h0.2.2.2.2.2.2.2.2.2.1 (ce_109 E _) e28 dX1_meet_31 (fun H locs hI => ?_)
        refine lv_aload_n hx hb dX1_meet_32 rfl (lv_at hl 1 rfl) ?_
        refine gf_1_9 C hI h0.1 fl_X1_39 dX1_meet_33 ?_
        refine lv_iload_n hx hb dX1_meet_36 rfl (lv_at hl 0 rfl) ?_
        refine lv_iconst (v := (0 : Int32)) hx hb dX1_meet_37 kc_0 ?_
        obtain ⟨m29, e30, hf⟩ := ob hf
        refine m_iast C hI h0.2.2.2.2.2.2.2.2.2.2.1 (ce_110 E _) e30 dX1_meet_38 (fun H locs hI => ?_)
        refine lv_aload_n hx hb dX1_meet_39 rfl (lv_at hl 1 rfl) ?_
        refine gf_1_10 C hI h0.1 fl_X1_42 dX1_meet_40 ?_
        refine lv_iload_n hx hb dX1_meet_43 rfl (lv_at hl 0 rfl) ?_
        refine lv_iconst (v := (0 : Int32)) hx hb dX1_meet_44 kc_0 ?_
        obtain ⟨m31, e32, hf⟩ := ob hf
        refine m_iast C hI h0.2.2.2.2.2.2.2.2.2.2.2 (ce_111 E _) e32 dX1_meet_45 (fun H locs hI => ?_)
        exact cb_X1_meet_46 C hr hlk  _ _ _ _ h0 h1 hf hI (lv_sub hl [1, 2, 3, 0] rfl)
    · replace hf := ie hf hc
      obtain rfl := Option.some.inj hf
      exact m_vret C hr hlk hI dX1_meet_16

theorem dX1_runJobs_0 : decode cX1_runJobs 0 = .ok (.iload_n 2, 1) := by decide +kernel
theorem dX1_runJobs_1 : decode cX1_runJobs 1 = .ok (.istore 5, 2) := by decide +kernel
theorem dX1_runJobs_3 : decode cX1_runJobs 3 = .ok (.iconst 0, 1) := by decide +kernel
theorem dX1_runJobs_4 : decode cX1_runJobs 4 = .ok (.istore 6, 2) := by decide +kernel
theorem dX1_runJobs_6 : decode cX1_runJobs 6 = .ok (.iload 6, 2) := by decide +kernel
theorem dX1_runJobs_8 : decode cX1_runJobs 8 = .ok (.bipush 67, 2) := by decide +kernel
theorem dX1_runJobs_10 : decode cX1_runJobs 10 = .ok (.if_icmp .gt 78, 3) := by decide +kernel
theorem dX1_runJobs_13 : decode cX1_runJobs 13 = .ok (.iload 5, 2) := by decide +kernel
theorem dX1_runJobs_15 : decode cX1_runJobs 15 = .ok (.iload_n 3, 1) := by decide +kernel
theorem dX1_runJobs_16 : decode cX1_runJobs 16 = .ok (.if_icmp .ge 72, 3) := by decide +kernel
theorem dX1_runJobs_19 : decode cX1_runJobs 19 = .ok (.aload_n 0, 1) := by decide +kernel
theorem dX1_runJobs_20 : decode cX1_runJobs 20 = .ok (.iload_n 1, 1) := by decide +kernel
theorem dX1_runJobs_21 : decode cX1_runJobs 21 = .ok (.aload 4, 2) := by decide +kernel
theorem dX1_runJobs_23 : decode cX1_runJobs 23 = .ok (.invokevirtual 115, 3) := by decide +kernel
theorem dX1_runJobs_26 : decode cX1_runJobs 26 = .ok (.istore 7, 2) := by decide +kernel
theorem dX1_runJobs_28 : decode cX1_runJobs 28 = .ok (.aload_n 0, 1) := by decide +kernel
theorem dX1_runJobs_29 : decode cX1_runJobs 29 = .ok (.iload 7, 2) := by decide +kernel
theorem dX1_runJobs_31 : decode cX1_runJobs 31 = .ok (.invokevirtual 98, 3) := by decide +kernel
theorem dX1_runJobs_34 : decode cX1_runJobs 34 = .ok (.ifCond .ne 4, 3) := by decide +kernel
theorem dX1_runJobs_37 : decode cX1_runJobs 37 = .ok (.return_, 1) := by decide +kernel
theorem dX1_runJobs_38 : decode cX1_runJobs 38 = .ok (.aload_n 0, 1) := by decide +kernel
theorem dX1_runJobs_39 : decode cX1_runJobs 39 = .ok (.getfield 30, 3) := by decide +kernel
theorem dX1_runJobs_42 : decode cX1_runJobs 42 = .ok (.iload 7, 2) := by decide +kernel
theorem dX1_runJobs_44 : decode cX1_runJobs 44 = .ok (.iaload, 1) := by decide +kernel
theorem dX1_runJobs_45 : decode cX1_runJobs 45 = .ok (.iload_n 3, 1) := by decide +kernel
theorem dX1_runJobs_46 : decode cX1_runJobs 46 = .ok (.iload 5, 2) := by decide +kernel
theorem dX1_runJobs_48 : decode cX1_runJobs 48 = .ok (.isub, 1) := by decide +kernel
theorem dX1_runJobs_49 : decode cX1_runJobs 49 = .ok (.invokestatic 119, 3) := by decide +kernel
theorem dX1_runJobs_52 : decode cX1_runJobs 52 = .ok (.istore 8, 2) := by decide +kernel
theorem dX1_runJobs_54 : decode cX1_runJobs 54 = .ok (.iload 5, 2) := by decide +kernel
theorem dX1_runJobs_56 : decode cX1_runJobs 56 = .ok (.iload 8, 2) := by decide +kernel
theorem dX1_runJobs_58 : decode cX1_runJobs 58 = .ok (.iadd, 1) := by decide +kernel
theorem dX1_runJobs_59 : decode cX1_runJobs 59 = .ok (.istore 5, 2) := by decide +kernel
theorem dX1_runJobs_61 : decode cX1_runJobs 61 = .ok (.aload_n 0, 1) := by decide +kernel
theorem dX1_runJobs_62 : decode cX1_runJobs 62 = .ok (.getfield 30, 3) := by decide +kernel
theorem dX1_runJobs_65 : decode cX1_runJobs 65 = .ok (.iload 7, 2) := by decide +kernel
theorem dX1_runJobs_67 : decode cX1_runJobs 67 = .ok (.dup2, 1) := by decide +kernel
theorem dX1_runJobs_68 : decode cX1_runJobs 68 = .ok (.iaload, 1) := by decide +kernel
theorem dX1_runJobs_69 : decode cX1_runJobs 69 = .ok (.iload 8, 2) := by decide +kernel
theorem dX1_runJobs_71 : decode cX1_runJobs 71 = .ok (.isub, 1) := by decide +kernel
theorem dX1_runJobs_72 : decode cX1_runJobs 72 = .ok (.iastore, 1) := by decide +kernel
theorem dX1_runJobs_73 : decode cX1_runJobs 73 = .ok (.aload_n 0, 1) := by decide +kernel
theorem dX1_runJobs_74 : decode cX1_runJobs 74 = .ok (.getfield 33, 3) := by decide +kernel
theorem dX1_runJobs_77 : decode cX1_runJobs 77 = .ok (.iload 7, 2) := by decide +kernel
theorem dX1_runJobs_79 : decode cX1_runJobs 79 = .ok (.iload 5, 2) := by decide +kernel
theorem dX1_runJobs_81 : decode cX1_runJobs 81 = .ok (.iastore, 1) := by decide +kernel
theorem dX1_runJobs_82 : decode cX1_runJobs 82 = .ok (.iinc 6 1, 3) := by decide +kernel
theorem dX1_runJobs_85 : decode cX1_runJobs 85 = .ok (.goto (-79), 3) := by decide +kernel
theorem dX1_runJobs_88 : decode cX1_runJobs 88 = .ok (.return_, 1) := by decide +kernel
def f_X1_runJobs_b6 (F : Nat) : Nat → Mm → Int32 → Int32 → Int32 → Int32 → Option Mm
 | 0, _, _, _, _, _ => none
 | N + 1, μ, a1, a3, a5, a6 =>
 if (67 : Int32) < a6 then
 some μ
 else
 if a3 ≤ a5 then
 some μ
 else
 (f_X1_foremost F μ a1).bind fun q13 =>
 (f_X1_has μ q13).bind fun q15 =>
 if q15 = 0 then
 some μ
 else
 (ra μ 107 0 67 q13).bind fun v17 =>
 (ra μ 107 0 67 q13).bind fun v19 =>
 (wa μ 107 0 67 q13 (v19 - (if (a3 - a5) < v17 then (a3 - a5) else v17))).bind fun m21 =>
 (wa m21 108 0 67 q13 (a5 + (if (a3 - a5) < v17 then (a3 - a5) else v17))).bind fun m23 =>
 f_X1_runJobs_b6 F N m23 a1 a3 (a5 + (if (a3 - a5) < v17 then (a3 - a5) else v17)) (a6 + (1 : Int32))
set_option maxHeartbeats 4000000 in
set_option maxRecDepth 100000 in
theorem cb_X1_runJobs_6 {l : Launch} {E : En} {p : Program} {e : Env} {s : State} {m : MethodId} {av : Array Value} {below : List Frame} {meth : Method} {c : Code} (C : Cx E p s m av c cX1_runJobs 9 yX1_runJobs.cls) (hr : meth.sig.returnType = (none : Option FieldType)) (hlk : meth.locks = false) {F : Nat} {z : Mm} : ∀ (N : Nat) (μ : Mm) (a1 : Int32) (a3 : Int32) (a5 : Int32) (a6 : Int32) (h_a0 : l1 E 0) (h_a4 : (903, 0) ∈ eL E), f_X1_runJobs_b6 F N μ a1 a3 a5 a6 = some z → ∀ {H : Heap} {locs : List Loc} {ls : Array Slot}, Iv E s μ H locs → lv_has ls 9 [(0, .ref (ad E 100 0)), (1, .int a1), (3, .int a3), (4, .ref (ad E 903 0)), (5, .int a5), (6, .int a6)] → W p l e { frames := 2, cells := 0, slots := 0, locals := 50 } s m av below meth c H locs 0 0 (MQ below (Qm E none z) av s 0 0 (Ad E)) (F0 m 6 ls []) := by
  have hx := C.1.1
  have hb := C.1.2.1
  intro N
  induction N with
  | zero => intro μ a1 a3 a5 a6 h_a0 h_a4 hf; cases hf
  | succ N ih =>
    intro μ a1 a3 a5 a6 h_a0 h_a4 hf H locs ls hI hl
    rw [f_X1_runJobs_b6] at hf
    refine lv_iload hx hb dX1_runJobs_6 (lv_at hl 5 rfl) ?_
    refine lv_bipush (v := (67 : Int32)) hx hb dX1_runJobs_8 kb_67 ?_
    refine lv_icmp_gt (tgt := 88) hx hb dX1_runJobs_10 rfl (fun hc => ?_) (fun hc => ?_)
    · replace hf := it hf hc
      obtain rfl := Option.some.inj hf
      exact m_vret C hr hlk hI dX1_runJobs_88
    · replace hf := ie hf hc
      refine lv_iload hx hb dX1_runJobs_13 (lv_at hl 4 rfl) ?_
      refine lv_iload_n hx hb dX1_runJobs_15 rfl (lv_at hl 2 rfl) ?_
      refine lv_icmp_ge (tgt := 88) hx hb dX1_runJobs_16 rfl (fun hc => ?_) (fun hc => ?_)
      · replace hf := it hf hc
        obtain rfl := Option.some.inj hf
        exact m_vret C hr hlk hI dX1_runJobs_88
      · replace hf := ie hf hc
        refine lv_aload_n hx hb dX1_runJobs_19 rfl (lv_at hl 0 rfl) ?_
        refine lv_iload_n hx hb dX1_runJobs_20 rfl (lv_at hl 1 rfl) ?_
        refine lv_aload hx hb dX1_runJobs_21 (lv_at hl 3 rfl) ?_
        obtain ⟨q13, e14, hf⟩ := ob hf
        refine mcV (As := [.int a1, .ref (ad E 903 0)]) (rest := []) C hI (c_X1_foremost l E h_a0 h_a4 e14) ml_X1_115 kv_X1_foremost (m_recv C hI h_a0.1 (ce_100 E _ _ _) rfl) rfl rfl ⟨Nat.le_of_ble_eq_true rfl, Nat.le_of_ble_eq_true rfl⟩ ⟨Nat.zero_le _, Nat.zero_le _⟩ rfl rfl hl.1 (Nat.le_of_ble_eq_true rfl) dX1_runJobs_23 (st1 := [.int q13]) rfl (fun H locs hI => ?_)
        refine lv_istore hx hb dX1_runJobs_26 hl (by decide) rfl (fun ls hl => ?_)
        have hl : lv_has ls 9 [(7, .int q13), (0, .ref (ad E 100 0)), (1, .int a1), (3, .int a3), (4, .ref (ad E 903 0)), (5, .int a5), (6, .int a6)] := hl
        refine lv_aload_n hx hb dX1_runJobs_28 rfl (lv_at hl 1 rfl) ?_
        refine lv_iload hx hb dX1_runJobs_29 (lv_at hl 0 rfl) ?_
        obtain ⟨q15, e16, hf⟩ := ob hf
        refine mcV (As := [.int q13]) (rest := []) C hI (c_X1_has l E h_a0 e16) ml_X1_98 kv_X1_has (m_recv C hI h_a0.1 (ce_100 E _ _ _) rfl) rfl rfl ⟨Nat.le_of_ble_eq_true rfl, Nat.le_of_ble_eq_true rfl⟩ ⟨Nat.zero_le _, Nat.zero_le _⟩ rfl rfl hl.1 (Nat.le_of_ble_eq_true rfl) dX1_runJobs_31 (st1 := [.int q15]) rfl (fun H locs hI => ?_)
        refine lv_if_ne (tgt := 38) hx hb dX1_runJobs_34 rfl (fun hc => ?_) (fun hc => ?_)
        · replace hf := ie hf hc
          refine lv_aload_n hx hb dX1_runJobs_38 rfl (lv_at hl 1 rfl) ?_
          refine gf_1_6 C hI h_a0.1 fl_X1_30 dX1_runJobs_39 ?_
          refine lv_iload hx hb dX1_runJobs_42 (lv_at hl 0 rfl) ?_
          obtain ⟨v17, e18, hf⟩ := ob hf
          refine m_iald C hI h_a0.2.2.2.2.2.2.2.1 (ce_107 E _ _ _) e18 dX1_runJobs_44 ?_
          refine lv_iload_n hx hb dX1_runJobs_45 rfl (lv_at hl 3 rfl) ?_
          refine lv_iload hx hb dX1_runJobs_46 (lv_at hl 5 rfl) ?_
          refine lv_isub hx hb dX1_runJobs_48 ?_
          refine mminI C hl.1 ml_X1_119 (Nat.le_of_ble_eq_true rfl) (Nat.le_of_ble_eq_true rfl) (Nat.zero_le _) (Nat.zero_le _) dX1_runJobs_49 ?_
          refine lv_istore hx hb dX1_runJobs_52 hl (by decide) rfl (fun ls hl => ?_)
          have hl : lv_has ls 9 [(8, .int (if (a3 - a5) < v17 then (a3 - a5) else v17)), (7, .int q13), (0, .ref (ad E 100 0)), (1, .int a1), (3, .int a3), (4, .ref (ad E 903 0)), (5, .int a5), (6, .int a6)] := hl
          refine lv_iload hx hb dX1_runJobs_54 (lv_at hl 6 rfl) ?_
          refine lv_iload hx hb dX1_runJobs_56 (lv_at hl 0 rfl) ?_
          refine lv_iadd hx hb dX1_runJobs_58 ?_
          refine lv_istore hx hb dX1_runJobs_59 hl (by decide) rfl (fun ls hl => ?_)
          have hl : lv_has ls 9 [(5, .int (a5 + (if (a3 - a5) < v17 then (a3 - a5) else v17))), (8, .int (if (a3 - a5) < v17 then (a3 - a5) else v17)), (7, .int q13), (0, .ref (ad E 100 0)), (1, .int a1), (3, .int a3), (4, .ref (ad E 903 0)), (6, .int a6)] := hl
          refine lv_aload_n hx hb dX1_runJobs_61 rfl (lv_at hl 3 rfl) ?_
          refine gf_1_6 C hI h_a0.1 fl_X1_30 dX1_runJobs_62 ?_
          refine lv_iload hx hb dX1_runJobs_65 (lv_at hl 2 rfl) ?_
          refine lv_dup2_11 hx hb dX1_runJobs_67 rfl rfl ?_
          obtain ⟨v19, e20, hf⟩ := ob hf
          refine m_iald C hI h_a0.2.2.2.2.2.2.2.1 (ce_107 E _ _ _) e20 dX1_runJobs_68 ?_
          refine lv_iload hx hb dX1_runJobs_69 (lv_at hl 1 rfl) ?_
          refine lv_isub hx hb dX1_runJobs_71 ?_
          obtain ⟨m21, e22, hf⟩ := ob hf
          refine m_iast C hI h_a0.2.2.2.2.2.2.2.1 (ce_107 E _) e22 dX1_runJobs_72 (fun H locs hI => ?_)
          refine lv_aload_n hx hb dX1_runJobs_73 rfl (lv_at hl 3 rfl) ?_
          refine gf_1_7 C hI h_a0.1 fl_X1_33 dX1_runJobs_74 ?_
          refine lv_iload hx hb dX1_runJobs_77 (lv_at hl 2 rfl) ?_
          refine lv_iload hx hb dX1_runJobs_79 (lv_at hl 0 rfl) ?_
          obtain ⟨m23, e24, hf⟩ := ob hf
          refine m_iast C hI h_a0.2.2.2.2.2.2.2.2.1 (ce_108 E _) e24 dX1_runJobs_81 (fun H locs hI => ?_)
          refine lv_iinc (v := a6 + (1 : Int32)) hx hb dX1_runJobs_82 hl (k := 7) rfl (ki_1 _) (by decide) rfl (fun ls hl => ?_)
          have hl : lv_has ls 9 [(6, .int (a6 + (1 : Int32))), (5, .int (a5 + (if (a3 - a5) < v17 then (a3 - a5) else v17))), (8, .int (if (a3 - a5) < v17 then (a3 - a5) else v17)), (7, .int q13), (0, .ref (ad E 100 0)), (1, .int a1), (3, .int a3), (4, .ref (ad E 903 0))] := hl
          refine lv_goto (tgt := 6) hx hb dX1_runJobs_85 rfl ?_
          exact ih _ _ _ _ _ h_a0 h_a4 hf hI (lv_sub hl [4, 5, 6, 7, 1, 0] rfl)
        · replace hf := it hf hc
          obtain rfl := Option.some.inj hf
          exact m_vret C hr hlk hI dX1_runJobs_37
def f_X1_runJobs (F : Nat) (μ : Mm) (p1 : Int32) (p2 : Int32) (p3 : Int32) : Option Mm :=
 f_X1_runJobs_b6 F F μ p1 p3 p2 (0 : Int32)
set_option maxHeartbeats 4000000 in
set_option maxRecDepth 100000 in
theorem c_X1_runJobs (l : Launch) (E : En) {F : Nat} {μ : Mm} {p1 : Int32} {p2 : Int32} {p3 : Int32} (h0 : l1 E 0) (h4 : (903, 0) ∈ eL E) {z : Mm} (hf : f_X1_runJobs F μ p1 p2 p3 = some z) : Met l yX1_runJobs (wt yX1_runJobs cX1_runJobs 9 (none : Option FieldType)) { frames := 2, cells := 0, slots := 0, locals := 50 } (Pm E [.ref (ad E 100 0), .int p1, .int p2, .int p3, .ref (ad E 903 0)] μ) (Qm E none z) 0 0 (Ad E) := by
  unfold f_X1_runJobs at hf
  refine met_of (cc := cX1_runJobs) (nL := 9) (ret := (none : Option FieldType)) (by decide) _ (Nat.le_of_ble_eq_true rfl) ?_
  intro p e s m below meth c C hr hlk hI ls hl
  have hx := C.1.1
  have hb := C.1.2.1
  have hl : lv_has ls 9 [(0, .ref (ad E 100 0)), (1, .int p1), (2, .int p2), (3, .int p3), (4, .ref (ad E 903 0))] := hl
  refine lv_iload_n hx hb dX1_runJobs_0 rfl (lv_at hl 2 rfl) ?_
  refine lv_istore hx hb dX1_runJobs_1 hl (by decide) rfl (fun ls hl => ?_)
  have hl : lv_has ls 9 [(5, .int p2), (0, .ref (ad E 100 0)), (1, .int p1), (2, .int p2), (3, .int p3), (4, .ref (ad E 903 0))] := hl
  refine lv_iconst (v := (0 : Int32)) hx hb dX1_runJobs_3 kc_0 ?_
  refine lv_istore hx hb dX1_runJobs_4 hl (by decide) rfl (fun ls hl => ?_)
  have hl : lv_has ls 9 [(6, .int (0 : Int32)), (5, .int p2), (0, .ref (ad E 100 0)), (1, .int p1), (2, .int p2), (3, .int p3), (4, .ref (ad E 903 0))] := hl
  exact cb_X1_runJobs_6 C hr hlk  _ _ _ _ _ _ h0 h4 hf hI (lv_sub hl [2, 3, 5, 6, 1, 0] rfl)

theorem dX1_gather_0 : decode cX1_gather 0 = .ok (.aload_n 0, 1) := by decide +kernel
theorem dX1_gather_1 : decode cX1_gather 1 = .ok (.iconst 0, 1) := by decide +kernel
theorem dX1_gather_2 : decode cX1_gather 2 = .ok (.putfield 45, 3) := by decide +kernel
theorem dX1_gather_5 : decode cX1_gather 5 = .ok (.aload_n 0, 1) := by decide +kernel
theorem dX1_gather_6 : decode cX1_gather 6 = .ok (.getfield 36, 3) := by decide +kernel
theorem dX1_gather_9 : decode cX1_gather 9 = .ok (.iconst (-1), 1) := by decide +kernel
theorem dX1_gather_10 : decode cX1_gather 10 = .ok (.invokestatic 49, 3) := by decide +kernel
theorem dX1_gather_13 : decode cX1_gather 13 = .ok (.aload_n 2, 1) := by decide +kernel
theorem dX1_gather_14 : decode cX1_gather 14 = .ok (.invokevirtual 55, 3) := by decide +kernel
theorem dX1_gather_17 : decode cX1_gather 17 = .ok (.iconst 0, 1) := by decide +kernel
theorem dX1_gather_18 : decode cX1_gather 18 = .ok (.istore_n 3, 1) := by decide +kernel
theorem dX1_gather_19 : decode cX1_gather 19 = .ok (.iload_n 3, 1) := by decide +kernel
theorem dX1_gather_20 : decode cX1_gather 20 = .ok (.aload_n 1, 1) := by decide +kernel
theorem dX1_gather_21 : decode cX1_gather 21 = .ok (.getfield 60, 3) := by decide +kernel
theorem dX1_gather_24 : decode cX1_gather 24 = .ok (.if_icmp .ge 44, 3) := by decide +kernel
theorem dX1_gather_27 : decode cX1_gather 27 = .ok (.aload_n 0, 1) := by decide +kernel
theorem dX1_gather_28 : decode cX1_gather 28 = .ok (.aload_n 1, 1) := by decide +kernel
theorem dX1_gather_29 : decode cX1_gather 29 = .ok (.iload_n 3, 1) := by decide +kernel
theorem dX1_gather_30 : decode cX1_gather 30 = .ok (.invokevirtual 63, 3) := by decide +kernel
theorem dX1_gather_33 : decode cX1_gather 33 = .ok (.aload_n 2, 1) := by decide +kernel
theorem dX1_gather_34 : decode cX1_gather 34 = .ok (.aload_n 1, 1) := by decide +kernel
theorem dX1_gather_35 : decode cX1_gather 35 = .ok (.iload_n 3, 1) := by decide +kernel
theorem dX1_gather_36 : decode cX1_gather 36 = .ok (.invokevirtual 67, 3) := by decide +kernel
theorem dX1_gather_39 : decode cX1_gather 39 = .ok (.aload_n 2, 1) := by decide +kernel
theorem dX1_gather_40 : decode cX1_gather 40 = .ok (.getfield 70, 3) := by decide +kernel
theorem dX1_gather_43 : decode cX1_gather 43 = .ok (.ifCond .eq 14, 3) := by decide +kernel
theorem dX1_gather_46 : decode cX1_gather 46 = .ok (.aload_n 0, 1) := by decide +kernel
theorem dX1_gather_47 : decode cX1_gather 47 = .ok (.getfield 36, 3) := by decide +kernel
theorem dX1_gather_50 : decode cX1_gather 50 = .ok (.iconst (-1), 1) := by decide +kernel
theorem dX1_gather_51 : decode cX1_gather 51 = .ok (.invokestatic 49, 3) := by decide +kernel
theorem dX1_gather_54 : decode cX1_gather 54 = .ok (.goto 8, 3) := by decide +kernel
theorem dX1_gather_57 : decode cX1_gather 57 = .ok (.aload_n 0, 1) := by decide +kernel
theorem dX1_gather_58 : decode cX1_gather 58 = .ok (.aload_n 2, 1) := by decide +kernel
theorem dX1_gather_59 : decode cX1_gather 59 = .ok (.invokevirtual 74, 3) := by decide +kernel
theorem dX1_gather_62 : decode cX1_gather 62 = .ok (.iinc 3 1, 3) := by decide +kernel
theorem dX1_gather_65 : decode cX1_gather 65 = .ok (.goto (-46), 3) := by decide +kernel
theorem dX1_gather_68 : decode cX1_gather 68 = .ok (.return_, 1) := by decide +kernel
def f_X1_gather_b19 (F : Nat) : Nat → Mm → Nat → Int32 → Option Mm
 | 0, _, _, _ => none
 | N + 1, μ, a1, a3 =>
 if (μ.1 200 a1 5) ≤ a3 then
 some μ
 else
 (f_X1_meet μ a1 a3).bind fun q15 =>
 (f_X8_step q15 a1 a3).bind fun q17 =>
 if (q17.1 800 0 2) = 0 then
 (f_X1_addStretch F q17).bind fun q19 =>
 f_X1_gather_b19 F N q19 a1 (a3 + (1 : Int32))
 else
 (f_J7_fill_53178 q17 109 0 8 (-1 : Int32)).bind fun q21 =>
 f_X1_gather_b19 F N q21 a1 (a3 + (1 : Int32))
set_option maxHeartbeats 4000000 in
set_option maxRecDepth 100000 in
theorem cb_X1_gather_19 {l : Launch} {E : En} {p : Program} {e : Env} {s : State} {m : MethodId} {av : Array Value} {below : List Frame} {meth : Method} {c : Code} (C : Cx E p s m av c cX1_gather 4 yX1_gather.cls) (hr : meth.sig.returnType = (none : Option FieldType)) (hlk : meth.locks = false) {F : Nat} {z : Mm} : ∀ (N : Nat) (μ : Mm) (a1 : Nat) (a3 : Int32) (h_a0 : l1 E 0) (h_a1 : l2 E a1) (h_a2 : l8 E 0), f_X1_gather_b19 F N μ a1 a3 = some z → ∀ {H : Heap} {locs : List Loc} {ls : Array Slot}, Iv E s μ H locs → lv_has ls 4 [(0, .ref (ad E 100 0)), (1, .ref (ad E 200 a1)), (2, .ref (ad E 800 0)), (3, .int a3)] → W p l e { frames := 4, cells := 0, slots := 0, locals := 89 } s m av below meth c H locs 0 0 (MQ below (Qm E none z) av s 0 0 (Ad E)) (F0 m 19 ls []) := by
  have hx := C.1.1
  have hb := C.1.2.1
  intro N
  induction N with
  | zero => intro μ a1 a3 h_a0 h_a1 h_a2 hf; cases hf
  | succ N ih =>
    intro μ a1 a3 h_a0 h_a1 h_a2 hf H locs ls hI hl
    rw [f_X1_gather_b19] at hf
    refine lv_iload_n hx hb dX1_gather_19 rfl (lv_at hl 3 rfl) ?_
    refine lv_aload_n hx hb dX1_gather_20 rfl (lv_at hl 1 rfl) ?_
    refine gf_2_5 C hI h_a1.1 fl_X1_60 dX1_gather_21 ?_
    refine lv_icmp_ge (tgt := 68) hx hb dX1_gather_24 rfl (fun hc => ?_) (fun hc => ?_)
    · replace hf := it hf hc
      obtain rfl := Option.some.inj hf
      exact m_vret C hr hlk hI dX1_gather_68
    · replace hf := ie hf hc
      refine lv_aload_n hx hb dX1_gather_27 rfl (lv_at hl 0 rfl) ?_
      refine lv_aload_n hx hb dX1_gather_28 rfl (lv_at hl 1 rfl) ?_
      refine lv_iload_n hx hb dX1_gather_29 rfl (lv_at hl 3 rfl) ?_
      obtain ⟨q15, e16, hf⟩ := ob hf
      refine mcV (As := [.ref (ad E 200 a1), .int a3]) (rest := []) C hI (c_X1_meet l E h_a0 h_a1 e16) ml_X1_63 kv_X1_meet (m_recv C hI h_a0.1 (ce_100 E _ _ _) rfl) rfl rfl ⟨Nat.le_of_ble_eq_true rfl, Nat.le_of_ble_eq_true rfl⟩ ⟨Nat.zero_le _, Nat.zero_le _⟩ rfl rfl hl.1 (Nat.le_of_ble_eq_true rfl) dX1_gather_30 (st1 := []) rfl (fun H locs hI => ?_)
      refine lv_aload_n hx hb dX1_gather_33 rfl (lv_at hl 2 rfl) ?_
      refine lv_aload_n hx hb dX1_gather_34 rfl (lv_at hl 1 rfl) ?_
      refine lv_iload_n hx hb dX1_gather_35 rfl (lv_at hl 3 rfl) ?_
      obtain ⟨q17, e18, hf⟩ := ob hf
      refine mcV (As := [.ref (ad E 200 a1), .int a3]) (rest := []) C hI (c_X8_step l E h_a2 h_a1 e18) ml_X1_67 kv_X8_step (m_recv C hI h_a2.1 (ce_800 E _ _ _) rfl) rfl rfl ⟨Nat.le_of_ble_eq_true rfl, Nat.le_of_ble_eq_true rfl⟩ ⟨Nat.zero_le _, Nat.zero_le _⟩ rfl rfl hl.1 (Nat.le_of_ble_eq_true rfl) dX1_gather_36 (st1 := []) rfl (fun H locs hI => ?_)
      refine lv_aload_n hx hb dX1_gather_39 rfl (lv_at hl 2 rfl) ?_
      refine gf_8_2 C hI h_a2.1 fl_X1_70 dX1_gather_40 ?_
      refine lv_if_eq (tgt := 57) hx hb dX1_gather_43 rfl (fun hc => ?_) (fun hc => ?_)
      · replace hf := it hf hc
        refine lv_aload_n hx hb dX1_gather_57 rfl (lv_at hl 0 rfl) ?_
        refine lv_aload_n hx hb dX1_gather_58 rfl (lv_at hl 2 rfl) ?_
        obtain ⟨q19, e20, hf⟩ := ob hf
        refine mcV (As := [.ref (ad E 800 0)]) (rest := []) C hI (c_X1_addStretch l E h_a0 h_a2 e20) ml_X1_74 kv_X1_addStretch (m_recv C hI h_a0.1 (ce_100 E _ _ _) rfl) rfl rfl ⟨Nat.le_of_ble_eq_true rfl, Nat.le_of_ble_eq_true rfl⟩ ⟨Nat.zero_le _, Nat.zero_le _⟩ rfl rfl hl.1 (Nat.le_of_ble_eq_true rfl) dX1_gather_59 (st1 := []) rfl (fun H locs hI => ?_)
        refine lv_iinc (v := a3 + (1 : Int32)) hx hb dX1_gather_62 hl (k := 3) rfl (ki_1 _) (by decide) rfl (fun ls hl => ?_)
        have hl : lv_has ls 4 [(3, .int (a3 + (1 : Int32))), (0, .ref (ad E 100 0)), (1, .ref (ad E 200 a1)), (2, .ref (ad E 800 0))] := hl
        refine lv_goto (tgt := 19) hx hb dX1_gather_65 rfl ?_
        exact ih _ _ _ h_a0 h_a1 h_a2 hf hI (lv_sub hl [1, 2, 3, 0] rfl)
      · replace hf := ie hf hc
        refine lv_aload_n hx hb dX1_gather_46 rfl (lv_at hl 0 rfl) ?_
        refine gf_1_8 C hI h_a0.1 fl_X1_36 dX1_gather_47 ?_
        refine lv_iconst (v := (-1 : Int32)) hx hb dX1_gather_50 kc_m1 ?_
        obtain ⟨q21, e22, hf⟩ := ob hf
        refine mcS (As := [.ref (ad E 109 0), .int (-1 : Int32)]) (rest := []) C hI (c_J7_fill_53178 l E h_a0.2.2.2.2.2.2.2.2.2.1 (ce_109 E 0) (Nat.le_of_ble_eq_true rfl) e22) ml_X1_49 ks_J7_fill_53178 rfl rfl ⟨Nat.le_of_ble_eq_true rfl, Nat.le_of_ble_eq_true rfl⟩ ⟨Nat.zero_le _, Nat.zero_le _⟩ rfl rfl hl.1 (Nat.le_of_ble_eq_true rfl) dX1_gather_51 (st1 := []) rfl (fun H locs hI => ?_)
        refine lv_goto (tgt := 62) hx hb dX1_gather_54 rfl ?_
        refine lv_iinc (v := a3 + (1 : Int32)) hx hb dX1_gather_62 hl (k := 3) rfl (ki_1 _) (by decide) rfl (fun ls hl => ?_)
        have hl : lv_has ls 4 [(3, .int (a3 + (1 : Int32))), (0, .ref (ad E 100 0)), (1, .ref (ad E 200 a1)), (2, .ref (ad E 800 0))] := hl
        refine lv_goto (tgt := 19) hx hb dX1_gather_65 rfl ?_
        exact ih _ _ _ h_a0 h_a1 h_a2 hf hI (lv_sub hl [1, 2, 3, 0] rfl)
def f_X1_gather (F : Nat) (μ : Mm) (n1 : Nat) : Option Mm :=
 (wf μ 100 0 11 (0 : Int32)).bind fun m23 =>
 (f_J7_fill_53178 m23 109 0 8 (-1 : Int32)).bind fun q25 =>
 (f_X8_start q25).bind fun q27 =>
 f_X1_gather_b19 F F q27 n1 (0 : Int32)
set_option maxHeartbeats 4000000 in
set_option maxRecDepth 100000 in
theorem c_X1_gather (l : Launch) (E : En) {F : Nat} {μ : Mm} {n1 : Nat} (h0 : l1 E 0) (h1 : l2 E n1) (h2 : l8 E 0) {z : Mm} (hf : f_X1_gather F μ n1 = some z) : Met l yX1_gather (wt yX1_gather cX1_gather 4 (none : Option FieldType)) { frames := 4, cells := 0, slots := 0, locals := 89 } (Pm E [.ref (ad E 100 0), .ref (ad E 200 n1), .ref (ad E 800 0)] μ) (Qm E none z) 0 0 (Ad E) := by
  unfold f_X1_gather at hf
  refine met_of (cc := cX1_gather) (nL := 4) (ret := (none : Option FieldType)) (by decide) _ (Nat.le_of_ble_eq_true rfl) ?_
  intro p e s m below meth c C hr hlk hI ls hl
  have hx := C.1.1
  have hb := C.1.2.1
  have hl : lv_has ls 4 [(0, .ref (ad E 100 0)), (1, .ref (ad E 200 n1)), (2, .ref (ad E 800 0))] := hl
  refine lv_aload_n hx hb dX1_gather_0 rfl (lv_at hl 0 rfl) ?_
  refine lv_iconst (v := (0 : Int32)) hx hb dX1_gather_1 kc_0 ?_
  obtain ⟨m23, e24, hf⟩ := ob hf
  refine pf_1_11 C hI h0.1 fl_X1_45 e24 dX1_gather_2 (fun H locs hI => ?_)
  refine lv_aload_n hx hb dX1_gather_5 rfl (lv_at hl 0 rfl) ?_
  refine gf_1_8 C hI h0.1 fl_X1_36 dX1_gather_6 ?_
  refine lv_iconst (v := (-1 : Int32)) hx hb dX1_gather_9 kc_m1 ?_
  obtain ⟨q25, e26, hf⟩ := ob hf
  refine mcS (As := [.ref (ad E 109 0), .int (-1 : Int32)]) (rest := []) C hI (c_J7_fill_53178 l E h0.2.2.2.2.2.2.2.2.2.1 (ce_109 E 0) (Nat.le_of_ble_eq_true rfl) e26) ml_X1_49 ks_J7_fill_53178 rfl rfl ⟨Nat.le_of_ble_eq_true rfl, Nat.le_of_ble_eq_true rfl⟩ ⟨Nat.zero_le _, Nat.zero_le _⟩ rfl rfl hl.1 (Nat.le_of_ble_eq_true rfl) dX1_gather_10 (st1 := []) rfl (fun H locs hI => ?_)
  refine lv_aload_n hx hb dX1_gather_13 rfl (lv_at hl 2 rfl) ?_
  obtain ⟨q27, e28, hf⟩ := ob hf
  refine mcV (As := []) (rest := []) C hI (c_X8_start l E h2 e28) ml_X1_55 kv_X8_start (m_recv C hI h2.1 (ce_800 E _ _ _) rfl) rfl rfl ⟨Nat.le_of_ble_eq_true rfl, Nat.le_of_ble_eq_true rfl⟩ ⟨Nat.zero_le _, Nat.zero_le _⟩ rfl rfl hl.1 (Nat.le_of_ble_eq_true rfl) dX1_gather_14 (st1 := []) rfl (fun H locs hI => ?_)
  refine lv_iconst (v := (0 : Int32)) hx hb dX1_gather_17 kc_0 ?_
  refine lv_istore_n hx hb dX1_gather_18 rfl hl (by decide) rfl (fun ls hl => ?_)
  have hl : lv_has ls 4 [(3, .int (0 : Int32)), (0, .ref (ad E 100 0)), (1, .ref (ad E 200 n1)), (2, .ref (ad E 800 0))] := hl
  exact cb_X1_gather_19 C hr hlk  _ _ _ _ h0 h1 h2 hf hI (lv_sub hl [1, 2, 3, 0] rfl)

theorem dX1_rerun_0 : decode cX1_rerun 0 = .ok (.iconst 0, 1) := by decide +kernel
theorem dX1_rerun_1 : decode cX1_rerun 1 = .ok (.istore 4, 2) := by decide +kernel
theorem dX1_rerun_3 : decode cX1_rerun 3 = .ok (.iload 4, 2) := by decide +kernel
theorem dX1_rerun_5 : decode cX1_rerun 5 = .ok (.aload_n 0, 1) := by decide +kernel
theorem dX1_rerun_6 : decode cX1_rerun 6 = .ok (.getfield 45, 3) := by decide +kernel
theorem dX1_rerun_9 : decode cX1_rerun 9 = .ok (.if_icmp .ge 44, 3) := by decide +kernel
theorem dX1_rerun_12 : decode cX1_rerun 12 = .ok (.iload 4, 2) := by decide +kernel
theorem dX1_rerun_14 : decode cX1_rerun 14 = .ok (.bipush 67, 2) := by decide +kernel
theorem dX1_rerun_16 : decode cX1_rerun 16 = .ok (.if_icmp .ge 37, 3) := by decide +kernel
theorem dX1_rerun_19 : decode cX1_rerun 19 = .ok (.aload_n 0, 1) := by decide +kernel
theorem dX1_rerun_20 : decode cX1_rerun 20 = .ok (.getfield 30, 3) := by decide +kernel
theorem dX1_rerun_23 : decode cX1_rerun 23 = .ok (.iload 4, 2) := by decide +kernel
theorem dX1_rerun_25 : decode cX1_rerun 25 = .ok (.aload_n 0, 1) := by decide +kernel
theorem dX1_rerun_26 : decode cX1_rerun 26 = .ok (.getfield 24, 3) := by decide +kernel
theorem dX1_rerun_29 : decode cX1_rerun 29 = .ok (.iload 4, 2) := by decide +kernel
theorem dX1_rerun_31 : decode cX1_rerun 31 = .ok (.iaload, 1) := by decide +kernel
theorem dX1_rerun_32 : decode cX1_rerun 32 = .ok (.iastore, 1) := by decide +kernel
theorem dX1_rerun_33 : decode cX1_rerun 33 = .ok (.aload_n 0, 1) := by decide +kernel
theorem dX1_rerun_34 : decode cX1_rerun 34 = .ok (.getfield 33, 3) := by decide +kernel
theorem dX1_rerun_37 : decode cX1_rerun 37 = .ok (.iload 4, 2) := by decide +kernel
theorem dX1_rerun_39 : decode cX1_rerun 39 = .ok (.aload_n 0, 1) := by decide +kernel
theorem dX1_rerun_40 : decode cX1_rerun 40 = .ok (.getfield 18, 3) := by decide +kernel
theorem dX1_rerun_43 : decode cX1_rerun 43 = .ok (.iload 4, 2) := by decide +kernel
theorem dX1_rerun_45 : decode cX1_rerun 45 = .ok (.iaload, 1) := by decide +kernel
theorem dX1_rerun_46 : decode cX1_rerun 46 = .ok (.iastore, 1) := by decide +kernel
theorem dX1_rerun_47 : decode cX1_rerun 47 = .ok (.iinc 4 1, 3) := by decide +kernel
theorem dX1_rerun_50 : decode cX1_rerun 50 = .ok (.goto (-47), 3) := by decide +kernel
theorem dX1_rerun_53 : decode cX1_rerun 53 = .ok (.aload_n 3, 1) := by decide +kernel
theorem dX1_rerun_54 : decode cX1_rerun 54 = .ok (.invokevirtual 55, 3) := by decide +kernel
theorem dX1_rerun_57 : decode cX1_rerun 57 = .ok (.iconst 0, 1) := by decide +kernel
theorem dX1_rerun_58 : decode cX1_rerun 58 = .ok (.istore 4, 2) := by decide +kernel
theorem dX1_rerun_60 : decode cX1_rerun 60 = .ok (.iload 4, 2) := by decide +kernel
theorem dX1_rerun_62 : decode cX1_rerun 62 = .ok (.aload_n 1, 1) := by decide +kernel
theorem dX1_rerun_63 : decode cX1_rerun 63 = .ok (.getfield 60, 3) := by decide +kernel
theorem dX1_rerun_66 : decode cX1_rerun 66 = .ok (.if_icmp .ge 81, 3) := by decide +kernel
theorem dX1_rerun_69 : decode cX1_rerun 69 = .ok (.aload_n 3, 1) := by decide +kernel
theorem dX1_rerun_70 : decode cX1_rerun 70 = .ok (.aload_n 1, 1) := by decide +kernel
theorem dX1_rerun_71 : decode cX1_rerun 71 = .ok (.iload 4, 2) := by decide +kernel
theorem dX1_rerun_73 : decode cX1_rerun 73 = .ok (.invokevirtual 67, 3) := by decide +kernel
theorem dX1_rerun_76 : decode cX1_rerun 76 = .ok (.iload 4, 2) := by decide +kernel
theorem dX1_rerun_78 : decode cX1_rerun 78 = .ok (.iconst 1, 1) := by decide +kernel
theorem dX1_rerun_79 : decode cX1_rerun 79 = .ok (.iadd, 1) := by decide +kernel
theorem dX1_rerun_80 : decode cX1_rerun 80 = .ok (.aload_n 1, 1) := by decide +kernel
theorem dX1_rerun_81 : decode cX1_rerun 81 = .ok (.getfield 60, 3) := by decide +kernel
theorem dX1_rerun_84 : decode cX1_rerun 84 = .ok (.if_icmp .ne 21, 3) := by decide +kernel
theorem dX1_rerun_87 : decode cX1_rerun 87 = .ok (.aload_n 0, 1) := by decide +kernel
theorem dX1_rerun_88 : decode cX1_rerun 88 = .ok (.iload 4, 2) := by decide +kernel
theorem dX1_rerun_90 : decode cX1_rerun 90 = .ok (.aload_n 1, 1) := by decide +kernel
theorem dX1_rerun_91 : decode cX1_rerun 91 = .ok (.iload 4, 2) := by decide +kernel
theorem dX1_rerun_93 : decode cX1_rerun 93 = .ok (.invokevirtual 89, 3) := by decide +kernel
theorem dX1_rerun_96 : decode cX1_rerun 96 = .ok (.ldc 106, 2) := by decide +kernel
theorem dX1_rerun_98 : decode cX1_rerun 98 = .ok (.aload_n 2, 1) := by decide +kernel
theorem dX1_rerun_99 : decode cX1_rerun 99 = .ok (.invokevirtual 107, 3) := by decide +kernel
theorem dX1_rerun_102 : decode cX1_rerun 102 = .ok (.goto 39, 3) := by decide +kernel
theorem dX1_rerun_105 : decode cX1_rerun 105 = .ok (.aload_n 3, 1) := by decide +kernel
theorem dX1_rerun_106 : decode cX1_rerun 106 = .ok (.invokevirtual 111, 3) := by decide +kernel
theorem dX1_rerun_109 : decode cX1_rerun 109 = .ok (.iconst 2, 1) := by decide +kernel
theorem dX1_rerun_110 : decode cX1_rerun 110 = .ok (.if_icmp .eq 10, 3) := by decide +kernel
theorem dX1_rerun_113 : decode cX1_rerun 113 = .ok (.aload_n 3, 1) := by decide +kernel
theorem dX1_rerun_114 : decode cX1_rerun 114 = .ok (.invokevirtual 111, 3) := by decide +kernel
theorem dX1_rerun_117 : decode cX1_rerun 117 = .ok (.ifCond .ne 24, 3) := by decide +kernel
theorem dX1_rerun_120 : decode cX1_rerun 120 = .ok (.aload_n 0, 1) := by decide +kernel
theorem dX1_rerun_121 : decode cX1_rerun 121 = .ok (.iload 4, 2) := by decide +kernel
theorem dX1_rerun_123 : decode cX1_rerun 123 = .ok (.aload_n 1, 1) := by decide +kernel
theorem dX1_rerun_124 : decode cX1_rerun 124 = .ok (.iload 4, 2) := by decide +kernel
theorem dX1_rerun_126 : decode cX1_rerun 126 = .ok (.invokevirtual 89, 3) := by decide +kernel
theorem dX1_rerun_129 : decode cX1_rerun 129 = .ok (.aload_n 1, 1) := by decide +kernel
theorem dX1_rerun_130 : decode cX1_rerun 130 = .ok (.iload 4, 2) := by decide +kernel
theorem dX1_rerun_132 : decode cX1_rerun 132 = .ok (.iconst 1, 1) := by decide +kernel
theorem dX1_rerun_133 : decode cX1_rerun 133 = .ok (.iadd, 1) := by decide +kernel
theorem dX1_rerun_134 : decode cX1_rerun 134 = .ok (.invokevirtual 89, 3) := by decide +kernel
theorem dX1_rerun_137 : decode cX1_rerun 137 = .ok (.aload_n 2, 1) := by decide +kernel
theorem dX1_rerun_138 : decode cX1_rerun 138 = .ok (.invokevirtual 107, 3) := by decide +kernel
theorem dX1_rerun_141 : decode cX1_rerun 141 = .ok (.iinc 4 1, 3) := by decide +kernel
theorem dX1_rerun_144 : decode cX1_rerun 144 = .ok (.goto (-84), 3) := by decide +kernel
theorem dX1_rerun_147 : decode cX1_rerun 147 = .ok (.return_, 1) := by decide +kernel
def f_X1_rerun_b120 (F : Nat) (K60 : Mm → Nat → Int32 → Option Mm) (μ : Mm) (a1 : Nat) (a4 : Int32) : Option Mm :=
 (f_X2_timeOf μ a1 a4).bind fun q27 =>
 (f_X2_timeOf μ a1 (a4 + (1 : Int32))).bind fun q29 =>
 (f_X1_runJobs F μ a4 q27 q29).bind fun q31 =>
 K60 q31 a1 (a4 + (1 : Int32))
set_option maxHeartbeats 4000000 in
set_option maxRecDepth 100000 in
theorem cb_X1_rerun_120 {l : Launch} {E : En} {p : Program} {e : Env} {s : State} {m : MethodId} {av : Array Value} {below : List Frame} {meth : Method} {c : Code} (C : Cx E p s m av c cX1_rerun 5 yX1_rerun.cls) (hr : meth.sig.returnType = (none : Option FieldType)) (hlk : meth.locks = false) {F : Nat} {K60 : Mm → Nat → Int32 → Option Mm} {z : Mm} (hK60 : ∀ (μ : Mm) (a1 : Nat) (a4 : Int32) (h_a0 : l1 E 0) (h_a1 : l2 E a1) (h_a2 : (903, 0) ∈ eL E) (h_a3 : l8 E 0), K60 μ a1 a4 = some z → ∀ {H : Heap} {locs : List Loc} {ls : Array Slot}, Iv E s μ H locs → lv_has ls 5 [(0, .ref (ad E 100 0)), (1, .ref (ad E 200 a1)), (2, .ref (ad E 903 0)), (3, .ref (ad E 800 0)), (4, .int a4)] → W p l e { frames := 4, cells := 0, slots := 0, locals := 89 } s m av below meth c H locs 0 0 (MQ below (Qm E none z) av s 0 0 (Ad E)) (F0 m 60 ls [])) : ∀ (μ : Mm) (a1 : Nat) (a4 : Int32) (h_a0 : l1 E 0) (h_a1 : l2 E a1) (h_a2 : (903, 0) ∈ eL E) (h_a3 : l8 E 0), f_X1_rerun_b120 F K60 μ a1 a4 = some z → ∀ {H : Heap} {locs : List Loc} {ls : Array Slot}, Iv E s μ H locs → lv_has ls 5 [(0, .ref (ad E 100 0)), (1, .ref (ad E 200 a1)), (2, .ref (ad E 903 0)), (3, .ref (ad E 800 0)), (4, .int a4)] → W p l e { frames := 4, cells := 0, slots := 0, locals := 89 } s m av below meth c H locs 0 0 (MQ below (Qm E none z) av s 0 0 (Ad E)) (F0 m 120 ls []) := by
  have hx := C.1.1
  have hb := C.1.2.1
  intro μ a1 a4 h_a0 h_a1 h_a2 h_a3 hf H locs ls hI hl
  unfold f_X1_rerun_b120 at hf
  refine lv_aload_n hx hb dX1_rerun_120 rfl (lv_at hl 0 rfl) ?_
  refine lv_iload hx hb dX1_rerun_121 (lv_at hl 4 rfl) ?_
  refine lv_aload_n hx hb dX1_rerun_123 rfl (lv_at hl 1 rfl) ?_
  refine lv_iload hx hb dX1_rerun_124 (lv_at hl 4 rfl) ?_
  obtain ⟨q27, e28, hf⟩ := ob hf
  refine mcV (As := [.int a4]) (rest := [.int a4, .ref (ad E 100 0)]) C hI (c_X2_timeOf l E h_a1 e28) ml_X1_89 kv_X2_timeOf (m_recv C hI h_a1.1 (ce_200 E _ _ _) rfl) rfl rfl ⟨Nat.le_of_ble_eq_true rfl, Nat.le_of_ble_eq_true rfl⟩ ⟨Nat.zero_le _, Nat.zero_le _⟩ rfl rfl hl.1 (Nat.le_of_ble_eq_true rfl) dX1_rerun_126 (st1 := [.int q27, .int a4, .ref (ad E 100 0)]) rfl (fun H locs hI => ?_)
  refine lv_aload_n hx hb dX1_rerun_129 rfl (lv_at hl 1 rfl) ?_
  refine lv_iload hx hb dX1_rerun_130 (lv_at hl 4 rfl) ?_
  refine lv_iconst (v := (1 : Int32)) hx hb dX1_rerun_132 kc_1 ?_
  refine lv_iadd hx hb dX1_rerun_133 ?_
  obtain ⟨q29, e30, hf⟩ := ob hf
  refine mcV (As := [.int (a4 + (1 : Int32))]) (rest := [.int q27, .int a4, .ref (ad E 100 0)]) C hI (c_X2_timeOf l E h_a1 e30) ml_X1_89 kv_X2_timeOf (m_recv C hI h_a1.1 (ce_200 E _ _ _) rfl) rfl rfl ⟨Nat.le_of_ble_eq_true rfl, Nat.le_of_ble_eq_true rfl⟩ ⟨Nat.zero_le _, Nat.zero_le _⟩ rfl rfl hl.1 (Nat.le_of_ble_eq_true rfl) dX1_rerun_134 (st1 := [.int q29, .int q27, .int a4, .ref (ad E 100 0)]) rfl (fun H locs hI => ?_)
  refine lv_aload_n hx hb dX1_rerun_137 rfl (lv_at hl 2 rfl) ?_
  obtain ⟨q31, e32, hf⟩ := ob hf
  refine mcV (As := [.int a4, .int q27, .int q29, .ref (ad E 903 0)]) (rest := []) C hI (c_X1_runJobs l E h_a0 h_a2 e32) ml_X1_107 kv_X1_runJobs (m_recv C hI h_a0.1 (ce_100 E _ _ _) rfl) rfl rfl ⟨Nat.le_of_ble_eq_true rfl, Nat.le_of_ble_eq_true rfl⟩ ⟨Nat.zero_le _, Nat.zero_le _⟩ rfl rfl hl.1 (Nat.le_of_ble_eq_true rfl) dX1_rerun_138 (st1 := []) rfl (fun H locs hI => ?_)
  refine lv_iinc (v := a4 + (1 : Int32)) hx hb dX1_rerun_141 hl (k := 4) rfl (ki_1 _) (by decide) rfl (fun ls hl => ?_)
  have hl : lv_has ls 5 [(4, .int (a4 + (1 : Int32))), (0, .ref (ad E 100 0)), (1, .ref (ad E 200 a1)), (2, .ref (ad E 903 0)), (3, .ref (ad E 800 0))] := hl
  refine lv_goto (tgt := 60) hx hb dX1_rerun_144 rfl ?_
  exact hK60 _ _ _ h_a0 h_a1 h_a2 h_a3 hf hI (lv_sub hl [1, 2, 3, 4, 0] rfl)
def f_X1_rerun_b60 (F : Nat) : Nat → Mm → Nat → Int32 → Option Mm
 | 0, _, _, _ => none
 | N + 1, μ, a1, a4 =>
 if (μ.1 200 a1 5) ≤ a4 then
 some μ
 else
 (f_X8_step μ a1 a4).bind fun q33 =>
 if (a4 + (1 : Int32)) = (q33.1 200 a1 5) then
 (f_X2_timeOf q33 a1 a4).bind fun q39 =>
 (f_X1_runJobs F q33 a4 q39 (1073741824 : Int32)).bind fun q41 =>
 f_X1_rerun_b60 F N q41 a1 (a4 + (1 : Int32))
 else
 (f_X8_doing q33).bind fun q35 =>
 if q35 = (2 : Int32) then
 f_X1_rerun_b120 F (fun μ a1 a4 => f_X1_rerun_b60 F N μ a1 a4) q33 a1 a4
 else
 (f_X8_doing q33).bind fun q37 =>
 if q37 = 0 then
 f_X1_rerun_b120 F (fun μ a1 a4 => f_X1_rerun_b60 F N μ a1 a4) q33 a1 a4
 else
 f_X1_rerun_b60 F N q33 a1 (a4 + (1 : Int32))
set_option maxHeartbeats 4000000 in
set_option maxRecDepth 100000 in
theorem cb_X1_rerun_60 {l : Launch} {E : En} {p : Program} {e : Env} {s : State} {m : MethodId} {av : Array Value} {below : List Frame} {meth : Method} {c : Code} (C : Cx E p s m av c cX1_rerun 5 yX1_rerun.cls) (hr : meth.sig.returnType = (none : Option FieldType)) (hlk : meth.locks = false) {F : Nat} {z : Mm} : ∀ (N : Nat) (μ : Mm) (a1 : Nat) (a4 : Int32) (h_a0 : l1 E 0) (h_a1 : l2 E a1) (h_a2 : (903, 0) ∈ eL E) (h_a3 : l8 E 0), f_X1_rerun_b60 F N μ a1 a4 = some z → ∀ {H : Heap} {locs : List Loc} {ls : Array Slot}, Iv E s μ H locs → lv_has ls 5 [(0, .ref (ad E 100 0)), (1, .ref (ad E 200 a1)), (2, .ref (ad E 903 0)), (3, .ref (ad E 800 0)), (4, .int a4)] → W p l e { frames := 4, cells := 0, slots := 0, locals := 89 } s m av below meth c H locs 0 0 (MQ below (Qm E none z) av s 0 0 (Ad E)) (F0 m 60 ls []) := by
  have hx := C.1.1
  have hb := C.1.2.1
  intro N
  induction N with
  | zero => intro μ a1 a4 h_a0 h_a1 h_a2 h_a3 hf; cases hf
  | succ N ih =>
    intro μ a1 a4 h_a0 h_a1 h_a2 h_a3 hf H locs ls hI hl
    rw [f_X1_rerun_b60] at hf
    refine lv_iload hx hb dX1_rerun_60 (lv_at hl 4 rfl) ?_
    refine lv_aload_n hx hb dX1_rerun_62 rfl (lv_at hl 1 rfl) ?_
    refine gf_2_5 C hI h_a1.1 fl_X1_60 dX1_rerun_63 ?_
    refine lv_icmp_ge (tgt := 147) hx hb dX1_rerun_66 rfl (fun hc => ?_) (fun hc => ?_)
    · replace hf := it hf hc
      obtain rfl := Option.some.inj hf
      exact m_vret C hr hlk hI dX1_rerun_147
    · replace hf := ie hf hc
      refine lv_aload_n hx hb dX1_rerun_69 rfl (lv_at hl 3 rfl) ?_
      refine lv_aload_n hx hb dX1_rerun_70 rfl (lv_at hl 1 rfl) ?_
      refine lv_iload hx hb dX1_rerun_71 (lv_at hl 4 rfl) ?_
      obtain ⟨q33, e34, hf⟩ := ob hf
      refine mcV (As := [.ref (ad E 200 a1), .int a4]) (rest := []) C hI (c_X8_step l E h_a3 h_a1 e34) ml_X1_67 kv_X8_step (m_recv C hI h_a3.1 (ce_800 E _ _ _) rfl) rfl rfl ⟨Nat.le_of_ble_eq_true rfl, Nat.le_of_ble_eq_true rfl⟩ ⟨Nat.zero_le _, Nat.zero_le _⟩ rfl rfl hl.1 (Nat.le_of_ble_eq_true rfl) dX1_rerun_73 (st1 := []) rfl (fun H locs hI => ?_)
      refine lv_iload hx hb dX1_rerun_76 (lv_at hl 4 rfl) ?_
      refine lv_iconst (v := (1 : Int32)) hx hb dX1_rerun_78 kc_1 ?_
      refine lv_iadd hx hb dX1_rerun_79 ?_
      refine lv_aload_n hx hb dX1_rerun_80 rfl (lv_at hl 1 rfl) ?_
      refine gf_2_5 C hI h_a1.1 fl_X1_60 dX1_rerun_81 ?_
      refine lv_icmp_ne (tgt := 105) hx hb dX1_rerun_84 rfl (fun hc => ?_) (fun hc => ?_)
      · replace hf := ie hf hc
        refine lv_aload_n hx hb dX1_rerun_105 rfl (lv_at hl 3 rfl) ?_
        obtain ⟨q35, e36, hf⟩ := ob hf
        refine mcV (As := []) (rest := []) C hI (c_X8_doing l E h_a3 e36) ml_X1_111 kv_X8_doing (m_recv C hI h_a3.1 (ce_800 E _ _ _) rfl) rfl rfl ⟨Nat.le_of_ble_eq_true rfl, Nat.le_of_ble_eq_true rfl⟩ ⟨Nat.zero_le _, Nat.zero_le _⟩ rfl rfl hl.1 (Nat.le_of_ble_eq_true rfl) dX1_rerun_106 (st1 := [.int q35]) rfl (fun H locs hI => ?_)
        refine lv_iconst (v := (2 : Int32)) hx hb dX1_rerun_109 kc_2 ?_
        refine lv_icmp_eq (tgt := 120) hx hb dX1_rerun_110 rfl (fun hc => ?_) (fun hc => ?_)
        · replace hf := it hf hc
          exact cb_X1_rerun_120 C hr hlk ih _ _ _ h_a0 h_a1 h_a2 h_a3 hf hI (lv_sub hl [0, 1, 2, 3, 4] rfl)
        · replace hf := ie hf hc
          refine lv_aload_n hx hb dX1_rerun_113 rfl (lv_at hl 3 rfl) ?_
          obtain ⟨q37, e38, hf⟩ := ob hf
          refine mcV (As := []) (rest := []) C hI (c_X8_doing l E h_a3 e38) ml_X1_111 kv_X8_doing (m_recv C hI h_a3.1 (ce_800 E _ _ _) rfl) rfl rfl ⟨Nat.le_of_ble_eq_true rfl, Nat.le_of_ble_eq_true rfl⟩ ⟨Nat.zero_le _, Nat.zero_le _⟩ rfl rfl hl.1 (Nat.le_of_ble_eq_true rfl) dX1_rerun_114 (st1 := [.int q37]) rfl (fun H locs hI => ?_)
          refine lv_if_ne (tgt := 141) hx hb dX1_rerun_117 rfl (fun hc => ?_) (fun hc => ?_)
          · replace hf := ie hf hc
            refine lv_iinc (v := a4 + (1 : Int32)) hx hb dX1_rerun_141 hl (k := 4) rfl (ki_1 _) (by decide) rfl (fun ls hl => ?_)
            have hl : lv_has ls 5 [(4, .int (a4 + (1 : Int32))), (0, .ref (ad E 100 0)), (1, .ref (ad E 200 a1)), (2, .ref (ad E 903 0)), (3, .ref (ad E 800 0))] := hl
            refine lv_goto (tgt := 60) hx hb dX1_rerun_144 rfl ?_
            exact ih _ _ _ h_a0 h_a1 h_a2 h_a3 hf hI (lv_sub hl [1, 2, 3, 4, 0] rfl)
          · replace hf := it hf hc
            exact cb_X1_rerun_120 C hr hlk ih _ _ _ h_a0 h_a1 h_a2 h_a3 hf hI (lv_sub hl [0, 1, 2, 3, 4] rfl)
      · replace hf := it hf hc
        refine lv_aload_n hx hb dX1_rerun_87 rfl (lv_at hl 0 rfl) ?_
        refine lv_iload hx hb dX1_rerun_88 (lv_at hl 4 rfl) ?_
        refine lv_aload_n hx hb dX1_rerun_90 rfl (lv_at hl 1 rfl) ?_
        refine lv_iload hx hb dX1_rerun_91 (lv_at hl 4 rfl) ?_
        obtain ⟨q39, e40, hf⟩ := ob hf
        refine mcV (As := [.int a4]) (rest := [.int a4, .ref (ad E 100 0)]) C hI (c_X2_timeOf l E h_a1 e40) ml_X1_89 kv_X2_timeOf (m_recv C hI h_a1.1 (ce_200 E _ _ _) rfl) rfl rfl ⟨Nat.le_of_ble_eq_true rfl, Nat.le_of_ble_eq_true rfl⟩ ⟨Nat.zero_le _, Nat.zero_le _⟩ rfl rfl hl.1 (Nat.le_of_ble_eq_true rfl) dX1_rerun_93 (st1 := [.int q39, .int a4, .ref (ad E 100 0)]) rfl (fun H locs hI => ?_)
        refine lv_ldc (v := (1073741824 : Int32)) hx hb C.1.2.2.2.1 (m_in C ki_X1_106) dX1_rerun_96 ?_
        refine lv_aload_n hx hb dX1_rerun_98 rfl (lv_at hl 2 rfl) ?_
        obtain ⟨q41, e42, hf⟩ := ob hf
        refine mcV (As := [.int a4, .int q39, .int (1073741824 : Int32), .ref (ad E 903 0)]) (rest := []) C hI (c_X1_runJobs l E h_a0 h_a2 e42) ml_X1_107 kv_X1_runJobs (m_recv C hI h_a0.1 (ce_100 E _ _ _) rfl) rfl rfl ⟨Nat.le_of_ble_eq_true rfl, Nat.le_of_ble_eq_true rfl⟩ ⟨Nat.zero_le _, Nat.zero_le _⟩ rfl rfl hl.1 (Nat.le_of_ble_eq_true rfl) dX1_rerun_99 (st1 := []) rfl (fun H locs hI => ?_)
        refine lv_goto (tgt := 141) hx hb dX1_rerun_102 rfl ?_
        refine lv_iinc (v := a4 + (1 : Int32)) hx hb dX1_rerun_141 hl (k := 4) rfl (ki_1 _) (by decide) rfl (fun ls hl => ?_)
        have hl : lv_has ls 5 [(4, .int (a4 + (1 : Int32))), (0, .ref (ad E 100 0)), (1, .ref (ad E 200 a1)), (2, .ref (ad E 903 0)), (3, .ref (ad E 800 0))] := hl
        refine lv_goto (tgt := 60) hx hb dX1_rerun_144 rfl ?_
        exact ih _ _ _ h_a0 h_a1 h_a2 h_a3 hf hI (lv_sub hl [1, 2, 3, 4, 0] rfl)
def f_X1_rerun_b3 (F : Nat) : Nat → Mm → Nat → Int32 → Option Mm
 | 0, _, _, _ => none
 | N + 1, μ, a1, a4 =>
 if (μ.1 100 0 11) ≤ a4 then
 (f_X8_start μ).bind fun q43 =>
 f_X1_rerun_b60 F F q43 a1 (0 : Int32)
 else
 if (67 : Int32) ≤ a4 then
 (f_X8_start μ).bind fun q45 =>
 f_X1_rerun_b60 F F q45 a1 (0 : Int32)
 else
 (ra μ 105 0 67 a4).bind fun v47 =>
 (wa μ 107 0 67 a4 v47).bind fun m49 =>
 (ra m49 103 0 67 a4).bind fun v51 =>
 (wa m49 108 0 67 a4 v51).bind fun m53 =>
 f_X1_rerun_b3 F N m53 a1 (a4 + (1 : Int32))
set_option maxHeartbeats 4000000 in
set_option maxRecDepth 100000 in
theorem cb_X1_rerun_3 {l : Launch} {E : En} {p : Program} {e : Env} {s : State} {m : MethodId} {av : Array Value} {below : List Frame} {meth : Method} {c : Code} (C : Cx E p s m av c cX1_rerun 5 yX1_rerun.cls) (hr : meth.sig.returnType = (none : Option FieldType)) (hlk : meth.locks = false) {F : Nat} {z : Mm} : ∀ (N : Nat) (μ : Mm) (a1 : Nat) (a4 : Int32) (h_a0 : l1 E 0) (h_a1 : l2 E a1) (h_a2 : (903, 0) ∈ eL E) (h_a3 : l8 E 0), f_X1_rerun_b3 F N μ a1 a4 = some z → ∀ {H : Heap} {locs : List Loc} {ls : Array Slot}, Iv E s μ H locs → lv_has ls 5 [(0, .ref (ad E 100 0)), (1, .ref (ad E 200 a1)), (2, .ref (ad E 903 0)), (3, .ref (ad E 800 0)), (4, .int a4)] → W p l e { frames := 4, cells := 0, slots := 0, locals := 89 } s m av below meth c H locs 0 0 (MQ below (Qm E none z) av s 0 0 (Ad E)) (F0 m 3 ls []) := by
  have hx := C.1.1
  have hb := C.1.2.1
  intro N
  induction N with
  | zero => intro μ a1 a4 h_a0 h_a1 h_a2 h_a3 hf; cases hf
  | succ N ih =>
    intro μ a1 a4 h_a0 h_a1 h_a2 h_a3 hf H locs ls hI hl
    rw [f_X1_rerun_b3] at hf
    refine lv_iload hx hb dX1_rerun_3 (lv_at hl 4 rfl) ?_
    refine lv_aload_n hx hb dX1_rerun_5 rfl (lv_at hl 0 rfl) ?_
    refine gf_1_11 C hI h_a0.1 fl_X1_45 dX1_rerun_6 ?_
    refine lv_icmp_ge (tgt := 53) hx hb dX1_rerun_9 rfl (fun hc => ?_) (fun hc => ?_)
    · replace hf := it hf hc
      refine lv_aload_n hx hb dX1_rerun_53 rfl (lv_at hl 3 rfl) ?_
      obtain ⟨q43, e44, hf⟩ := ob hf
      refine mcV (As := []) (rest := []) C hI (c_X8_start l E h_a3 e44) ml_X1_55 kv_X8_start (m_recv C hI h_a3.1 (ce_800 E _ _ _) rfl) rfl rfl ⟨Nat.le_of_ble_eq_true rfl, Nat.le_of_ble_eq_true rfl⟩ ⟨Nat.zero_le _, Nat.zero_le _⟩ rfl rfl hl.1 (Nat.le_of_ble_eq_true rfl) dX1_rerun_54 (st1 := []) rfl (fun H locs hI => ?_)
      refine lv_iconst (v := (0 : Int32)) hx hb dX1_rerun_57 kc_0 ?_
      refine lv_istore hx hb dX1_rerun_58 hl (by decide) rfl (fun ls hl => ?_)
      have hl : lv_has ls 5 [(4, .int (0 : Int32)), (0, .ref (ad E 100 0)), (1, .ref (ad E 200 a1)), (2, .ref (ad E 903 0)), (3, .ref (ad E 800 0))] := hl
      exact cb_X1_rerun_60 C hr hlk  _ _ _ _ h_a0 h_a1 h_a2 h_a3 hf hI (lv_sub hl [1, 2, 3, 4, 0] rfl)
    · replace hf := ie hf hc
      refine lv_iload hx hb dX1_rerun_12 (lv_at hl 4 rfl) ?_
      refine lv_bipush (v := (67 : Int32)) hx hb dX1_rerun_14 kb_67 ?_
      refine lv_icmp_ge (tgt := 53) hx hb dX1_rerun_16 rfl (fun hc => ?_) (fun hc => ?_)
      · replace hf := it hf hc
        refine lv_aload_n hx hb dX1_rerun_53 rfl (lv_at hl 3 rfl) ?_
        obtain ⟨q45, e46, hf⟩ := ob hf
        refine mcV (As := []) (rest := []) C hI (c_X8_start l E h_a3 e46) ml_X1_55 kv_X8_start (m_recv C hI h_a3.1 (ce_800 E _ _ _) rfl) rfl rfl ⟨Nat.le_of_ble_eq_true rfl, Nat.le_of_ble_eq_true rfl⟩ ⟨Nat.zero_le _, Nat.zero_le _⟩ rfl rfl hl.1 (Nat.le_of_ble_eq_true rfl) dX1_rerun_54 (st1 := []) rfl (fun H locs hI => ?_)
        refine lv_iconst (v := (0 : Int32)) hx hb dX1_rerun_57 kc_0 ?_
        refine lv_istore hx hb dX1_rerun_58 hl (by decide) rfl (fun ls hl => ?_)
        have hl : lv_has ls 5 [(4, .int (0 : Int32)), (0, .ref (ad E 100 0)), (1, .ref (ad E 200 a1)), (2, .ref (ad E 903 0)), (3, .ref (ad E 800 0))] := hl
        exact cb_X1_rerun_60 C hr hlk  _ _ _ _ h_a0 h_a1 h_a2 h_a3 hf hI (lv_sub hl [1, 2, 3, 4, 0] rfl)
      · replace hf := ie hf hc
        refine lv_aload_n hx hb dX1_rerun_19 rfl (lv_at hl 0 rfl) ?_
        refine gf_1_6 C hI h_a0.1 fl_X1_30 dX1_rerun_20 ?_
        refine lv_iload hx hb dX1_rerun_23 (lv_at hl 4 rfl) ?_
        refine lv_aload_n hx hb dX1_rerun_25 rfl (lv_at hl 0 rfl) ?_
        refine gf_1_4 C hI h_a0.1 fl_X1_24 dX1_rerun_26 ?_
        refine lv_iload hx hb dX1_rerun_29 (lv_at hl 4 rfl) ?_
        obtain ⟨v47, e48, hf⟩ := ob hf
        refine m_iald C hI h_a0.2.2.2.2.2.1 (ce_105 E _ _ _) e48 dX1_rerun_31 ?_
        obtain ⟨m49, e50, hf⟩ := ob hf
        refine m_iast C hI h_a0.2.2.2.2.2.2.2.1 (ce_107 E _) e50 dX1_rerun_32 (fun H locs hI => ?_)
        refine lv_aload_n hx hb dX1_rerun_33 rfl (lv_at hl 0 rfl) ?_
        refine gf_1_7 C hI h_a0.1 fl_X1_33 dX1_rerun_34 ?_
        refine lv_iload hx hb dX1_rerun_37 (lv_at hl 4 rfl) ?_
        refine lv_aload_n hx hb dX1_rerun_39 rfl (lv_at hl 0 rfl) ?_
        refine gf_1_2 C hI h_a0.1 fl_X1_18 dX1_rerun_40 ?_
        refine lv_iload hx hb dX1_rerun_43 (lv_at hl 4 rfl) ?_
        obtain ⟨v51, e52, hf⟩ := ob hf
        refine m_iald C hI h_a0.2.2.2.1 (ce_103 E _ _ _) e52 dX1_rerun_45 ?_
        obtain ⟨m53, e54, hf⟩ := ob hf
        refine m_iast C hI h_a0.2.2.2.2.2.2.2.2.1 (ce_108 E _) e54 dX1_rerun_46 (fun H locs hI => ?_)
        refine lv_iinc (v := a4 + (1 : Int32)) hx hb dX1_rerun_47 hl (k := 4) rfl (ki_1 _) (by decide) rfl (fun ls hl => ?_)
        have hl : lv_has ls 5 [(4, .int (a4 + (1 : Int32))), (0, .ref (ad E 100 0)), (1, .ref (ad E 200 a1)), (2, .ref (ad E 903 0)), (3, .ref (ad E 800 0))] := hl
        refine lv_goto (tgt := 3) hx hb dX1_rerun_50 rfl ?_
        exact ih _ _ _ h_a0 h_a1 h_a2 h_a3 hf hI (lv_sub hl [1, 2, 3, 4, 0] rfl)
def f_X1_rerun (F : Nat) (μ : Mm) (n1 : Nat) : Option Mm :=
 f_X1_rerun_b3 F F μ n1 (0 : Int32)
set_option maxHeartbeats 4000000 in
set_option maxRecDepth 100000 in
theorem c_X1_rerun (l : Launch) (E : En) {F : Nat} {μ : Mm} {n1 : Nat} (h0 : l1 E 0) (h1 : l2 E n1) (h2 : (903, 0) ∈ eL E) (h3 : l8 E 0) {z : Mm} (hf : f_X1_rerun F μ n1 = some z) : Met l yX1_rerun (wt yX1_rerun cX1_rerun 5 (none : Option FieldType)) { frames := 4, cells := 0, slots := 0, locals := 89 } (Pm E [.ref (ad E 100 0), .ref (ad E 200 n1), .ref (ad E 903 0), .ref (ad E 800 0)] μ) (Qm E none z) 0 0 (Ad E) := by
  unfold f_X1_rerun at hf
  refine met_of (cc := cX1_rerun) (nL := 5) (ret := (none : Option FieldType)) (by decide) _ (Nat.le_of_ble_eq_true rfl) ?_
  intro p e s m below meth c C hr hlk hI ls hl
  have hx := C.1.1
  have hb := C.1.2.1
  have hl : lv_has ls 5 [(0, .ref (ad E 100 0)), (1, .ref (ad E 200 n1)), (2, .ref (ad E 903 0)), (3, .ref (ad E 800 0))] := hl
  refine lv_iconst (v := (0 : Int32)) hx hb dX1_rerun_0 kc_0 ?_
  refine lv_istore hx hb dX1_rerun_1 hl (by decide) rfl (fun ls hl => ?_)
  have hl : lv_has ls 5 [(4, .int (0 : Int32)), (0, .ref (ad E 100 0)), (1, .ref (ad E 200 n1)), (2, .ref (ad E 903 0)), (3, .ref (ad E 800 0))] := hl
  exact cb_X1_rerun_3 C hr hlk  _ _ _ _ h0 h1 h2 h3 hf hI (lv_sub hl [1, 2, 3, 4, 0] rfl)
