theorem dJ6_compare_7cf53_0 : decode cJ6_compare_7cf53 0 = .ok (.iload_n 0, 1) := by decide +kernel
theorem dJ6_compare_7cf53_1 : decode cJ6_compare_7cf53 1 = .ok (.iload_n 1, 1) := by decide +kernel
theorem dJ6_compare_7cf53_2 : decode cJ6_compare_7cf53 2 = .ok (.if_icmp .ge 7, 3) := by decide +kernel
theorem dJ6_compare_7cf53_5 : decode cJ6_compare_7cf53 5 = .ok (.iconst (-1), 1) := by decide +kernel
theorem dJ6_compare_7cf53_6 : decode cJ6_compare_7cf53 6 = .ok (.goto 13, 3) := by decide +kernel
theorem dJ6_compare_7cf53_9 : decode cJ6_compare_7cf53 9 = .ok (.iload_n 0, 1) := by decide +kernel
theorem dJ6_compare_7cf53_10 : decode cJ6_compare_7cf53 10 = .ok (.iload_n 1, 1) := by decide +kernel
theorem dJ6_compare_7cf53_11 : decode cJ6_compare_7cf53 11 = .ok (.if_icmp .ne 7, 3) := by decide +kernel
theorem dJ6_compare_7cf53_14 : decode cJ6_compare_7cf53 14 = .ok (.iconst 0, 1) := by decide +kernel
theorem dJ6_compare_7cf53_15 : decode cJ6_compare_7cf53 15 = .ok (.goto 4, 3) := by decide +kernel
theorem dJ6_compare_7cf53_18 : decode cJ6_compare_7cf53 18 = .ok (.iconst 1, 1) := by decide +kernel
theorem dJ6_compare_7cf53_19 : decode cJ6_compare_7cf53 19 = .ok (.ireturn, 1) := by decide +kernel
def f_J6_compare_7cf53 (μ : Mm) (p0 : Int32) (p1 : Int32) : Option Int32 :=
 if p1 ≤ p0 then
 if p0 = p1 then
 some (0 : Int32)
 else
 some (1 : Int32)
 else
 some (-1 : Int32)
set_option maxHeartbeats 4000000 in
set_option maxRecDepth 100000 in
theorem c_J6_compare_7cf53 (l : Launch) (E : En) {μ : Mm} {p0 : Int32} {p1 : Int32} {z : Int32} (hf : f_J6_compare_7cf53 μ p0 p1 = some z) : Met l yJ6_compare_7cf53 (wt yJ6_compare_7cf53 cJ6_compare_7cf53 2 (some .int)) { frames := 0, cells := 0, slots := 0, locals := 0 } (Pm E [.int p0, .int p1] μ) (Qm E (some (.int z)) μ) 0 0 (Ad E) := by
  unfold f_J6_compare_7cf53 at hf
  refine met_of (cc := cJ6_compare_7cf53) (nL := 2) (ret := (some .int)) (by decide) _ (Nat.le_of_ble_eq_true rfl) ?_
  intro p e s m below meth c C hr hlk hI ls hl
  have hx := C.1.1
  have hb := C.1.2.1
  have hl : lv_has ls 2 [(0, .int p0), (1, .int p1)] := hl
  refine lv_iload_n hx hb dJ6_compare_7cf53_0 rfl (lv_at hl 0 rfl) ?_
  refine lv_iload_n hx hb dJ6_compare_7cf53_1 rfl (lv_at hl 1 rfl) ?_
  refine lv_icmp_ge (tgt := 9) hx hb dJ6_compare_7cf53_2 rfl (fun hc => ?_) (fun hc => ?_)
  · replace hf := it hf hc
    refine lv_iload_n hx hb dJ6_compare_7cf53_9 rfl (lv_at hl 0 rfl) ?_
    refine lv_iload_n hx hb dJ6_compare_7cf53_10 rfl (lv_at hl 1 rfl) ?_
    refine lv_icmp_ne (tgt := 18) hx hb dJ6_compare_7cf53_11 rfl (fun hc => ?_) (fun hc => ?_)
    · replace hf := ie hf hc
      refine lv_iconst (v := (1 : Int32)) hx hb dJ6_compare_7cf53_18 kc_1 ?_
      obtain rfl := Option.some.inj hf
      exact m_iret C hr hlk hI dJ6_compare_7cf53_19
    · replace hf := it hf hc
      refine lv_iconst (v := (0 : Int32)) hx hb dJ6_compare_7cf53_14 kc_0 ?_
      refine lv_goto (tgt := 19) hx hb dJ6_compare_7cf53_15 rfl ?_
      obtain rfl := Option.some.inj hf
      exact m_iret C hr hlk hI dJ6_compare_7cf53_19
  · replace hf := ie hf hc
    refine lv_iconst (v := (-1 : Int32)) hx hb dJ6_compare_7cf53_5 kc_m1 ?_
    refine lv_goto (tgt := 19) hx hb dJ6_compare_7cf53_6 rfl ?_
    obtain rfl := Option.some.inj hf
    exact m_iret C hr hlk hI dJ6_compare_7cf53_19
