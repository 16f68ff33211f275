theorem dX10_judges_0 : decode cX10_judges 0 = .ok (.aload_n 0, 1) := by decide +kernel
theorem dX10_judges_1 : decode cX10_judges 1 = .ok (.iconst 0, 1) := by decide +kernel
theorem dX10_judges_2 : decode cX10_judges 2 = .ok (.putfield 260, 3) := by decide +kernel
theorem dX10_judges_5 : decode cX10_judges 5 = .ok (.aload_n 0, 1) := by decide +kernel
theorem dX10_judges_6 : decode cX10_judges 6 = .ok (.iconst 0, 1) := by decide +kernel
theorem dX10_judges_7 : decode cX10_judges 7 = .ok (.putfield 263, 3) := by decide +kernel
theorem dX10_judges_10 : decode cX10_judges 10 = .ok (.aload_n 0, 1) := by decide +kernel
theorem dX10_judges_11 : decode cX10_judges 11 = .ok (.getfield 48, 3) := by decide +kernel
theorem dX10_judges_14 : decode cX10_judges 14 = .ok (.iload_n 1, 1) := by decide +kernel
theorem dX10_judges_15 : decode cX10_judges 15 = .ok (.iaload, 1) := by decide +kernel
theorem dX10_judges_16 : decode cX10_judges 16 = .ok (.istore_n 2, 1) := by decide +kernel
theorem dX10_judges_17 : decode cX10_judges 17 = .ok (.aload_n 0, 1) := by decide +kernel
theorem dX10_judges_18 : decode cX10_judges 18 = .ok (.getfield 54, 3) := by decide +kernel
theorem dX10_judges_21 : decode cX10_judges 21 = .ok (.iload_n 1, 1) := by decide +kernel
theorem dX10_judges_22 : decode cX10_judges 22 = .ok (.iaload, 1) := by decide +kernel
theorem dX10_judges_23 : decode cX10_judges 23 = .ok (.istore_n 3, 1) := by decide +kernel
theorem dX10_judges_24 : decode cX10_judges 24 = .ok (.aload_n 0, 1) := by decide +kernel
theorem dX10_judges_25 : decode cX10_judges 25 = .ok (.getfield 45, 3) := by decide +kernel
theorem dX10_judges_28 : decode cX10_judges 28 = .ok (.iload_n 1, 1) := by decide +kernel
theorem dX10_judges_29 : decode cX10_judges 29 = .ok (.iaload, 1) := by decide +kernel
theorem dX10_judges_30 : decode cX10_judges 30 = .ok (.tableswitch 166 0 2 #[26, 84, 147], 26) := by decide +kernel
theorem dX10_judges_56 : decode cX10_judges 56 = .ok (.aload_n 0, 1) := by decide +kernel
theorem dX10_judges_57 : decode cX10_judges 57 = .ok (.aload_n 0, 1) := by decide +kernel
theorem dX10_judges_58 : decode cX10_judges 58 = .ok (.getfield 19, 3) := by decide +kernel
theorem dX10_judges_61 : decode cX10_judges 61 = .ok (.iload_n 2, 1) := by decide +kernel
theorem dX10_judges_62 : decode cX10_judges 62 = .ok (.iaload, 1) := by decide +kernel
theorem dX10_judges_63 : decode cX10_judges 63 = .ok (.invokevirtual 196, 3) := by decide +kernel
theorem dX10_judges_66 : decode cX10_judges 66 = .ok (.iconst 0, 1) := by decide +kernel
theorem dX10_judges_67 : decode cX10_judges 67 = .ok (.istore 4, 2) := by decide +kernel
theorem dX10_judges_69 : decode cX10_judges 69 = .ok (.iload 4, 2) := by decide +kernel
theorem dX10_judges_71 : decode cX10_judges 71 = .ok (.aload_n 0, 1) := by decide +kernel
theorem dX10_judges_72 : decode cX10_judges 72 = .ok (.getfield 29, 3) := by decide +kernel
theorem dX10_judges_75 : decode cX10_judges 75 = .ok (.aload_n 0, 1) := by decide +kernel
theorem dX10_judges_76 : decode cX10_judges 76 = .ok (.getfield 164, 3) := by decide +kernel
theorem dX10_judges_79 : decode cX10_judges 79 = .ok (.iaload, 1) := by decide +kernel
theorem dX10_judges_80 : decode cX10_judges 80 = .ok (.if_icmp .ge 31, 3) := by decide +kernel
theorem dX10_judges_83 : decode cX10_judges 83 = .ok (.aload_n 0, 1) := by decide +kernel
theorem dX10_judges_84 : decode cX10_judges 84 = .ok (.iload 4, 2) := by decide +kernel
theorem dX10_judges_86 : decode cX10_judges 86 = .ok (.iconst 0, 1) := by decide +kernel
theorem dX10_judges_87 : decode cX10_judges 87 = .ok (.iload_n 2, 1) := by decide +kernel
theorem dX10_judges_88 : decode cX10_judges 88 = .ok (.iconst (-1), 1) := by decide +kernel
theorem dX10_judges_89 : decode cX10_judges 89 = .ok (.invokevirtual 266, 3) := by decide +kernel
theorem dX10_judges_92 : decode cX10_judges 92 = .ok (.ifCond .eq 13, 3) := by decide +kernel
theorem dX10_judges_95 : decode cX10_judges 95 = .ok (.aload_n 0, 1) := by decide +kernel
theorem dX10_judges_96 : decode cX10_judges 96 = .ok (.iload 4, 2) := by decide +kernel
theorem dX10_judges_98 : decode cX10_judges 98 = .ok (.iconst 2, 1) := by decide +kernel
theorem dX10_judges_99 : decode cX10_judges 99 = .ok (.iload_n 2, 1) := by decide +kernel
theorem dX10_judges_100 : decode cX10_judges 100 = .ok (.iconst (-1), 1) := by decide +kernel
theorem dX10_judges_101 : decode cX10_judges 101 = .ok (.iload_n 3, 1) := by decide +kernel
theorem dX10_judges_102 : decode cX10_judges 102 = .ok (.invokevirtual 274, 3) := by decide +kernel
theorem dX10_judges_105 : decode cX10_judges 105 = .ok (.iinc 4 1, 3) := by decide +kernel
theorem dX10_judges_108 : decode cX10_judges 108 = .ok (.goto (-39), 3) := by decide +kernel
theorem dX10_judges_111 : decode cX10_judges 111 = .ok (.goto 90, 3) := by decide +kernel
theorem dX10_judges_114 : decode cX10_judges 114 = .ok (.aload_n 0, 1) := by decide +kernel
theorem dX10_judges_115 : decode cX10_judges 115 = .ok (.iload_n 2, 1) := by decide +kernel
theorem dX10_judges_116 : decode cX10_judges 116 = .ok (.invokevirtual 196, 3) := by decide +kernel
theorem dX10_judges_119 : decode cX10_judges 119 = .ok (.iconst 0, 1) := by decide +kernel
theorem dX10_judges_120 : decode cX10_judges 120 = .ok (.istore 4, 2) := by decide +kernel
theorem dX10_judges_122 : decode cX10_judges 122 = .ok (.iload 4, 2) := by decide +kernel
theorem dX10_judges_124 : decode cX10_judges 124 = .ok (.aload_n 0, 1) := by decide +kernel
theorem dX10_judges_125 : decode cX10_judges 125 = .ok (.getfield 29, 3) := by decide +kernel
theorem dX10_judges_128 : decode cX10_judges 128 = .ok (.aload_n 0, 1) := by decide +kernel
theorem dX10_judges_129 : decode cX10_judges 129 = .ok (.getfield 164, 3) := by decide +kernel
theorem dX10_judges_132 : decode cX10_judges 132 = .ok (.iaload, 1) := by decide +kernel
theorem dX10_judges_133 : decode cX10_judges 133 = .ok (.if_icmp .ge 41, 3) := by decide +kernel
theorem dX10_judges_136 : decode cX10_judges 136 = .ok (.aload_n 0, 1) := by decide +kernel
theorem dX10_judges_137 : decode cX10_judges 137 = .ok (.iload 4, 2) := by decide +kernel
theorem dX10_judges_139 : decode cX10_judges 139 = .ok (.iconst 4, 1) := by decide +kernel
theorem dX10_judges_140 : decode cX10_judges 140 = .ok (.iconst (-1), 1) := by decide +kernel
theorem dX10_judges_141 : decode cX10_judges 141 = .ok (.aload_n 0, 1) := by decide +kernel
theorem dX10_judges_142 : decode cX10_judges 142 = .ok (.getfield 51, 3) := by decide +kernel
theorem dX10_judges_145 : decode cX10_judges 145 = .ok (.iload_n 1, 1) := by decide +kernel
theorem dX10_judges_146 : decode cX10_judges 146 = .ok (.iaload, 1) := by decide +kernel
theorem dX10_judges_147 : decode cX10_judges 147 = .ok (.invokevirtual 266, 3) := by decide +kernel
theorem dX10_judges_150 : decode cX10_judges 150 = .ok (.ifCond .eq 18, 3) := by decide +kernel
theorem dX10_judges_153 : decode cX10_judges 153 = .ok (.aload_n 0, 1) := by decide +kernel
theorem dX10_judges_154 : decode cX10_judges 154 = .ok (.iload 4, 2) := by decide +kernel
theorem dX10_judges_156 : decode cX10_judges 156 = .ok (.iconst 5, 1) := by decide +kernel
theorem dX10_judges_157 : decode cX10_judges 157 = .ok (.iconst (-1), 1) := by decide +kernel
theorem dX10_judges_158 : decode cX10_judges 158 = .ok (.aload_n 0, 1) := by decide +kernel
theorem dX10_judges_159 : decode cX10_judges 159 = .ok (.getfield 51, 3) := by decide +kernel
theorem dX10_judges_162 : decode cX10_judges 162 = .ok (.iload_n 1, 1) := by decide +kernel
theorem dX10_judges_163 : decode cX10_judges 163 = .ok (.iaload, 1) := by decide +kernel
theorem dX10_judges_164 : decode cX10_judges 164 = .ok (.iload_n 3, 1) := by decide +kernel
theorem dX10_judges_165 : decode cX10_judges 165 = .ok (.invokevirtual 274, 3) := by decide +kernel
theorem dX10_judges_168 : decode cX10_judges 168 = .ok (.iinc 4 1, 3) := by decide +kernel
theorem dX10_judges_171 : decode cX10_judges 171 = .ok (.goto (-49), 3) := by decide +kernel
theorem dX10_judges_174 : decode cX10_judges 174 = .ok (.goto 27, 3) := by decide +kernel
theorem dX10_judges_177 : decode cX10_judges 177 = .ok (.aload_n 0, 1) := by decide +kernel
theorem dX10_judges_178 : decode cX10_judges 178 = .ok (.aload_n 0, 1) := by decide +kernel
theorem dX10_judges_179 : decode cX10_judges 179 = .ok (.getfield 19, 3) := by decide +kernel
theorem dX10_judges_182 : decode cX10_judges 182 = .ok (.iload_n 2, 1) := by decide +kernel
theorem dX10_judges_183 : decode cX10_judges 183 = .ok (.iaload, 1) := by decide +kernel
theorem dX10_judges_184 : decode cX10_judges 184 = .ok (.invokevirtual 196, 3) := by decide +kernel
theorem dX10_judges_187 : decode cX10_judges 187 = .ok (.aload_n 0, 1) := by decide +kernel
theorem dX10_judges_188 : decode cX10_judges 188 = .ok (.iload_n 2, 1) := by decide +kernel
theorem dX10_judges_189 : decode cX10_judges 189 = .ok (.iload_n 3, 1) := by decide +kernel
theorem dX10_judges_190 : decode cX10_judges 190 = .ok (.invokevirtual 278, 3) := by decide +kernel
theorem dX10_judges_193 : decode cX10_judges 193 = .ok (.goto 8, 3) := by decide +kernel
theorem dX10_judges_196 : decode cX10_judges 196 = .ok (.aload_n 0, 1) := by decide +kernel
theorem dX10_judges_197 : decode cX10_judges 197 = .ok (.iload_n 2, 1) := by decide +kernel
theorem dX10_judges_198 : decode cX10_judges 198 = .ok (.invokevirtual 282, 3) := by decide +kernel
theorem dX10_judges_201 : decode cX10_judges 201 = .ok (.return_, 1) := by decide +kernel
def f_X10_judges_b69 (F : Nat) : Nat → Mm → Int32 → Int32 → Int32 → Option Mm
 | 0, _, _, _, _ => none
 | N + 1, μ, a2, a3, a4 =>
 (ra μ 1008 0 21 (μ.1 1000 0 33)).bind fun v41 =>
 if v41 ≤ a4 then
 some μ
 else
 (f_X10_is μ a4 (0 : Int32) a2 (-1 : Int32)).bind fun q43 =>
 if q43 = 0 then
 f_X10_judges_b69 F N μ a2 a3 (a4 + (1 : Int32))
 else
 (f_X10_spans F μ a4 (2 : Int32) a2 (-1 : Int32) a3).bind fun q45 =>
 f_X10_judges_b69 F N q45 a2 a3 (a4 + (1 : Int32))
set_option maxHeartbeats 4000000 in
set_option maxRecDepth 100000 in
theorem cb_X10_judges_69 {l : Launch} {E : En} {p : Program} {e : Env} {s : State} {m : MethodId} {av : Array Value} {below : List Frame} {meth : Method} {c : Code} (C : Cx E p s m av c cX10_judges 5 yX10_judges.cls) (hr : meth.sig.returnType = (none : Option FieldType)) (hlk : meth.locks = false) {F : Nat} {z : Mm} : ∀ (N : Nat) (μ : Mm) (a2 : Int32) (a3 : Int32) (a4 : Int32) (h_a0 : l10 E 0), f_X10_judges_b69 F N μ a2 a3 a4 = some z → ∀ {H : Heap} {locs : List Loc} {ls : Array Slot}, Iv E s μ H locs → lv_has ls 5 [(0, .ref (ad E 1000 0)), (2, .int a2), (3, .int a3), (4, .int a4)] → W p l e { frames := 4, cells := 0, slots := 0, locals := 89 } s m av below meth c H locs 0 0 (MQ below (Qm E none z) av s 0 0 (Ad E)) (F0 m 69 ls []) := by
  have hx := C.1.1
  have hb := C.1.2.1
  intro N
  induction N with
  | zero => intro μ a2 a3 a4 h_a0 hf; cases hf
  | succ N ih =>
    intro μ a2 a3 a4 h_a0 hf H locs ls hI hl
    rw [f_X10_judges_b69] at hf
    refine lv_iload hx hb dX10_judges_69 (lv_at hl 3 rfl) ?_
    refine lv_aload_n hx hb dX10_judges_71 rfl (lv_at hl 0 rfl) ?_
    refine gf_10_7 C hI h_a0.1 fl_X10_29 dX10_judges_72 ?_
    refine lv_aload_n hx hb dX10_judges_75 rfl (lv_at hl 0 rfl) ?_
    refine gf_10_33 C hI h_a0.1 fl_X10_164 dX10_judges_76 ?_
    obtain ⟨v41, e42, hf⟩ := ob hf
    refine m_iald C hI h_a0.2.2.2.2.1 (ce_1008 E _ _ _) e42 dX10_judges_79 ?_
    refine lv_icmp_ge (tgt := 111) hx hb dX10_judges_80 rfl (fun hc => ?_) (fun hc => ?_)
    · replace hf := it hf hc
      refine lv_goto (tgt := 201) hx hb dX10_judges_111 rfl ?_
      obtain rfl := Option.some.inj hf
      exact m_vret C hr hlk hI dX10_judges_201
    · replace hf := ie hf hc
      refine lv_aload_n hx hb dX10_judges_83 rfl (lv_at hl 0 rfl) ?_
      refine lv_iload hx hb dX10_judges_84 (lv_at hl 3 rfl) ?_
      refine lv_iconst (v := (0 : Int32)) hx hb dX10_judges_86 kc_0 ?_
      refine lv_iload_n hx hb dX10_judges_87 rfl (lv_at hl 1 rfl) ?_
      refine lv_iconst (v := (-1 : Int32)) hx hb dX10_judges_88 kc_m1 ?_
      obtain ⟨q43, e44, hf⟩ := ob hf
      refine mcV (As := [.int a4, .int (0 : Int32), .int a2, .int (-1 : Int32)]) (rest := []) C hI (c_X10_is l E h_a0 e44) ml_X10_266 kv_X10_is (m_recv C hI h_a0.1 (ce_1000 E _ _ _) rfl) rfl rfl ⟨Nat.le_of_ble_eq_true rfl, Nat.le_of_ble_eq_true rfl⟩ ⟨Nat.zero_le _, Nat.zero_le _⟩ rfl rfl hl.1 (Nat.le_of_ble_eq_true rfl) dX10_judges_89 (st1 := [.int q43]) rfl (fun H locs hI => ?_)
      refine lv_if_eq (tgt := 105) hx hb dX10_judges_92 rfl (fun hc => ?_) (fun hc => ?_)
      · replace hf := it hf hc
        refine lv_iinc (v := a4 + (1 : Int32)) hx hb dX10_judges_105 hl (k := 3) rfl (ki_1 _) (by decide) rfl (fun ls hl => ?_)
        have hl : lv_has ls 5 [(4, .int (a4 + (1 : Int32))), (0, .ref (ad E 1000 0)), (2, .int a2), (3, .int a3)] := hl
        refine lv_goto (tgt := 69) hx hb dX10_judges_108 rfl ?_
        exact ih _ _ _ _ h_a0 hf hI (lv_sub hl [1, 2, 3, 0] rfl)
      · replace hf := ie hf hc
        refine lv_aload_n hx hb dX10_judges_95 rfl (lv_at hl 0 rfl) ?_
        refine lv_iload hx hb dX10_judges_96 (lv_at hl 3 rfl) ?_
        refine lv_iconst (v := (2 : Int32)) hx hb dX10_judges_98 kc_2 ?_
        refine lv_iload_n hx hb dX10_judges_99 rfl (lv_at hl 1 rfl) ?_
        refine lv_iconst (v := (-1 : Int32)) hx hb dX10_judges_100 kc_m1 ?_
        refine lv_iload_n hx hb dX10_judges_101 rfl (lv_at hl 2 rfl) ?_
        obtain ⟨q45, e46, hf⟩ := ob hf
        refine mcV (As := [.int a4, .int (2 : Int32), .int a2, .int (-1 : Int32), .int a3]) (rest := []) C hI (c_X10_spans l E h_a0 e46) ml_X10_274 kv_X10_spans (m_recv C hI h_a0.1 (ce_1000 E _ _ _) rfl) rfl rfl ⟨Nat.le_of_ble_eq_true rfl, Nat.le_of_ble_eq_true rfl⟩ ⟨Nat.zero_le _, Nat.zero_le _⟩ rfl rfl hl.1 (Nat.le_of_ble_eq_true rfl) dX10_judges_102 (st1 := []) rfl (fun H locs hI => ?_)
        refine lv_iinc (v := a4 + (1 : Int32)) hx hb dX10_judges_105 hl (k := 3) rfl (ki_1 _) (by decide) rfl (fun ls hl => ?_)
        have hl : lv_has ls 5 [(4, .int (a4 + (1 : Int32))), (0, .ref (ad E 1000 0)), (2, .int a2), (3, .int a3)] := hl
        refine lv_goto (tgt := 69) hx hb dX10_judges_108 rfl ?_
        exact ih _ _ _ _ h_a0 hf hI (lv_sub hl [1, 2, 3, 0] rfl)
def f_X10_judges_b122 (F : Nat) : Nat → Mm → Int32 → Int32 → Int32 → Option Mm
 | 0, _, _, _, _ => none
 | N + 1, μ, a1, a3, a4 =>
 (ra μ 1008 0 21 (μ.1 1000 0 33)).bind fun v47 =>
 if v47 ≤ a4 then
 some μ
 else
 (ra μ 1016 0 8 a1).bind fun v49 =>
 (f_X10_is μ a4 (4 : Int32) (-1 : Int32) v49).bind fun q51 =>
 if q51 = 0 then
 f_X10_judges_b122 F N μ a1 a3 (a4 + (1 : Int32))
 else
 (ra μ 1016 0 8 a1).bind fun v53 =>
 (f_X10_spans F μ a4 (5 : Int32) (-1 : Int32) v53 a3).bind fun q55 =>
 f_X10_judges_b122 F N q55 a1 a3 (a4 + (1 : Int32))
set_option maxHeartbeats 4000000 in
set_option maxRecDepth 100000 in
theorem cb_X10_judges_122 {l : Launch} {E : En} {p : Program} {e : Env} {s : State} {m : MethodId} {av : Array Value} {below : List Frame} {meth : Method} {c : Code} (C : Cx E p s m av c cX10_judges 5 yX10_judges.cls) (hr : meth.sig.returnType = (none : Option FieldType)) (hlk : meth.locks = false) {F : Nat} {z : Mm} : ∀ (N : Nat) (μ : Mm) (a1 : Int32) (a3 : Int32) (a4 : Int32) (h_a0 : l10 E 0), f_X10_judges_b122 F N μ a1 a3 a4 = some z → ∀ {H : Heap} {locs : List Loc} {ls : Array Slot}, Iv E s μ H locs → lv_has ls 5 [(0, .ref (ad E 1000 0)), (1, .int a1), (3, .int a3), (4, .int a4)] → W p l e { frames := 4, cells := 0, slots := 0, locals := 89 } s m av below meth c H locs 0 0 (MQ below (Qm E none z) av s 0 0 (Ad E)) (F0 m 122 ls []) := by
  have hx := C.1.1
  have hb := C.1.2.1
  intro N
  induction N with
  | zero => intro μ a1 a3 a4 h_a0 hf; cases hf
  | succ N ih =>
    intro μ a1 a3 a4 h_a0 hf H locs ls hI hl
    rw [f_X10_judges_b122] at hf
    refine lv_iload hx hb dX10_judges_122 (lv_at hl 3 rfl) ?_
    refine lv_aload_n hx hb dX10_judges_124 rfl (lv_at hl 0 rfl) ?_
    refine gf_10_7 C hI h_a0.1 fl_X10_29 dX10_judges_125 ?_
    refine lv_aload_n hx hb dX10_judges_128 rfl (lv_at hl 0 rfl) ?_
    refine gf_10_33 C hI h_a0.1 fl_X10_164 dX10_judges_129 ?_
    obtain ⟨v47, e48, hf⟩ := ob hf
    refine m_iald C hI h_a0.2.2.2.2.1 (ce_1008 E _ _ _) e48 dX10_judges_132 ?_
    refine lv_icmp_ge (tgt := 174) hx hb dX10_judges_133 rfl (fun hc => ?_) (fun hc => ?_)
    · replace hf := it hf hc
      refine lv_goto (tgt := 201) hx hb dX10_judges_174 rfl ?_
      obtain rfl := Option.some.inj hf
      exact m_vret C hr hlk hI dX10_judges_201
    · replace hf := ie hf hc
      refine lv_aload_n hx hb dX10_judges_136 rfl (lv_at hl 0 rfl) ?_
      refine lv_iload hx hb dX10_judges_137 (lv_at hl 3 rfl) ?_
      refine lv_iconst (v := (4 : Int32)) hx hb dX10_judges_139 kc_4 ?_
      refine lv_iconst (v := (-1 : Int32)) hx hb dX10_judges_140 kc_m1 ?_
      refine lv_aload_n hx hb dX10_judges_141 rfl (lv_at hl 0 rfl) ?_
      refine gf_10_15 C hI h_a0.1 fl_X10_51 dX10_judges_142 ?_
      refine lv_iload_n hx hb dX10_judges_145 rfl (lv_at hl 1 rfl) ?_
      obtain ⟨v49, e50, hf⟩ := ob hf
      refine m_iald C hI h_a0.2.2.2.2.2.2.2.2.2.2.2.1 (ce_1016 E _ _ _) e50 dX10_judges_146 ?_
      obtain ⟨q51, e52, hf⟩ := ob hf
      refine mcV (As := [.int a4, .int (4 : Int32), .int (-1 : Int32), .int v49]) (rest := []) C hI (c_X10_is l E h_a0 e52) ml_X10_266 kv_X10_is (m_recv C hI h_a0.1 (ce_1000 E _ _ _) rfl) rfl rfl ⟨Nat.le_of_ble_eq_true rfl, Nat.le_of_ble_eq_true rfl⟩ ⟨Nat.zero_le _, Nat.zero_le _⟩ rfl rfl hl.1 (Nat.le_of_ble_eq_true rfl) dX10_judges_147 (st1 := [.int q51]) rfl (fun H locs hI => ?_)
      refine lv_if_eq (tgt := 168) hx hb dX10_judges_150 rfl (fun hc => ?_) (fun hc => ?_)
      · replace hf := it hf hc
        refine lv_iinc (v := a4 + (1 : Int32)) hx hb dX10_judges_168 hl (k := 3) rfl (ki_1 _) (by decide) rfl (fun ls hl => ?_)
        have hl : lv_has ls 5 [(4, .int (a4 + (1 : Int32))), (0, .ref (ad E 1000 0)), (1, .int a1), (3, .int a3)] := hl
        refine lv_goto (tgt := 122) hx hb dX10_judges_171 rfl ?_
        exact ih _ _ _ _ h_a0 hf hI (lv_sub hl [1, 2, 3, 0] rfl)
      · replace hf := ie hf hc
        refine lv_aload_n hx hb dX10_judges_153 rfl (lv_at hl 0 rfl) ?_
        refine lv_iload hx hb dX10_judges_154 (lv_at hl 3 rfl) ?_
        refine lv_iconst (v := (5 : Int32)) hx hb dX10_judges_156 kc_5 ?_
        refine lv_iconst (v := (-1 : Int32)) hx hb dX10_judges_157 kc_m1 ?_
        refine lv_aload_n hx hb dX10_judges_158 rfl (lv_at hl 0 rfl) ?_
        refine gf_10_15 C hI h_a0.1 fl_X10_51 dX10_judges_159 ?_
        refine lv_iload_n hx hb dX10_judges_162 rfl (lv_at hl 1 rfl) ?_
        obtain ⟨v53, e54, hf⟩ := ob hf
        refine m_iald C hI h_a0.2.2.2.2.2.2.2.2.2.2.2.1 (ce_1016 E _ _ _) e54 dX10_judges_163 ?_
        refine lv_iload_n hx hb dX10_judges_164 rfl (lv_at hl 2 rfl) ?_
        obtain ⟨q55, e56, hf⟩ := ob hf
        refine mcV (As := [.int a4, .int (5 : Int32), .int (-1 : Int32), .int v53, .int a3]) (rest := []) C hI (c_X10_spans l E h_a0 e56) ml_X10_274 kv_X10_spans (m_recv C hI h_a0.1 (ce_1000 E _ _ _) rfl) rfl rfl ⟨Nat.le_of_ble_eq_true rfl, Nat.le_of_ble_eq_true rfl⟩ ⟨Nat.zero_le _, Nat.zero_le _⟩ rfl rfl hl.1 (Nat.le_of_ble_eq_true rfl) dX10_judges_165 (st1 := []) rfl (fun H locs hI => ?_)
        refine lv_iinc (v := a4 + (1 : Int32)) hx hb dX10_judges_168 hl (k := 3) rfl (ki_1 _) (by decide) rfl (fun ls hl => ?_)
        have hl : lv_has ls 5 [(4, .int (a4 + (1 : Int32))), (0, .ref (ad E 1000 0)), (1, .int a1), (3, .int a3)] := hl
        refine lv_goto (tgt := 122) hx hb dX10_judges_171 rfl ?_
        exact ih _ _ _ _ h_a0 hf hI (lv_sub hl [1, 2, 3, 0] rfl)
def f_X10_judges (F : Nat) (μ : Mm) (p1 : Int32) : Option Mm :=
 (wf μ 1000 0 41 (0 : Int32)).bind fun m57 =>
 (wf m57 1000 0 42 (0 : Int32)).bind fun m59 =>
 (ra m59 1015 0 8 p1).bind fun v61 =>
 (ra m59 1017 0 8 p1).bind fun v63 =>
 (ra m59 1014 0 8 p1).bind fun v65 =>
 if v65 = (0 : Int32) then
 (ra m59 1005 0 8 v61).bind fun v69 =>
 (f_X10_startsNow F m59 v69).bind fun q71 =>
 f_X10_judges_b69 F F q71 v61 v63 (0 : Int32)
 else
 if v65 = (1 : Int32) then
 (f_X10_startsNow F m59 v61).bind fun q73 =>
 f_X10_judges_b122 F F q73 p1 v63 (0 : Int32)
 else
 if v65 = (2 : Int32) then
 (ra m59 1005 0 8 v61).bind fun v75 =>
 (f_X10_startsNow F m59 v75).bind fun q77 =>
 (f_X10_follows F q77 v61 v63).bind fun q79 =>
 some q79
 else
 (f_X10_rests F m59 v61).bind fun q67 =>
 some q67
set_option maxHeartbeats 4000000 in
set_option maxRecDepth 100000 in
theorem c_X10_judges (l : Launch) (E : En) {F : Nat} {μ : Mm} {p1 : Int32} (h0 : l10 E 0) {z : Mm} (hf : f_X10_judges F μ p1 = some z) : Met l yX10_judges (wt yX10_judges cX10_judges 5 (none : Option FieldType)) { frames := 4, cells := 0, slots := 0, locals := 89 } (Pm E [.ref (ad E 1000 0), .int p1] μ) (Qm E none z) 0 0 (Ad E) := by
  unfold f_X10_judges at hf
  refine met_of (cc := cX10_judges) (nL := 5) (ret := (none : Option FieldType)) (by decide) _ (Nat.le_of_ble_eq_true rfl) ?_
  intro p e s m below meth c C hr hlk hI ls hl
  have hx := C.1.1
  have hb := C.1.2.1
  have hl : lv_has ls 5 [(0, .ref (ad E 1000 0)), (1, .int p1)] := hl
  refine lv_aload_n hx hb dX10_judges_0 rfl (lv_at hl 0 rfl) ?_
  refine lv_iconst (v := (0 : Int32)) hx hb dX10_judges_1 kc_0 ?_
  obtain ⟨m57, e58, hf⟩ := ob hf
  refine pf_10_41 C hI h0.1 fl_X10_260 e58 dX10_judges_2 (fun H locs hI => ?_)
  refine lv_aload_n hx hb dX10_judges_5 rfl (lv_at hl 0 rfl) ?_
  refine lv_iconst (v := (0 : Int32)) hx hb dX10_judges_6 kc_0 ?_
  obtain ⟨m59, e60, hf⟩ := ob hf
  refine pf_10_42 C hI h0.1 fl_X10_263 e60 dX10_judges_7 (fun H locs hI => ?_)
  refine lv_aload_n hx hb dX10_judges_10 rfl (lv_at hl 0 rfl) ?_
  refine gf_10_14 C hI h0.1 fl_X10_48 dX10_judges_11 ?_
  refine lv_iload_n hx hb dX10_judges_14 rfl (lv_at hl 1 rfl) ?_
  obtain ⟨v61, e62, hf⟩ := ob hf
  refine m_iald C hI h0.2.2.2.2.2.2.2.2.2.2.1 (ce_1015 E _ _ _) e62 dX10_judges_15 ?_
  refine lv_istore_n hx hb dX10_judges_16 rfl hl (by decide) rfl (fun ls hl => ?_)
  have hl : lv_has ls 5 [(2, .int v61), (0, .ref (ad E 1000 0)), (1, .int p1)] := hl
  refine lv_aload_n hx hb dX10_judges_17 rfl (lv_at hl 1 rfl) ?_
  refine gf_10_16 C hI h0.1 fl_X10_54 dX10_judges_18 ?_
  refine lv_iload_n hx hb dX10_judges_21 rfl (lv_at hl 2 rfl) ?_
  obtain ⟨v63, e64, hf⟩ := ob hf
  refine m_iald C hI h0.2.2.2.2.2.2.2.2.2.2.2.2.1 (ce_1017 E _ _ _) e64 dX10_judges_22 ?_
  refine lv_istore_n hx hb dX10_judges_23 rfl hl (by decide) rfl (fun ls hl => ?_)
  have hl : lv_has ls 5 [(3, .int v63), (2, .int v61), (0, .ref (ad E 1000 0)), (1, .int p1)] := hl
  refine lv_aload_n hx hb dX10_judges_24 rfl (lv_at hl 2 rfl) ?_
  refine gf_10_13 C hI h0.1 fl_X10_45 dX10_judges_25 ?_
  refine lv_iload_n hx hb dX10_judges_28 rfl (lv_at hl 3 rfl) ?_
  obtain ⟨v65, e66, hf⟩ := ob hf
  refine m_iald C hI h0.2.2.2.2.2.2.2.2.2.1 (ce_1014 E _ _ _) e66 dX10_judges_29 ?_
  by_cases hn0 : v65 = (0 : Int32)
  · replace hf := it hf hn0
    refine lv_tableIn (tgt := 56) (off := 26) hx hb dX10_judges_30 (by rw [hn0]; decide) (by rw [hn0]; decide) (by rw [hn0]; rfl) rfl ?_
    refine lv_aload_n hx hb dX10_judges_56 rfl (lv_at hl 2 rfl) ?_
    refine lv_aload_n hx hb dX10_judges_57 rfl (lv_at hl 2 rfl) ?_
    refine gf_10_4 C hI h0.1 fl_X10_19 dX10_judges_58 ?_
    refine lv_iload_n hx hb dX10_judges_61 rfl (lv_at hl 1 rfl) ?_
    obtain ⟨v69, e70, hf⟩ := ob hf
    refine m_iald C hI h0.2.1 (ce_1005 E _ _ _) e70 dX10_judges_62 ?_
    obtain ⟨q71, e72, hf⟩ := ob hf
    refine mcV (As := [.int v69]) (rest := []) C hI (c_X10_startsNow l E h0 e72) ml_X10_196 kv_X10_startsNow (m_recv C hI h0.1 (ce_1000 E _ _ _) rfl) rfl rfl ⟨Nat.le_of_ble_eq_true rfl, Nat.le_of_ble_eq_true rfl⟩ ⟨Nat.zero_le _, Nat.zero_le _⟩ rfl rfl hl.1 (Nat.le_of_ble_eq_true rfl) dX10_judges_63 (st1 := []) rfl (fun H locs hI => ?_)
    refine lv_iconst (v := (0 : Int32)) hx hb dX10_judges_66 kc_0 ?_
    refine lv_istore hx hb dX10_judges_67 hl (by decide) rfl (fun ls hl => ?_)
    have hl : lv_has ls 5 [(4, .int (0 : Int32)), (3, .int v63), (2, .int v61), (0, .ref (ad E 1000 0)), (1, .int p1)] := hl
    exact cb_X10_judges_69 C hr hlk  _ _ _ _ _ h0 hf hI (lv_sub hl [3, 2, 1, 0] rfl)
  replace hf := ie hf hn0
  by_cases hn1 : v65 = (1 : Int32)
  · replace hf := it hf hn1
    refine lv_tableIn (tgt := 114) (off := 84) hx hb dX10_judges_30 (by rw [hn1]; decide) (by rw [hn1]; decide) (by rw [hn1]; rfl) rfl ?_
    refine lv_aload_n hx hb dX10_judges_114 rfl (lv_at hl 2 rfl) ?_
    refine lv_iload_n hx hb dX10_judges_115 rfl (lv_at hl 1 rfl) ?_
    obtain ⟨q73, e74, hf⟩ := ob hf
    refine mcV (As := [.int v61]) (rest := []) C hI (c_X10_startsNow l E h0 e74) ml_X10_196 kv_X10_startsNow (m_recv C hI h0.1 (ce_1000 E _ _ _) rfl) rfl rfl ⟨Nat.le_of_ble_eq_true rfl, Nat.le_of_ble_eq_true rfl⟩ ⟨Nat.zero_le _, Nat.zero_le _⟩ rfl rfl hl.1 (Nat.le_of_ble_eq_true rfl) dX10_judges_116 (st1 := []) rfl (fun H locs hI => ?_)
    refine lv_iconst (v := (0 : Int32)) hx hb dX10_judges_119 kc_0 ?_
    refine lv_istore hx hb dX10_judges_120 hl (by decide) rfl (fun ls hl => ?_)
    have hl : lv_has ls 5 [(4, .int (0 : Int32)), (3, .int v63), (2, .int v61), (0, .ref (ad E 1000 0)), (1, .int p1)] := hl
    exact cb_X10_judges_122 C hr hlk  _ _ _ _ _ h0 hf hI (lv_sub hl [3, 4, 1, 0] rfl)
  replace hf := ie hf hn1
  by_cases hn2 : v65 = (2 : Int32)
  · replace hf := it hf hn2
    refine lv_tableIn (tgt := 177) (off := 147) hx hb dX10_judges_30 (by rw [hn2]; decide) (by rw [hn2]; decide) (by rw [hn2]; rfl) rfl ?_
    refine lv_aload_n hx hb dX10_judges_177 rfl (lv_at hl 2 rfl) ?_
    refine lv_aload_n hx hb dX10_judges_178 rfl (lv_at hl 2 rfl) ?_
    refine gf_10_4 C hI h0.1 fl_X10_19 dX10_judges_179 ?_
    refine lv_iload_n hx hb dX10_judges_182 rfl (lv_at hl 1 rfl) ?_
    obtain ⟨v75, e76, hf⟩ := ob hf
    refine m_iald C hI h0.2.1 (ce_1005 E _ _ _) e76 dX10_judges_183 ?_
    obtain ⟨q77, e78, hf⟩ := ob hf
    refine mcV (As := [.int v75]) (rest := []) C hI (c_X10_startsNow l E h0 e78) ml_X10_196 kv_X10_startsNow (m_recv C hI h0.1 (ce_1000 E _ _ _) rfl) rfl rfl ⟨Nat.le_of_ble_eq_true rfl, Nat.le_of_ble_eq_true rfl⟩ ⟨Nat.zero_le _, Nat.zero_le _⟩ rfl rfl hl.1 (Nat.le_of_ble_eq_true rfl) dX10_judges_184 (st1 := []) rfl (fun H locs hI => ?_)
    refine lv_aload_n hx hb dX10_judges_187 rfl (lv_at hl 2 rfl) ?_
    refine lv_iload_n hx hb dX10_judges_188 rfl (lv_at hl 1 rfl) ?_
    refine lv_iload_n hx hb dX10_judges_189 rfl (lv_at hl 0 rfl) ?_
    obtain ⟨q79, e80, hf⟩ := ob hf
    refine mcV (As := [.int v61, .int v63]) (rest := []) C hI (c_X10_follows l E h0 e80) ml_X10_278 kv_X10_follows (m_recv C hI h0.1 (ce_1000 E _ _ _) rfl) rfl rfl ⟨Nat.le_of_ble_eq_true rfl, Nat.le_of_ble_eq_true rfl⟩ ⟨Nat.zero_le _, Nat.zero_le _⟩ rfl rfl hl.1 (Nat.le_of_ble_eq_true rfl) dX10_judges_190 (st1 := []) rfl (fun H locs hI => ?_)
    refine lv_goto (tgt := 201) hx hb dX10_judges_193 rfl ?_
    obtain rfl := Option.some.inj hf
    exact m_vret C hr hlk hI dX10_judges_201
  replace hf := ie hf hn2
  have a0_ := ts_ne (n := 0) hn0 (by decide)
  have a1_ := ts_ne (n := 1) hn1 (by decide)
  have a2_ := ts_ne (n := 2) hn2 (by decide)
  refine lv_tableOut (tgt := 196) hx hb dX10_judges_30 (by omega) rfl ?_
  refine lv_aload_n hx hb dX10_judges_196 rfl (lv_at hl 2 rfl) ?_
  refine lv_iload_n hx hb dX10_judges_197 rfl (lv_at hl 1 rfl) ?_
  obtain ⟨q67, e68, hf⟩ := ob hf
  refine mcV (As := [.int v61]) (rest := []) C hI (c_X10_rests l E h0 e68) ml_X10_282 kv_X10_rests (m_recv C hI h0.1 (ce_1000 E _ _ _) rfl) rfl rfl ⟨Nat.le_of_ble_eq_true rfl, Nat.le_of_ble_eq_true rfl⟩ ⟨Nat.zero_le _, Nat.zero_le _⟩ rfl rfl hl.1 (Nat.le_of_ble_eq_true rfl) dX10_judges_198 (st1 := []) rfl (fun H locs hI => ?_)
  obtain rfl := Option.some.inj hf
  exact m_vret C hr hlk hI dX10_judges_201

theorem dX10_breaks_0 : decode cX10_breaks 0 = .ok (.iload_n 1, 1) := by decide +kernel
theorem dX10_breaks_1 : decode cX10_breaks 1 = .ok (.iconst 0, 1) := by decide +kernel
theorem dX10_breaks_2 : decode cX10_breaks 2 = .ok (.aload_n 0, 1) := by decide +kernel
theorem dX10_breaks_3 : decode cX10_breaks 3 = .ok (.getfield 143, 3) := by decide +kernel
theorem dX10_breaks_6 : decode cX10_breaks 6 = .ok (.iconst 1, 1) := by decide +kernel
theorem dX10_breaks_7 : decode cX10_breaks 7 = .ok (.isub, 1) := by decide +kernel
theorem dX10_breaks_8 : decode cX10_breaks 8 = .ok (.invokestatic 136, 3) := by decide +kernel
theorem dX10_breaks_11 : decode cX10_breaks 11 = .ok (.ifCond .eq 12, 3) := by decide +kernel
theorem dX10_breaks_14 : decode cX10_breaks 14 = .ok (.iload_n 2, 1) := by decide +kernel
theorem dX10_breaks_15 : decode cX10_breaks 15 = .ok (.iconst 0, 1) := by decide +kernel
theorem dX10_breaks_16 : decode cX10_breaks 16 = .ok (.iconst 1, 1) := by decide +kernel
theorem dX10_breaks_17 : decode cX10_breaks 17 = .ok (.invokestatic 136, 3) := by decide +kernel
theorem dX10_breaks_20 : decode cX10_breaks 20 = .ok (.ifCond .ne 5, 3) := by decide +kernel
theorem dX10_breaks_23 : decode cX10_breaks 23 = .ok (.iconst (-1), 1) := by decide +kernel
theorem dX10_breaks_24 : decode cX10_breaks 24 = .ok (.ireturn, 1) := by decide +kernel
theorem dX10_breaks_25 : decode cX10_breaks 25 = .ok (.aload_n 0, 1) := by decide +kernel
theorem dX10_breaks_26 : decode cX10_breaks 26 = .ok (.iload_n 1, 1) := by decide +kernel
theorem dX10_breaks_27 : decode cX10_breaks 27 = .ok (.invokevirtual 285, 3) := by decide +kernel
theorem dX10_breaks_30 : decode cX10_breaks 30 = .ok (.iload_n 2, 1) := by decide +kernel
theorem dX10_breaks_31 : decode cX10_breaks 31 = .ok (.ifCond .ne 10, 3) := by decide +kernel
theorem dX10_breaks_34 : decode cX10_breaks 34 = .ok (.aload_n 0, 1) := by decide +kernel
theorem dX10_breaks_35 : decode cX10_breaks 35 = .ok (.getfield 260, 3) := by decide +kernel
theorem dX10_breaks_38 : decode cX10_breaks 38 = .ok (.goto 7, 3) := by decide +kernel
theorem dX10_breaks_41 : decode cX10_breaks 41 = .ok (.aload_n 0, 1) := by decide +kernel
theorem dX10_breaks_42 : decode cX10_breaks 42 = .ok (.getfield 263, 3) := by decide +kernel
theorem dX10_breaks_45 : decode cX10_breaks 45 = .ok (.ireturn, 1) := by decide +kernel
def f_X10_breaks (F : Nat) (μ : Mm) (p1 : Int32) (p2 : Int32) : Option (Int32 × Mm) :=
 (f_X10_in μ p1 (0 : Int32) ((μ.1 1000 0 12) - (1 : Int32))).bind fun q7 =>
 if q7 = 0 then
 some ((-1 : Int32), μ)
 else
 (f_X10_in μ p2 (0 : Int32) (1 : Int32)).bind fun q9 =>
 if q9 = 0 then
 some ((-1 : Int32), μ)
 else
 (f_X10_judges F μ p1).bind fun q11 =>
 if p2 = 0 then
 some (q11.1 1000 0 41, q11)
 else
 some (q11.1 1000 0 42, q11)
set_option maxHeartbeats 4000000 in
set_option maxRecDepth 100000 in
theorem c_X10_breaks (l : Launch) (E : En) {F : Nat} {μ : Mm} {p1 : Int32} {p2 : Int32} (h0 : l10 E 0) {z : Int32 × Mm} (hf : f_X10_breaks F μ p1 p2 = some z) : Met l yX10_breaks (wt yX10_breaks cX10_breaks 3 (some .int)) { frames := 5, cells := 0, slots := 0, locals := 113 } (Pm E [.ref (ad E 1000 0), .int p1, .int p2] μ) (Qm E (some (.int z.1)) z.2) 0 0 (Ad E) := by
  unfold f_X10_breaks at hf
  refine met_of (cc := cX10_breaks) (nL := 3) (ret := (some .int)) (by decide) _ (Nat.le_of_ble_eq_true rfl) ?_
  intro p e s m below meth c C hr hlk hI ls hl
  have hx := C.1.1
  have hb := C.1.2.1
  have hl : lv_has ls 3 [(0, .ref (ad E 1000 0)), (1, .int p1), (2, .int p2)] := hl
  refine lv_iload_n hx hb dX10_breaks_0 rfl (lv_at hl 1 rfl) ?_
  refine lv_iconst (v := (0 : Int32)) hx hb dX10_breaks_1 kc_0 ?_
  refine lv_aload_n hx hb dX10_breaks_2 rfl (lv_at hl 0 rfl) ?_
  refine gf_10_12 C hI h0.1 fl_X10_143 dX10_breaks_3 ?_
  refine lv_iconst (v := (1 : Int32)) hx hb dX10_breaks_6 kc_1 ?_
  refine lv_isub hx hb dX10_breaks_7 ?_
  obtain ⟨q7, e8, hf⟩ := ob hf
  refine mcS (As := [.int p1, .int (0 : Int32), .int ((μ.1 1000 0 12) - (1 : Int32))]) (rest := []) C hI (c_X10_in l E  e8) ml_X10_136 ks_X10_in rfl rfl ⟨Nat.le_of_ble_eq_true rfl, Nat.le_of_ble_eq_true rfl⟩ ⟨Nat.zero_le _, Nat.zero_le _⟩ rfl rfl hl.1 (Nat.le_of_ble_eq_true rfl) dX10_breaks_8 (st1 := [.int q7]) rfl (fun H locs hI => ?_)
  refine lv_if_eq (tgt := 23) hx hb dX10_breaks_11 rfl (fun hc => ?_) (fun hc => ?_)
  · replace hf := it hf hc
    refine lv_iconst (v := (-1 : Int32)) hx hb dX10_breaks_23 kc_m1 ?_
    obtain rfl := Option.some.inj hf
    exact m_iret C hr hlk hI dX10_breaks_24
  · replace hf := ie hf hc
    refine lv_iload_n hx hb dX10_breaks_14 rfl (lv_at hl 2 rfl) ?_
    refine lv_iconst (v := (0 : Int32)) hx hb dX10_breaks_15 kc_0 ?_
    refine lv_iconst (v := (1 : Int32)) hx hb dX10_breaks_16 kc_1 ?_
    obtain ⟨q9, e10, hf⟩ := ob hf
    refine mcS (As := [.int p2, .int (0 : Int32), .int (1 : Int32)]) (rest := []) C hI (c_X10_in l E  e10) ml_X10_136 ks_X10_in rfl rfl ⟨Nat.le_of_ble_eq_true rfl, Nat.le_of_ble_eq_true rfl⟩ ⟨Nat.zero_le _, Nat.zero_le _⟩ rfl rfl hl.1 (Nat.le_of_ble_eq_true rfl) dX10_breaks_17 (st1 := [.int q9]) rfl (fun H locs hI => ?_)
    refine lv_if_ne (tgt := 25) hx hb dX10_breaks_20 rfl (fun hc => ?_) (fun hc => ?_)
    · replace hf := ie hf hc
      refine lv_aload_n hx hb dX10_breaks_25 rfl (lv_at hl 0 rfl) ?_
      refine lv_iload_n hx hb dX10_breaks_26 rfl (lv_at hl 1 rfl) ?_
      obtain ⟨q11, e12, hf⟩ := ob hf
      refine mcV (As := [.int p1]) (rest := []) C hI (c_X10_judges l E h0 e12) ml_X10_285 kv_X10_judges (m_recv C hI h0.1 (ce_1000 E _ _ _) rfl) rfl rfl ⟨Nat.le_of_ble_eq_true rfl, Nat.le_of_ble_eq_true rfl⟩ ⟨Nat.zero_le _, Nat.zero_le _⟩ rfl rfl hl.1 (Nat.le_of_ble_eq_true rfl) dX10_breaks_27 (st1 := []) rfl (fun H locs hI => ?_)
      refine lv_iload_n hx hb dX10_breaks_30 rfl (lv_at hl 2 rfl) ?_
      refine lv_if_ne (tgt := 41) hx hb dX10_breaks_31 rfl (fun hc => ?_) (fun hc => ?_)
      · replace hf := ie hf hc
        refine lv_aload_n hx hb dX10_breaks_41 rfl (lv_at hl 0 rfl) ?_
        refine gf_10_42 C hI h0.1 fl_X10_263 dX10_breaks_42 ?_
        obtain rfl := Option.some.inj hf
        exact m_iret C hr hlk hI dX10_breaks_45
      · replace hf := it hf hc
        refine lv_aload_n hx hb dX10_breaks_34 rfl (lv_at hl 0 rfl) ?_
        refine gf_10_41 C hI h0.1 fl_X10_260 dX10_breaks_35 ?_
        refine lv_goto (tgt := 45) hx hb dX10_breaks_38 rfl ?_
        obtain rfl := Option.some.inj hf
        exact m_iret C hr hlk hI dX10_breaks_45
    · replace hf := it hf hc
      refine lv_iconst (v := (-1 : Int32)) hx hb dX10_breaks_23 kc_m1 ?_
      obtain rfl := Option.some.inj hf
      exact m_iret C hr hlk hI dX10_breaks_24

theorem dX10_broken_0 : decode cX10_broken 0 = .ok (.iload_n 1, 1) := by decide +kernel
theorem dX10_broken_1 : decode cX10_broken 1 = .ok (.iconst 0, 1) := by decide +kernel
theorem dX10_broken_2 : decode cX10_broken 2 = .ok (.aload_n 0, 1) := by decide +kernel
theorem dX10_broken_3 : decode cX10_broken 3 = .ok (.getfield 143, 3) := by decide +kernel
theorem dX10_broken_6 : decode cX10_broken 6 = .ok (.iconst 1, 1) := by decide +kernel
theorem dX10_broken_7 : decode cX10_broken 7 = .ok (.isub, 1) := by decide +kernel
theorem dX10_broken_8 : decode cX10_broken 8 = .ok (.invokestatic 136, 3) := by decide +kernel
theorem dX10_broken_11 : decode cX10_broken 11 = .ok (.ifCond .eq 12, 3) := by decide +kernel
theorem dX10_broken_14 : decode cX10_broken 14 = .ok (.iload_n 2, 1) := by decide +kernel
theorem dX10_broken_15 : decode cX10_broken 15 = .ok (.iconst 0, 1) := by decide +kernel
theorem dX10_broken_16 : decode cX10_broken 16 = .ok (.iconst 1, 1) := by decide +kernel
theorem dX10_broken_17 : decode cX10_broken 17 = .ok (.invokestatic 136, 3) := by decide +kernel
theorem dX10_broken_20 : decode cX10_broken 20 = .ok (.ifCond .ne 5, 3) := by decide +kernel
theorem dX10_broken_23 : decode cX10_broken 23 = .ok (.iconst (-1), 1) := by decide +kernel
theorem dX10_broken_24 : decode cX10_broken 24 = .ok (.ireturn, 1) := by decide +kernel
theorem dX10_broken_25 : decode cX10_broken 25 = .ok (.aload_n 0, 1) := by decide +kernel
theorem dX10_broken_26 : decode cX10_broken 26 = .ok (.iload_n 1, 1) := by decide +kernel
theorem dX10_broken_27 : decode cX10_broken 27 = .ok (.invokevirtual 285, 3) := by decide +kernel
theorem dX10_broken_30 : decode cX10_broken 30 = .ok (.iload_n 3, 1) := by decide +kernel
theorem dX10_broken_31 : decode cX10_broken 31 = .ok (.iconst 0, 1) := by decide +kernel
theorem dX10_broken_32 : decode cX10_broken 32 = .ok (.iload_n 2, 1) := by decide +kernel
theorem dX10_broken_33 : decode cX10_broken 33 = .ok (.ifCond .ne 10, 3) := by decide +kernel
theorem dX10_broken_36 : decode cX10_broken 36 = .ok (.aload_n 0, 1) := by decide +kernel
theorem dX10_broken_37 : decode cX10_broken 37 = .ok (.getfield 260, 3) := by decide +kernel
theorem dX10_broken_40 : decode cX10_broken 40 = .ok (.goto 7, 3) := by decide +kernel
theorem dX10_broken_43 : decode cX10_broken 43 = .ok (.aload_n 0, 1) := by decide +kernel
theorem dX10_broken_44 : decode cX10_broken 44 = .ok (.getfield 263, 3) := by decide +kernel
theorem dX10_broken_47 : decode cX10_broken 47 = .ok (.iconst 1, 1) := by decide +kernel
theorem dX10_broken_48 : decode cX10_broken 48 = .ok (.isub, 1) := by decide +kernel
theorem dX10_broken_49 : decode cX10_broken 49 = .ok (.invokestatic 136, 3) := by decide +kernel
theorem dX10_broken_52 : decode cX10_broken 52 = .ok (.ifCond .ne 5, 3) := by decide +kernel
theorem dX10_broken_55 : decode cX10_broken 55 = .ok (.iconst (-1), 1) := by decide +kernel
theorem dX10_broken_56 : decode cX10_broken 56 = .ok (.ireturn, 1) := by decide +kernel
theorem dX10_broken_57 : decode cX10_broken 57 = .ok (.iload_n 2, 1) := by decide +kernel
theorem dX10_broken_58 : decode cX10_broken 58 = .ok (.ifCond .ne 12, 3) := by decide +kernel
theorem dX10_broken_61 : decode cX10_broken 61 = .ok (.aload_n 0, 1) := by decide +kernel
theorem dX10_broken_62 : decode cX10_broken 62 = .ok (.getfield 106, 3) := by decide +kernel
theorem dX10_broken_65 : decode cX10_broken 65 = .ok (.iload_n 3, 1) := by decide +kernel
theorem dX10_broken_66 : decode cX10_broken 66 = .ok (.iaload, 1) := by decide +kernel
theorem dX10_broken_67 : decode cX10_broken 67 = .ok (.goto 9, 3) := by decide +kernel
theorem dX10_broken_70 : decode cX10_broken 70 = .ok (.aload_n 0, 1) := by decide +kernel
theorem dX10_broken_71 : decode cX10_broken 71 = .ok (.getfield 109, 3) := by decide +kernel
theorem dX10_broken_74 : decode cX10_broken 74 = .ok (.iload_n 3, 1) := by decide +kernel
theorem dX10_broken_75 : decode cX10_broken 75 = .ok (.iaload, 1) := by decide +kernel
theorem dX10_broken_76 : decode cX10_broken 76 = .ok (.ireturn, 1) := by decide +kernel
def f_X10_broken_b47 (F : Nat) (μ : Mm) (a2 : Int32) (a3 : Int32) (s0 : Int32) (s1 : Int32) (s2 : Int32) : Option (Int32 × Mm) :=
 (f_X10_in μ s2 s1 (s0 - (1 : Int32))).bind fun q13 =>
 if q13 = 0 then
 some ((-1 : Int32), μ)
 else
 if a2 = 0 then
 (ra μ 1044 0 200 a3).bind fun v17 =>
 some (v17, μ)
 else
 (ra μ 1045 0 200 a3).bind fun v15 =>
 some (v15, μ)
set_option maxHeartbeats 4000000 in
set_option maxRecDepth 100000 in
theorem cb_X10_broken_47 {l : Launch} {E : En} {p : Program} {e : Env} {s : State} {m : MethodId} {av : Array Value} {below : List Frame} {meth : Method} {c : Code} (C : Cx E p s m av c cX10_broken 4 yX10_broken.cls) (hr : meth.sig.returnType = (some .int)) (hlk : meth.locks = false) {F : Nat} {z : Int32 × Mm} : ∀ (μ : Mm) (a2 : Int32) (a3 : Int32) (s0 : Int32) (s1 : Int32) (s2 : Int32) (h_a0 : l10 E 0), f_X10_broken_b47 F μ a2 a3 s0 s1 s2 = some z → ∀ {H : Heap} {locs : List Loc} {ls : Array Slot}, Iv E s μ H locs → lv_has ls 4 [(0, .ref (ad E 1000 0)), (2, .int a2), (3, .int a3)] → W p l e { frames := 5, cells := 0, slots := 0, locals := 113 } s m av below meth c H locs 0 0 (MQ below (Qm E (some (.int z.1)) z.2) av s 0 0 (Ad E)) (F0 m 47 ls [.int s0, .int s1, .int s2]) := by
  have hx := C.1.1
  have hb := C.1.2.1
  intro μ a2 a3 s0 s1 s2 h_a0 hf H locs ls hI hl
  unfold f_X10_broken_b47 at hf
  refine lv_iconst (v := (1 : Int32)) hx hb dX10_broken_47 kc_1 ?_
  refine lv_isub hx hb dX10_broken_48 ?_
  obtain ⟨q13, e14, hf⟩ := ob hf
  refine mcS (As := [.int s2, .int s1, .int (s0 - (1 : Int32))]) (rest := []) C hI (c_X10_in l E  e14) ml_X10_136 ks_X10_in rfl rfl ⟨Nat.le_of_ble_eq_true rfl, Nat.le_of_ble_eq_true rfl⟩ ⟨Nat.zero_le _, Nat.zero_le _⟩ rfl rfl hl.1 (Nat.le_of_ble_eq_true rfl) dX10_broken_49 (st1 := [.int q13]) rfl (fun H locs hI => ?_)
  refine lv_if_ne (tgt := 57) hx hb dX10_broken_52 rfl (fun hc => ?_) (fun hc => ?_)
  · replace hf := ie hf hc
    refine lv_iload_n hx hb dX10_broken_57 rfl (lv_at hl 1 rfl) ?_
    refine lv_if_ne (tgt := 70) hx hb dX10_broken_58 rfl (fun hc => ?_) (fun hc => ?_)
    · replace hf := ie hf hc
      refine lv_aload_n hx hb dX10_broken_70 rfl (lv_at hl 0 rfl) ?_
      refine gf_10_44 C hI h_a0.1 fl_X10_109 dX10_broken_71 ?_
      refine lv_iload_n hx hb dX10_broken_74 rfl (lv_at hl 2 rfl) ?_
      obtain ⟨v15, e16, hf⟩ := ob hf
      refine m_iald C hI h_a0.2.2.2.2.2.2.2.2.2.2.2.2.2.2.2.2.2.2.2.2.2.2.2.2.2.2.2.2.2.2.1 (ce_1045 E _ _ _) e16 dX10_broken_75 ?_
      obtain rfl := Option.some.inj hf
      exact m_iret C hr hlk hI dX10_broken_76
    · replace hf := it hf hc
      refine lv_aload_n hx hb dX10_broken_61 rfl (lv_at hl 0 rfl) ?_
      refine gf_10_43 C hI h_a0.1 fl_X10_106 dX10_broken_62 ?_
      refine lv_iload_n hx hb dX10_broken_65 rfl (lv_at hl 2 rfl) ?_
      obtain ⟨v17, e18, hf⟩ := ob hf
      refine m_iald C hI h_a0.2.2.2.2.2.2.2.2.2.2.2.2.2.2.2.2.2.2.2.2.2.2.2.2.2.2.2.2.2.1 (ce_1044 E _ _ _) e18 dX10_broken_66 ?_
      refine lv_goto (tgt := 76) hx hb dX10_broken_67 rfl ?_
      obtain rfl := Option.some.inj hf
      exact m_iret C hr hlk hI dX10_broken_76
  · replace hf := it hf hc
    refine lv_iconst (v := (-1 : Int32)) hx hb dX10_broken_55 kc_m1 ?_
    obtain rfl := Option.some.inj hf
    exact m_iret C hr hlk hI dX10_broken_56
def f_X10_broken (F : Nat) (μ : Mm) (p1 : Int32) (p2 : Int32) (p3 : Int32) : Option (Int32 × Mm) :=
 (f_X10_in μ p1 (0 : Int32) ((μ.1 1000 0 12) - (1 : Int32))).bind fun q19 =>
 if q19 = 0 then
 some ((-1 : Int32), μ)
 else
 (f_X10_in μ p2 (0 : Int32) (1 : Int32)).bind fun q21 =>
 if q21 = 0 then
 some ((-1 : Int32), μ)
 else
 (f_X10_judges F μ p1).bind fun q23 =>
 if p2 = 0 then
 f_X10_broken_b47 F q23 p2 p3 (q23.1 1000 0 41) (0 : Int32) p3
 else
 f_X10_broken_b47 F q23 p2 p3 (q23.1 1000 0 42) (0 : Int32) p3
set_option maxHeartbeats 4000000 in
set_option maxRecDepth 100000 in
theorem c_X10_broken (l : Launch) (E : En) {F : Nat} {μ : Mm} {p1 : Int32} {p2 : Int32} {p3 : Int32} (h0 : l10 E 0) {z : Int32 × Mm} (hf : f_X10_broken F μ p1 p2 p3 = some z) : Met l yX10_broken (wt yX10_broken cX10_broken 4 (some .int)) { frames := 5, cells := 0, slots := 0, locals := 113 } (Pm E [.ref (ad E 1000 0), .int p1, .int p2, .int p3] μ) (Qm E (some (.int z.1)) z.2) 0 0 (Ad E) := by
  unfold f_X10_broken at hf
  refine met_of (cc := cX10_broken) (nL := 4) (ret := (some .int)) (by decide) _ (Nat.le_of_ble_eq_true rfl) ?_
  intro p e s m below meth c C hr hlk hI ls hl
  have hx := C.1.1
  have hb := C.1.2.1
  have hl : lv_has ls 4 [(0, .ref (ad E 1000 0)), (1, .int p1), (2, .int p2), (3, .int p3)] := hl
  refine lv_iload_n hx hb dX10_broken_0 rfl (lv_at hl 1 rfl) ?_
  refine lv_iconst (v := (0 : Int32)) hx hb dX10_broken_1 kc_0 ?_
  refine lv_aload_n hx hb dX10_broken_2 rfl (lv_at hl 0 rfl) ?_
  refine gf_10_12 C hI h0.1 fl_X10_143 dX10_broken_3 ?_
  refine lv_iconst (v := (1 : Int32)) hx hb dX10_broken_6 kc_1 ?_
  refine lv_isub hx hb dX10_broken_7 ?_
  obtain ⟨q19, e20, hf⟩ := ob hf
  refine mcS (As := [.int p1, .int (0 : Int32), .int ((μ.1 1000 0 12) - (1 : Int32))]) (rest := []) C hI (c_X10_in l E  e20) ml_X10_136 ks_X10_in rfl rfl ⟨Nat.le_of_ble_eq_true rfl, Nat.le_of_ble_eq_true rfl⟩ ⟨Nat.zero_le _, Nat.zero_le _⟩ rfl rfl hl.1 (Nat.le_of_ble_eq_true rfl) dX10_broken_8 (st1 := [.int q19]) rfl (fun H locs hI => ?_)
  refine lv_if_eq (tgt := 23) hx hb dX10_broken_11 rfl (fun hc => ?_) (fun hc => ?_)
  · replace hf := it hf hc
    refine lv_iconst (v := (-1 : Int32)) hx hb dX10_broken_23 kc_m1 ?_
    obtain rfl := Option.some.inj hf
    exact m_iret C hr hlk hI dX10_broken_24
  · replace hf := ie hf hc
    refine lv_iload_n hx hb dX10_broken_14 rfl (lv_at hl 2 rfl) ?_
    refine lv_iconst (v := (0 : Int32)) hx hb dX10_broken_15 kc_0 ?_
    refine lv_iconst (v := (1 : Int32)) hx hb dX10_broken_16 kc_1 ?_
    obtain ⟨q21, e22, hf⟩ := ob hf
    refine mcS (As := [.int p2, .int (0 : Int32), .int (1 : Int32)]) (rest := []) C hI (c_X10_in l E  e22) ml_X10_136 ks_X10_in rfl rfl ⟨Nat.le_of_ble_eq_true rfl, Nat.le_of_ble_eq_true rfl⟩ ⟨Nat.zero_le _, Nat.zero_le _⟩ rfl rfl hl.1 (Nat.le_of_ble_eq_true rfl) dX10_broken_17 (st1 := [.int q21]) rfl (fun H locs hI => ?_)
    refine lv_if_ne (tgt := 25) hx hb dX10_broken_20 rfl (fun hc => ?_) (fun hc => ?_)
    · replace hf := ie hf hc
      refine lv_aload_n hx hb dX10_broken_25 rfl (lv_at hl 0 rfl) ?_
      refine lv_iload_n hx hb dX10_broken_26 rfl (lv_at hl 1 rfl) ?_
      obtain ⟨q23, e24, hf⟩ := ob hf
      refine mcV (As := [.int p1]) (rest := []) C hI (c_X10_judges l E h0 e24) ml_X10_285 kv_X10_judges (m_recv C hI h0.1 (ce_1000 E _ _ _) rfl) rfl rfl ⟨Nat.le_of_ble_eq_true rfl, Nat.le_of_ble_eq_true rfl⟩ ⟨Nat.zero_le _, Nat.zero_le _⟩ rfl rfl hl.1 (Nat.le_of_ble_eq_true rfl) dX10_broken_27 (st1 := []) rfl (fun H locs hI => ?_)
      refine lv_iload_n hx hb dX10_broken_30 rfl (lv_at hl 3 rfl) ?_
      refine lv_iconst (v := (0 : Int32)) hx hb dX10_broken_31 kc_0 ?_
      refine lv_iload_n hx hb dX10_broken_32 rfl (lv_at hl 2 rfl) ?_
      refine lv_if_ne (tgt := 43) hx hb dX10_broken_33 rfl (fun hc => ?_) (fun hc => ?_)
      · replace hf := ie hf hc
        refine lv_aload_n hx hb dX10_broken_43 rfl (lv_at hl 0 rfl) ?_
        refine gf_10_42 C hI h0.1 fl_X10_263 dX10_broken_44 ?_
        exact cb_X10_broken_47 C hr hlk  _ _ _ _ _ _ h0 hf hI (lv_sub hl [0, 2, 3] rfl)
      · replace hf := it hf hc
        refine lv_aload_n hx hb dX10_broken_36 rfl (lv_at hl 0 rfl) ?_
        refine gf_10_41 C hI h0.1 fl_X10_260 dX10_broken_37 ?_
        refine lv_goto (tgt := 47) hx hb dX10_broken_40 rfl ?_
        exact cb_X10_broken_47 C hr hlk  _ _ _ _ _ _ h0 hf hI (lv_sub hl [0, 2, 3] rfl)
    · replace hf := it hf hc
      refine lv_iconst (v := (-1 : Int32)) hx hb dX10_broken_23 kc_m1 ?_
      obtain rfl := Option.some.inj hf
      exact m_iret C hr hlk hI dX10_broken_24

theorem dX10_gathers_0 : decode cX10_gathers 0 = .ok (.aload_n 0, 1) := by decide +kernel
theorem dX10_gathers_1 : decode cX10_gathers 1 = .ok (.iconst 0, 1) := by decide +kernel
theorem dX10_gathers_2 : decode cX10_gathers 2 = .ok (.putfield 306, 3) := by decide +kernel
theorem dX10_gathers_5 : decode cX10_gathers 5 = .ok (.iconst 0, 1) := by decide +kernel
theorem dX10_gathers_6 : decode cX10_gathers 6 = .ok (.istore_n 2, 1) := by decide +kernel
theorem dX10_gathers_7 : decode cX10_gathers 7 = .ok (.iload_n 2, 1) := by decide +kernel
theorem dX10_gathers_8 : decode cX10_gathers 8 = .ok (.aload_n 0, 1) := by decide +kernel
theorem dX10_gathers_9 : decode cX10_gathers 9 = .ok (.getfield 13, 3) := by decide +kernel
theorem dX10_gathers_12 : decode cX10_gathers 12 = .ok (.if_icmp .ge 146, 3) := by decide +kernel
theorem dX10_gathers_15 : decode cX10_gathers 15 = .ok (.aload_n 0, 1) := by decide +kernel
theorem dX10_gathers_16 : decode cX10_gathers 16 = .ok (.getfield 19, 3) := by decide +kernel
theorem dX10_gathers_19 : decode cX10_gathers 19 = .ok (.iload_n 2, 1) := by decide +kernel
theorem dX10_gathers_20 : decode cX10_gathers 20 = .ok (.iaload, 1) := by decide +kernel
theorem dX10_gathers_21 : decode cX10_gathers 21 = .ok (.iload_n 1, 1) := by decide +kernel
theorem dX10_gathers_22 : decode cX10_gathers 22 = .ok (.if_icmp .ne 130, 3) := by decide +kernel
theorem dX10_gathers_25 : decode cX10_gathers 25 = .ok (.aload_n 0, 1) := by decide +kernel
theorem dX10_gathers_26 : decode cX10_gathers 26 = .ok (.iload_n 2, 1) := by decide +kernel
theorem dX10_gathers_27 : decode cX10_gathers 27 = .ok (.invokevirtual 254, 3) := by decide +kernel
theorem dX10_gathers_30 : decode cX10_gathers 30 = .ok (.iconst 0, 1) := by decide +kernel
theorem dX10_gathers_31 : decode cX10_gathers 31 = .ok (.istore_n 3, 1) := by decide +kernel
theorem dX10_gathers_32 : decode cX10_gathers 32 = .ok (.iload_n 3, 1) := by decide +kernel
theorem dX10_gathers_33 : decode cX10_gathers 33 = .ok (.aload_n 0, 1) := by decide +kernel
theorem dX10_gathers_34 : decode cX10_gathers 34 = .ok (.getfield 251, 3) := by decide +kernel
theorem dX10_gathers_37 : decode cX10_gathers 37 = .ok (.if_icmp .ge 115, 3) := by decide +kernel
theorem dX10_gathers_40 : decode cX10_gathers 40 = .ok (.aload_n 0, 1) := by decide +kernel
theorem dX10_gathers_41 : decode cX10_gathers 41 = .ok (.getfield 115, 3) := by decide +kernel
theorem dX10_gathers_44 : decode cX10_gathers 44 = .ok (.aload_n 0, 1) := by decide +kernel
theorem dX10_gathers_45 : decode cX10_gathers 45 = .ok (.getfield 306, 3) := by decide +kernel
theorem dX10_gathers_48 : decode cX10_gathers 48 = .ok (.iload_n 2, 1) := by decide +kernel
theorem dX10_gathers_49 : decode cX10_gathers 49 = .ok (.iastore, 1) := by decide +kernel
theorem dX10_gathers_50 : decode cX10_gathers 50 = .ok (.aload_n 0, 1) := by decide +kernel
theorem dX10_gathers_51 : decode cX10_gathers 51 = .ok (.getfield 118, 3) := by decide +kernel
theorem dX10_gathers_54 : decode cX10_gathers 54 = .ok (.aload_n 0, 1) := by decide +kernel
theorem dX10_gathers_55 : decode cX10_gathers 55 = .ok (.getfield 306, 3) := by decide +kernel
theorem dX10_gathers_58 : decode cX10_gathers 58 = .ok (.iload_n 3, 1) := by decide +kernel
theorem dX10_gathers_59 : decode cX10_gathers 59 = .ok (.iastore, 1) := by decide +kernel
theorem dX10_gathers_60 : decode cX10_gathers 60 = .ok (.aload_n 0, 1) := by decide +kernel
theorem dX10_gathers_61 : decode cX10_gathers 61 = .ok (.getfield 121, 3) := by decide +kernel
theorem dX10_gathers_64 : decode cX10_gathers 64 = .ok (.aload_n 0, 1) := by decide +kernel
theorem dX10_gathers_65 : decode cX10_gathers 65 = .ok (.getfield 306, 3) := by decide +kernel
theorem dX10_gathers_68 : decode cX10_gathers 68 = .ok (.aload_n 0, 1) := by decide +kernel
theorem dX10_gathers_69 : decode cX10_gathers 69 = .ok (.getfield 42, 3) := by decide +kernel
theorem dX10_gathers_72 : decode cX10_gathers 72 = .ok (.aload_n 0, 1) := by decide +kernel
theorem dX10_gathers_73 : decode cX10_gathers 73 = .ok (.aload_n 0, 1) := by decide +kernel
theorem dX10_gathers_74 : decode cX10_gathers 74 = .ok (.getfield 94, 3) := by decide +kernel
theorem dX10_gathers_77 : decode cX10_gathers 77 = .ok (.iload_n 3, 1) := by decide +kernel
theorem dX10_gathers_78 : decode cX10_gathers 78 = .ok (.iaload, 1) := by decide +kernel
theorem dX10_gathers_79 : decode cX10_gathers 79 = .ok (.invokevirtual 190, 3) := by decide +kernel
theorem dX10_gathers_82 : decode cX10_gathers 82 = .ok (.iaload, 1) := by decide +kernel
theorem dX10_gathers_83 : decode cX10_gathers 83 = .ok (.iastore, 1) := by decide +kernel
theorem dX10_gathers_84 : decode cX10_gathers 84 = .ok (.aload_n 0, 1) := by decide +kernel
theorem dX10_gathers_85 : decode cX10_gathers 85 = .ok (.getfield 124, 3) := by decide +kernel
theorem dX10_gathers_88 : decode cX10_gathers 88 = .ok (.aload_n 0, 1) := by decide +kernel
theorem dX10_gathers_89 : decode cX10_gathers 89 = .ok (.getfield 306, 3) := by decide +kernel
theorem dX10_gathers_92 : decode cX10_gathers 92 = .ok (.aload_n 0, 1) := by decide +kernel
theorem dX10_gathers_93 : decode cX10_gathers 93 = .ok (.getfield 100, 3) := by decide +kernel
theorem dX10_gathers_96 : decode cX10_gathers 96 = .ok (.iload_n 3, 1) := by decide +kernel
theorem dX10_gathers_97 : decode cX10_gathers 97 = .ok (.iaload, 1) := by decide +kernel
theorem dX10_gathers_98 : decode cX10_gathers 98 = .ok (.iastore, 1) := by decide +kernel
theorem dX10_gathers_99 : decode cX10_gathers 99 = .ok (.aload_n 0, 1) := by decide +kernel
theorem dX10_gathers_100 : decode cX10_gathers 100 = .ok (.getfield 127, 3) := by decide +kernel
theorem dX10_gathers_103 : decode cX10_gathers 103 = .ok (.aload_n 0, 1) := by decide +kernel
theorem dX10_gathers_104 : decode cX10_gathers 104 = .ok (.getfield 306, 3) := by decide +kernel
theorem dX10_gathers_107 : decode cX10_gathers 107 = .ok (.aload_n 0, 1) := by decide +kernel
theorem dX10_gathers_108 : decode cX10_gathers 108 = .ok (.getfield 100, 3) := by decide +kernel
theorem dX10_gathers_111 : decode cX10_gathers 111 = .ok (.iload_n 3, 1) := by decide +kernel
theorem dX10_gathers_112 : decode cX10_gathers 112 = .ok (.iaload, 1) := by decide +kernel
theorem dX10_gathers_113 : decode cX10_gathers 113 = .ok (.ifCond .ne 21, 3) := by decide +kernel
theorem dX10_gathers_116 : decode cX10_gathers 116 = .ok (.aload_n 0, 1) := by decide +kernel
theorem dX10_gathers_117 : decode cX10_gathers 117 = .ok (.getfield 42, 3) := by decide +kernel
theorem dX10_gathers_120 : decode cX10_gathers 120 = .ok (.aload_n 0, 1) := by decide +kernel
theorem dX10_gathers_121 : decode cX10_gathers 121 = .ok (.aload_n 0, 1) := by decide +kernel
theorem dX10_gathers_122 : decode cX10_gathers 122 = .ok (.getfield 94, 3) := by decide +kernel
theorem dX10_gathers_125 : decode cX10_gathers 125 = .ok (.iload_n 3, 1) := by decide +kernel
theorem dX10_gathers_126 : decode cX10_gathers 126 = .ok (.iaload, 1) := by decide +kernel
theorem dX10_gathers_127 : decode cX10_gathers 127 = .ok (.invokevirtual 190, 3) := by decide +kernel
theorem dX10_gathers_130 : decode cX10_gathers 130 = .ok (.iaload, 1) := by decide +kernel
theorem dX10_gathers_131 : decode cX10_gathers 131 = .ok (.goto 4, 3) := by decide +kernel
theorem dX10_gathers_134 : decode cX10_gathers 134 = .ok (.iconst (-1), 1) := by decide +kernel
theorem dX10_gathers_135 : decode cX10_gathers 135 = .ok (.iastore, 1) := by decide +kernel
theorem dX10_gathers_136 : decode cX10_gathers 136 = .ok (.aload_n 0, 1) := by decide +kernel
theorem dX10_gathers_137 : decode cX10_gathers 137 = .ok (.dup, 1) := by decide +kernel
theorem dX10_gathers_138 : decode cX10_gathers 138 = .ok (.getfield 306, 3) := by decide +kernel
theorem dX10_gathers_141 : decode cX10_gathers 141 = .ok (.iconst 1, 1) := by decide +kernel
theorem dX10_gathers_142 : decode cX10_gathers 142 = .ok (.iadd, 1) := by decide +kernel
theorem dX10_gathers_143 : decode cX10_gathers 143 = .ok (.putfield 306, 3) := by decide +kernel
theorem dX10_gathers_146 : decode cX10_gathers 146 = .ok (.iinc 3 1, 3) := by decide +kernel
theorem dX10_gathers_149 : decode cX10_gathers 149 = .ok (.goto (-117), 3) := by decide +kernel
theorem dX10_gathers_152 : decode cX10_gathers 152 = .ok (.iinc 2 1, 3) := by decide +kernel
theorem dX10_gathers_155 : decode cX10_gathers 155 = .ok (.goto (-148), 3) := by decide +kernel
theorem dX10_gathers_158 : decode cX10_gathers 158 = .ok (.return_, 1) := by decide +kernel
def f_X10_gathers_b135 (F : Nat) (K7 : Mm → Int32 → Int32 → Option Mm) (K32 : Mm → Int32 → Int32 → Int32 → Option Mm) (μ : Mm) (a1 : Int32) (a2 : Int32) (a3 : Int32) (s0 : Int32) (s1 : Int32) : Option Mm :=
 (wa μ 1054 0 400 s1 s0).bind fun m35 =>
 (wf m35 1000 0 48 ((m35.1 1000 0 48) + (1 : Int32))).bind fun m37 =>
 K32 m37 a1 a2 (a3 + (1 : Int32))
set_option maxHeartbeats 4000000 in
set_option maxRecDepth 100000 in
theorem cb_X10_gathers_135 {l : Launch} {E : En} {p : Program} {e : Env} {s : State} {m : MethodId} {av : Array Value} {below : List Frame} {meth : Method} {c : Code} (C : Cx E p s m av c cX10_gathers 4 yX10_gathers.cls) (hr : meth.sig.returnType = (none : Option FieldType)) (hlk : meth.locks = false) {F : Nat} {K7 : Mm → Int32 → Int32 → Option Mm} {K32 : Mm → Int32 → Int32 → Int32 → Option Mm} {z : Mm} (hK7 : ∀ (μ : Mm) (a1 : Int32) (a2 : Int32) (h_a0 : l10 E 0), K7 μ a1 a2 = some z → ∀ {H : Heap} {locs : List Loc} {ls : Array Slot}, Iv E s μ H locs → lv_has ls 4 [(0, .ref (ad E 1000 0)), (1, .int a1), (2, .int a2)] → W p l e { frames := 4, cells := 0, slots := 0, locals := 93 } s m av below meth c H locs 0 0 (MQ below (Qm E none z) av s 0 0 (Ad E)) (F0 m 7 ls [])) (hK32 : ∀ (μ : Mm) (a1 : Int32) (a2 : Int32) (a3 : Int32) (h_a0 : l10 E 0), K32 μ a1 a2 a3 = some z → ∀ {H : Heap} {locs : List Loc} {ls : Array Slot}, Iv E s μ H locs → lv_has ls 4 [(0, .ref (ad E 1000 0)), (1, .int a1), (2, .int a2), (3, .int a3)] → W p l e { frames := 4, cells := 0, slots := 0, locals := 93 } s m av below meth c H locs 0 0 (MQ below (Qm E none z) av s 0 0 (Ad E)) (F0 m 32 ls [])) : ∀ (μ : Mm) (a1 : Int32) (a2 : Int32) (a3 : Int32) (s0 : Int32) (s1 : Int32) (h_a0 : l10 E 0) (h_s2 : (1054, 0) ∈ eL E), f_X10_gathers_b135 F K7 K32 μ a1 a2 a3 s0 s1 = some z → ∀ {H : Heap} {locs : List Loc} {ls : Array Slot}, Iv E s μ H locs → lv_has ls 4 [(0, .ref (ad E 1000 0)), (1, .int a1), (2, .int a2), (3, .int a3)] → W p l e { frames := 4, cells := 0, slots := 0, locals := 93 } s m av below meth c H locs 0 0 (MQ below (Qm E none z) av s 0 0 (Ad E)) (F0 m 135 ls [.int s0, .int s1, .ref (ad E 1054 0)]) := by
  have hx := C.1.1
  have hb := C.1.2.1
  intro μ a1 a2 a3 s0 s1 h_a0 h_s2 hf H locs ls hI hl
  unfold f_X10_gathers_b135 at hf
  obtain ⟨m35, e36, hf⟩ := ob hf
  refine m_iast C hI h_s2 (ce_1054 E _) e36 dX10_gathers_135 (fun H locs hI => ?_)
  refine lv_aload_n hx hb dX10_gathers_136 rfl (lv_at hl 0 rfl) ?_
  refine lv_dup hx hb dX10_gathers_137 rfl ?_
  refine gf_10_48 C hI h_a0.1 fl_X10_306 dX10_gathers_138 ?_
  refine lv_iconst (v := (1 : Int32)) hx hb dX10_gathers_141 kc_1 ?_
  refine lv_iadd hx hb dX10_gathers_142 ?_
  obtain ⟨m37, e38, hf⟩ := ob hf
  refine pf_10_48 C hI h_a0.1 fl_X10_306 e38 dX10_gathers_143 (fun H locs hI => ?_)
  refine lv_iinc (v := a3 + (1 : Int32)) hx hb dX10_gathers_146 hl (k := 3) rfl (ki_1 _) (by decide) rfl (fun ls hl => ?_)
  have hl : lv_has ls 4 [(3, .int (a3 + (1 : Int32))), (0, .ref (ad E 1000 0)), (1, .int a1), (2, .int a2)] := hl
  refine lv_goto (tgt := 32) hx hb dX10_gathers_149 rfl ?_
  exact hK32 _ _ _ _ h_a0 hf hI (lv_sub hl [1, 2, 3, 0] rfl)
def f_X10_gathers_b32 (F : Nat) (K7 : Mm → Int32 → Int32 → Option Mm) : Nat → Mm → Int32 → Int32 → Int32 → Option Mm
 | 0, _, _, _, _ => none
 | N + 1, μ, a1, a2, a3 =>
 if (μ.1 1000 0 36) ≤ a3 then
 K7 μ a1 (a2 + (1 : Int32))
 else
 (wa μ 1050 0 400 (μ.1 1000 0 48) a2).bind fun m39 =>
 (wa m39 1051 0 400 (m39.1 1000 0 48) a3).bind fun m41 =>
 (ra m41 1038 0 100 a3).bind fun v43 =>
 (f_X10_spot m41 v43).bind fun q45 =>
 (ra m41 1012 0 4200 q45).bind fun v47 =>
 (wa m41 1052 0 400 (m41.1 1000 0 48) v47).bind fun m49 =>
 (ra m49 1040 0 100 a3).bind fun v51 =>
 (wa m49 1053 0 400 (m49.1 1000 0 48) v51).bind fun m53 =>
 (ra m53 1040 0 100 a3).bind fun v55 =>
 if v55 = 0 then
 (ra m53 1038 0 100 a3).bind fun v57 =>
 (f_X10_spot m53 v57).bind fun q59 =>
 (ra m53 1012 0 4200 q59).bind fun v61 =>
 f_X10_gathers_b135 F K7 (fun μ a1 a2 a3 => f_X10_gathers_b32 F K7 N μ a1 a2 a3) m53 a1 a2 a3 v61 (m53.1 1000 0 48)
 else
 f_X10_gathers_b135 F K7 (fun μ a1 a2 a3 => f_X10_gathers_b32 F K7 N μ a1 a2 a3) m53 a1 a2 a3 (-1 : Int32) (m53.1 1000 0 48)
set_option maxHeartbeats 4000000 in
set_option maxRecDepth 100000 in
theorem cb_X10_gathers_32 {l : Launch} {E : En} {p : Program} {e : Env} {s : State} {m : MethodId} {av : Array Value} {below : List Frame} {meth : Method} {c : Code} (C : Cx E p s m av c cX10_gathers 4 yX10_gathers.cls) (hr : meth.sig.returnType = (none : Option FieldType)) (hlk : meth.locks = false) {F : Nat} {K7 : Mm → Int32 → Int32 → Option Mm} {z : Mm} (hK7 : ∀ (μ : Mm) (a1 : Int32) (a2 : Int32) (h_a0 : l10 E 0), K7 μ a1 a2 = some z → ∀ {H : Heap} {locs : List Loc} {ls : Array Slot}, Iv E s μ H locs → lv_has ls 4 [(0, .ref (ad E 1000 0)), (1, .int a1), (2, .int a2)] → W p l e { frames := 4, cells := 0, slots := 0, locals := 93 } s m av below meth c H locs 0 0 (MQ below (Qm E none z) av s 0 0 (Ad E)) (F0 m 7 ls [])) : ∀ (N : Nat) (μ : Mm) (a1 : Int32) (a2 : Int32) (a3 : Int32) (h_a0 : l10 E 0), f_X10_gathers_b32 F K7 N μ a1 a2 a3 = some z → ∀ {H : Heap} {locs : List Loc} {ls : Array Slot}, Iv E s μ H locs → lv_has ls 4 [(0, .ref (ad E 1000 0)), (1, .int a1), (2, .int a2), (3, .int a3)] → W p l e { frames := 4, cells := 0, slots := 0, locals := 93 } s m av below meth c H locs 0 0 (MQ below (Qm E none z) av s 0 0 (Ad E)) (F0 m 32 ls []) := by
  have hx := C.1.1
  have hb := C.1.2.1
  intro N
  induction N with
  | zero => intro μ a1 a2 a3 h_a0 hf; cases hf
  | succ N ih =>
    intro μ a1 a2 a3 h_a0 hf H locs ls hI hl
    rw [f_X10_gathers_b32] at hf
    refine lv_iload_n hx hb dX10_gathers_32 rfl (lv_at hl 3 rfl) ?_
    refine lv_aload_n hx hb dX10_gathers_33 rfl (lv_at hl 0 rfl) ?_
    refine gf_10_36 C hI h_a0.1 fl_X10_251 dX10_gathers_34 ?_
    refine lv_icmp_ge (tgt := 152) hx hb dX10_gathers_37 rfl (fun hc => ?_) (fun hc => ?_)
    · replace hf := it hf hc
      refine lv_iinc (v := a2 + (1 : Int32)) hx hb dX10_gathers_152 hl (k := 2) rfl (ki_1 _) (by decide) rfl (fun ls hl => ?_)
      have hl : lv_has ls 4 [(2, .int (a2 + (1 : Int32))), (0, .ref (ad E 1000 0)), (1, .int a1), (3, .int a3)] := hl
      refine lv_goto (tgt := 7) hx hb dX10_gathers_155 rfl ?_
      exact hK7 _ _ _ h_a0 hf hI (lv_sub hl [1, 2, 0] rfl)
    · replace hf := ie hf hc
      refine lv_aload_n hx hb dX10_gathers_40 rfl (lv_at hl 0 rfl) ?_
      refine gf_10_49 C hI h_a0.1 fl_X10_115 dX10_gathers_41 ?_
      refine lv_aload_n hx hb dX10_gathers_44 rfl (lv_at hl 0 rfl) ?_
      refine gf_10_48 C hI h_a0.1 fl_X10_306 dX10_gathers_45 ?_
      refine lv_iload_n hx hb dX10_gathers_48 rfl (lv_at hl 2 rfl) ?_
      obtain ⟨m39, e40, hf⟩ := ob hf
      refine m_iast C hI h_a0.2.2.2.2.2.2.2.2.2.2.2.2.2.2.2.2.2.2.2.2.2.2.2.2.2.2.2.2.2.2.2.2.1 (ce_1050 E _) e40 dX10_gathers_49 (fun H locs hI => ?_)
      refine lv_aload_n hx hb dX10_gathers_50 rfl (lv_at hl 0 rfl) ?_
      refine gf_10_50 C hI h_a0.1 fl_X10_118 dX10_gathers_51 ?_
      refine lv_aload_n hx hb dX10_gathers_54 rfl (lv_at hl 0 rfl) ?_
      refine gf_10_48 C hI h_a0.1 fl_X10_306 dX10_gathers_55 ?_
      refine lv_iload_n hx hb dX10_gathers_58 rfl (lv_at hl 3 rfl) ?_
      obtain ⟨m41, e42, hf⟩ := ob hf
      refine m_iast C hI h_a0.2.2.2.2.2.2.2.2.2.2.2.2.2.2.2.2.2.2.2.2.2.2.2.2.2.2.2.2.2.2.2.2.2.1 (ce_1051 E _) e42 dX10_gathers_59 (fun H locs hI => ?_)
      refine lv_aload_n hx hb dX10_gathers_60 rfl (lv_at hl 0 rfl) ?_
      refine gf_10_51 C hI h_a0.1 fl_X10_121 dX10_gathers_61 ?_
      refine lv_aload_n hx hb dX10_gathers_64 rfl (lv_at hl 0 rfl) ?_
      refine gf_10_48 C hI h_a0.1 fl_X10_306 dX10_gathers_65 ?_
      refine lv_aload_n hx hb dX10_gathers_68 rfl (lv_at hl 0 rfl) ?_
      refine gf_10_11 C hI h_a0.1 fl_X10_42 dX10_gathers_69 ?_
      refine lv_aload_n hx hb dX10_gathers_72 rfl (lv_at hl 0 rfl) ?_
      refine lv_aload_n hx hb dX10_gathers_73 rfl (lv_at hl 0 rfl) ?_
      refine gf_10_37 C hI h_a0.1 fl_X10_94 dX10_gathers_74 ?_
      refine lv_iload_n hx hb dX10_gathers_77 rfl (lv_at hl 3 rfl) ?_
      obtain ⟨v43, e44, hf⟩ := ob hf
      refine m_iald C hI h_a0.2.2.2.2.2.2.2.2.2.2.2.2.2.2.2.2.2.2.2.2.2.2.2.2.2.1 (ce_1038 E _ _ _) e44 dX10_gathers_78 ?_
      obtain ⟨q45, e46, hf⟩ := ob hf
      refine mcV (As := [.int v43]) (rest := [.ref (ad E 1012 0), .int (m41.1 1000 0 48), .ref (ad E 1052 0)]) C hI (c_X10_spot l E h_a0 e46) ml_X10_190 kv_X10_spot (m_recv C hI h_a0.1 (ce_1000 E _ _ _) rfl) rfl rfl ⟨Nat.le_of_ble_eq_true rfl, Nat.le_of_ble_eq_true rfl⟩ ⟨Nat.zero_le _, Nat.zero_le _⟩ rfl rfl hl.1 (Nat.le_of_ble_eq_true rfl) dX10_gathers_79 (st1 := [.int q45, .ref (ad E 1012 0), .int (m41.1 1000 0 48), .ref (ad E 1052 0)]) rfl (fun H locs hI => ?_)
      obtain ⟨v47, e48, hf⟩ := ob hf
      refine m_iald C hI h_a0.2.2.2.2.2.2.2.2.1 (ce_1012 E _ _ _) e48 dX10_gathers_82 ?_
      obtain ⟨m49, e50, hf⟩ := ob hf
      refine m_iast C hI h_a0.2.2.2.2.2.2.2.2.2.2.2.2.2.2.2.2.2.2.2.2.2.2.2.2.2.2.2.2.2.2.2.2.2.2.1 (ce_1052 E _) e50 dX10_gathers_83 (fun H locs hI => ?_)
      refine lv_aload_n hx hb dX10_gathers_84 rfl (lv_at hl 0 rfl) ?_
      refine gf_10_52 C hI h_a0.1 fl_X10_124 dX10_gathers_85 ?_
      refine lv_aload_n hx hb dX10_gathers_88 rfl (lv_at hl 0 rfl) ?_
      refine gf_10_48 C hI h_a0.1 fl_X10_306 dX10_gathers_89 ?_
      refine lv_aload_n hx hb dX10_gathers_92 rfl (lv_at hl 0 rfl) ?_
      refine gf_10_39 C hI h_a0.1 fl_X10_100 dX10_gathers_93 ?_
      refine lv_iload_n hx hb dX10_gathers_96 rfl (lv_at hl 3 rfl) ?_
      obtain ⟨v51, e52, hf⟩ := ob hf
      refine m_iald C hI h_a0.2.2.2.2.2.2.2.2.2.2.2.2.2.2.2.2.2.2.2.2.2.2.2.2.2.2.2.1 (ce_1040 E _ _ _) e52 dX10_gathers_97 ?_
      obtain ⟨m53, e54, hf⟩ := ob hf
      refine m_iast C hI h_a0.2.2.2.2.2.2.2.2.2.2.2.2.2.2.2.2.2.2.2.2.2.2.2.2.2.2.2.2.2.2.2.2.2.2.2.1 (ce_1053 E _) e54 dX10_gathers_98 (fun H locs hI => ?_)
      refine lv_aload_n hx hb dX10_gathers_99 rfl (lv_at hl 0 rfl) ?_
      refine gf_10_53 C hI h_a0.1 fl_X10_127 dX10_gathers_100 ?_
      refine lv_aload_n hx hb dX10_gathers_103 rfl (lv_at hl 0 rfl) ?_
      refine gf_10_48 C hI h_a0.1 fl_X10_306 dX10_gathers_104 ?_
      refine lv_aload_n hx hb dX10_gathers_107 rfl (lv_at hl 0 rfl) ?_
      refine gf_10_39 C hI h_a0.1 fl_X10_100 dX10_gathers_108 ?_
      refine lv_iload_n hx hb dX10_gathers_111 rfl (lv_at hl 3 rfl) ?_
      obtain ⟨v55, e56, hf⟩ := ob hf
      refine m_iald C hI h_a0.2.2.2.2.2.2.2.2.2.2.2.2.2.2.2.2.2.2.2.2.2.2.2.2.2.2.2.1 (ce_1040 E _ _ _) e56 dX10_gathers_112 ?_
      refine lv_if_ne (tgt := 134) hx hb dX10_gathers_113 rfl (fun hc => ?_) (fun hc => ?_)
      · replace hf := ie hf hc
        refine lv_iconst (v := (-1 : Int32)) hx hb dX10_gathers_134 kc_m1 ?_
        exact cb_X10_gathers_135 C hr hlk hK7 ih _ _ _ _ _ _ h_a0 h_a0.2.2.2.2.2.2.2.2.2.2.2.2.2.2.2.2.2.2.2.2.2.2.2.2.2.2.2.2.2.2.2.2.2.2.2.2.1 hf hI (lv_sub hl [0, 1, 2, 3] rfl)
      · replace hf := it hf hc
        refine lv_aload_n hx hb dX10_gathers_116 rfl (lv_at hl 0 rfl) ?_
        refine gf_10_11 C hI h_a0.1 fl_X10_42 dX10_gathers_117 ?_
        refine lv_aload_n hx hb dX10_gathers_120 rfl (lv_at hl 0 rfl) ?_
        refine lv_aload_n hx hb dX10_gathers_121 rfl (lv_at hl 0 rfl) ?_
        refine gf_10_37 C hI h_a0.1 fl_X10_94 dX10_gathers_122 ?_
        refine lv_iload_n hx hb dX10_gathers_125 rfl (lv_at hl 3 rfl) ?_
        obtain ⟨v57, e58, hf⟩ := ob hf
        refine m_iald C hI h_a0.2.2.2.2.2.2.2.2.2.2.2.2.2.2.2.2.2.2.2.2.2.2.2.2.2.1 (ce_1038 E _ _ _) e58 dX10_gathers_126 ?_
        obtain ⟨q59, e60, hf⟩ := ob hf
        refine mcV (As := [.int v57]) (rest := [.ref (ad E 1012 0), .int (m53.1 1000 0 48), .ref (ad E 1054 0)]) C hI (c_X10_spot l E h_a0 e60) ml_X10_190 kv_X10_spot (m_recv C hI h_a0.1 (ce_1000 E _ _ _) rfl) rfl rfl ⟨Nat.le_of_ble_eq_true rfl, Nat.le_of_ble_eq_true rfl⟩ ⟨Nat.zero_le _, Nat.zero_le _⟩ rfl rfl hl.1 (Nat.le_of_ble_eq_true rfl) dX10_gathers_127 (st1 := [.int q59, .ref (ad E 1012 0), .int (m53.1 1000 0 48), .ref (ad E 1054 0)]) rfl (fun H locs hI => ?_)
        obtain ⟨v61, e62, hf⟩ := ob hf
        refine m_iald C hI h_a0.2.2.2.2.2.2.2.2.1 (ce_1012 E _ _ _) e62 dX10_gathers_130 ?_
        refine lv_goto (tgt := 135) hx hb dX10_gathers_131 rfl ?_
        exact cb_X10_gathers_135 C hr hlk hK7 ih _ _ _ _ _ _ h_a0 h_a0.2.2.2.2.2.2.2.2.2.2.2.2.2.2.2.2.2.2.2.2.2.2.2.2.2.2.2.2.2.2.2.2.2.2.2.2.1 hf hI (lv_sub hl [0, 1, 2, 3] rfl)
def f_X10_gathers_b7 (F : Nat) : Nat → Mm → Int32 → Int32 → Option Mm
 | 0, _, _, _ => none
 | N + 1, μ, a1, a2 =>
 if (μ.1 1000 0 2) ≤ a2 then
 some μ
 else
 (ra μ 1005 0 8 a2).bind fun v63 =>
 if v63 = a1 then
 (f_X10_seeks F μ a2).bind fun q65 =>
 f_X10_gathers_b32 F (fun μ a1 a2 => f_X10_gathers_b7 F N μ a1 a2) F q65 a1 a2 (0 : Int32)
 else
 f_X10_gathers_b7 F N μ a1 (a2 + (1 : Int32))
set_option maxHeartbeats 4000000 in
set_option maxRecDepth 100000 in
theorem cb_X10_gathers_7 {l : Launch} {E : En} {p : Program} {e : Env} {s : State} {m : MethodId} {av : Array Value} {below : List Frame} {meth : Method} {c : Code} (C : Cx E p s m av c cX10_gathers 4 yX10_gathers.cls) (hr : meth.sig.returnType = (none : Option FieldType)) (hlk : meth.locks = false) {F : Nat} {z : Mm} : ∀ (N : Nat) (μ : Mm) (a1 : Int32) (a2 : Int32) (h_a0 : l10 E 0), f_X10_gathers_b7 F N μ a1 a2 = some z → ∀ {H : Heap} {locs : List Loc} {ls : Array Slot}, Iv E s μ H locs → lv_has ls 4 [(0, .ref (ad E 1000 0)), (1, .int a1), (2, .int a2)] → W p l e { frames := 4, cells := 0, slots := 0, locals := 93 } s m av below meth c H locs 0 0 (MQ below (Qm E none z) av s 0 0 (Ad E)) (F0 m 7 ls []) := by
  have hx := C.1.1
  have hb := C.1.2.1
  intro N
  induction N with
  | zero => intro μ a1 a2 h_a0 hf; cases hf
  | succ N ih =>
    intro μ a1 a2 h_a0 hf H locs ls hI hl
    rw [f_X10_gathers_b7] at hf
    refine lv_iload_n hx hb dX10_gathers_7 rfl (lv_at hl 2 rfl) ?_
    refine lv_aload_n hx hb dX10_gathers_8 rfl (lv_at hl 0 rfl) ?_
    refine gf_10_2 C hI h_a0.1 fl_X10_13 dX10_gathers_9 ?_
    refine lv_icmp_ge (tgt := 158) hx hb dX10_gathers_12 rfl (fun hc => ?_) (fun hc => ?_)
    · replace hf := it hf hc
      obtain rfl := Option.some.inj hf
      exact m_vret C hr hlk hI dX10_gathers_158
    · replace hf := ie hf hc
      refine lv_aload_n hx hb dX10_gathers_15 rfl (lv_at hl 0 rfl) ?_
      refine gf_10_4 C hI h_a0.1 fl_X10_19 dX10_gathers_16 ?_
      refine lv_iload_n hx hb dX10_gathers_19 rfl (lv_at hl 2 rfl) ?_
      obtain ⟨v63, e64, hf⟩ := ob hf
      refine m_iald C hI h_a0.2.1 (ce_1005 E _ _ _) e64 dX10_gathers_20 ?_
      refine lv_iload_n hx hb dX10_gathers_21 rfl (lv_at hl 1 rfl) ?_
      refine lv_icmp_ne (tgt := 152) hx hb dX10_gathers_22 rfl (fun hc => ?_) (fun hc => ?_)
      · replace hf := ie hf hc
        refine lv_iinc (v := a2 + (1 : Int32)) hx hb dX10_gathers_152 hl (k := 2) rfl (ki_1 _) (by decide) rfl (fun ls hl => ?_)
        have hl : lv_has ls 4 [(2, .int (a2 + (1 : Int32))), (0, .ref (ad E 1000 0)), (1, .int a1)] := hl
        refine lv_goto (tgt := 7) hx hb dX10_gathers_155 rfl ?_
        exact ih _ _ _ h_a0 hf hI (lv_sub hl [1, 2, 0] rfl)
      · replace hf := it hf hc
        refine lv_aload_n hx hb dX10_gathers_25 rfl (lv_at hl 0 rfl) ?_
        refine lv_iload_n hx hb dX10_gathers_26 rfl (lv_at hl 2 rfl) ?_
        obtain ⟨q65, e66, hf⟩ := ob hf
        refine mcV (As := [.int a2]) (rest := []) C hI (c_X10_seeks l E h_a0 e66) ml_X10_254 kv_X10_seeks (m_recv C hI h_a0.1 (ce_1000 E _ _ _) rfl) rfl rfl ⟨Nat.le_of_ble_eq_true rfl, Nat.le_of_ble_eq_true rfl⟩ ⟨Nat.zero_le _, Nat.zero_le _⟩ rfl rfl hl.1 (Nat.le_of_ble_eq_true rfl) dX10_gathers_27 (st1 := []) rfl (fun H locs hI => ?_)
        refine lv_iconst (v := (0 : Int32)) hx hb dX10_gathers_30 kc_0 ?_
        refine lv_istore_n hx hb dX10_gathers_31 rfl hl (by decide) rfl (fun ls hl => ?_)
        have hl : lv_has ls 4 [(3, .int (0 : Int32)), (0, .ref (ad E 1000 0)), (1, .int a1), (2, .int a2)] := hl
        exact cb_X10_gathers_32 C hr hlk ih _ _ _ _ _ h_a0 hf hI (lv_sub hl [1, 2, 3, 0] rfl)
def f_X10_gathers (F : Nat) (μ : Mm) (p1 : Int32) : Option Mm :=
 (wf μ 1000 0 48 (0 : Int32)).bind fun m67 =>
 f_X10_gathers_b7 F F m67 p1 (0 : Int32)
set_option maxHeartbeats 4000000 in
set_option maxRecDepth 100000 in
theorem c_X10_gathers (l : Launch) (E : En) {F : Nat} {μ : Mm} {p1 : Int32} (h0 : l10 E 0) {z : Mm} (hf : f_X10_gathers F μ p1 = some z) : Met l yX10_gathers (wt yX10_gathers cX10_gathers 4 (none : Option FieldType)) { frames := 4, cells := 0, slots := 0, locals := 93 } (Pm E [.ref (ad E 1000 0), .int p1] μ) (Qm E none z) 0 0 (Ad E) := by
  unfold f_X10_gathers at hf
  refine met_of (cc := cX10_gathers) (nL := 4) (ret := (none : Option FieldType)) (by decide) _ (Nat.le_of_ble_eq_true rfl) ?_
  intro p e s m below meth c C hr hlk hI ls hl
  have hx := C.1.1
  have hb := C.1.2.1
  have hl : lv_has ls 4 [(0, .ref (ad E 1000 0)), (1, .int p1)] := hl
  refine lv_aload_n hx hb dX10_gathers_0 rfl (lv_at hl 0 rfl) ?_
  refine lv_iconst (v := (0 : Int32)) hx hb dX10_gathers_1 kc_0 ?_
  obtain ⟨m67, e68, hf⟩ := ob hf
  refine pf_10_48 C hI h0.1 fl_X10_306 e68 dX10_gathers_2 (fun H locs hI => ?_)
  refine lv_iconst (v := (0 : Int32)) hx hb dX10_gathers_5 kc_0 ?_
  refine lv_istore_n hx hb dX10_gathers_6 rfl hl (by decide) rfl (fun ls hl => ?_)
  have hl : lv_has ls 4 [(2, .int (0 : Int32)), (0, .ref (ad E 1000 0)), (1, .int p1)] := hl
  exact cb_X10_gathers_7 C hr hlk  _ _ _ _ h0 hf hI (lv_sub hl [1, 2, 0] rfl)

theorem dX10_repeats_0 : decode cX10_repeats 0 = .ok (.aload_n 0, 1) := by decide +kernel
theorem dX10_repeats_1 : decode cX10_repeats 1 = .ok (.iload_n 1, 1) := by decide +kernel
theorem dX10_repeats_2 : decode cX10_repeats 2 = .ok (.invokevirtual 315, 3) := by decide +kernel
theorem dX10_repeats_5 : decode cX10_repeats 5 = .ok (.aload_n 0, 1) := by decide +kernel
theorem dX10_repeats_6 : decode cX10_repeats 6 = .ok (.iload_n 1, 1) := by decide +kernel
theorem dX10_repeats_7 : decode cX10_repeats 7 = .ok (.invokevirtual 196, 3) := by decide +kernel
theorem dX10_repeats_10 : decode cX10_repeats 10 = .ok (.iconst 0, 1) := by decide +kernel
theorem dX10_repeats_11 : decode cX10_repeats 11 = .ok (.istore_n 2, 1) := by decide +kernel
theorem dX10_repeats_12 : decode cX10_repeats 12 = .ok (.iload_n 2, 1) := by decide +kernel
theorem dX10_repeats_13 : decode cX10_repeats 13 = .ok (.iconst 1, 1) := by decide +kernel
theorem dX10_repeats_14 : decode cX10_repeats 14 = .ok (.iadd, 1) := by decide +kernel
theorem dX10_repeats_15 : decode cX10_repeats 15 = .ok (.aload_n 0, 1) := by decide +kernel
theorem dX10_repeats_16 : decode cX10_repeats 16 = .ok (.getfield 29, 3) := by decide +kernel
theorem dX10_repeats_19 : decode cX10_repeats 19 = .ok (.iload_n 1, 1) := by decide +kernel
theorem dX10_repeats_20 : decode cX10_repeats 20 = .ok (.iaload, 1) := by decide +kernel
theorem dX10_repeats_21 : decode cX10_repeats 21 = .ok (.if_icmp .ge 55, 3) := by decide +kernel
theorem dX10_repeats_24 : decode cX10_repeats 24 = .ok (.aload_n 0, 1) := by decide +kernel
theorem dX10_repeats_25 : decode cX10_repeats 25 = .ok (.iload_n 2, 1) := by decide +kernel
theorem dX10_repeats_26 : decode cX10_repeats 26 = .ok (.invokevirtual 200, 3) := by decide +kernel
theorem dX10_repeats_29 : decode cX10_repeats 29 = .ok (.aload_n 0, 1) := by decide +kernel
theorem dX10_repeats_30 : decode cX10_repeats 30 = .ok (.getfield 176, 3) := by decide +kernel
theorem dX10_repeats_33 : decode cX10_repeats 33 = .ok (.ifCond .ne 37, 3) := by decide +kernel
theorem dX10_repeats_36 : decode cX10_repeats 36 = .ok (.aload_n 0, 1) := by decide +kernel
theorem dX10_repeats_37 : decode cX10_repeats 37 = .ok (.iload_n 2, 1) := by decide +kernel
theorem dX10_repeats_38 : decode cX10_repeats 38 = .ok (.invokevirtual 221, 3) := by decide +kernel
theorem dX10_repeats_41 : decode cX10_repeats 41 = .ok (.ifCond .ne 29, 3) := by decide +kernel
theorem dX10_repeats_44 : decode cX10_repeats 44 = .ok (.aload_n 0, 1) := by decide +kernel
theorem dX10_repeats_45 : decode cX10_repeats 45 = .ok (.aload_n 0, 1) := by decide +kernel
theorem dX10_repeats_46 : decode cX10_repeats 46 = .ok (.getfield 42, 3) := by decide +kernel
theorem dX10_repeats_49 : decode cX10_repeats 49 = .ok (.aload_n 0, 1) := by decide +kernel
theorem dX10_repeats_50 : decode cX10_repeats 50 = .ok (.iload_n 2, 1) := by decide +kernel
theorem dX10_repeats_51 : decode cX10_repeats 51 = .ok (.invokevirtual 190, 3) := by decide +kernel
theorem dX10_repeats_54 : decode cX10_repeats 54 = .ok (.iaload, 1) := by decide +kernel
theorem dX10_repeats_55 : decode cX10_repeats 55 = .ok (.aload_n 0, 1) := by decide +kernel
theorem dX10_repeats_56 : decode cX10_repeats 56 = .ok (.getfield 42, 3) := by decide +kernel
theorem dX10_repeats_59 : decode cX10_repeats 59 = .ok (.aload_n 0, 1) := by decide +kernel
theorem dX10_repeats_60 : decode cX10_repeats 60 = .ok (.iload_n 2, 1) := by decide +kernel
theorem dX10_repeats_61 : decode cX10_repeats 61 = .ok (.iconst 1, 1) := by decide +kernel
theorem dX10_repeats_62 : decode cX10_repeats 62 = .ok (.iadd, 1) := by decide +kernel
theorem dX10_repeats_63 : decode cX10_repeats 63 = .ok (.invokevirtual 190, 3) := by decide +kernel
theorem dX10_repeats_66 : decode cX10_repeats 66 = .ok (.iaload, 1) := by decide +kernel
theorem dX10_repeats_67 : decode cX10_repeats 67 = .ok (.invokevirtual 318, 3) := by decide +kernel
theorem dX10_repeats_70 : decode cX10_repeats 70 = .ok (.iinc 2 1, 3) := by decide +kernel
theorem dX10_repeats_73 : decode cX10_repeats 73 = .ok (.goto (-61), 3) := by decide +kernel
theorem dX10_repeats_76 : decode cX10_repeats 76 = .ok (.aload_n 0, 1) := by decide +kernel
theorem dX10_repeats_77 : decode cX10_repeats 77 = .ok (.getfield 29, 3) := by decide +kernel
theorem dX10_repeats_80 : decode cX10_repeats 80 = .ok (.iload_n 1, 1) := by decide +kernel
theorem dX10_repeats_81 : decode cX10_repeats 81 = .ok (.iaload, 1) := by decide +kernel
theorem dX10_repeats_82 : decode cX10_repeats 82 = .ok (.ifCond .le 58, 3) := by decide +kernel
theorem dX10_repeats_85 : decode cX10_repeats 85 = .ok (.iconst 0, 1) := by decide +kernel
theorem dX10_repeats_86 : decode cX10_repeats 86 = .ok (.istore_n 2, 1) := by decide +kernel
theorem dX10_repeats_87 : decode cX10_repeats 87 = .ok (.iconst 0, 1) := by decide +kernel
theorem dX10_repeats_88 : decode cX10_repeats 88 = .ok (.istore_n 3, 1) := by decide +kernel
theorem dX10_repeats_89 : decode cX10_repeats 89 = .ok (.iload_n 3, 1) := by decide +kernel
theorem dX10_repeats_90 : decode cX10_repeats 90 = .ok (.aload_n 0, 1) := by decide +kernel
theorem dX10_repeats_91 : decode cX10_repeats 91 = .ok (.getfield 306, 3) := by decide +kernel
theorem dX10_repeats_94 : decode cX10_repeats 94 = .ok (.if_icmp .ge 18, 3) := by decide +kernel
theorem dX10_repeats_97 : decode cX10_repeats 97 = .ok (.iload_n 2, 1) := by decide +kernel
theorem dX10_repeats_98 : decode cX10_repeats 98 = .ok (.aload_n 0, 1) := by decide +kernel
theorem dX10_repeats_99 : decode cX10_repeats 99 = .ok (.getfield 124, 3) := by decide +kernel
theorem dX10_repeats_102 : decode cX10_repeats 102 = .ok (.iload_n 3, 1) := by decide +kernel
theorem dX10_repeats_103 : decode cX10_repeats 103 = .ok (.iaload, 1) := by decide +kernel
theorem dX10_repeats_104 : decode cX10_repeats 104 = .ok (.iadd, 1) := by decide +kernel
theorem dX10_repeats_105 : decode cX10_repeats 105 = .ok (.istore_n 2, 1) := by decide +kernel
theorem dX10_repeats_106 : decode cX10_repeats 106 = .ok (.iinc 3 1, 3) := by decide +kernel
theorem dX10_repeats_109 : decode cX10_repeats 109 = .ok (.goto (-20), 3) := by decide +kernel
theorem dX10_repeats_112 : decode cX10_repeats 112 = .ok (.aload_n 0, 1) := by decide +kernel
theorem dX10_repeats_113 : decode cX10_repeats 113 = .ok (.getfield 42, 3) := by decide +kernel
theorem dX10_repeats_116 : decode cX10_repeats 116 = .ok (.aload_n 0, 1) := by decide +kernel
theorem dX10_repeats_117 : decode cX10_repeats 117 = .ok (.aload_n 0, 1) := by decide +kernel
theorem dX10_repeats_118 : decode cX10_repeats 118 = .ok (.getfield 29, 3) := by decide +kernel
theorem dX10_repeats_121 : decode cX10_repeats 121 = .ok (.iload_n 1, 1) := by decide +kernel
theorem dX10_repeats_122 : decode cX10_repeats 122 = .ok (.iaload, 1) := by decide +kernel
theorem dX10_repeats_123 : decode cX10_repeats 123 = .ok (.iconst 1, 1) := by decide +kernel
theorem dX10_repeats_124 : decode cX10_repeats 124 = .ok (.isub, 1) := by decide +kernel
theorem dX10_repeats_125 : decode cX10_repeats 125 = .ok (.invokevirtual 190, 3) := by decide +kernel
theorem dX10_repeats_128 : decode cX10_repeats 128 = .ok (.iaload, 1) := by decide +kernel
theorem dX10_repeats_129 : decode cX10_repeats 129 = .ok (.istore_n 3, 1) := by decide +kernel
theorem dX10_repeats_130 : decode cX10_repeats 130 = .ok (.aload_n 0, 1) := by decide +kernel
theorem dX10_repeats_131 : decode cX10_repeats 131 = .ok (.iload_n 3, 1) := by decide +kernel
theorem dX10_repeats_132 : decode cX10_repeats 132 = .ok (.iload_n 3, 1) := by decide +kernel
theorem dX10_repeats_133 : decode cX10_repeats 133 = .ok (.iload_n 2, 1) := by decide +kernel
theorem dX10_repeats_134 : decode cX10_repeats 134 = .ok (.iadd, 1) := by decide +kernel
theorem dX10_repeats_135 : decode cX10_repeats 135 = .ok (.iconst 1, 1) := by decide +kernel
theorem dX10_repeats_136 : decode cX10_repeats 136 = .ok (.iadd, 1) := by decide +kernel
theorem dX10_repeats_137 : decode cX10_repeats 137 = .ok (.invokevirtual 318, 3) := by decide +kernel
theorem dX10_repeats_140 : decode cX10_repeats 140 = .ok (.return_, 1) := by decide +kernel
def f_X10_repeats_b89 (F : Nat) : Nat → Mm → Int32 → Int32 → Int32 → Option Mm
 | 0, _, _, _, _ => none
 | N + 1, μ, a1, a2, a3 =>
 if (μ.1 1000 0 48) ≤ a3 then
 (ra μ 1008 0 21 a1).bind fun v33 =>
 (f_X10_spot μ (v33 - (1 : Int32))).bind fun q35 =>
 (ra μ 1012 0 4200 q35).bind fun v37 =>
 (f_X10_runs F μ v37 ((v37 + a2) + (1 : Int32))).bind fun q39 =>
 some q39
 else
 (ra μ 1053 0 400 a3).bind fun v41 =>
 f_X10_repeats_b89 F N μ a1 (a2 + v41) (a3 + (1 : Int32))
set_option maxHeartbeats 4000000 in
set_option maxRecDepth 100000 in
theorem cb_X10_repeats_89 {l : Launch} {E : En} {p : Program} {e : Env} {s : State} {m : MethodId} {av : Array Value} {below : List Frame} {meth : Method} {c : Code} (C : Cx E p s m av c cX10_repeats 4 yX10_repeats.cls) (hr : meth.sig.returnType = (none : Option FieldType)) (hlk : meth.locks = false) {F : Nat} {z : Mm} : ∀ (N : Nat) (μ : Mm) (a1 : Int32) (a2 : Int32) (a3 : Int32) (h_a0 : l10 E 0), f_X10_repeats_b89 F N μ a1 a2 a3 = some z → ∀ {H : Heap} {locs : List Loc} {ls : Array Slot}, Iv E s μ H locs → lv_has ls 4 [(0, .ref (ad E 1000 0)), (1, .int a1), (2, .int a2), (3, .int a3)] → W p l e { frames := 5, cells := 0, slots := 0, locals := 116 } s m av below meth c H locs 0 0 (MQ below (Qm E none z) av s 0 0 (Ad E)) (F0 m 89 ls []) := by
  have hx := C.1.1
  have hb := C.1.2.1
  intro N
  induction N with
  | zero => intro μ a1 a2 a3 h_a0 hf; cases hf
  | succ N ih =>
    intro μ a1 a2 a3 h_a0 hf H locs ls hI hl
    rw [f_X10_repeats_b89] at hf
    refine lv_iload_n hx hb dX10_repeats_89 rfl (lv_at hl 3 rfl) ?_
    refine lv_aload_n hx hb dX10_repeats_90 rfl (lv_at hl 0 rfl) ?_
    refine gf_10_48 C hI h_a0.1 fl_X10_306 dX10_repeats_91 ?_
    refine lv_icmp_ge (tgt := 112) hx hb dX10_repeats_94 rfl (fun hc => ?_) (fun hc => ?_)
    · replace hf := it hf hc
      refine lv_aload_n hx hb dX10_repeats_112 rfl (lv_at hl 0 rfl) ?_
      refine gf_10_11 C hI h_a0.1 fl_X10_42 dX10_repeats_113 ?_
      refine lv_aload_n hx hb dX10_repeats_116 rfl (lv_at hl 0 rfl) ?_
      refine lv_aload_n hx hb dX10_repeats_117 rfl (lv_at hl 0 rfl) ?_
      refine gf_10_7 C hI h_a0.1 fl_X10_29 dX10_repeats_118 ?_
      refine lv_iload_n hx hb dX10_repeats_121 rfl (lv_at hl 1 rfl) ?_
      obtain ⟨v33, e34, hf⟩ := ob hf
      refine m_iald C hI h_a0.2.2.2.2.1 (ce_1008 E _ _ _) e34 dX10_repeats_122 ?_
      refine lv_iconst (v := (1 : Int32)) hx hb dX10_repeats_123 kc_1 ?_
      refine lv_isub hx hb dX10_repeats_124 ?_
      obtain ⟨q35, e36, hf⟩ := ob hf
      refine mcV (As := [.int (v33 - (1 : Int32))]) (rest := [.ref (ad E 1012 0)]) C hI (c_X10_spot l E h_a0 e36) ml_X10_190 kv_X10_spot (m_recv C hI h_a0.1 (ce_1000 E _ _ _) rfl) rfl rfl ⟨Nat.le_of_ble_eq_true rfl, Nat.le_of_ble_eq_true rfl⟩ ⟨Nat.zero_le _, Nat.zero_le _⟩ rfl rfl hl.1 (Nat.le_of_ble_eq_true rfl) dX10_repeats_125 (st1 := [.int q35, .ref (ad E 1012 0)]) rfl (fun H locs hI => ?_)
      obtain ⟨v37, e38, hf⟩ := ob hf
      refine m_iald C hI h_a0.2.2.2.2.2.2.2.2.1 (ce_1012 E _ _ _) e38 dX10_repeats_128 ?_
      refine lv_istore_n hx hb dX10_repeats_129 rfl hl (by decide) rfl (fun ls hl => ?_)
      have hl : lv_has ls 4 [(3, .int v37), (0, .ref (ad E 1000 0)), (1, .int a1), (2, .int a2)] := hl
      refine lv_aload_n hx hb dX10_repeats_130 rfl (lv_at hl 1 rfl) ?_
      refine lv_iload_n hx hb dX10_repeats_131 rfl (lv_at hl 0 rfl) ?_
      refine lv_iload_n hx hb dX10_repeats_132 rfl (lv_at hl 0 rfl) ?_
      refine lv_iload_n hx hb dX10_repeats_133 rfl (lv_at hl 3 rfl) ?_
      refine lv_iadd hx hb dX10_repeats_134 ?_
      refine lv_iconst (v := (1 : Int32)) hx hb dX10_repeats_135 kc_1 ?_
      refine lv_iadd hx hb dX10_repeats_136 ?_
      obtain ⟨q39, e40, hf⟩ := ob hf
      refine mcV (As := [.int v37, .int ((v37 + a2) + (1 : Int32))]) (rest := []) C hI (c_X10_runs l E h_a0 e40) ml_X10_318 kv_X10_runs (m_recv C hI h_a0.1 (ce_1000 E _ _ _) rfl) rfl rfl ⟨Nat.le_of_ble_eq_true rfl, Nat.le_of_ble_eq_true rfl⟩ ⟨Nat.zero_le _, Nat.zero_le _⟩ rfl rfl hl.1 (Nat.le_of_ble_eq_true rfl) dX10_repeats_137 (st1 := []) rfl (fun H locs hI => ?_)
      obtain rfl := Option.some.inj hf
      exact m_vret C hr hlk hI dX10_repeats_140
    · replace hf := ie hf hc
      refine lv_iload_n hx hb dX10_repeats_97 rfl (lv_at hl 2 rfl) ?_
      refine lv_aload_n hx hb dX10_repeats_98 rfl (lv_at hl 0 rfl) ?_
      refine gf_10_52 C hI h_a0.1 fl_X10_124 dX10_repeats_99 ?_
      refine lv_iload_n hx hb dX10_repeats_102 rfl (lv_at hl 3 rfl) ?_
      obtain ⟨v41, e42, hf⟩ := ob hf
      refine m_iald C hI h_a0.2.2.2.2.2.2.2.2.2.2.2.2.2.2.2.2.2.2.2.2.2.2.2.2.2.2.2.2.2.2.2.2.2.2.2.1 (ce_1053 E _ _ _) e42 dX10_repeats_103 ?_
      refine lv_iadd hx hb dX10_repeats_104 ?_
      refine lv_istore_n hx hb dX10_repeats_105 rfl hl (by decide) rfl (fun ls hl => ?_)
      have hl : lv_has ls 4 [(2, .int (a2 + v41)), (0, .ref (ad E 1000 0)), (1, .int a1), (3, .int a3)] := hl
      refine lv_iinc (v := a3 + (1 : Int32)) hx hb dX10_repeats_106 hl (k := 3) rfl (ki_1 _) (by decide) rfl (fun ls hl => ?_)
      have hl : lv_has ls 4 [(3, .int (a3 + (1 : Int32))), (2, .int (a2 + v41)), (0, .ref (ad E 1000 0)), (1, .int a1)] := hl
      refine lv_goto (tgt := 89) hx hb dX10_repeats_109 rfl ?_
      exact ih _ _ _ _ h_a0 hf hI (lv_sub hl [2, 3, 1, 0] rfl)
def f_X10_repeats_b12 (F : Nat) : Nat → Mm → Int32 → Int32 → Option Mm
 | 0, _, _, _ => none
 | N + 1, μ, a1, a2 =>
 (ra μ 1008 0 21 a1).bind fun v43 =>
 if v43 ≤ (a2 + (1 : Int32)) then
 (ra μ 1008 0 21 a1).bind fun v45 =>
 if v45 ≤ 0 then
 some μ
 else
 f_X10_repeats_b89 F F μ a1 (0 : Int32) (0 : Int32)
 else
 (f_X10_doesMark F μ a2).bind fun q47 =>
 if (q47.1 1000 0 32) = 0 then
 (f_X10_isDark q47 a2).bind fun q49 =>
 if q49 = 0 then
 (f_X10_spot q47 a2).bind fun q51 =>
 (ra q47 1012 0 4200 q51).bind fun v53 =>
 (f_X10_spot q47 (a2 + (1 : Int32))).bind fun q55 =>
 (ra q47 1012 0 4200 q55).bind fun v57 =>
 (f_X10_runs F q47 v53 v57).bind fun q59 =>
 f_X10_repeats_b12 F N q59 a1 (a2 + (1 : Int32))
 else
 f_X10_repeats_b12 F N q47 a1 (a2 + (1 : Int32))
 else
 f_X10_repeats_b12 F N q47 a1 (a2 + (1 : Int32))
set_option maxHeartbeats 4000000 in
set_option maxRecDepth 100000 in
theorem cb_X10_repeats_12 {l : Launch} {E : En} {p : Program} {e : Env} {s : State} {m : MethodId} {av : Array Value} {below : List Frame} {meth : Method} {c : Code} (C : Cx E p s m av c cX10_repeats 4 yX10_repeats.cls) (hr : meth.sig.returnType = (none : Option FieldType)) (hlk : meth.locks = false) {F : Nat} {z : Mm} : ∀ (N : Nat) (μ : Mm) (a1 : Int32) (a2 : Int32) (h_a0 : l10 E 0), f_X10_repeats_b12 F N μ a1 a2 = some z → ∀ {H : Heap} {locs : List Loc} {ls : Array Slot}, Iv E s μ H locs → lv_has ls 4 [(0, .ref (ad E 1000 0)), (1, .int a1), (2, .int a2)] → W p l e { frames := 5, cells := 0, slots := 0, locals := 116 } s m av below meth c H locs 0 0 (MQ below (Qm E none z) av s 0 0 (Ad E)) (F0 m 12 ls []) := by
  have hx := C.1.1
  have hb := C.1.2.1
  intro N
  induction N with
  | zero => intro μ a1 a2 h_a0 hf; cases hf
  | succ N ih =>
    intro μ a1 a2 h_a0 hf H locs ls hI hl
    rw [f_X10_repeats_b12] at hf
    refine lv_iload_n hx hb dX10_repeats_12 rfl (lv_at hl 2 rfl) ?_
    refine lv_iconst (v := (1 : Int32)) hx hb dX10_repeats_13 kc_1 ?_
    refine lv_iadd hx hb dX10_repeats_14 ?_
    refine lv_aload_n hx hb dX10_repeats_15 rfl (lv_at hl 0 rfl) ?_
    refine gf_10_7 C hI h_a0.1 fl_X10_29 dX10_repeats_16 ?_
    refine lv_iload_n hx hb dX10_repeats_19 rfl (lv_at hl 1 rfl) ?_
    obtain ⟨v43, e44, hf⟩ := ob hf
    refine m_iald C hI h_a0.2.2.2.2.1 (ce_1008 E _ _ _) e44 dX10_repeats_20 ?_
    refine lv_icmp_ge (tgt := 76) hx hb dX10_repeats_21 rfl (fun hc => ?_) (fun hc => ?_)
    · replace hf := it hf hc
      refine lv_aload_n hx hb dX10_repeats_76 rfl (lv_at hl 0 rfl) ?_
      refine gf_10_7 C hI h_a0.1 fl_X10_29 dX10_repeats_77 ?_
      refine lv_iload_n hx hb dX10_repeats_80 rfl (lv_at hl 1 rfl) ?_
      obtain ⟨v45, e46, hf⟩ := ob hf
      refine m_iald C hI h_a0.2.2.2.2.1 (ce_1008 E _ _ _) e46 dX10_repeats_81 ?_
      refine lv_if_le (tgt := 140) hx hb dX10_repeats_82 rfl (fun hc => ?_) (fun hc => ?_)
      · replace hf := it hf hc
        obtain rfl := Option.some.inj hf
        exact m_vret C hr hlk hI dX10_repeats_140
      · replace hf := ie hf hc
        refine lv_iconst (v := (0 : Int32)) hx hb dX10_repeats_85 kc_0 ?_
        refine lv_istore_n hx hb dX10_repeats_86 rfl hl (by decide) rfl (fun ls hl => ?_)
        have hl : lv_has ls 4 [(2, .int (0 : Int32)), (0, .ref (ad E 1000 0)), (1, .int a1)] := hl
        refine lv_iconst (v := (0 : Int32)) hx hb dX10_repeats_87 kc_0 ?_
        refine lv_istore_n hx hb dX10_repeats_88 rfl hl (by decide) rfl (fun ls hl => ?_)
        have hl : lv_has ls 4 [(3, .int (0 : Int32)), (2, .int (0 : Int32)), (0, .ref (ad E 1000 0)), (1, .int a1)] := hl
        exact cb_X10_repeats_89 C hr hlk  _ _ _ _ _ h_a0 hf hI (lv_sub hl [2, 3, 1, 0] rfl)
    · replace hf := ie hf hc
      refine lv_aload_n hx hb dX10_repeats_24 rfl (lv_at hl 0 rfl) ?_
      refine lv_iload_n hx hb dX10_repeats_25 rfl (lv_at hl 2 rfl) ?_
      obtain ⟨q47, e48, hf⟩ := ob hf
      refine mcV (As := [.int a2]) (rest := []) C hI (c_X10_doesMark l E h_a0 e48) ml_X10_200 kv_X10_doesMark (m_recv C hI h_a0.1 (ce_1000 E _ _ _) rfl) rfl rfl ⟨Nat.le_of_ble_eq_true rfl, Nat.le_of_ble_eq_true rfl⟩ ⟨Nat.zero_le _, Nat.zero_le _⟩ rfl rfl hl.1 (Nat.le_of_ble_eq_true rfl) dX10_repeats_26 (st1 := []) rfl (fun H locs hI => ?_)
      refine lv_aload_n hx hb dX10_repeats_29 rfl (lv_at hl 0 rfl) ?_
      refine gf_10_32 C hI h_a0.1 fl_X10_176 dX10_repeats_30 ?_
      refine lv_if_ne (tgt := 70) hx hb dX10_repeats_33 rfl (fun hc => ?_) (fun hc => ?_)
      · replace hf := ie hf hc
        refine lv_iinc (v := a2 + (1 : Int32)) hx hb dX10_repeats_70 hl (k := 2) rfl (ki_1 _) (by decide) rfl (fun ls hl => ?_)
        have hl : lv_has ls 4 [(2, .int (a2 + (1 : Int32))), (0, .ref (ad E 1000 0)), (1, .int a1)] := hl
        refine lv_goto (tgt := 12) hx hb dX10_repeats_73 rfl ?_
        exact ih _ _ _ h_a0 hf hI (lv_sub hl [1, 2, 0] rfl)
      · replace hf := it hf hc
        refine lv_aload_n hx hb dX10_repeats_36 rfl (lv_at hl 0 rfl) ?_
        refine lv_iload_n hx hb dX10_repeats_37 rfl (lv_at hl 2 rfl) ?_
        obtain ⟨q49, e50, hf⟩ := ob hf
        refine mcV (As := [.int a2]) (rest := []) C hI (c_X10_isDark l E h_a0 e50) ml_X10_221 kv_X10_isDark (m_recv C hI h_a0.1 (ce_1000 E _ _ _) rfl) rfl rfl ⟨Nat.le_of_ble_eq_true rfl, Nat.le_of_ble_eq_true rfl⟩ ⟨Nat.zero_le _, Nat.zero_le _⟩ rfl rfl hl.1 (Nat.le_of_ble_eq_true rfl) dX10_repeats_38 (st1 := [.int q49]) rfl (fun H locs hI => ?_)
        refine lv_if_ne (tgt := 70) hx hb dX10_repeats_41 rfl (fun hc => ?_) (fun hc => ?_)
        · replace hf := ie hf hc
          refine lv_iinc (v := a2 + (1 : Int32)) hx hb dX10_repeats_70 hl (k := 2) rfl (ki_1 _) (by decide) rfl (fun ls hl => ?_)
          have hl : lv_has ls 4 [(2, .int (a2 + (1 : Int32))), (0, .ref (ad E 1000 0)), (1, .int a1)] := hl
          refine lv_goto (tgt := 12) hx hb dX10_repeats_73 rfl ?_
          exact ih _ _ _ h_a0 hf hI (lv_sub hl [1, 2, 0] rfl)
        · replace hf := it hf hc
          refine lv_aload_n hx hb dX10_repeats_44 rfl (lv_at hl 0 rfl) ?_
          refine lv_aload_n hx hb dX10_repeats_45 rfl (lv_at hl 0 rfl) ?_
          refine gf_10_11 C hI h_a0.1 fl_X10_42 dX10_repeats_46 ?_
          refine lv_aload_n hx hb dX10_repeats_49 rfl (lv_at hl 0 rfl) ?_
          refine lv_iload_n hx hb dX10_repeats_50 rfl (lv_at hl 2 rfl) ?_
          obtain ⟨q51, e52, hf⟩ := ob hf
          refine mcV (As := [.int a2]) (rest := [.ref (ad E 1012 0), .ref (ad E 1000 0)]) C hI (c_X10_spot l E h_a0 e52) ml_X10_190 kv_X10_spot (m_recv C hI h_a0.1 (ce_1000 E _ _ _) rfl) rfl rfl ⟨Nat.le_of_ble_eq_true rfl, Nat.le_of_ble_eq_true rfl⟩ ⟨Nat.zero_le _, Nat.zero_le _⟩ rfl rfl hl.1 (Nat.le_of_ble_eq_true rfl) dX10_repeats_51 (st1 := [.int q51, .ref (ad E 1012 0), .ref (ad E 1000 0)]) rfl (fun H locs hI => ?_)
          obtain ⟨v53, e54, hf⟩ := ob hf
          refine m_iald C hI h_a0.2.2.2.2.2.2.2.2.1 (ce_1012 E _ _ _) e54 dX10_repeats_54 ?_
          refine lv_aload_n hx hb dX10_repeats_55 rfl (lv_at hl 0 rfl) ?_
          refine gf_10_11 C hI h_a0.1 fl_X10_42 dX10_repeats_56 ?_
          refine lv_aload_n hx hb dX10_repeats_59 rfl (lv_at hl 0 rfl) ?_
          refine lv_iload_n hx hb dX10_repeats_60 rfl (lv_at hl 2 rfl) ?_
          refine lv_iconst (v := (1 : Int32)) hx hb dX10_repeats_61 kc_1 ?_
          refine lv_iadd hx hb dX10_repeats_62 ?_
          obtain ⟨q55, e56, hf⟩ := ob hf
          refine mcV (As := [.int (a2 + (1 : Int32))]) (rest := [.ref (ad E 1012 0), .int v53, .ref (ad E 1000 0)]) C hI (c_X10_spot l E h_a0 e56) ml_X10_190 kv_X10_spot (m_recv C hI h_a0.1 (ce_1000 E _ _ _) rfl) rfl rfl ⟨Nat.le_of_ble_eq_true rfl, Nat.le_of_ble_eq_true rfl⟩ ⟨Nat.zero_le _, Nat.zero_le _⟩ rfl rfl hl.1 (Nat.le_of_ble_eq_true rfl) dX10_repeats_63 (st1 := [.int q55, .ref (ad E 1012 0), .int v53, .ref (ad E 1000 0)]) rfl (fun H locs hI => ?_)
          obtain ⟨v57, e58, hf⟩ := ob hf
          refine m_iald C hI h_a0.2.2.2.2.2.2.2.2.1 (ce_1012 E _ _ _) e58 dX10_repeats_66 ?_
          obtain ⟨q59, e60, hf⟩ := ob hf
          refine mcV (As := [.int v53, .int v57]) (rest := []) C hI (c_X10_runs l E h_a0 e60) ml_X10_318 kv_X10_runs (m_recv C hI h_a0.1 (ce_1000 E _ _ _) rfl) rfl rfl ⟨Nat.le_of_ble_eq_true rfl, Nat.le_of_ble_eq_true rfl⟩ ⟨Nat.zero_le _, Nat.zero_le _⟩ rfl rfl hl.1 (Nat.le_of_ble_eq_true rfl) dX10_repeats_67 (st1 := []) rfl (fun H locs hI => ?_)
          refine lv_iinc (v := a2 + (1 : Int32)) hx hb dX10_repeats_70 hl (k := 2) rfl (ki_1 _) (by decide) rfl (fun ls hl => ?_)
          have hl : lv_has ls 4 [(2, .int (a2 + (1 : Int32))), (0, .ref (ad E 1000 0)), (1, .int a1)] := hl
          refine lv_goto (tgt := 12) hx hb dX10_repeats_73 rfl ?_
          exact ih _ _ _ h_a0 hf hI (lv_sub hl [1, 2, 0] rfl)
def f_X10_repeats (F : Nat) (μ : Mm) (p1 : Int32) : Option Mm :=
 (f_X10_gathers F μ p1).bind fun q61 =>
 (f_X10_startsNow F q61 p1).bind fun q63 =>
 f_X10_repeats_b12 F F q63 p1 (0 : Int32)
set_option maxHeartbeats 4000000 in
set_option maxRecDepth 100000 in
theorem c_X10_repeats (l : Launch) (E : En) {F : Nat} {μ : Mm} {p1 : Int32} (h0 : l10 E 0) {z : Mm} (hf : f_X10_repeats F μ p1 = some z) : Met l yX10_repeats (wt yX10_repeats cX10_repeats 4 (none : Option FieldType)) { frames := 5, cells := 0, slots := 0, locals := 116 } (Pm E [.ref (ad E 1000 0), .int p1] μ) (Qm E none z) 0 0 (Ad E) := by
  unfold f_X10_repeats at hf
  refine met_of (cc := cX10_repeats) (nL := 4) (ret := (none : Option FieldType)) (by decide) _ (Nat.le_of_ble_eq_true rfl) ?_
  intro p e s m below meth c C hr hlk hI ls hl
  have hx := C.1.1
  have hb := C.1.2.1
  have hl : lv_has ls 4 [(0, .ref (ad E 1000 0)), (1, .int p1)] := hl
  refine lv_aload_n hx hb dX10_repeats_0 rfl (lv_at hl 0 rfl) ?_
  refine lv_iload_n hx hb dX10_repeats_1 rfl (lv_at hl 1 rfl) ?_
  obtain ⟨q61, e62, hf⟩ := ob hf
  refine mcV (As := [.int p1]) (rest := []) C hI (c_X10_gathers l E h0 e62) ml_X10_315 kv_X10_gathers (m_recv C hI h0.1 (ce_1000 E _ _ _) rfl) rfl rfl ⟨Nat.le_of_ble_eq_true rfl, Nat.le_of_ble_eq_true rfl⟩ ⟨Nat.zero_le _, Nat.zero_le _⟩ rfl rfl hl.1 (Nat.le_of_ble_eq_true rfl) dX10_repeats_2 (st1 := []) rfl (fun H locs hI => ?_)
  refine lv_aload_n hx hb dX10_repeats_5 rfl (lv_at hl 0 rfl) ?_
  refine lv_iload_n hx hb dX10_repeats_6 rfl (lv_at hl 1 rfl) ?_
  obtain ⟨q63, e64, hf⟩ := ob hf
  refine mcV (As := [.int p1]) (rest := []) C hI (c_X10_startsNow l E h0 e64) ml_X10_196 kv_X10_startsNow (m_recv C hI h0.1 (ce_1000 E _ _ _) rfl) rfl rfl ⟨Nat.le_of_ble_eq_true rfl, Nat.le_of_ble_eq_true rfl⟩ ⟨Nat.zero_le _, Nat.zero_le _⟩ rfl rfl hl.1 (Nat.le_of_ble_eq_true rfl) dX10_repeats_7 (st1 := []) rfl (fun H locs hI => ?_)
  refine lv_iconst (v := (0 : Int32)) hx hb dX10_repeats_10 kc_0 ?_
  refine lv_istore_n hx hb dX10_repeats_11 rfl hl (by decide) rfl (fun ls hl => ?_)
  have hl : lv_has ls 4 [(2, .int (0 : Int32)), (0, .ref (ad E 1000 0)), (1, .int p1)] := hl
  exact cb_X10_repeats_12 C hr hlk  _ _ _ _ h0 hf hI (lv_sub hl [1, 2, 0] rfl)

theorem dX10_again_0 : decode cX10_again 0 = .ok (.aload_n 0, 1) := by decide +kernel
theorem dX10_again_1 : decode cX10_again 1 = .ok (.iload_n 1, 1) := by decide +kernel
theorem dX10_again_2 : decode cX10_again 2 = .ok (.invokevirtual 149, 3) := by decide +kernel
theorem dX10_again_5 : decode cX10_again 5 = .ok (.ifCond .ne 5, 3) := by decide +kernel
theorem dX10_again_8 : decode cX10_again 8 = .ok (.iconst (-1), 1) := by decide +kernel
theorem dX10_again_9 : decode cX10_again 9 = .ok (.ireturn, 1) := by decide +kernel
theorem dX10_again_10 : decode cX10_again 10 = .ok (.aload_n 0, 1) := by decide +kernel
theorem dX10_again_11 : decode cX10_again 11 = .ok (.aload_n 0, 1) := by decide +kernel
theorem dX10_again_12 : decode cX10_again 12 = .ok (.getfield 19, 3) := by decide +kernel
theorem dX10_again_15 : decode cX10_again 15 = .ok (.iload_n 1, 1) := by decide +kernel
theorem dX10_again_16 : decode cX10_again 16 = .ok (.iaload, 1) := by decide +kernel
theorem dX10_again_17 : decode cX10_again 17 = .ok (.invokevirtual 321, 3) := by decide +kernel
theorem dX10_again_20 : decode cX10_again 20 = .ok (.aload_n 0, 1) := by decide +kernel
theorem dX10_again_21 : decode cX10_again 21 = .ok (.iload_n 1, 1) := by decide +kernel
theorem dX10_again_22 : decode cX10_again 22 = .ok (.iload_n 2, 1) := by decide +kernel
theorem dX10_again_23 : decode cX10_again 23 = .ok (.invokevirtual 324, 3) := by decide +kernel
theorem dX10_again_26 : decode cX10_again 26 = .ok (.ireturn, 1) := by decide +kernel
def f_X10_again (F : Nat) (μ : Mm) (p1 : Int32) (p2 : Int32) : Option (Int32 × Mm) :=
 (f_X10_isTask μ p1).bind fun q9 =>
 if q9 = 0 then
 some ((-1 : Int32), μ)
 else
 (ra μ 1005 0 8 p1).bind fun v11 =>
 (f_X10_repeats F μ v11).bind fun q13 =>
 (f_X10_doneOf F q13 p1 p2).bind fun q15 =>
 some (q15, q13)
set_option maxHeartbeats 4000000 in
set_option maxRecDepth 100000 in
theorem c_X10_again (l : Launch) (E : En) {F : Nat} {μ : Mm} {p1 : Int32} {p2 : Int32} (h0 : l10 E 0) {z : Int32 × Mm} (hf : f_X10_again F μ p1 p2 = some z) : Met l yX10_again (wt yX10_again cX10_again 3 (some .int)) { frames := 6, cells := 0, slots := 0, locals := 139 } (Pm E [.ref (ad E 1000 0), .int p1, .int p2] μ) (Qm E (some (.int z.1)) z.2) 0 0 (Ad E) := by
  unfold f_X10_again at hf
  refine met_of (cc := cX10_again) (nL := 3) (ret := (some .int)) (by decide) _ (Nat.le_of_ble_eq_true rfl) ?_
  intro p e s m below meth c C hr hlk hI ls hl
  have hx := C.1.1
  have hb := C.1.2.1
  have hl : lv_has ls 3 [(0, .ref (ad E 1000 0)), (1, .int p1), (2, .int p2)] := hl
  refine lv_aload_n hx hb dX10_again_0 rfl (lv_at hl 0 rfl) ?_
  refine lv_iload_n hx hb dX10_again_1 rfl (lv_at hl 1 rfl) ?_
  obtain ⟨q9, e10, hf⟩ := ob hf
  refine mcV (As := [.int p1]) (rest := []) C hI (c_X10_isTask l E h0 e10) ml_X10_149 kv_X10_isTask (m_recv C hI h0.1 (ce_1000 E _ _ _) rfl) rfl rfl ⟨Nat.le_of_ble_eq_true rfl, Nat.le_of_ble_eq_true rfl⟩ ⟨Nat.zero_le _, Nat.zero_le _⟩ rfl rfl hl.1 (Nat.le_of_ble_eq_true rfl) dX10_again_2 (st1 := [.int q9]) rfl (fun H locs hI => ?_)
  refine lv_if_ne (tgt := 10) hx hb dX10_again_5 rfl (fun hc => ?_) (fun hc => ?_)
  · replace hf := ie hf hc
    refine lv_aload_n hx hb dX10_again_10 rfl (lv_at hl 0 rfl) ?_
    refine lv_aload_n hx hb dX10_again_11 rfl (lv_at hl 0 rfl) ?_
    refine gf_10_4 C hI h0.1 fl_X10_19 dX10_again_12 ?_
    refine lv_iload_n hx hb dX10_again_15 rfl (lv_at hl 1 rfl) ?_
    obtain ⟨v11, e12, hf⟩ := ob hf
    refine m_iald C hI h0.2.1 (ce_1005 E _ _ _) e12 dX10_again_16 ?_
    obtain ⟨q13, e14, hf⟩ := ob hf
    refine mcV (As := [.int v11]) (rest := []) C hI (c_X10_repeats l E h0 e14) ml_X10_321 kv_X10_repeats (m_recv C hI h0.1 (ce_1000 E _ _ _) rfl) rfl rfl ⟨Nat.le_of_ble_eq_true rfl, Nat.le_of_ble_eq_true rfl⟩ ⟨Nat.zero_le _, Nat.zero_le _⟩ rfl rfl hl.1 (Nat.le_of_ble_eq_true rfl) dX10_again_17 (st1 := []) rfl (fun H locs hI => ?_)
    refine lv_aload_n hx hb dX10_again_20 rfl (lv_at hl 0 rfl) ?_
    refine lv_iload_n hx hb dX10_again_21 rfl (lv_at hl 1 rfl) ?_
    refine lv_iload_n hx hb dX10_again_22 rfl (lv_at hl 2 rfl) ?_
    obtain ⟨q15, e16, hf⟩ := ob hf
    refine mcV (As := [.int p1, .int p2]) (rest := []) C hI (c_X10_doneOf l E h0 e16) ml_X10_324 kv_X10_doneOf (m_recv C hI h0.1 (ce_1000 E _ _ _) rfl) rfl rfl ⟨Nat.le_of_ble_eq_true rfl, Nat.le_of_ble_eq_true rfl⟩ ⟨Nat.zero_le _, Nat.zero_le _⟩ rfl rfl hl.1 (Nat.le_of_ble_eq_true rfl) dX10_again_23 (st1 := [.int q15]) rfl (fun H locs hI => ?_)
    obtain rfl := Option.some.inj hf
    exact m_iret C hr hlk hI dX10_again_26
  · replace hf := it hf hc
    refine lv_iconst (v := (-1 : Int32)) hx hb dX10_again_8 kc_m1 ?_
    obtain rfl := Option.some.inj hf
    exact m_iret C hr hlk hI dX10_again_9

theorem dX10_slowest_0 : decode cX10_slowest 0 = .ok (.aload_n 0, 1) := by decide +kernel
theorem dX10_slowest_1 : decode cX10_slowest 1 = .ok (.iload_n 1, 1) := by decide +kernel
theorem dX10_slowest_2 : decode cX10_slowest 2 = .ok (.invokevirtual 149, 3) := by decide +kernel
theorem dX10_slowest_5 : decode cX10_slowest 5 = .ok (.ifCond .ne 5, 3) := by decide +kernel
theorem dX10_slowest_8 : decode cX10_slowest 8 = .ok (.iconst (-1), 1) := by decide +kernel
theorem dX10_slowest_9 : decode cX10_slowest 9 = .ok (.ireturn, 1) := by decide +kernel
theorem dX10_slowest_10 : decode cX10_slowest 10 = .ok (.aload_n 0, 1) := by decide +kernel
theorem dX10_slowest_11 : decode cX10_slowest 11 = .ok (.aload_n 0, 1) := by decide +kernel
theorem dX10_slowest_12 : decode cX10_slowest 12 = .ok (.getfield 19, 3) := by decide +kernel
theorem dX10_slowest_15 : decode cX10_slowest 15 = .ok (.iload_n 1, 1) := by decide +kernel
theorem dX10_slowest_16 : decode cX10_slowest 16 = .ok (.iaload, 1) := by decide +kernel
theorem dX10_slowest_17 : decode cX10_slowest 17 = .ok (.invokevirtual 321, 3) := by decide +kernel
theorem dX10_slowest_20 : decode cX10_slowest 20 = .ok (.iconst (-1), 1) := by decide +kernel
theorem dX10_slowest_21 : decode cX10_slowest 21 = .ok (.istore_n 2, 1) := by decide +kernel
theorem dX10_slowest_22 : decode cX10_slowest 22 = .ok (.iconst 0, 1) := by decide +kernel
theorem dX10_slowest_23 : decode cX10_slowest 23 = .ok (.istore_n 3, 1) := by decide +kernel
theorem dX10_slowest_24 : decode cX10_slowest 24 = .ok (.iload_n 3, 1) := by decide +kernel
theorem dX10_slowest_25 : decode cX10_slowest 25 = .ok (.aload_n 0, 1) := by decide +kernel
theorem dX10_slowest_26 : decode cX10_slowest 26 = .ok (.getfield 306, 3) := by decide +kernel
theorem dX10_slowest_29 : decode cX10_slowest 29 = .ok (.if_icmp .ge 47, 3) := by decide +kernel
theorem dX10_slowest_32 : decode cX10_slowest 32 = .ok (.aload_n 0, 1) := by decide +kernel
theorem dX10_slowest_33 : decode cX10_slowest 33 = .ok (.getfield 127, 3) := by decide +kernel
theorem dX10_slowest_36 : decode cX10_slowest 36 = .ok (.iload_n 3, 1) := by decide +kernel
theorem dX10_slowest_37 : decode cX10_slowest 37 = .ok (.iaload, 1) := by decide +kernel
theorem dX10_slowest_38 : decode cX10_slowest 38 = .ok (.aload_n 0, 1) := by decide +kernel
theorem dX10_slowest_39 : decode cX10_slowest 39 = .ok (.getfield 121, 3) := by decide +kernel
theorem dX10_slowest_42 : decode cX10_slowest 42 = .ok (.iload_n 3, 1) := by decide +kernel
theorem dX10_slowest_43 : decode cX10_slowest 43 = .ok (.iaload, 1) := by decide +kernel
theorem dX10_slowest_44 : decode cX10_slowest 44 = .ok (.isub, 1) := by decide +kernel
theorem dX10_slowest_45 : decode cX10_slowest 45 = .ok (.istore 4, 2) := by decide +kernel
theorem dX10_slowest_47 : decode cX10_slowest 47 = .ok (.aload_n 0, 1) := by decide +kernel
theorem dX10_slowest_48 : decode cX10_slowest 48 = .ok (.getfield 115, 3) := by decide +kernel
theorem dX10_slowest_51 : decode cX10_slowest 51 = .ok (.iload_n 3, 1) := by decide +kernel
theorem dX10_slowest_52 : decode cX10_slowest 52 = .ok (.iaload, 1) := by decide +kernel
theorem dX10_slowest_53 : decode cX10_slowest 53 = .ok (.iload_n 1, 1) := by decide +kernel
theorem dX10_slowest_54 : decode cX10_slowest 54 = .ok (.if_icmp .ne 14, 3) := by decide +kernel
theorem dX10_slowest_57 : decode cX10_slowest 57 = .ok (.iload 4, 2) := by decide +kernel
theorem dX10_slowest_59 : decode cX10_slowest 59 = .ok (.iload_n 2, 1) := by decide +kernel
theorem dX10_slowest_60 : decode cX10_slowest 60 = .ok (.if_icmp .le 8, 3) := by decide +kernel
theorem dX10_slowest_63 : decode cX10_slowest 63 = .ok (.iload 4, 2) := by decide +kernel
theorem dX10_slowest_65 : decode cX10_slowest 65 = .ok (.goto 4, 3) := by decide +kernel
theorem dX10_slowest_68 : decode cX10_slowest 68 = .ok (.iload_n 2, 1) := by decide +kernel
theorem dX10_slowest_69 : decode cX10_slowest 69 = .ok (.istore_n 2, 1) := by decide +kernel
theorem dX10_slowest_70 : decode cX10_slowest 70 = .ok (.iinc 3 1, 3) := by decide +kernel
theorem dX10_slowest_73 : decode cX10_slowest 73 = .ok (.goto (-49), 3) := by decide +kernel
theorem dX10_slowest_76 : decode cX10_slowest 76 = .ok (.iload_n 2, 1) := by decide +kernel
theorem dX10_slowest_77 : decode cX10_slowest 77 = .ok (.ireturn, 1) := by decide +kernel
def f_X10_slowest_b24 (F : Nat) : Nat → Mm → Int32 → Int32 → Int32 → Option (Int32 × Mm)
 | 0, _, _, _, _ => none
 | N + 1, μ, a1, a2, a3 =>
 if (μ.1 1000 0 48) ≤ a3 then
 some (a2, μ)
 else
 (ra μ 1054 0 400 a3).bind fun v13 =>
 (ra μ 1052 0 400 a3).bind fun v15 =>
 (ra μ 1050 0 400 a3).bind fun v17 =>
 if v17 = a1 then
 if (v13 - v15) ≤ a2 then
 f_X10_slowest_b24 F N μ a1 a2 (a3 + (1 : Int32))
 else
 f_X10_slowest_b24 F N μ a1 (v13 - v15) (a3 + (1 : Int32))
 else
 f_X10_slowest_b24 F N μ a1 a2 (a3 + (1 : Int32))
set_option maxHeartbeats 4000000 in
set_option maxRecDepth 100000 in
theorem cb_X10_slowest_24 {l : Launch} {E : En} {p : Program} {e : Env} {s : State} {m : MethodId} {av : Array Value} {below : List Frame} {meth : Method} {c : Code} (C : Cx E p s m av c cX10_slowest 5 yX10_slowest.cls) (hr : meth.sig.returnType = (some .int)) (hlk : meth.locks = false) {F : Nat} {z : Int32 × Mm} : ∀ (N : Nat) (μ : Mm) (a1 : Int32) (a2 : Int32) (a3 : Int32) (h_a0 : l10 E 0), f_X10_slowest_b24 F N μ a1 a2 a3 = some z → ∀ {H : Heap} {locs : List Loc} {ls : Array Slot}, Iv E s μ H locs → lv_has ls 5 [(0, .ref (ad E 1000 0)), (1, .int a1), (2, .int a2), (3, .int a3)] → W p l e { frames := 6, cells := 0, slots := 0, locals := 139 } s m av below meth c H locs 0 0 (MQ below (Qm E (some (.int z.1)) z.2) av s 0 0 (Ad E)) (F0 m 24 ls []) := by
  have hx := C.1.1
  have hb := C.1.2.1
  intro N
  induction N with
  | zero => intro μ a1 a2 a3 h_a0 hf; cases hf
  | succ N ih =>
    intro μ a1 a2 a3 h_a0 hf H locs ls hI hl
    rw [f_X10_slowest_b24] at hf
    refine lv_iload_n hx hb dX10_slowest_24 rfl (lv_at hl 3 rfl) ?_
    refine lv_aload_n hx hb dX10_slowest_25 rfl (lv_at hl 0 rfl) ?_
    refine gf_10_48 C hI h_a0.1 fl_X10_306 dX10_slowest_26 ?_
    refine lv_icmp_ge (tgt := 76) hx hb dX10_slowest_29 rfl (fun hc => ?_) (fun hc => ?_)
    · replace hf := it hf hc
      refine lv_iload_n hx hb dX10_slowest_76 rfl (lv_at hl 2 rfl) ?_
      obtain rfl := Option.some.inj hf
      exact m_iret C hr hlk hI dX10_slowest_77
    · replace hf := ie hf hc
      refine lv_aload_n hx hb dX10_slowest_32 rfl (lv_at hl 0 rfl) ?_
      refine gf_10_53 C hI h_a0.1 fl_X10_127 dX10_slowest_33 ?_
      refine lv_iload_n hx hb dX10_slowest_36 rfl (lv_at hl 3 rfl) ?_
      obtain ⟨v13, e14, hf⟩ := ob hf
      refine m_iald C hI h_a0.2.2.2.2.2.2.2.2.2.2.2.2.2.2.2.2.2.2.2.2.2.2.2.2.2.2.2.2.2.2.2.2.2.2.2.2.1 (ce_1054 E _ _ _) e14 dX10_slowest_37 ?_
      refine lv_aload_n hx hb dX10_slowest_38 rfl (lv_at hl 0 rfl) ?_
      refine gf_10_51 C hI h_a0.1 fl_X10_121 dX10_slowest_39 ?_
      refine lv_iload_n hx hb dX10_slowest_42 rfl (lv_at hl 3 rfl) ?_
      obtain ⟨v15, e16, hf⟩ := ob hf
      refine m_iald C hI h_a0.2.2.2.2.2.2.2.2.2.2.2.2.2.2.2.2.2.2.2.2.2.2.2.2.2.2.2.2.2.2.2.2.2.2.1 (ce_1052 E _ _ _) e16 dX10_slowest_43 ?_
      refine lv_isub hx hb dX10_slowest_44 ?_
      refine lv_istore hx hb dX10_slowest_45 hl (by decide) rfl (fun ls hl => ?_)
      have hl : lv_has ls 5 [(4, .int (v13 - v15)), (0, .ref (ad E 1000 0)), (1, .int a1), (2, .int a2), (3, .int a3)] := hl
      refine lv_aload_n hx hb dX10_slowest_47 rfl (lv_at hl 1 rfl) ?_
      refine gf_10_49 C hI h_a0.1 fl_X10_115 dX10_slowest_48 ?_
      refine lv_iload_n hx hb dX10_slowest_51 rfl (lv_at hl 4 rfl) ?_
      obtain ⟨v17, e18, hf⟩ := ob hf
      refine m_iald C hI h_a0.2.2.2.2.2.2.2.2.2.2.2.2.2.2.2.2.2.2.2.2.2.2.2.2.2.2.2.2.2.2.2.2.1 (ce_1050 E _ _ _) e18 dX10_slowest_52 ?_
      refine lv_iload_n hx hb dX10_slowest_53 rfl (lv_at hl 2 rfl) ?_
      refine lv_icmp_ne (tgt := 68) hx hb dX10_slowest_54 rfl (fun hc => ?_) (fun hc => ?_)
      · replace hf := ie hf hc
        refine lv_iload_n hx hb dX10_slowest_68 rfl (lv_at hl 3 rfl) ?_
        refine lv_istore_n hx hb dX10_slowest_69 rfl hl (by decide) rfl (fun ls hl => ?_)
        have hl : lv_has ls 5 [(2, .int a2), (4, .int (v13 - v15)), (0, .ref (ad E 1000 0)), (1, .int a1), (3, .int a3)] := hl
        refine lv_iinc (v := a3 + (1 : Int32)) hx hb dX10_slowest_70 hl (k := 4) rfl (ki_1 _) (by decide) rfl (fun ls hl => ?_)
        have hl : lv_has ls 5 [(3, .int (a3 + (1 : Int32))), (2, .int a2), (4, .int (v13 - v15)), (0, .ref (ad E 1000 0)), (1, .int a1)] := hl
        refine lv_goto (tgt := 24) hx hb dX10_slowest_73 rfl ?_
        exact ih _ _ _ _ h_a0 hf hI (lv_sub hl [3, 4, 1, 0] rfl)
      · replace hf := it hf hc
        refine lv_iload hx hb dX10_slowest_57 (lv_at hl 0 rfl) ?_
        refine lv_iload_n hx hb dX10_slowest_59 rfl (lv_at hl 3 rfl) ?_
        refine lv_icmp_le (tgt := 68) hx hb dX10_slowest_60 rfl (fun hc => ?_) (fun hc => ?_)
        · replace hf := it hf hc
          refine lv_iload_n hx hb dX10_slowest_68 rfl (lv_at hl 3 rfl) ?_
          refine lv_istore_n hx hb dX10_slowest_69 rfl hl (by decide) rfl (fun ls hl => ?_)
          have hl : lv_has ls 5 [(2, .int a2), (4, .int (v13 - v15)), (0, .ref (ad E 1000 0)), (1, .int a1), (3, .int a3)] := hl
          refine lv_iinc (v := a3 + (1 : Int32)) hx hb dX10_slowest_70 hl (k := 4) rfl (ki_1 _) (by decide) rfl (fun ls hl => ?_)
          have hl : lv_has ls 5 [(3, .int (a3 + (1 : Int32))), (2, .int a2), (4, .int (v13 - v15)), (0, .ref (ad E 1000 0)), (1, .int a1)] := hl
          refine lv_goto (tgt := 24) hx hb dX10_slowest_73 rfl ?_
          exact ih _ _ _ _ h_a0 hf hI (lv_sub hl [3, 4, 1, 0] rfl)
        · replace hf := ie hf hc
          refine lv_iload hx hb dX10_slowest_63 (lv_at hl 0 rfl) ?_
          refine lv_goto (tgt := 69) hx hb dX10_slowest_65 rfl ?_
          refine lv_istore_n hx hb dX10_slowest_69 rfl hl (by decide) rfl (fun ls hl => ?_)
          have hl : lv_has ls 5 [(2, .int (v13 - v15)), (4, .int (v13 - v15)), (0, .ref (ad E 1000 0)), (1, .int a1), (3, .int a3)] := hl
          refine lv_iinc (v := a3 + (1 : Int32)) hx hb dX10_slowest_70 hl (k := 4) rfl (ki_1 _) (by decide) rfl (fun ls hl => ?_)
          have hl : lv_has ls 5 [(3, .int (a3 + (1 : Int32))), (2, .int (v13 - v15)), (4, .int (v13 - v15)), (0, .ref (ad E 1000 0)), (1, .int a1)] := hl
          refine lv_goto (tgt := 24) hx hb dX10_slowest_73 rfl ?_
          exact ih _ _ _ _ h_a0 hf hI (lv_sub hl [3, 4, 1, 0] rfl)
def f_X10_slowest (F : Nat) (μ : Mm) (p1 : Int32) : Option (Int32 × Mm) :=
 (f_X10_isTask μ p1).bind fun q19 =>
 if q19 = 0 then
 some ((-1 : Int32), μ)
 else
 (ra μ 1005 0 8 p1).bind fun v21 =>
 (f_X10_repeats F μ v21).bind fun q23 =>
 f_X10_slowest_b24 F F q23 p1 (-1 : Int32) (0 : Int32)
set_option maxHeartbeats 4000000 in
set_option maxRecDepth 100000 in
theorem c_X10_slowest (l : Launch) (E : En) {F : Nat} {μ : Mm} {p1 : Int32} (h0 : l10 E 0) {z : Int32 × Mm} (hf : f_X10_slowest F μ p1 = some z) : Met l yX10_slowest (wt yX10_slowest cX10_slowest 5 (some .int)) { frames := 6, cells := 0, slots := 0, locals := 139 } (Pm E [.ref (ad E 1000 0), .int p1] μ) (Qm E (some (.int z.1)) z.2) 0 0 (Ad E) := by
  unfold f_X10_slowest at hf
  refine met_of (cc := cX10_slowest) (nL := 5) (ret := (some .int)) (by decide) _ (Nat.le_of_ble_eq_true rfl) ?_
  intro p e s m below meth c C hr hlk hI ls hl
  have hx := C.1.1
  have hb := C.1.2.1
  have hl : lv_has ls 5 [(0, .ref (ad E 1000 0)), (1, .int p1)] := hl
  refine lv_aload_n hx hb dX10_slowest_0 rfl (lv_at hl 0 rfl) ?_
  refine lv_iload_n hx hb dX10_slowest_1 rfl (lv_at hl 1 rfl) ?_
  obtain ⟨q19, e20, hf⟩ := ob hf
  refine mcV (As := [.int p1]) (rest := []) C hI (c_X10_isTask l E h0 e20) ml_X10_149 kv_X10_isTask (m_recv C hI h0.1 (ce_1000 E _ _ _) rfl) rfl rfl ⟨Nat.le_of_ble_eq_true rfl, Nat.le_of_ble_eq_true rfl⟩ ⟨Nat.zero_le _, Nat.zero_le _⟩ rfl rfl hl.1 (Nat.le_of_ble_eq_true rfl) dX10_slowest_2 (st1 := [.int q19]) rfl (fun H locs hI => ?_)
  refine lv_if_ne (tgt := 10) hx hb dX10_slowest_5 rfl (fun hc => ?_) (fun hc => ?_)
  · replace hf := ie hf hc
    refine lv_aload_n hx hb dX10_slowest_10 rfl (lv_at hl 0 rfl) ?_
    refine lv_aload_n hx hb dX10_slowest_11 rfl (lv_at hl 0 rfl) ?_
    refine gf_10_4 C hI h0.1 fl_X10_19 dX10_slowest_12 ?_
    refine lv_iload_n hx hb dX10_slowest_15 rfl (lv_at hl 1 rfl) ?_
    obtain ⟨v21, e22, hf⟩ := ob hf
    refine m_iald C hI h0.2.1 (ce_1005 E _ _ _) e22 dX10_slowest_16 ?_
    obtain ⟨q23, e24, hf⟩ := ob hf
    refine mcV (As := [.int v21]) (rest := []) C hI (c_X10_repeats l E h0 e24) ml_X10_321 kv_X10_repeats (m_recv C hI h0.1 (ce_1000 E _ _ _) rfl) rfl rfl ⟨Nat.le_of_ble_eq_true rfl, Nat.le_of_ble_eq_true rfl⟩ ⟨Nat.zero_le _, Nat.zero_le _⟩ rfl rfl hl.1 (Nat.le_of_ble_eq_true rfl) dX10_slowest_17 (st1 := []) rfl (fun H locs hI => ?_)
    refine lv_iconst (v := (-1 : Int32)) hx hb dX10_slowest_20 kc_m1 ?_
    refine lv_istore_n hx hb dX10_slowest_21 rfl hl (by decide) rfl (fun ls hl => ?_)
    have hl : lv_has ls 5 [(2, .int (-1 : Int32)), (0, .ref (ad E 1000 0)), (1, .int p1)] := hl
    refine lv_iconst (v := (0 : Int32)) hx hb dX10_slowest_22 kc_0 ?_
    refine lv_istore_n hx hb dX10_slowest_23 rfl hl (by decide) rfl (fun ls hl => ?_)
    have hl : lv_has ls 5 [(3, .int (0 : Int32)), (2, .int (-1 : Int32)), (0, .ref (ad E 1000 0)), (1, .int p1)] := hl
    exact cb_X10_slowest_24 C hr hlk  _ _ _ _ _ h0 hf hI (lv_sub hl [2, 3, 1, 0] rfl)
  · replace hf := it hf hc
    refine lv_iconst (v := (-1 : Int32)) hx hb dX10_slowest_8 kc_m1 ?_
    obtain rfl := Option.some.inj hf
    exact m_iret C hr hlk hI dX10_slowest_9

theorem dX10_period_0 : decode cX10_period 0 = .ok (.aload_n 0, 1) := by decide +kernel
theorem dX10_period_1 : decode cX10_period 1 = .ok (.iload_n 1, 1) := by decide +kernel
theorem dX10_period_2 : decode cX10_period 2 = .ok (.invokevirtual 149, 3) := by decide +kernel
theorem dX10_period_5 : decode cX10_period 5 = .ok (.ifCond .eq 12, 3) := by decide +kernel
theorem dX10_period_8 : decode cX10_period 8 = .ok (.iload_n 2, 1) := by decide +kernel
theorem dX10_period_9 : decode cX10_period 9 = .ok (.iconst 0, 1) := by decide +kernel
theorem dX10_period_10 : decode cX10_period 10 = .ok (.iconst 1, 1) := by decide +kernel
theorem dX10_period_11 : decode cX10_period 11 = .ok (.invokestatic 136, 3) := by decide +kernel
theorem dX10_period_14 : decode cX10_period 14 = .ok (.ifCond .ne 5, 3) := by decide +kernel
theorem dX10_period_17 : decode cX10_period 17 = .ok (.iconst (-1), 1) := by decide +kernel
theorem dX10_period_18 : decode cX10_period 18 = .ok (.ireturn, 1) := by decide +kernel
theorem dX10_period_19 : decode cX10_period 19 = .ok (.aload_n 0, 1) := by decide +kernel
theorem dX10_period_20 : decode cX10_period 20 = .ok (.iload_n 1, 1) := by decide +kernel
theorem dX10_period_21 : decode cX10_period 21 = .ok (.invokevirtual 254, 3) := by decide +kernel
theorem dX10_period_24 : decode cX10_period 24 = .ok (.aload_n 0, 1) := by decide +kernel
theorem dX10_period_25 : decode cX10_period 25 = .ok (.getfield 251, 3) := by decide +kernel
theorem dX10_period_28 : decode cX10_period 28 = .ok (.iconst 3, 1) := by decide +kernel
theorem dX10_period_29 : decode cX10_period 29 = .ok (.if_icmp .ge 5, 3) := by decide +kernel
theorem dX10_period_32 : decode cX10_period 32 = .ok (.iconst (-1), 1) := by decide +kernel
theorem dX10_period_33 : decode cX10_period 33 = .ok (.ireturn, 1) := by decide +kernel
theorem dX10_period_34 : decode cX10_period 34 = .ok (.aload_n 0, 1) := by decide +kernel
theorem dX10_period_35 : decode cX10_period 35 = .ok (.getfield 42, 3) := by decide +kernel
theorem dX10_period_38 : decode cX10_period 38 = .ok (.aload_n 0, 1) := by decide +kernel
theorem dX10_period_39 : decode cX10_period 39 = .ok (.aload_n 0, 1) := by decide +kernel
theorem dX10_period_40 : decode cX10_period 40 = .ok (.getfield 94, 3) := by decide +kernel
theorem dX10_period_43 : decode cX10_period 43 = .ok (.aload_n 0, 1) := by decide +kernel
theorem dX10_period_44 : decode cX10_period 44 = .ok (.getfield 251, 3) := by decide +kernel
theorem dX10_period_47 : decode cX10_period 47 = .ok (.iconst 1, 1) := by decide +kernel
theorem dX10_period_48 : decode cX10_period 48 = .ok (.isub, 1) := by decide +kernel
theorem dX10_period_49 : decode cX10_period 49 = .ok (.iaload, 1) := by decide +kernel
theorem dX10_period_50 : decode cX10_period 50 = .ok (.invokevirtual 190, 3) := by decide +kernel
theorem dX10_period_53 : decode cX10_period 53 = .ok (.iaload, 1) := by decide +kernel
theorem dX10_period_54 : decode cX10_period 54 = .ok (.aload_n 0, 1) := by decide +kernel
theorem dX10_period_55 : decode cX10_period 55 = .ok (.getfield 42, 3) := by decide +kernel
theorem dX10_period_58 : decode cX10_period 58 = .ok (.aload_n 0, 1) := by decide +kernel
theorem dX10_period_59 : decode cX10_period 59 = .ok (.aload_n 0, 1) := by decide +kernel
theorem dX10_period_60 : decode cX10_period 60 = .ok (.getfield 94, 3) := by decide +kernel
theorem dX10_period_63 : decode cX10_period 63 = .ok (.iconst 0, 1) := by decide +kernel
theorem dX10_period_64 : decode cX10_period 64 = .ok (.iaload, 1) := by decide +kernel
theorem dX10_period_65 : decode cX10_period 65 = .ok (.invokevirtual 190, 3) := by decide +kernel
theorem dX10_period_68 : decode cX10_period 68 = .ok (.iaload, 1) := by decide +kernel
theorem dX10_period_69 : decode cX10_period 69 = .ok (.isub, 1) := by decide +kernel
theorem dX10_period_70 : decode cX10_period 70 = .ok (.istore_n 3, 1) := by decide +kernel
theorem dX10_period_71 : decode cX10_period 71 = .ok (.iconst 1, 1) := by decide +kernel
theorem dX10_period_72 : decode cX10_period 72 = .ok (.istore 4, 2) := by decide +kernel
theorem dX10_period_74 : decode cX10_period 74 = .ok (.iload_n 3, 1) := by decide +kernel
theorem dX10_period_75 : decode cX10_period 75 = .ok (.iconst 1, 1) := by decide +kernel
theorem dX10_period_76 : decode cX10_period 76 = .ok (.if_icmp .le 7, 3) := by decide +kernel
theorem dX10_period_79 : decode cX10_period 79 = .ok (.iload_n 3, 1) := by decide +kernel
theorem dX10_period_80 : decode cX10_period 80 = .ok (.goto 4, 3) := by decide +kernel
theorem dX10_period_83 : decode cX10_period 83 = .ok (.iconst 1, 1) := by decide +kernel
theorem dX10_period_84 : decode cX10_period 84 = .ok (.istore 5, 2) := by decide +kernel
theorem dX10_period_86 : decode cX10_period 86 = .ok (.iload 4, 2) := by decide +kernel
theorem dX10_period_88 : decode cX10_period 88 = .ok (.iload 5, 2) := by decide +kernel
theorem dX10_period_90 : decode cX10_period 90 = .ok (.if_icmp .ge 48, 3) := by decide +kernel
theorem dX10_period_93 : decode cX10_period 93 = .ok (.iload 4, 2) := by decide +kernel
theorem dX10_period_95 : decode cX10_period 95 = .ok (.iload 5, 2) := by decide +kernel
theorem dX10_period_97 : decode cX10_period 97 = .ok (.iload 4, 2) := by decide +kernel
theorem dX10_period_99 : decode cX10_period 99 = .ok (.isub, 1) := by decide +kernel
theorem dX10_period_100 : decode cX10_period 100 = .ok (.iconst 2, 1) := by decide +kernel
theorem dX10_period_101 : decode cX10_period 101 = .ok (.idiv, 1) := by decide +kernel
theorem dX10_period_102 : decode cX10_period 102 = .ok (.iadd, 1) := by decide +kernel
theorem dX10_period_103 : decode cX10_period 103 = .ok (.istore 6, 2) := by decide +kernel
theorem dX10_period_105 : decode cX10_period 105 = .ok (.aload_n 0, 1) := by decide +kernel
theorem dX10_period_106 : decode cX10_period 106 = .ok (.iload 6, 2) := by decide +kernel
theorem dX10_period_108 : decode cX10_period 108 = .ok (.iconst 1, 1) := by decide +kernel
theorem dX10_period_109 : decode cX10_period 109 = .ok (.iadd, 1) := by decide +kernel
theorem dX10_period_110 : decode cX10_period 110 = .ok (.invokevirtual 327, 3) := by decide +kernel
theorem dX10_period_113 : decode cX10_period 113 = .ok (.aload_n 0, 1) := by decide +kernel
theorem dX10_period_114 : decode cX10_period 114 = .ok (.iload 6, 2) := by decide +kernel
theorem dX10_period_116 : decode cX10_period 116 = .ok (.invokevirtual 327, 3) := by decide +kernel
theorem dX10_period_119 : decode cX10_period 119 = .ok (.if_icmp .lt 10, 3) := by decide +kernel
theorem dX10_period_122 : decode cX10_period 122 = .ok (.iload 6, 2) := by decide +kernel
theorem dX10_period_124 : decode cX10_period 124 = .ok (.istore 5, 2) := by decide +kernel
theorem dX10_period_126 : decode cX10_period 126 = .ok (.goto 9, 3) := by decide +kernel
theorem dX10_period_129 : decode cX10_period 129 = .ok (.iload 6, 2) := by decide +kernel
theorem dX10_period_131 : decode cX10_period 131 = .ok (.iconst 1, 1) := by decide +kernel
theorem dX10_period_132 : decode cX10_period 132 = .ok (.iadd, 1) := by decide +kernel
theorem dX10_period_133 : decode cX10_period 133 = .ok (.istore 4, 2) := by decide +kernel
theorem dX10_period_135 : decode cX10_period 135 = .ok (.goto (-49), 3) := by decide +kernel
theorem dX10_period_138 : decode cX10_period 138 = .ok (.iload_n 2, 1) := by decide +kernel
theorem dX10_period_139 : decode cX10_period 139 = .ok (.ifCond .ne 8, 3) := by decide +kernel
theorem dX10_period_142 : decode cX10_period 142 = .ok (.iload 4, 2) := by decide +kernel
theorem dX10_period_144 : decode cX10_period 144 = .ok (.goto 9, 3) := by decide +kernel
theorem dX10_period_147 : decode cX10_period 147 = .ok (.aload_n 0, 1) := by decide +kernel
theorem dX10_period_148 : decode cX10_period 148 = .ok (.iload 4, 2) := by decide +kernel
theorem dX10_period_150 : decode cX10_period 150 = .ok (.invokevirtual 327, 3) := by decide +kernel
theorem dX10_period_153 : decode cX10_period 153 = .ok (.ireturn, 1) := by decide +kernel
def f_X10_period_b86 (F : Nat) : Nat → Mm → Int32 → Int32 → Int32 → Option (Int32 × Mm)
 | 0, _, _, _, _ => none
 | N + 1, μ, a2, a4, a5 =>
 if a5 ≤ a4 then
 if a2 = 0 then
 some (a4, μ)
 else
 (f_X10_jitter F μ a4).bind fun q25 =>
 some (q25, μ)
 else
 (f_X10_jitter F μ ((a4 + ((a5 - a4) / (2 : Int32))) + (1 : Int32))).bind fun q27 =>
 (f_X10_jitter F μ (a4 + ((a5 - a4) / (2 : Int32)))).bind fun q29 =>
 if q27 < q29 then
 f_X10_period_b86 F N μ a2 ((a4 + ((a5 - a4) / (2 : Int32))) + (1 : Int32)) a5
 else
 f_X10_period_b86 F N μ a2 a4 (a4 + ((a5 - a4) / (2 : Int32)))
set_option maxHeartbeats 4000000 in
set_option maxRecDepth 100000 in
theorem cb_X10_period_86 {l : Launch} {E : En} {p : Program} {e : Env} {s : State} {m : MethodId} {av : Array Value} {below : List Frame} {meth : Method} {c : Code} (C : Cx E p s m av c cX10_period 7 yX10_period.cls) (hr : meth.sig.returnType = (some .int)) (hlk : meth.locks = false) {F : Nat} {z : Int32 × Mm} : ∀ (N : Nat) (μ : Mm) (a2 : Int32) (a4 : Int32) (a5 : Int32) (h_a0 : l10 E 0), f_X10_period_b86 F N μ a2 a4 a5 = some z → ∀ {H : Heap} {locs : List Loc} {ls : Array Slot}, Iv E s μ H locs → lv_has ls 7 [(0, .ref (ad E 1000 0)), (2, .int a2), (4, .int a4), (5, .int a5)] → W p l e { frames := 4, cells := 0, slots := 0, locals := 93 } s m av below meth c H locs 0 0 (MQ below (Qm E (some (.int z.1)) z.2) av s 0 0 (Ad E)) (F0 m 86 ls []) := by
  have hx := C.1.1
  have hb := C.1.2.1
  intro N
  induction N with
  | zero => intro μ a2 a4 a5 h_a0 hf; cases hf
  | succ N ih =>
    intro μ a2 a4 a5 h_a0 hf H locs ls hI hl
    rw [f_X10_period_b86] at hf
    refine lv_iload hx hb dX10_period_86 (lv_at hl 2 rfl) ?_
    refine lv_iload hx hb dX10_period_88 (lv_at hl 3 rfl) ?_
    refine lv_icmp_ge (tgt := 138) hx hb dX10_period_90 rfl (fun hc => ?_) (fun hc => ?_)
    · replace hf := it hf hc
      refine lv_iload_n hx hb dX10_period_138 rfl (lv_at hl 1 rfl) ?_
      refine lv_if_ne (tgt := 147) hx hb dX10_period_139 rfl (fun hc => ?_) (fun hc => ?_)
      · replace hf := ie hf hc
        refine lv_aload_n hx hb dX10_period_147 rfl (lv_at hl 0 rfl) ?_
        refine lv_iload hx hb dX10_period_148 (lv_at hl 2 rfl) ?_
        obtain ⟨q25, e26, hf⟩ := ob hf
        refine mcV (As := [.int a4]) (rest := []) C hI (c_X10_jitter l E h_a0 e26) ml_X10_327 kv_X10_jitter (m_recv C hI h_a0.1 (ce_1000 E _ _ _) rfl) rfl rfl ⟨Nat.le_of_ble_eq_true rfl, Nat.le_of_ble_eq_true rfl⟩ ⟨Nat.zero_le _, Nat.zero_le _⟩ rfl rfl hl.1 (Nat.le_of_ble_eq_true rfl) dX10_period_150 (st1 := [.int q25]) rfl (fun H locs hI => ?_)
        obtain rfl := Option.some.inj hf
        exact m_iret C hr hlk hI dX10_period_153
      · replace hf := it hf hc
        refine lv_iload hx hb dX10_period_142 (lv_at hl 2 rfl) ?_
        refine lv_goto (tgt := 153) hx hb dX10_period_144 rfl ?_
        obtain rfl := Option.some.inj hf
        exact m_iret C hr hlk hI dX10_period_153
    · replace hf := ie hf hc
      refine lv_iload hx hb dX10_period_93 (lv_at hl 2 rfl) ?_
      refine lv_iload hx hb dX10_period_95 (lv_at hl 3 rfl) ?_
      refine lv_iload hx hb dX10_period_97 (lv_at hl 2 rfl) ?_
      refine lv_isub hx hb dX10_period_99 ?_
      refine lv_iconst (v := (2 : Int32)) hx hb dX10_period_100 kc_2 ?_
      refine lv_idiv hx hb dX10_period_101 (by decide) ?_
      refine lv_iadd hx hb dX10_period_102 ?_
      refine lv_istore hx hb dX10_period_103 hl (by decide) rfl (fun ls hl => ?_)
      have hl : lv_has ls 7 [(6, .int (a4 + ((a5 - a4) / (2 : Int32)))), (0, .ref (ad E 1000 0)), (2, .int a2), (4, .int a4), (5, .int a5)] := hl
      refine lv_aload_n hx hb dX10_period_105 rfl (lv_at hl 1 rfl) ?_
      refine lv_iload hx hb dX10_period_106 (lv_at hl 0 rfl) ?_
      refine lv_iconst (v := (1 : Int32)) hx hb dX10_period_108 kc_1 ?_
      refine lv_iadd hx hb dX10_period_109 ?_
      obtain ⟨q27, e28, hf⟩ := ob hf
      refine mcV (As := [.int ((a4 + ((a5 - a4) / (2 : Int32))) + (1 : Int32))]) (rest := []) C hI (c_X10_jitter l E h_a0 e28) ml_X10_327 kv_X10_jitter (m_recv C hI h_a0.1 (ce_1000 E _ _ _) rfl) rfl rfl ⟨Nat.le_of_ble_eq_true rfl, Nat.le_of_ble_eq_true rfl⟩ ⟨Nat.zero_le _, Nat.zero_le _⟩ rfl rfl hl.1 (Nat.le_of_ble_eq_true rfl) dX10_period_110 (st1 := [.int q27]) rfl (fun H locs hI => ?_)
      refine lv_aload_n hx hb dX10_period_113 rfl (lv_at hl 1 rfl) ?_
      refine lv_iload hx hb dX10_period_114 (lv_at hl 0 rfl) ?_
      obtain ⟨q29, e30, hf⟩ := ob hf
      refine mcV (As := [.int (a4 + ((a5 - a4) / (2 : Int32)))]) (rest := [.int q27]) C hI (c_X10_jitter l E h_a0 e30) ml_X10_327 kv_X10_jitter (m_recv C hI h_a0.1 (ce_1000 E _ _ _) rfl) rfl rfl ⟨Nat.le_of_ble_eq_true rfl, Nat.le_of_ble_eq_true rfl⟩ ⟨Nat.zero_le _, Nat.zero_le _⟩ rfl rfl hl.1 (Nat.le_of_ble_eq_true rfl) dX10_period_116 (st1 := [.int q29, .int q27]) rfl (fun H locs hI => ?_)
      refine lv_icmp_lt (tgt := 129) hx hb dX10_period_119 rfl (fun hc => ?_) (fun hc => ?_)
      · replace hf := it hf hc
        refine lv_iload hx hb dX10_period_129 (lv_at hl 0 rfl) ?_
        refine lv_iconst (v := (1 : Int32)) hx hb dX10_period_131 kc_1 ?_
        refine lv_iadd hx hb dX10_period_132 ?_
        refine lv_istore hx hb dX10_period_133 hl (by decide) rfl (fun ls hl => ?_)
        have hl : lv_has ls 7 [(4, .int ((a4 + ((a5 - a4) / (2 : Int32))) + (1 : Int32))), (6, .int (a4 + ((a5 - a4) / (2 : Int32)))), (0, .ref (ad E 1000 0)), (2, .int a2), (5, .int a5)] := hl
        refine lv_goto (tgt := 86) hx hb dX10_period_135 rfl ?_
        exact ih _ _ _ _ h_a0 hf hI (lv_sub hl [2, 3, 0, 4] rfl)
      · replace hf := ie hf hc
        refine lv_iload hx hb dX10_period_122 (lv_at hl 0 rfl) ?_
        refine lv_istore hx hb dX10_period_124 hl (by decide) rfl (fun ls hl => ?_)
        have hl : lv_has ls 7 [(5, .int (a4 + ((a5 - a4) / (2 : Int32)))), (6, .int (a4 + ((a5 - a4) / (2 : Int32)))), (0, .ref (ad E 1000 0)), (2, .int a2), (4, .int a4)] := hl
        refine lv_goto (tgt := 135) hx hb dX10_period_126 rfl ?_
        refine lv_goto (tgt := 86) hx hb dX10_period_135 rfl ?_
        exact ih _ _ _ _ h_a0 hf hI (lv_sub hl [2, 3, 4, 0] rfl)
def f_X10_period (F : Nat) (μ : Mm) (p1 : Int32) (p2 : Int32) : Option (Int32 × Mm) :=
 (f_X10_isTask μ p1).bind fun q31 =>
 if q31 = 0 then
 some ((-1 : Int32), μ)
 else
 (f_X10_in μ p2 (0 : Int32) (1 : Int32)).bind fun q33 =>
 if q33 = 0 then
 some ((-1 : Int32), μ)
 else
 (f_X10_seeks F μ p1).bind fun q35 =>
 if (3 : Int32) ≤ (q35.1 1000 0 36) then
 (ra q35 1038 0 100 ((q35.1 1000 0 36) - (1 : Int32))).bind fun v37 =>
 (f_X10_spot q35 v37).bind fun q39 =>
 (ra q35 1012 0 4200 q39).bind fun v41 =>
 (ra q35 1038 0 100 (0 : Int32)).bind fun v43 =>
 (f_X10_spot q35 v43).bind fun q45 =>
 (ra q35 1012 0 4200 q45).bind fun v47 =>
 if (v41 - v47) ≤ (1 : Int32) then
 f_X10_period_b86 F F q35 p2 (1 : Int32) (1 : Int32)
 else
 f_X10_period_b86 F F q35 p2 (1 : Int32) (v41 - v47)
 else
 some ((-1 : Int32), q35)
set_option maxHeartbeats 4000000 in
set_option maxRecDepth 100000 in
theorem c_X10_period (l : Launch) (E : En) {F : Nat} {μ : Mm} {p1 : Int32} {p2 : Int32} (h0 : l10 E 0) {z : Int32 × Mm} (hf : f_X10_period F μ p1 p2 = some z) : Met l yX10_period (wt yX10_period cX10_period 7 (some .int)) { frames := 4, cells := 0, slots := 0, locals := 93 } (Pm E [.ref (ad E 1000 0), .int p1, .int p2] μ) (Qm E (some (.int z.1)) z.2) 0 0 (Ad E) := by
  unfold f_X10_period at hf
  refine met_of (cc := cX10_period) (nL := 7) (ret := (some .int)) (by decide) _ (Nat.le_of_ble_eq_true rfl) ?_
  intro p e s m below meth c C hr hlk hI ls hl
  have hx := C.1.1
  have hb := C.1.2.1
  have hl : lv_has ls 7 [(0, .ref (ad E 1000 0)), (1, .int p1), (2, .int p2)] := hl
  refine lv_aload_n hx hb dX10_period_0 rfl (lv_at hl 0 rfl) ?_
  refine lv_iload_n hx hb dX10_period_1 rfl (lv_at hl 1 rfl) ?_
  obtain ⟨q31, e32, hf⟩ := ob hf
  refine mcV (As := [.int p1]) (rest := []) C hI (c_X10_isTask l E h0 e32) ml_X10_149 kv_X10_isTask (m_recv C hI h0.1 (ce_1000 E _ _ _) rfl) rfl rfl ⟨Nat.le_of_ble_eq_true rfl, Nat.le_of_ble_eq_true rfl⟩ ⟨Nat.zero_le _, Nat.zero_le _⟩ rfl rfl hl.1 (Nat.le_of_ble_eq_true rfl) dX10_period_2 (st1 := [.int q31]) rfl (fun H locs hI => ?_)
  refine lv_if_eq (tgt := 17) hx hb dX10_period_5 rfl (fun hc => ?_) (fun hc => ?_)
  · replace hf := it hf hc
    refine lv_iconst (v := (-1 : Int32)) hx hb dX10_period_17 kc_m1 ?_
    obtain rfl := Option.some.inj hf
    exact m_iret C hr hlk hI dX10_period_18
  · replace hf := ie hf hc
    refine lv_iload_n hx hb dX10_period_8 rfl (lv_at hl 2 rfl) ?_
    refine lv_iconst (v := (0 : Int32)) hx hb dX10_period_9 kc_0 ?_
    refine lv_iconst (v := (1 : Int32)) hx hb dX10_period_10 kc_1 ?_
    obtain ⟨q33, e34, hf⟩ := ob hf
    refine mcS (As := [.int p2, .int (0 : Int32), .int (1 : Int32)]) (rest := []) C hI (c_X10_in l E  e34) ml_X10_136 ks_X10_in rfl rfl ⟨Nat.le_of_ble_eq_true rfl, Nat.le_of_ble_eq_true rfl⟩ ⟨Nat.zero_le _, Nat.zero_le _⟩ rfl rfl hl.1 (Nat.le_of_ble_eq_true rfl) dX10_period_11 (st1 := [.int q33]) rfl (fun H locs hI => ?_)
    refine lv_if_ne (tgt := 19) hx hb dX10_period_14 rfl (fun hc => ?_) (fun hc => ?_)
    · replace hf := ie hf hc
      refine lv_aload_n hx hb dX10_period_19 rfl (lv_at hl 0 rfl) ?_
      refine lv_iload_n hx hb dX10_period_20 rfl (lv_at hl 1 rfl) ?_
      obtain ⟨q35, e36, hf⟩ := ob hf
      refine mcV (As := [.int p1]) (rest := []) C hI (c_X10_seeks l E h0 e36) ml_X10_254 kv_X10_seeks (m_recv C hI h0.1 (ce_1000 E _ _ _) rfl) rfl rfl ⟨Nat.le_of_ble_eq_true rfl, Nat.le_of_ble_eq_true rfl⟩ ⟨Nat.zero_le _, Nat.zero_le _⟩ rfl rfl hl.1 (Nat.le_of_ble_eq_true rfl) dX10_period_21 (st1 := []) rfl (fun H locs hI => ?_)
      refine lv_aload_n hx hb dX10_period_24 rfl (lv_at hl 0 rfl) ?_
      refine gf_10_36 C hI h0.1 fl_X10_251 dX10_period_25 ?_
      refine lv_iconst (v := (3 : Int32)) hx hb dX10_period_28 kc_3 ?_
      refine lv_icmp_ge (tgt := 34) hx hb dX10_period_29 rfl (fun hc => ?_) (fun hc => ?_)
      · replace hf := it hf hc
        refine lv_aload_n hx hb dX10_period_34 rfl (lv_at hl 0 rfl) ?_
        refine gf_10_11 C hI h0.1 fl_X10_42 dX10_period_35 ?_
        refine lv_aload_n hx hb dX10_period_38 rfl (lv_at hl 0 rfl) ?_
        refine lv_aload_n hx hb dX10_period_39 rfl (lv_at hl 0 rfl) ?_
        refine gf_10_37 C hI h0.1 fl_X10_94 dX10_period_40 ?_
        refine lv_aload_n hx hb dX10_period_43 rfl (lv_at hl 0 rfl) ?_
        refine gf_10_36 C hI h0.1 fl_X10_251 dX10_period_44 ?_
        refine lv_iconst (v := (1 : Int32)) hx hb dX10_period_47 kc_1 ?_
        refine lv_isub hx hb dX10_period_48 ?_
        obtain ⟨v37, e38, hf⟩ := ob hf
        refine m_iald C hI h0.2.2.2.2.2.2.2.2.2.2.2.2.2.2.2.2.2.2.2.2.2.2.2.2.2.1 (ce_1038 E _ _ _) e38 dX10_period_49 ?_
        obtain ⟨q39, e40, hf⟩ := ob hf
        refine mcV (As := [.int v37]) (rest := [.ref (ad E 1012 0)]) C hI (c_X10_spot l E h0 e40) ml_X10_190 kv_X10_spot (m_recv C hI h0.1 (ce_1000 E _ _ _) rfl) rfl rfl ⟨Nat.le_of_ble_eq_true rfl, Nat.le_of_ble_eq_true rfl⟩ ⟨Nat.zero_le _, Nat.zero_le _⟩ rfl rfl hl.1 (Nat.le_of_ble_eq_true rfl) dX10_period_50 (st1 := [.int q39, .ref (ad E 1012 0)]) rfl (fun H locs hI => ?_)
        obtain ⟨v41, e42, hf⟩ := ob hf
        refine m_iald C hI h0.2.2.2.2.2.2.2.2.1 (ce_1012 E _ _ _) e42 dX10_period_53 ?_
        refine lv_aload_n hx hb dX10_period_54 rfl (lv_at hl 0 rfl) ?_
        refine gf_10_11 C hI h0.1 fl_X10_42 dX10_period_55 ?_
        refine lv_aload_n hx hb dX10_period_58 rfl (lv_at hl 0 rfl) ?_
        refine lv_aload_n hx hb dX10_period_59 rfl (lv_at hl 0 rfl) ?_
        refine gf_10_37 C hI h0.1 fl_X10_94 dX10_period_60 ?_
        refine lv_iconst (v := (0 : Int32)) hx hb dX10_period_63 kc_0 ?_
        obtain ⟨v43, e44, hf⟩ := ob hf
        refine m_iald C hI h0.2.2.2.2.2.2.2.2.2.2.2.2.2.2.2.2.2.2.2.2.2.2.2.2.2.1 (ce_1038 E _ _ _) e44 dX10_period_64 ?_
        obtain ⟨q45, e46, hf⟩ := ob hf
        refine mcV (As := [.int v43]) (rest := [.ref (ad E 1012 0), .int v41]) C hI (c_X10_spot l E h0 e46) ml_X10_190 kv_X10_spot (m_recv C hI h0.1 (ce_1000 E _ _ _) rfl) rfl rfl ⟨Nat.le_of_ble_eq_true rfl, Nat.le_of_ble_eq_true rfl⟩ ⟨Nat.zero_le _, Nat.zero_le _⟩ rfl rfl hl.1 (Nat.le_of_ble_eq_true rfl) dX10_period_65 (st1 := [.int q45, .ref (ad E 1012 0), .int v41]) rfl (fun H locs hI => ?_)
        obtain ⟨v47, e48, hf⟩ := ob hf
        refine m_iald C hI h0.2.2.2.2.2.2.2.2.1 (ce_1012 E _ _ _) e48 dX10_period_68 ?_
        refine lv_isub hx hb dX10_period_69 ?_
        refine lv_istore_n hx hb dX10_period_70 rfl hl (by decide) rfl (fun ls hl => ?_)
        have hl : lv_has ls 7 [(3, .int (v41 - v47)), (0, .ref (ad E 1000 0)), (1, .int p1), (2, .int p2)] := hl
        refine lv_iconst (v := (1 : Int32)) hx hb dX10_period_71 kc_1 ?_
        refine lv_istore hx hb dX10_period_72 hl (by decide) rfl (fun ls hl => ?_)
        have hl : lv_has ls 7 [(4, .int (1 : Int32)), (3, .int (v41 - v47)), (0, .ref (ad E 1000 0)), (1, .int p1), (2, .int p2)] := hl
        refine lv_iload_n hx hb dX10_period_74 rfl (lv_at hl 1 rfl) ?_
        refine lv_iconst (v := (1 : Int32)) hx hb dX10_period_75 kc_1 ?_
        refine lv_icmp_le (tgt := 83) hx hb dX10_period_76 rfl (fun hc => ?_) (fun hc => ?_)
        · replace hf := it hf hc
          refine lv_iconst (v := (1 : Int32)) hx hb dX10_period_83 kc_1 ?_
          refine lv_istore hx hb dX10_period_84 hl (by decide) rfl (fun ls hl => ?_)
          have hl : lv_has ls 7 [(5, .int (1 : Int32)), (4, .int (1 : Int32)), (3, .int (v41 - v47)), (0, .ref (ad E 1000 0)), (1, .int p1), (2, .int p2)] := hl
          exact cb_X10_period_86 C hr hlk  _ _ _ _ _ h0 hf hI (lv_sub hl [3, 5, 1, 0] rfl)
        · replace hf := ie hf hc
          refine lv_iload_n hx hb dX10_period_79 rfl (lv_at hl 1 rfl) ?_
          refine lv_goto (tgt := 84) hx hb dX10_period_80 rfl ?_
          refine lv_istore hx hb dX10_period_84 hl (by decide) rfl (fun ls hl => ?_)
          have hl : lv_has ls 7 [(5, .int (v41 - v47)), (4, .int (1 : Int32)), (3, .int (v41 - v47)), (0, .ref (ad E 1000 0)), (1, .int p1), (2, .int p2)] := hl
          exact cb_X10_period_86 C hr hlk  _ _ _ _ _ h0 hf hI (lv_sub hl [3, 5, 1, 0] rfl)
      · replace hf := ie hf hc
        refine lv_iconst (v := (-1 : Int32)) hx hb dX10_period_32 kc_m1 ?_
        obtain rfl := Option.some.inj hf
        exact m_iret C hr hlk hI dX10_period_33
    · replace hf := it hf hc
      refine lv_iconst (v := (-1 : Int32)) hx hb dX10_period_17 kc_m1 ?_
      obtain rfl := Option.some.inj hf
      exact m_iret C hr hlk hI dX10_period_18

theorem dX10_differ_0 : decode cX10_differ 0 = .ok (.aload_n 0, 1) := by decide +kernel
theorem dX10_differ_1 : decode cX10_differ 1 = .ok (.iconst 0, 1) := by decide +kernel
theorem dX10_differ_2 : decode cX10_differ 2 = .ok (.putfield 133, 3) := by decide +kernel
theorem dX10_differ_5 : decode cX10_differ 5 = .ok (.iload_n 1, 1) := by decide +kernel
theorem dX10_differ_6 : decode cX10_differ 6 = .ok (.invokestatic 330, 3) := by decide +kernel
theorem dX10_differ_9 : decode cX10_differ 9 = .ok (.ifCond .eq 17, 3) := by decide +kernel
theorem dX10_differ_12 : decode cX10_differ 12 = .ok (.aload_n 0, 1) := by decide +kernel
theorem dX10_differ_13 : decode cX10_differ 13 = .ok (.getfield 57, 3) := by decide +kernel
theorem dX10_differ_16 : decode cX10_differ 16 = .ok (.iload_n 1, 1) := by decide +kernel
theorem dX10_differ_17 : decode cX10_differ 17 = .ok (.iaload, 1) := by decide +kernel
theorem dX10_differ_18 : decode cX10_differ 18 = .ok (.iconst 5, 1) := by decide +kernel
theorem dX10_differ_19 : decode cX10_differ 19 = .ok (.if_icmp .ne 7, 3) := by decide +kernel
theorem dX10_differ_22 : decode cX10_differ 22 = .ok (.iconst 1, 1) := by decide +kernel
theorem dX10_differ_23 : decode cX10_differ 23 = .ok (.goto 4, 3) := by decide +kernel
theorem dX10_differ_26 : decode cX10_differ 26 = .ok (.iconst 0, 1) := by decide +kernel
theorem dX10_differ_27 : decode cX10_differ 27 = .ok (.istore 4, 2) := by decide +kernel
theorem dX10_differ_29 : decode cX10_differ 29 = .ok (.iload_n 1, 1) := by decide +kernel
theorem dX10_differ_30 : decode cX10_differ 30 = .ok (.invokestatic 330, 3) := by decide +kernel
theorem dX10_differ_33 : decode cX10_differ 33 = .ok (.ifCond .eq 35, 3) := by decide +kernel
theorem dX10_differ_36 : decode cX10_differ 36 = .ok (.iload_n 3, 1) := by decide +kernel
theorem dX10_differ_37 : decode cX10_differ 37 = .ok (.iconst 0, 1) := by decide +kernel
theorem dX10_differ_38 : decode cX10_differ 38 = .ok (.iconst 5, 1) := by decide +kernel
theorem dX10_differ_39 : decode cX10_differ 39 = .ok (.invokestatic 136, 3) := by decide +kernel
theorem dX10_differ_42 : decode cX10_differ 42 = .ok (.ifCond .eq 26, 3) := by decide +kernel
theorem dX10_differ_45 : decode cX10_differ 45 = .ok (.aload_n 0, 1) := by decide +kernel
theorem dX10_differ_46 : decode cX10_differ 46 = .ok (.iload_n 2, 1) := by decide +kernel
theorem dX10_differ_47 : decode cX10_differ 47 = .ok (.invokevirtual 149, 3) := by decide +kernel
theorem dX10_differ_50 : decode cX10_differ 50 = .ok (.ifCond .eq 18, 3) := by decide +kernel
theorem dX10_differ_53 : decode cX10_differ 53 = .ok (.iload 4, 2) := by decide +kernel
theorem dX10_differ_55 : decode cX10_differ 55 = .ok (.ifCond .eq 20, 3) := by decide +kernel
theorem dX10_differ_58 : decode cX10_differ 58 = .ok (.iload_n 2, 1) := by decide +kernel
theorem dX10_differ_59 : decode cX10_differ 59 = .ok (.aload_n 0, 1) := by decide +kernel
theorem dX10_differ_60 : decode cX10_differ 60 = .ok (.getfield 70, 3) := by decide +kernel
theorem dX10_differ_63 : decode cX10_differ 63 = .ok (.iload_n 1, 1) := by decide +kernel
theorem dX10_differ_64 : decode cX10_differ 64 = .ok (.iaload, 1) := by decide +kernel
theorem dX10_differ_65 : decode cX10_differ 65 = .ok (.if_icmp .lt 10, 3) := by decide +kernel
theorem dX10_differ_68 : decode cX10_differ 68 = .ok (.aload_n 0, 1) := by decide +kernel
theorem dX10_differ_69 : decode cX10_differ 69 = .ok (.iconst 1, 1) := by decide +kernel
theorem dX10_differ_70 : decode cX10_differ 70 = .ok (.putfield 133, 3) := by decide +kernel
theorem dX10_differ_73 : decode cX10_differ 73 = .ok (.iconst 0, 1) := by decide +kernel
theorem dX10_differ_74 : decode cX10_differ 74 = .ok (.ireturn, 1) := by decide +kernel
theorem dX10_differ_75 : decode cX10_differ 75 = .ok (.iload 4, 2) := by decide +kernel
theorem dX10_differ_77 : decode cX10_differ 77 = .ok (.ifCond .ne 10, 3) := by decide +kernel
theorem dX10_differ_80 : decode cX10_differ 80 = .ok (.aload_n 0, 1) := by decide +kernel
theorem dX10_differ_81 : decode cX10_differ 81 = .ok (.iconst 2, 1) := by decide +kernel
theorem dX10_differ_82 : decode cX10_differ 82 = .ok (.putfield 133, 3) := by decide +kernel
theorem dX10_differ_85 : decode cX10_differ 85 = .ok (.iconst 0, 1) := by decide +kernel
theorem dX10_differ_86 : decode cX10_differ 86 = .ok (.ireturn, 1) := by decide +kernel
theorem dX10_differ_87 : decode cX10_differ 87 = .ok (.aload_n 0, 1) := by decide +kernel
theorem dX10_differ_88 : decode cX10_differ 88 = .ok (.iload_n 2, 1) := by decide +kernel
theorem dX10_differ_89 : decode cX10_differ 89 = .ok (.iload_n 3, 1) := by decide +kernel
theorem dX10_differ_90 : decode cX10_differ 90 = .ok (.invokevirtual 342, 3) := by decide +kernel
theorem dX10_differ_93 : decode cX10_differ 93 = .ok (.istore 5, 2) := by decide +kernel
theorem dX10_differ_95 : decode cX10_differ 95 = .ok (.iconst 0, 1) := by decide +kernel
theorem dX10_differ_96 : decode cX10_differ 96 = .ok (.istore 6, 2) := by decide +kernel
theorem dX10_differ_98 : decode cX10_differ 98 = .ok (.iload 6, 2) := by decide +kernel
theorem dX10_differ_100 : decode cX10_differ 100 = .ok (.bipush 8, 2) := by decide +kernel
theorem dX10_differ_102 : decode cX10_differ 102 = .ok (.if_icmp .ge 28, 3) := by decide +kernel
theorem dX10_differ_105 : decode cX10_differ 105 = .ok (.aload_n 0, 1) := by decide +kernel
theorem dX10_differ_106 : decode cX10_differ 106 = .ok (.getfield 91, 3) := by decide +kernel
theorem dX10_differ_109 : decode cX10_differ 109 = .ok (.iload 6, 2) := by decide +kernel
theorem dX10_differ_111 : decode cX10_differ 111 = .ok (.aload_n 0, 1) := by decide +kernel
theorem dX10_differ_112 : decode cX10_differ 112 = .ok (.getfield 76, 3) := by decide +kernel
theorem dX10_differ_115 : decode cX10_differ 115 = .ok (.bipush 8, 2) := by decide +kernel
theorem dX10_differ_117 : decode cX10_differ 117 = .ok (.iload_n 1, 1) := by decide +kernel
theorem dX10_differ_118 : decode cX10_differ 118 = .ok (.imul, 1) := by decide +kernel
theorem dX10_differ_119 : decode cX10_differ 119 = .ok (.iload 6, 2) := by decide +kernel
theorem dX10_differ_121 : decode cX10_differ 121 = .ok (.iadd, 1) := by decide +kernel
theorem dX10_differ_122 : decode cX10_differ 122 = .ok (.iaload, 1) := by decide +kernel
theorem dX10_differ_123 : decode cX10_differ 123 = .ok (.iastore, 1) := by decide +kernel
theorem dX10_differ_124 : decode cX10_differ 124 = .ok (.iinc 6 1, 3) := by decide +kernel
theorem dX10_differ_127 : decode cX10_differ 127 = .ok (.goto (-29), 3) := by decide +kernel
theorem dX10_differ_130 : decode cX10_differ 130 = .ok (.aload_n 0, 1) := by decide +kernel
theorem dX10_differ_131 : decode cX10_differ 131 = .ok (.iconst 3, 1) := by decide +kernel
theorem dX10_differ_132 : decode cX10_differ 132 = .ok (.iconst 3, 1) := by decide +kernel
theorem dX10_differ_133 : decode cX10_differ 133 = .ok (.iload_n 1, 1) := by decide +kernel
theorem dX10_differ_134 : decode cX10_differ 134 = .ok (.imul, 1) := by decide +kernel
theorem dX10_differ_135 : decode cX10_differ 135 = .ok (.iadd, 1) := by decide +kernel
theorem dX10_differ_136 : decode cX10_differ 136 = .ok (.aload_n 0, 1) := by decide +kernel
theorem dX10_differ_137 : decode cX10_differ 137 = .ok (.getfield 91, 3) := by decide +kernel
theorem dX10_differ_140 : decode cX10_differ 140 = .ok (.iload_n 2, 1) := by decide +kernel
theorem dX10_differ_141 : decode cX10_differ 141 = .ok (.iaload, 1) := by decide +kernel
theorem dX10_differ_142 : decode cX10_differ 142 = .ok (.iadd, 1) := by decide +kernel
theorem dX10_differ_143 : decode cX10_differ 143 = .ok (.aload_n 0, 1) := by decide +kernel
theorem dX10_differ_144 : decode cX10_differ 144 = .ok (.getfield 91, 3) := by decide +kernel
theorem dX10_differ_147 : decode cX10_differ 147 = .ok (.iload_n 2, 1) := by decide +kernel
theorem dX10_differ_148 : decode cX10_differ 148 = .ok (.iaload, 1) := by decide +kernel
theorem dX10_differ_149 : decode cX10_differ 149 = .ok (.aload_n 0, 1) := by decide +kernel
theorem dX10_differ_150 : decode cX10_differ 150 = .ok (.getfield 70, 3) := by decide +kernel
theorem dX10_differ_153 : decode cX10_differ 153 = .ok (.iload_n 1, 1) := by decide +kernel
theorem dX10_differ_154 : decode cX10_differ 154 = .ok (.iaload, 1) := by decide +kernel
theorem dX10_differ_155 : decode cX10_differ 155 = .ok (.invokevirtual 180, 3) := by decide +kernel
theorem dX10_differ_158 : decode cX10_differ 158 = .ok (.iload 5, 2) := by decide +kernel
theorem dX10_differ_160 : decode cX10_differ 160 = .ok (.aload_n 0, 1) := by decide +kernel
theorem dX10_differ_161 : decode cX10_differ 161 = .ok (.iload_n 2, 1) := by decide +kernel
theorem dX10_differ_162 : decode cX10_differ 162 = .ok (.iload_n 3, 1) := by decide +kernel
theorem dX10_differ_163 : decode cX10_differ 163 = .ok (.invokevirtual 231, 3) := by decide +kernel
theorem dX10_differ_166 : decode cX10_differ 166 = .ok (.isub, 1) := by decide +kernel
theorem dX10_differ_167 : decode cX10_differ 167 = .ok (.ireturn, 1) := by decide +kernel
def f_X10_differ_b68 (F : Nat) (μ : Mm) : Option (Int32 × Mm) :=
 (wf μ 1000 0 0 (1 : Int32)).bind fun m35 =>
 some ((0 : Int32), m35)
set_option maxHeartbeats 4000000 in
set_option maxRecDepth 100000 in
theorem cb_X10_differ_68 {l : Launch} {E : En} {p : Program} {e : Env} {s : State} {m : MethodId} {av : Array Value} {below : List Frame} {meth : Method} {c : Code} (C : Cx E p s m av c cX10_differ 7 yX10_differ.cls) (hr : meth.sig.returnType = (some .int)) (hlk : meth.locks = false) {F : Nat} {z : Int32 × Mm} : ∀ (μ : Mm) (h_a0 : l10 E 0), f_X10_differ_b68 F μ  = some z → ∀ {H : Heap} {locs : List Loc} {ls : Array Slot}, Iv E s μ H locs → lv_has ls 7 [(0, .ref (ad E 1000 0))] → W p l e { frames := 5, cells := 0, slots := 0, locals := 111 } s m av below meth c H locs 0 0 (MQ below (Qm E (some (.int z.1)) z.2) av s 0 0 (Ad E)) (F0 m 68 ls []) := by
  have hx := C.1.1
  have hb := C.1.2.1
  intro μ h_a0 hf H locs ls hI hl
  unfold f_X10_differ_b68 at hf
  refine lv_aload_n hx hb dX10_differ_68 rfl (lv_at hl 0 rfl) ?_
  refine lv_iconst (v := (1 : Int32)) hx hb dX10_differ_69 kc_1 ?_
  obtain ⟨m35, e36, hf⟩ := ob hf
  refine pf_10_0 C hI h_a0.1 fl_X10_133 e36 dX10_differ_70 (fun H locs hI => ?_)
  refine lv_iconst (v := (0 : Int32)) hx hb dX10_differ_73 kc_0 ?_
  obtain rfl := Option.some.inj hf
  exact m_iret C hr hlk hI dX10_differ_74
def f_X10_differ_b98 (F : Nat) : Nat → Mm → Int32 → Int32 → Int32 → Int32 → Int32 → Option (Int32 × Mm)
 | 0, _, _, _, _, _, _ => none
 | N + 1, μ, a1, a2, a3, a5, a6 =>
 if (8 : Int32) ≤ a6 then
 (ra μ 1031 0 8 a2).bind fun v37 =>
 (ra μ 1031 0 8 a2).bind fun v39 =>
 (ra μ 1024 0 6 a1).bind fun v41 =>
 (f_X10_starts F μ (((3 : Int32) + ((3 : Int32) * a1)) + v37) v39 v41).bind fun q43 =>
 (f_X10_summed F q43 a2 a3).bind fun q45 =>
 some (a5 - q45.1, q45.2)
 else
 (ra μ 1026 0 48 (((8 : Int32) * a1) + a6)).bind fun v47 =>
 (wa μ 1031 0 8 a6 v47).bind fun m49 =>
 f_X10_differ_b98 F N m49 a1 a2 a3 a5 (a6 + (1 : Int32))
set_option maxHeartbeats 4000000 in
set_option maxRecDepth 100000 in
theorem cb_X10_differ_98 {l : Launch} {E : En} {p : Program} {e : Env} {s : State} {m : MethodId} {av : Array Value} {below : List Frame} {meth : Method} {c : Code} (C : Cx E p s m av c cX10_differ 7 yX10_differ.cls) (hr : meth.sig.returnType = (some .int)) (hlk : meth.locks = false) {F : Nat} {z : Int32 × Mm} : ∀ (N : Nat) (μ : Mm) (a1 : Int32) (a2 : Int32) (a3 : Int32) (a5 : Int32) (a6 : Int32) (h_a0 : l10 E 0), f_X10_differ_b98 F N μ a1 a2 a3 a5 a6 = some z → ∀ {H : Heap} {locs : List Loc} {ls : Array Slot}, Iv E s μ H locs → lv_has ls 7 [(0, .ref (ad E 1000 0)), (1, .int a1), (2, .int a2), (3, .int a3), (5, .int a5), (6, .int a6)] → W p l e { frames := 5, cells := 0, slots := 0, locals := 111 } s m av below meth c H locs 0 0 (MQ below (Qm E (some (.int z.1)) z.2) av s 0 0 (Ad E)) (F0 m 98 ls []) := by
  have hx := C.1.1
  have hb := C.1.2.1
  intro N
  induction N with
  | zero => intro μ a1 a2 a3 a5 a6 h_a0 hf; cases hf
  | succ N ih =>
    intro μ a1 a2 a3 a5 a6 h_a0 hf H locs ls hI hl
    rw [f_X10_differ_b98] at hf
    refine lv_iload hx hb dX10_differ_98 (lv_at hl 5 rfl) ?_
    refine lv_bipush (v := (8 : Int32)) hx hb dX10_differ_100 kb_8 ?_
    refine lv_icmp_ge (tgt := 130) hx hb dX10_differ_102 rfl (fun hc => ?_) (fun hc => ?_)
    · replace hf := it hf hc
      refine lv_aload_n hx hb dX10_differ_130 rfl (lv_at hl 0 rfl) ?_
      refine lv_iconst (v := (3 : Int32)) hx hb dX10_differ_131 kc_3 ?_
      refine lv_iconst (v := (3 : Int32)) hx hb dX10_differ_132 kc_3 ?_
      refine lv_iload_n hx hb dX10_differ_133 rfl (lv_at hl 1 rfl) ?_
      refine lv_imul hx hb dX10_differ_134 ?_
      refine lv_iadd hx hb dX10_differ_135 ?_
      refine lv_aload_n hx hb dX10_differ_136 rfl (lv_at hl 0 rfl) ?_
      refine gf_10_30 C hI h_a0.1 fl_X10_91 dX10_differ_137 ?_
      refine lv_iload_n hx hb dX10_differ_140 rfl (lv_at hl 2 rfl) ?_
      obtain ⟨v37, e38, hf⟩ := ob hf
      refine m_iald C hI h_a0.2.2.2.2.2.2.2.2.2.2.2.2.2.2.2.2.2.2.2.2.2.2.2.2.1 (ce_1031 E _ _ _) e38 dX10_differ_141 ?_
      refine lv_iadd hx hb dX10_differ_142 ?_
      refine lv_aload_n hx hb dX10_differ_143 rfl (lv_at hl 0 rfl) ?_
      refine gf_10_30 C hI h_a0.1 fl_X10_91 dX10_differ_144 ?_
      refine lv_iload_n hx hb dX10_differ_147 rfl (lv_at hl 2 rfl) ?_
      obtain ⟨v39, e40, hf⟩ := ob hf
      refine m_iald C hI h_a0.2.2.2.2.2.2.2.2.2.2.2.2.2.2.2.2.2.2.2.2.2.2.2.2.1 (ce_1031 E _ _ _) e40 dX10_differ_148 ?_
      refine lv_aload_n hx hb dX10_differ_149 rfl (lv_at hl 0 rfl) ?_
      refine gf_10_23 C hI h_a0.1 fl_X10_70 dX10_differ_150 ?_
      refine lv_iload_n hx hb dX10_differ_153 rfl (lv_at hl 1 rfl) ?_
      obtain ⟨v41, e42, hf⟩ := ob hf
      refine m_iald C hI h_a0.2.2.2.2.2.2.2.2.2.2.2.2.2.2.2.2.2.1 (ce_1024 E _ _ _) e42 dX10_differ_154 ?_
      obtain ⟨q43, e44, hf⟩ := ob hf
      refine mcV (As := [.int (((3 : Int32) + ((3 : Int32) * a1)) + v37), .int v39, .int v41]) (rest := []) C hI (c_X10_starts l E h_a0 e44) ml_X10_180 kv_X10_starts (m_recv C hI h_a0.1 (ce_1000 E _ _ _) rfl) rfl rfl ⟨Nat.le_of_ble_eq_true rfl, Nat.le_of_ble_eq_true rfl⟩ ⟨Nat.zero_le _, Nat.zero_le _⟩ rfl rfl hl.1 (Nat.le_of_ble_eq_true rfl) dX10_differ_155 (st1 := []) rfl (fun H locs hI => ?_)
      refine lv_iload hx hb dX10_differ_158 (lv_at hl 4 rfl) ?_
      refine lv_aload_n hx hb dX10_differ_160 rfl (lv_at hl 0 rfl) ?_
      refine lv_iload_n hx hb dX10_differ_161 rfl (lv_at hl 2 rfl) ?_
      refine lv_iload_n hx hb dX10_differ_162 rfl (lv_at hl 3 rfl) ?_
      obtain ⟨q45, e46, hf⟩ := ob hf
      refine mcV (As := [.int a2, .int a3]) (rest := [.int a5]) C hI (c_X10_summed l E h_a0 e46) ml_X10_231 kv_X10_summed (m_recv C hI h_a0.1 (ce_1000 E _ _ _) rfl) rfl rfl ⟨Nat.le_of_ble_eq_true rfl, Nat.le_of_ble_eq_true rfl⟩ ⟨Nat.zero_le _, Nat.zero_le _⟩ rfl rfl hl.1 (Nat.le_of_ble_eq_true rfl) dX10_differ_163 (st1 := [.int q45.1, .int a5]) rfl (fun H locs hI => ?_)
      refine lv_isub hx hb dX10_differ_166 ?_
      obtain rfl := Option.some.inj hf
      exact m_iret C hr hlk hI dX10_differ_167
    · replace hf := ie hf hc
      refine lv_aload_n hx hb dX10_differ_105 rfl (lv_at hl 0 rfl) ?_
      refine gf_10_30 C hI h_a0.1 fl_X10_91 dX10_differ_106 ?_
      refine lv_iload hx hb dX10_differ_109 (lv_at hl 5 rfl) ?_
      refine lv_aload_n hx hb dX10_differ_111 rfl (lv_at hl 0 rfl) ?_
      refine gf_10_25 C hI h_a0.1 fl_X10_76 dX10_differ_112 ?_
      refine lv_bipush (v := (8 : Int32)) hx hb dX10_differ_115 kb_8 ?_
      refine lv_iload_n hx hb dX10_differ_117 rfl (lv_at hl 1 rfl) ?_
      refine lv_imul hx hb dX10_differ_118 ?_
      refine lv_iload hx hb dX10_differ_119 (lv_at hl 5 rfl) ?_
      refine lv_iadd hx hb dX10_differ_121 ?_
      obtain ⟨v47, e48, hf⟩ := ob hf
      refine m_iald C hI h_a0.2.2.2.2.2.2.2.2.2.2.2.2.2.2.2.2.2.2.2.1 (ce_1026 E _ _ _) e48 dX10_differ_122 ?_
      obtain ⟨m49, e50, hf⟩ := ob hf
      refine m_iast C hI h_a0.2.2.2.2.2.2.2.2.2.2.2.2.2.2.2.2.2.2.2.2.2.2.2.2.1 (ce_1031 E _) e50 dX10_differ_123 (fun H locs hI => ?_)
      refine lv_iinc (v := a6 + (1 : Int32)) hx hb dX10_differ_124 hl (k := 5) rfl (ki_1 _) (by decide) rfl (fun ls hl => ?_)
      have hl : lv_has ls 7 [(6, .int (a6 + (1 : Int32))), (0, .ref (ad E 1000 0)), (1, .int a1), (2, .int a2), (3, .int a3), (5, .int a5)] := hl
      refine lv_goto (tgt := 98) hx hb dX10_differ_127 rfl ?_
      exact ih _ _ _ _ _ _ h_a0 hf hI (lv_sub hl [1, 2, 3, 4, 5, 0] rfl)
def f_X10_differ_b75 (F : Nat) (μ : Mm) (a1 : Int32) (a2 : Int32) (a3 : Int32) (a4 : Int32) : Option (Int32 × Mm) :=
 if a4 = 0 then
 (wf μ 1000 0 0 (2 : Int32)).bind fun m53 =>
 some ((0 : Int32), m53)
 else
 (f_X10_sum F μ a2 a3).bind fun q51 =>
 f_X10_differ_b98 F F q51.2 a1 a2 a3 q51.1 (0 : Int32)
set_option maxHeartbeats 4000000 in
set_option maxRecDepth 100000 in
theorem cb_X10_differ_75 {l : Launch} {E : En} {p : Program} {e : Env} {s : State} {m : MethodId} {av : Array Value} {below : List Frame} {meth : Method} {c : Code} (C : Cx E p s m av c cX10_differ 7 yX10_differ.cls) (hr : meth.sig.returnType = (some .int)) (hlk : meth.locks = false) {F : Nat} {z : Int32 × Mm} : ∀ (μ : Mm) (a1 : Int32) (a2 : Int32) (a3 : Int32) (a4 : Int32) (h_a0 : l10 E 0), f_X10_differ_b75 F μ a1 a2 a3 a4 = some z → ∀ {H : Heap} {locs : List Loc} {ls : Array Slot}, Iv E s μ H locs → lv_has ls 7 [(0, .ref (ad E 1000 0)), (1, .int a1), (2, .int a2), (3, .int a3), (4, .int a4)] → W p l e { frames := 5, cells := 0, slots := 0, locals := 111 } s m av below meth c H locs 0 0 (MQ below (Qm E (some (.int z.1)) z.2) av s 0 0 (Ad E)) (F0 m 75 ls []) := by
  have hx := C.1.1
  have hb := C.1.2.1
  intro μ a1 a2 a3 a4 h_a0 hf H locs ls hI hl
  unfold f_X10_differ_b75 at hf
  refine lv_iload hx hb dX10_differ_75 (lv_at hl 4 rfl) ?_
  refine lv_if_ne (tgt := 87) hx hb dX10_differ_77 rfl (fun hc => ?_) (fun hc => ?_)
  · replace hf := ie hf hc
    refine lv_aload_n hx hb dX10_differ_87 rfl (lv_at hl 0 rfl) ?_
    refine lv_iload_n hx hb dX10_differ_88 rfl (lv_at hl 2 rfl) ?_
    refine lv_iload_n hx hb dX10_differ_89 rfl (lv_at hl 3 rfl) ?_
    obtain ⟨q51, e52, hf⟩ := ob hf
    refine mcV (As := [.int a2, .int a3]) (rest := []) C hI (c_X10_sum l E h_a0 e52) ml_X10_342 kv_X10_sum (m_recv C hI h_a0.1 (ce_1000 E _ _ _) rfl) rfl rfl ⟨Nat.le_of_ble_eq_true rfl, Nat.le_of_ble_eq_true rfl⟩ ⟨Nat.zero_le _, Nat.zero_le _⟩ rfl rfl hl.1 (Nat.le_of_ble_eq_true rfl) dX10_differ_90 (st1 := [.int q51.1]) rfl (fun H locs hI => ?_)
    refine lv_istore hx hb dX10_differ_93 hl (by decide) rfl (fun ls hl => ?_)
    have hl : lv_has ls 7 [(5, .int q51.1), (0, .ref (ad E 1000 0)), (1, .int a1), (2, .int a2), (3, .int a3), (4, .int a4)] := hl
    refine lv_iconst (v := (0 : Int32)) hx hb dX10_differ_95 kc_0 ?_
    refine lv_istore hx hb dX10_differ_96 hl (by decide) rfl (fun ls hl => ?_)
    have hl : lv_has ls 7 [(6, .int (0 : Int32)), (5, .int q51.1), (0, .ref (ad E 1000 0)), (1, .int a1), (2, .int a2), (3, .int a3), (4, .int a4)] := hl
    exact cb_X10_differ_98 C hr hlk  _ _ _ _ _ _ _ h_a0 hf hI (lv_sub hl [2, 3, 4, 5, 1, 0] rfl)
  · replace hf := it hf hc
    refine lv_aload_n hx hb dX10_differ_80 rfl (lv_at hl 0 rfl) ?_
    refine lv_iconst (v := (2 : Int32)) hx hb dX10_differ_81 kc_2 ?_
    obtain ⟨m53, e54, hf⟩ := ob hf
    refine pf_10_0 C hI h_a0.1 fl_X10_133 e54 dX10_differ_82 (fun H locs hI => ?_)
    refine lv_iconst (v := (0 : Int32)) hx hb dX10_differ_85 kc_0 ?_
    obtain rfl := Option.some.inj hf
    exact m_iret C hr hlk hI dX10_differ_86
def f_X10_differ_b27 (F : Nat) (μ : Mm) (a1 : Int32) (a2 : Int32) (a3 : Int32) (s0 : Int32) : Option (Int32 × Mm) :=
 (f_X10_isTape μ a1).bind fun q55 =>
 if q55 = 0 then
 f_X10_differ_b68 F μ 
 else
 (f_X10_in μ a3 (0 : Int32) (5 : Int32)).bind fun q57 =>
 if q57 = 0 then
 f_X10_differ_b68 F μ 
 else
 (f_X10_isTask μ a2).bind fun q59 =>
 if q59 = 0 then
 f_X10_differ_b68 F μ 
 else
 if s0 = 0 then
 f_X10_differ_b75 F μ a1 a2 a3 s0
 else
 (ra μ 1024 0 6 a1).bind fun v61 =>
 if a2 < v61 then
 f_X10_differ_b75 F μ a1 a2 a3 s0
 else
 f_X10_differ_b68 F μ 
set_option maxHeartbeats 4000000 in
set_option maxRecDepth 100000 in
theorem cb_X10_differ_27 {l : Launch} {E : En} {p : Program} {e : Env} {s : State} {m : MethodId} {av : Array Value} {below : List Frame} {meth : Method} {c : Code} (C : Cx E p s m av c cX10_differ 7 yX10_differ.cls) (hr : meth.sig.returnType = (some .int)) (hlk : meth.locks = false) {F : Nat} {z : Int32 × Mm} : ∀ (μ : Mm) (a1 : Int32) (a2 : Int32) (a3 : Int32) (s0 : Int32) (h_a0 : l10 E 0), f_X10_differ_b27 F μ a1 a2 a3 s0 = some z → ∀ {H : Heap} {locs : List Loc} {ls : Array Slot}, Iv E s μ H locs → lv_has ls 7 [(0, .ref (ad E 1000 0)), (1, .int a1), (2, .int a2), (3, .int a3)] → W p l e { frames := 5, cells := 0, slots := 0, locals := 111 } s m av below meth c H locs 0 0 (MQ below (Qm E (some (.int z.1)) z.2) av s 0 0 (Ad E)) (F0 m 27 ls [.int s0]) := by
  have hx := C.1.1
  have hb := C.1.2.1
  intro μ a1 a2 a3 s0 h_a0 hf H locs ls hI hl
  unfold f_X10_differ_b27 at hf
  refine lv_istore hx hb dX10_differ_27 hl (by decide) rfl (fun ls hl => ?_)
  have hl : lv_has ls 7 [(4, .int s0), (0, .ref (ad E 1000 0)), (1, .int a1), (2, .int a2), (3, .int a3)] := hl
  refine lv_iload_n hx hb dX10_differ_29 rfl (lv_at hl 2 rfl) ?_
  obtain ⟨q55, e56, hf⟩ := ob hf
  refine mcS (As := [.int a1]) (rest := []) C hI (c_X10_isTape l E  e56) ml_X10_330 ks_X10_isTape rfl rfl ⟨Nat.le_of_ble_eq_true rfl, Nat.le_of_ble_eq_true rfl⟩ ⟨Nat.zero_le _, Nat.zero_le _⟩ rfl rfl hl.1 (Nat.le_of_ble_eq_true rfl) dX10_differ_30 (st1 := [.int q55]) rfl (fun H locs hI => ?_)
  refine lv_if_eq (tgt := 68) hx hb dX10_differ_33 rfl (fun hc => ?_) (fun hc => ?_)
  · replace hf := it hf hc
    exact cb_X10_differ_68 C hr hlk  _  h_a0 hf hI (lv_sub hl [1] rfl)
  · replace hf := ie hf hc
    refine lv_iload_n hx hb dX10_differ_36 rfl (lv_at hl 4 rfl) ?_
    refine lv_iconst (v := (0 : Int32)) hx hb dX10_differ_37 kc_0 ?_
    refine lv_iconst (v := (5 : Int32)) hx hb dX10_differ_38 kc_5 ?_
    obtain ⟨q57, e58, hf⟩ := ob hf
    refine mcS (As := [.int a3, .int (0 : Int32), .int (5 : Int32)]) (rest := []) C hI (c_X10_in l E  e58) ml_X10_136 ks_X10_in rfl rfl ⟨Nat.le_of_ble_eq_true rfl, Nat.le_of_ble_eq_true rfl⟩ ⟨Nat.zero_le _, Nat.zero_le _⟩ rfl rfl hl.1 (Nat.le_of_ble_eq_true rfl) dX10_differ_39 (st1 := [.int q57]) rfl (fun H locs hI => ?_)
    refine lv_if_eq (tgt := 68) hx hb dX10_differ_42 rfl (fun hc => ?_) (fun hc => ?_)
    · replace hf := it hf hc
      exact cb_X10_differ_68 C hr hlk  _  h_a0 hf hI (lv_sub hl [1] rfl)
    · replace hf := ie hf hc
      refine lv_aload_n hx hb dX10_differ_45 rfl (lv_at hl 1 rfl) ?_
      refine lv_iload_n hx hb dX10_differ_46 rfl (lv_at hl 3 rfl) ?_
      obtain ⟨q59, e60, hf⟩ := ob hf
      refine mcV (As := [.int a2]) (rest := []) C hI (c_X10_isTask l E h_a0 e60) ml_X10_149 kv_X10_isTask (m_recv C hI h_a0.1 (ce_1000 E _ _ _) rfl) rfl rfl ⟨Nat.le_of_ble_eq_true rfl, Nat.le_of_ble_eq_true rfl⟩ ⟨Nat.zero_le _, Nat.zero_le _⟩ rfl rfl hl.1 (Nat.le_of_ble_eq_true rfl) dX10_differ_47 (st1 := [.int q59]) rfl (fun H locs hI => ?_)
      refine lv_if_eq (tgt := 68) hx hb dX10_differ_50 rfl (fun hc => ?_) (fun hc => ?_)
      · replace hf := it hf hc
        exact cb_X10_differ_68 C hr hlk  _  h_a0 hf hI (lv_sub hl [1] rfl)
      · replace hf := ie hf hc
        refine lv_iload hx hb dX10_differ_53 (lv_at hl 0 rfl) ?_
        refine lv_if_eq (tgt := 75) hx hb dX10_differ_55 rfl (fun hc => ?_) (fun hc => ?_)
        · replace hf := it hf hc
          exact cb_X10_differ_75 C hr hlk  _ _ _ _ _ h_a0 hf hI (lv_sub hl [1, 2, 3, 4, 0] rfl)
        · replace hf := ie hf hc
          refine lv_iload_n hx hb dX10_differ_58 rfl (lv_at hl 3 rfl) ?_
          refine lv_aload_n hx hb dX10_differ_59 rfl (lv_at hl 1 rfl) ?_
          refine gf_10_23 C hI h_a0.1 fl_X10_70 dX10_differ_60 ?_
          refine lv_iload_n hx hb dX10_differ_63 rfl (lv_at hl 2 rfl) ?_
          obtain ⟨v61, e62, hf⟩ := ob hf
          refine m_iald C hI h_a0.2.2.2.2.2.2.2.2.2.2.2.2.2.2.2.2.2.1 (ce_1024 E _ _ _) e62 dX10_differ_64 ?_
          refine lv_icmp_lt (tgt := 75) hx hb dX10_differ_65 rfl (fun hc => ?_) (fun hc => ?_)
          · replace hf := it hf hc
            exact cb_X10_differ_75 C hr hlk  _ _ _ _ _ h_a0 hf hI (lv_sub hl [1, 2, 3, 4, 0] rfl)
          · replace hf := ie hf hc
            exact cb_X10_differ_68 C hr hlk  _  h_a0 hf hI (lv_sub hl [1] rfl)
def f_X10_differ (F : Nat) (μ : Mm) (p1 : Int32) (p2 : Int32) (p3 : Int32) : Option (Int32 × Mm) :=
 (wf μ 1000 0 0 (0 : Int32)).bind fun m63 =>
 (f_X10_isTape m63 p1).bind fun q65 =>
 if q65 = 0 then
 f_X10_differ_b27 F m63 p1 p2 p3 (0 : Int32)
 else
 (ra m63 1020 0 6 p1).bind fun v67 =>
 if v67 = (5 : Int32) then
 f_X10_differ_b27 F m63 p1 p2 p3 (1 : Int32)
 else
 f_X10_differ_b27 F m63 p1 p2 p3 (0 : Int32)
set_option maxHeartbeats 4000000 in
set_option maxRecDepth 100000 in
theorem c_X10_differ (l : Launch) (E : En) {F : Nat} {μ : Mm} {p1 : Int32} {p2 : Int32} {p3 : Int32} (h0 : l10 E 0) {z : Int32 × Mm} (hf : f_X10_differ F μ p1 p2 p3 = some z) : Met l yX10_differ (wt yX10_differ cX10_differ 7 (some .int)) { frames := 5, cells := 0, slots := 0, locals := 111 } (Pm E [.ref (ad E 1000 0), .int p1, .int p2, .int p3] μ) (Qm E (some (.int z.1)) z.2) 0 0 (Ad E) := by
  unfold f_X10_differ at hf
  refine met_of (cc := cX10_differ) (nL := 7) (ret := (some .int)) (by decide) _ (Nat.le_of_ble_eq_true rfl) ?_
  intro p e s m below meth c C hr hlk hI ls hl
  have hx := C.1.1
  have hb := C.1.2.1
  have hl : lv_has ls 7 [(0, .ref (ad E 1000 0)), (1, .int p1), (2, .int p2), (3, .int p3)] := hl
  refine lv_aload_n hx hb dX10_differ_0 rfl (lv_at hl 0 rfl) ?_
  refine lv_iconst (v := (0 : Int32)) hx hb dX10_differ_1 kc_0 ?_
  obtain ⟨m63, e64, hf⟩ := ob hf
  refine pf_10_0 C hI h0.1 fl_X10_133 e64 dX10_differ_2 (fun H locs hI => ?_)
  refine lv_iload_n hx hb dX10_differ_5 rfl (lv_at hl 1 rfl) ?_
  obtain ⟨q65, e66, hf⟩ := ob hf
  refine mcS (As := [.int p1]) (rest := []) C hI (c_X10_isTape l E  e66) ml_X10_330 ks_X10_isTape rfl rfl ⟨Nat.le_of_ble_eq_true rfl, Nat.le_of_ble_eq_true rfl⟩ ⟨Nat.zero_le _, Nat.zero_le _⟩ rfl rfl hl.1 (Nat.le_of_ble_eq_true rfl) dX10_differ_6 (st1 := [.int q65]) rfl (fun H locs hI => ?_)
  refine lv_if_eq (tgt := 26) hx hb dX10_differ_9 rfl (fun hc => ?_) (fun hc => ?_)
  · replace hf := it hf hc
    refine lv_iconst (v := (0 : Int32)) hx hb dX10_differ_26 kc_0 ?_
    exact cb_X10_differ_27 C hr hlk  _ _ _ _ _ h0 hf hI (lv_sub hl [0, 1, 2, 3] rfl)
  · replace hf := ie hf hc
    refine lv_aload_n hx hb dX10_differ_12 rfl (lv_at hl 0 rfl) ?_
    refine gf_10_19 C hI h0.1 fl_X10_57 dX10_differ_13 ?_
    refine lv_iload_n hx hb dX10_differ_16 rfl (lv_at hl 1 rfl) ?_
    obtain ⟨v67, e68, hf⟩ := ob hf
    refine m_iald C hI h0.2.2.2.2.2.2.2.2.2.2.2.2.2.1 (ce_1020 E _ _ _) e68 dX10_differ_17 ?_
    refine lv_iconst (v := (5 : Int32)) hx hb dX10_differ_18 kc_5 ?_
    refine lv_icmp_ne (tgt := 26) hx hb dX10_differ_19 rfl (fun hc => ?_) (fun hc => ?_)
    · replace hf := ie hf hc
      refine lv_iconst (v := (0 : Int32)) hx hb dX10_differ_26 kc_0 ?_
      exact cb_X10_differ_27 C hr hlk  _ _ _ _ _ h0 hf hI (lv_sub hl [0, 1, 2, 3] rfl)
    · replace hf := it hf hc
      refine lv_iconst (v := (1 : Int32)) hx hb dX10_differ_22 kc_1 ?_
      refine lv_goto (tgt := 27) hx hb dX10_differ_23 rfl ?_
      exact cb_X10_differ_27 C hr hlk  _ _ _ _ _ h0 hf hI (lv_sub hl [0, 1, 2, 3] rfl)

theorem dX10_play_0 : decode cX10_play 0 = .ok (.iload_n 1, 1) := by decide +kernel
theorem dX10_play_1 : decode cX10_play 1 = .ok (.invokestatic 330, 3) := by decide +kernel
theorem dX10_play_4 : decode cX10_play 4 = .ok (.ifCond .eq 22, 3) := by decide +kernel
theorem dX10_play_7 : decode cX10_play 7 = .ok (.aload_n 0, 1) := by decide +kernel
theorem dX10_play_8 : decode cX10_play 8 = .ok (.iload 4, 2) := by decide +kernel
theorem dX10_play_10 : decode cX10_play 10 = .ok (.invokevirtual 153, 3) := by decide +kernel
theorem dX10_play_13 : decode cX10_play 13 = .ok (.ifCond .eq 13, 3) := by decide +kernel
theorem dX10_play_16 : decode cX10_play 16 = .ok (.iload_n 3, 1) := by decide +kernel
theorem dX10_play_17 : decode cX10_play 17 = .ok (.iconst 0, 1) := by decide +kernel
theorem dX10_play_18 : decode cX10_play 18 = .ok (.bipush 20, 2) := by decide +kernel
theorem dX10_play_20 : decode cX10_play 20 = .ok (.invokestatic 136, 3) := by decide +kernel
theorem dX10_play_23 : decode cX10_play 23 = .ok (.ifCond .ne 5, 3) := by decide +kernel
theorem dX10_play_26 : decode cX10_play 26 = .ok (.iconst (-1), 1) := by decide +kernel
theorem dX10_play_27 : decode cX10_play 27 = .ok (.ireturn, 1) := by decide +kernel
theorem dX10_play_28 : decode cX10_play 28 = .ok (.aload_n 0, 1) := by decide +kernel
theorem dX10_play_29 : decode cX10_play 29 = .ok (.getfield 57, 3) := by decide +kernel
theorem dX10_play_32 : decode cX10_play 32 = .ok (.iload_n 1, 1) := by decide +kernel
theorem dX10_play_33 : decode cX10_play 33 = .ok (.iaload, 1) := by decide +kernel
theorem dX10_play_34 : decode cX10_play 34 = .ok (.ifCond .ne 10, 3) := by decide +kernel
theorem dX10_play_37 : decode cX10_play 37 = .ok (.aload_n 0, 1) := by decide +kernel
theorem dX10_play_38 : decode cX10_play 38 = .ok (.bipush (-11), 2) := by decide +kernel
theorem dX10_play_40 : decode cX10_play 40 = .ok (.invokevirtual 333, 3) := by decide +kernel
theorem dX10_play_43 : decode cX10_play 43 = .ok (.ireturn, 1) := by decide +kernel
theorem dX10_play_44 : decode cX10_play 44 = .ok (.aload_n 0, 1) := by decide +kernel
theorem dX10_play_45 : decode cX10_play 45 = .ok (.getfield 57, 3) := by decide +kernel
theorem dX10_play_48 : decode cX10_play 48 = .ok (.iload_n 1, 1) := by decide +kernel
theorem dX10_play_49 : decode cX10_play 49 = .ok (.iaload, 1) := by decide +kernel
theorem dX10_play_50 : decode cX10_play 50 = .ok (.iconst 3, 1) := by decide +kernel
theorem dX10_play_51 : decode cX10_play 51 = .ok (.if_icmp .eq 10, 3) := by decide +kernel
theorem dX10_play_54 : decode cX10_play 54 = .ok (.aload_n 0, 1) := by decide +kernel
theorem dX10_play_55 : decode cX10_play 55 = .ok (.bipush (-12), 2) := by decide +kernel
theorem dX10_play_57 : decode cX10_play 57 = .ok (.invokevirtual 333, 3) := by decide +kernel
theorem dX10_play_60 : decode cX10_play 60 = .ok (.ireturn, 1) := by decide +kernel
theorem dX10_play_61 : decode cX10_play 61 = .ok (.iconst 0, 1) := by decide +kernel
theorem dX10_play_62 : decode cX10_play 62 = .ok (.istore 5, 2) := by decide +kernel
theorem dX10_play_64 : decode cX10_play 64 = .ok (.iload 5, 2) := by decide +kernel
theorem dX10_play_66 : decode cX10_play 66 = .ok (.iload_n 3, 1) := by decide +kernel
theorem dX10_play_67 : decode cX10_play 67 = .ok (.if_icmp .ge 125, 3) := by decide +kernel
theorem dX10_play_70 : decode cX10_play 70 = .ok (.iconst 0, 1) := by decide +kernel
theorem dX10_play_71 : decode cX10_play 71 = .ok (.istore 6, 2) := by decide +kernel
theorem dX10_play_73 : decode cX10_play 73 = .ok (.iload 6, 2) := by decide +kernel
theorem dX10_play_75 : decode cX10_play 75 = .ok (.iconst 4, 1) := by decide +kernel
theorem dX10_play_76 : decode cX10_play 76 = .ok (.if_icmp .ge 33, 3) := by decide +kernel
theorem dX10_play_79 : decode cX10_play 79 = .ok (.aload_n 0, 1) := by decide +kernel
theorem dX10_play_80 : decode cX10_play 80 = .ok (.iload_n 1, 1) := by decide +kernel
theorem dX10_play_81 : decode cX10_play 81 = .ok (.iload_n 2, 1) := by decide +kernel
theorem dX10_play_82 : decode cX10_play 82 = .ok (.iconst 5, 1) := by decide +kernel
theorem dX10_play_83 : decode cX10_play 83 = .ok (.iload 5, 2) := by decide +kernel
theorem dX10_play_85 : decode cX10_play 85 = .ok (.imul, 1) := by decide +kernel
theorem dX10_play_86 : decode cX10_play 86 = .ok (.iadd, 1) := by decide +kernel
theorem dX10_play_87 : decode cX10_play 87 = .ok (.iload 6, 2) := by decide +kernel
theorem dX10_play_89 : decode cX10_play 89 = .ok (.iadd, 1) := by decide +kernel
theorem dX10_play_90 : decode cX10_play 90 = .ok (.invokevirtual 348, 3) := by decide +kernel
theorem dX10_play_93 : decode cX10_play 93 = .ok (.ifCond .ne 10, 3) := by decide +kernel
theorem dX10_play_96 : decode cX10_play 96 = .ok (.aload_n 0, 1) := by decide +kernel
theorem dX10_play_97 : decode cX10_play 97 = .ok (.bipush (-13), 2) := by decide +kernel
theorem dX10_play_99 : decode cX10_play 99 = .ok (.invokevirtual 333, 3) := by decide +kernel
theorem dX10_play_102 : decode cX10_play 102 = .ok (.ireturn, 1) := by decide +kernel
theorem dX10_play_103 : decode cX10_play 103 = .ok (.iinc 6 1, 3) := by decide +kernel
theorem dX10_play_106 : decode cX10_play 106 = .ok (.goto (-33), 3) := by decide +kernel
theorem dX10_play_109 : decode cX10_play 109 = .ok (.bipush 100, 2) := by decide +kernel
theorem dX10_play_111 : decode cX10_play 111 = .ok (.iload_n 1, 1) := by decide +kernel
theorem dX10_play_112 : decode cX10_play 112 = .ok (.imul, 1) := by decide +kernel
theorem dX10_play_113 : decode cX10_play 113 = .ok (.iload_n 2, 1) := by decide +kernel
theorem dX10_play_114 : decode cX10_play 114 = .ok (.iadd, 1) := by decide +kernel
theorem dX10_play_115 : decode cX10_play 115 = .ok (.iconst 5, 1) := by decide +kernel
theorem dX10_play_116 : decode cX10_play 116 = .ok (.iload 5, 2) := by decide +kernel
theorem dX10_play_118 : decode cX10_play 118 = .ok (.imul, 1) := by decide +kernel
theorem dX10_play_119 : decode cX10_play 119 = .ok (.iadd, 1) := by decide +kernel
theorem dX10_play_120 : decode cX10_play 120 = .ok (.istore 6, 2) := by decide +kernel
theorem dX10_play_122 : decode cX10_play 122 = .ok (.aload_n 0, 1) := by decide +kernel
theorem dX10_play_123 : decode cX10_play 123 = .ok (.iload 4, 2) := by decide +kernel
theorem dX10_play_125 : decode cX10_play 125 = .ok (.aload_n 0, 1) := by decide +kernel
theorem dX10_play_126 : decode cX10_play 126 = .ok (.getfield 63, 3) := by decide +kernel
theorem dX10_play_129 : decode cX10_play 129 = .ok (.iload 6, 2) := by decide +kernel
theorem dX10_play_131 : decode cX10_play 131 = .ok (.laload, 1) := by decide +kernel
theorem dX10_play_132 : decode cX10_play 132 = .ok (.l2i, 1) := by decide +kernel
theorem dX10_play_133 : decode cX10_play 133 = .ok (.aload_n 0, 1) := by decide +kernel
theorem dX10_play_134 : decode cX10_play 134 = .ok (.getfield 63, 3) := by decide +kernel
theorem dX10_play_137 : decode cX10_play 137 = .ok (.iload 6, 2) := by decide +kernel
theorem dX10_play_139 : decode cX10_play 139 = .ok (.iconst 1, 1) := by decide +kernel
theorem dX10_play_140 : decode cX10_play 140 = .ok (.iadd, 1) := by decide +kernel
theorem dX10_play_141 : decode cX10_play 141 = .ok (.laload, 1) := by decide +kernel
theorem dX10_play_142 : decode cX10_play 142 = .ok (.l2i, 1) := by decide +kernel
theorem dX10_play_143 : decode cX10_play 143 = .ok (.aload_n 0, 1) := by decide +kernel
theorem dX10_play_144 : decode cX10_play 144 = .ok (.getfield 63, 3) := by decide +kernel
theorem dX10_play_147 : decode cX10_play 147 = .ok (.iload 6, 2) := by decide +kernel
theorem dX10_play_149 : decode cX10_play 149 = .ok (.iconst 2, 1) := by decide +kernel
theorem dX10_play_150 : decode cX10_play 150 = .ok (.iadd, 1) := by decide +kernel
theorem dX10_play_151 : decode cX10_play 151 = .ok (.laload, 1) := by decide +kernel
theorem dX10_play_152 : decode cX10_play 152 = .ok (.l2i, 1) := by decide +kernel
theorem dX10_play_153 : decode cX10_play 153 = .ok (.aload_n 0, 1) := by decide +kernel
theorem dX10_play_154 : decode cX10_play 154 = .ok (.getfield 63, 3) := by decide +kernel
theorem dX10_play_157 : decode cX10_play 157 = .ok (.iload 6, 2) := by decide +kernel
theorem dX10_play_159 : decode cX10_play 159 = .ok (.iconst 3, 1) := by decide +kernel
theorem dX10_play_160 : decode cX10_play 160 = .ok (.iadd, 1) := by decide +kernel
theorem dX10_play_161 : decode cX10_play 161 = .ok (.laload, 1) := by decide +kernel
theorem dX10_play_162 : decode cX10_play 162 = .ok (.l2i, 1) := by decide +kernel
theorem dX10_play_163 : decode cX10_play 163 = .ok (.invokevirtual 217, 3) := by decide +kernel
theorem dX10_play_166 : decode cX10_play 166 = .ok (.istore 7, 2) := by decide +kernel
theorem dX10_play_168 : decode cX10_play 168 = .ok (.iload 7, 2) := by decide +kernel
theorem dX10_play_170 : decode cX10_play 170 = .ok (.ifCond .ge 16, 3) := by decide +kernel
theorem dX10_play_173 : decode cX10_play 173 = .ok (.aload_n 0, 1) := by decide +kernel
theorem dX10_play_174 : decode cX10_play 174 = .ok (.dup, 1) := by decide +kernel
theorem dX10_play_175 : decode cX10_play 175 = .ok (.getfield 146, 3) := by decide +kernel
theorem dX10_play_178 : decode cX10_play 178 = .ok (.iconst 1, 1) := by decide +kernel
theorem dX10_play_179 : decode cX10_play 179 = .ok (.iadd, 1) := by decide +kernel
theorem dX10_play_180 : decode cX10_play 180 = .ok (.putfield 146, 3) := by decide +kernel
theorem dX10_play_183 : decode cX10_play 183 = .ok (.iload 5, 2) := by decide +kernel
theorem dX10_play_185 : decode cX10_play 185 = .ok (.ireturn, 1) := by decide +kernel
theorem dX10_play_186 : decode cX10_play 186 = .ok (.iinc 5 1, 3) := by decide +kernel
theorem dX10_play_189 : decode cX10_play 189 = .ok (.goto (-125), 3) := by decide +kernel
theorem dX10_play_192 : decode cX10_play 192 = .ok (.iload_n 3, 1) := by decide +kernel
theorem dX10_play_193 : decode cX10_play 193 = .ok (.ireturn, 1) := by decide +kernel
def f_X10_play_b73 (F : Nat) (K64 : Mm → Int32 → Int32 → Int32 → Int32 → Int32 → Option (Int32 × Mm)) : Nat → Mm → Int32 → Int32 → Int32 → Int32 → Int32 → Int32 → Option (Int32 × Mm)
 | 0, _, _, _, _, _, _, _ => none
 | N + 1, μ, a1, a2, a3, a4, a5, a6 =>
 if (4 : Int32) ≤ a6 then
 (rl μ 1022 0 600 ((((100 : Int32) * a1) + a2) + ((5 : Int32) * a5))).bind fun v31 =>
 (rl μ 1022 0 600 (((((100 : Int32) * a1) + a2) + ((5 : Int32) * a5)) + (1 : Int32))).bind fun v33 =>
 (rl μ 1022 0 600 (((((100 : Int32) * a1) + a2) + ((5 : Int32) * a5)) + (2 : Int32))).bind fun v35 =>
 (rl μ 1022 0 600 (((((100 : Int32) * a1) + a2) + ((5 : Int32) * a5)) + (3 : Int32))).bind fun v37 =>
 (f_X10_comes F μ a4 v31.toInt32 v33.toInt32 v35.toInt32 v37.toInt32).bind fun q39 =>
 if 0 ≤ q39.1 then
 K64 q39.2 a1 a2 a3 a4 (a5 + (1 : Int32))
 else
 (wf q39.2 1000 0 17 ((q39.2.1 1000 0 17) + (1 : Int32))).bind fun m41 =>
 some (a5, m41)
 else
 (f_X10_isIn μ a1 ((a2 + ((5 : Int32) * a5)) + a6)).bind fun q43 =>
 if q43 = 0 then
 (f_X10_refuse μ (-13 : Int32)).bind fun q45 =>
 some (q45.1, q45.2)
 else
 f_X10_play_b73 F K64 N μ a1 a2 a3 a4 a5 (a6 + (1 : Int32))
set_option maxHeartbeats 4000000 in
set_option maxRecDepth 100000 in
theorem cb_X10_play_73 {l : Launch} {E : En} {p : Program} {e : Env} {s : State} {m : MethodId} {av : Array Value} {below : List Frame} {meth : Method} {c : Code} (C : Cx E p s m av c cX10_play 8 yX10_play.cls) (hr : meth.sig.returnType = (some .int)) (hlk : meth.locks = false) {F : Nat} {K64 : Mm → Int32 → Int32 → Int32 → Int32 → Int32 → Option (Int32 × Mm)} {z : Int32 × Mm} (hK64 : ∀ (μ : Mm) (a1 : Int32) (a2 : Int32) (a3 : Int32) (a4 : Int32) (a5 : Int32) (h_a0 : l10 E 0), K64 μ a1 a2 a3 a4 a5 = some z → ∀ {H : Heap} {locs : List Loc} {ls : Array Slot}, Iv E s μ H locs → lv_has ls 8 [(0, .ref (ad E 1000 0)), (1, .int a1), (2, .int a2), (3, .int a3), (4, .int a4), (5, .int a5)] → W p l e { frames := 5, cells := 0, slots := 0, locals := 115 } s m av below meth c H locs 0 0 (MQ below (Qm E (some (.int z.1)) z.2) av s 0 0 (Ad E)) (F0 m 64 ls [])) : ∀ (N : Nat) (μ : Mm) (a1 : Int32) (a2 : Int32) (a3 : Int32) (a4 : Int32) (a5 : Int32) (a6 : Int32) (h_a0 : l10 E 0), f_X10_play_b73 F K64 N μ a1 a2 a3 a4 a5 a6 = some z → ∀ {H : Heap} {locs : List Loc} {ls : Array Slot}, Iv E s μ H locs → lv_has ls 8 [(0, .ref (ad E 1000 0)), (1, .int a1), (2, .int a2), (3, .int a3), (4, .int a4), (5, .int a5), (6, .int a6)] → W p l e { frames := 5, cells := 0, slots := 0, locals := 115 } s m av below meth c H locs 0 0 (MQ below (Qm E (some (.int z.1)) z.2) av s 0 0 (Ad E)) (F0 m 73 ls []) := by
  have hx := C.1.1
  have hb := C.1.2.1
  intro N
  induction N with
  | zero => intro μ a1 a2 a3 a4 a5 a6 h_a0 hf; cases hf
  | succ N ih =>
    intro μ a1 a2 a3 a4 a5 a6 h_a0 hf H locs ls hI hl
    rw [f_X10_play_b73] at hf
    refine lv_iload hx hb dX10_play_73 (lv_at hl 6 rfl) ?_
    refine lv_iconst (v := (4 : Int32)) hx hb dX10_play_75 kc_4 ?_
    refine lv_icmp_ge (tgt := 109) hx hb dX10_play_76 rfl (fun hc => ?_) (fun hc => ?_)
    · replace hf := it hf hc
      refine lv_bipush (v := (100 : Int32)) hx hb dX10_play_109 kb_100 ?_
      refine lv_iload_n hx hb dX10_play_111 rfl (lv_at hl 1 rfl) ?_
      refine lv_imul hx hb dX10_play_112 ?_
      refine lv_iload_n hx hb dX10_play_113 rfl (lv_at hl 2 rfl) ?_
      refine lv_iadd hx hb dX10_play_114 ?_
      refine lv_iconst (v := (5 : Int32)) hx hb dX10_play_115 kc_5 ?_
      refine lv_iload hx hb dX10_play_116 (lv_at hl 5 rfl) ?_
      refine lv_imul hx hb dX10_play_118 ?_
      refine lv_iadd hx hb dX10_play_119 ?_
      refine lv_istore hx hb dX10_play_120 hl (by decide) rfl (fun ls hl => ?_)
      have hl : lv_has ls 8 [(6, .int ((((100 : Int32) * a1) + a2) + ((5 : Int32) * a5))), (0, .ref (ad E 1000 0)), (1, .int a1), (2, .int a2), (3, .int a3), (4, .int a4), (5, .int a5)] := hl
      refine lv_aload_n hx hb dX10_play_122 rfl (lv_at hl 1 rfl) ?_
      refine lv_iload hx hb dX10_play_123 (lv_at hl 5 rfl) ?_
      refine lv_aload_n hx hb dX10_play_125 rfl (lv_at hl 1 rfl) ?_
      refine gf_10_21 C hI h_a0.1 fl_X10_63 dX10_play_126 ?_
      refine lv_iload hx hb dX10_play_129 (lv_at hl 0 rfl) ?_
      obtain ⟨v31, e32, hf⟩ := ob hf
      refine m_lald C hI h_a0.2.2.2.2.2.2.2.2.2.2.2.2.2.2.2.1 (ce_1022 E _ _ _) e32 dX10_play_131 ?_
      refine lv_l2i (v := v31.toInt32) hx hb dX10_play_132 rfl ?_
      refine lv_aload_n hx hb dX10_play_133 rfl (lv_at hl 1 rfl) ?_
      refine gf_10_21 C hI h_a0.1 fl_X10_63 dX10_play_134 ?_
      refine lv_iload hx hb dX10_play_137 (lv_at hl 0 rfl) ?_
      refine lv_iconst (v := (1 : Int32)) hx hb dX10_play_139 kc_1 ?_
      refine lv_iadd hx hb dX10_play_140 ?_
      obtain ⟨v33, e34, hf⟩ := ob hf
      refine m_lald C hI h_a0.2.2.2.2.2.2.2.2.2.2.2.2.2.2.2.1 (ce_1022 E _ _ _) e34 dX10_play_141 ?_
      refine lv_l2i (v := v33.toInt32) hx hb dX10_play_142 rfl ?_
      refine lv_aload_n hx hb dX10_play_143 rfl (lv_at hl 1 rfl) ?_
      refine gf_10_21 C hI h_a0.1 fl_X10_63 dX10_play_144 ?_
      refine lv_iload hx hb dX10_play_147 (lv_at hl 0 rfl) ?_
      refine lv_iconst (v := (2 : Int32)) hx hb dX10_play_149 kc_2 ?_
      refine lv_iadd hx hb dX10_play_150 ?_
      obtain ⟨v35, e36, hf⟩ := ob hf
      refine m_lald C hI h_a0.2.2.2.2.2.2.2.2.2.2.2.2.2.2.2.1 (ce_1022 E _ _ _) e36 dX10_play_151 ?_
      refine lv_l2i (v := v35.toInt32) hx hb dX10_play_152 rfl ?_
      refine lv_aload_n hx hb dX10_play_153 rfl (lv_at hl 1 rfl) ?_
      refine gf_10_21 C hI h_a0.1 fl_X10_63 dX10_play_154 ?_
      refine lv_iload hx hb dX10_play_157 (lv_at hl 0 rfl) ?_
      refine lv_iconst (v := (3 : Int32)) hx hb dX10_play_159 kc_3 ?_
      refine lv_iadd hx hb dX10_play_160 ?_
      obtain ⟨v37, e38, hf⟩ := ob hf
      refine m_lald C hI h_a0.2.2.2.2.2.2.2.2.2.2.2.2.2.2.2.1 (ce_1022 E _ _ _) e38 dX10_play_161 ?_
      refine lv_l2i (v := v37.toInt32) hx hb dX10_play_162 rfl ?_
      obtain ⟨q39, e40, hf⟩ := ob hf
      refine mcV (As := [.int a4, .int v31.toInt32, .int v33.toInt32, .int v35.toInt32, .int v37.toInt32]) (rest := []) C hI (c_X10_comes l E h_a0 e40) ml_X10_217 kv_X10_comes (m_recv C hI h_a0.1 (ce_1000 E _ _ _) rfl) rfl rfl ⟨Nat.le_of_ble_eq_true rfl, Nat.le_of_ble_eq_true rfl⟩ ⟨Nat.zero_le _, Nat.zero_le _⟩ rfl rfl hl.1 (Nat.le_of_ble_eq_true rfl) dX10_play_163 (st1 := [.int q39.1]) rfl (fun H locs hI => ?_)
      refine lv_istore hx hb dX10_play_166 hl (by decide) rfl (fun ls hl => ?_)
      have hl : lv_has ls 8 [(7, .int q39.1), (6, .int ((((100 : Int32) * a1) + a2) + ((5 : Int32) * a5))), (0, .ref (ad E 1000 0)), (1, .int a1), (2, .int a2), (3, .int a3), (4, .int a4), (5, .int a5)] := hl
      refine lv_iload hx hb dX10_play_168 (lv_at hl 0 rfl) ?_
      refine lv_if_ge (tgt := 186) hx hb dX10_play_170 rfl (fun hc => ?_) (fun hc => ?_)
      · replace hf := it hf hc
        refine lv_iinc (v := a5 + (1 : Int32)) hx hb dX10_play_186 hl (k := 7) rfl (ki_1 _) (by decide) rfl (fun ls hl => ?_)
        have hl : lv_has ls 8 [(5, .int (a5 + (1 : Int32))), (7, .int q39.1), (6, .int ((((100 : Int32) * a1) + a2) + ((5 : Int32) * a5))), (0, .ref (ad E 1000 0)), (1, .int a1), (2, .int a2), (3, .int a3), (4, .int a4)] := hl
        refine lv_goto (tgt := 64) hx hb dX10_play_189 rfl ?_
        exact hK64 _ _ _ _ _ _ h_a0 hf hI (lv_sub hl [3, 4, 5, 6, 7, 0] rfl)
      · replace hf := ie hf hc
        refine lv_aload_n hx hb dX10_play_173 rfl (lv_at hl 2 rfl) ?_
        refine lv_dup hx hb dX10_play_174 rfl ?_
        refine gf_10_17 C hI h_a0.1 fl_X10_146 dX10_play_175 ?_
        refine lv_iconst (v := (1 : Int32)) hx hb dX10_play_178 kc_1 ?_
        refine lv_iadd hx hb dX10_play_179 ?_
        obtain ⟨m41, e42, hf⟩ := ob hf
        refine pf_10_17 C hI h_a0.1 fl_X10_146 e42 dX10_play_180 (fun H locs hI => ?_)
        refine lv_iload hx hb dX10_play_183 (lv_at hl 7 rfl) ?_
        obtain rfl := Option.some.inj hf
        exact m_iret C hr hlk hI dX10_play_185
    · replace hf := ie hf hc
      refine lv_aload_n hx hb dX10_play_79 rfl (lv_at hl 0 rfl) ?_
      refine lv_iload_n hx hb dX10_play_80 rfl (lv_at hl 1 rfl) ?_
      refine lv_iload_n hx hb dX10_play_81 rfl (lv_at hl 2 rfl) ?_
      refine lv_iconst (v := (5 : Int32)) hx hb dX10_play_82 kc_5 ?_
      refine lv_iload hx hb dX10_play_83 (lv_at hl 5 rfl) ?_
      refine lv_imul hx hb dX10_play_85 ?_
      refine lv_iadd hx hb dX10_play_86 ?_
      refine lv_iload hx hb dX10_play_87 (lv_at hl 6 rfl) ?_
      refine lv_iadd hx hb dX10_play_89 ?_
      obtain ⟨q43, e44, hf⟩ := ob hf
      refine mcV (As := [.int a1, .int ((a2 + ((5 : Int32) * a5)) + a6)]) (rest := []) C hI (c_X10_isIn l E h_a0 e44) ml_X10_348 kv_X10_isIn (m_recv C hI h_a0.1 (ce_1000 E _ _ _) rfl) rfl rfl ⟨Nat.le_of_ble_eq_true rfl, Nat.le_of_ble_eq_true rfl⟩ ⟨Nat.zero_le _, Nat.zero_le _⟩ rfl rfl hl.1 (Nat.le_of_ble_eq_true rfl) dX10_play_90 (st1 := [.int q43]) rfl (fun H locs hI => ?_)
      refine lv_if_ne (tgt := 103) hx hb dX10_play_93 rfl (fun hc => ?_) (fun hc => ?_)
      · replace hf := ie hf hc
        refine lv_iinc (v := a6 + (1 : Int32)) hx hb dX10_play_103 hl (k := 6) rfl (ki_1 _) (by decide) rfl (fun ls hl => ?_)
        have hl : lv_has ls 8 [(6, .int (a6 + (1 : Int32))), (0, .ref (ad E 1000 0)), (1, .int a1), (2, .int a2), (3, .int a3), (4, .int a4), (5, .int a5)] := hl
        refine lv_goto (tgt := 73) hx hb dX10_play_106 rfl ?_
        exact ih _ _ _ _ _ _ _ h_a0 hf hI (lv_sub hl [1, 2, 3, 4, 5, 6, 0] rfl)
      · replace hf := it hf hc
        refine lv_aload_n hx hb dX10_play_96 rfl (lv_at hl 0 rfl) ?_
        refine lv_bipush (v := (-13 : Int32)) hx hb dX10_play_97 kb_m13 ?_
        obtain ⟨q45, e46, hf⟩ := ob hf
        refine mcV (As := [.int (-13 : Int32)]) (rest := []) C hI (c_X10_refuse l E h_a0 e46) ml_X10_333 kv_X10_refuse (m_recv C hI h_a0.1 (ce_1000 E _ _ _) rfl) rfl rfl ⟨Nat.le_of_ble_eq_true rfl, Nat.le_of_ble_eq_true rfl⟩ ⟨Nat.zero_le _, Nat.zero_le _⟩ rfl rfl hl.1 (Nat.le_of_ble_eq_true rfl) dX10_play_99 (st1 := [.int q45.1]) rfl (fun H locs hI => ?_)
        obtain rfl := Option.some.inj hf
        exact m_iret C hr hlk hI dX10_play_102
def f_X10_play_b64 (F : Nat) : Nat → Mm → Int32 → Int32 → Int32 → Int32 → Int32 → Option (Int32 × Mm)
 | 0, _, _, _, _, _, _ => none
 | N + 1, μ, a1, a2, a3, a4, a5 =>
 if a3 ≤ a5 then
 some (a3, μ)
 else
 f_X10_play_b73 F (fun μ a1 a2 a3 a4 a5 => f_X10_play_b64 F N μ a1 a2 a3 a4 a5) F μ a1 a2 a3 a4 a5 (0 : Int32)
set_option maxHeartbeats 4000000 in
set_option maxRecDepth 100000 in
theorem cb_X10_play_64 {l : Launch} {E : En} {p : Program} {e : Env} {s : State} {m : MethodId} {av : Array Value} {below : List Frame} {meth : Method} {c : Code} (C : Cx E p s m av c cX10_play 8 yX10_play.cls) (hr : meth.sig.returnType = (some .int)) (hlk : meth.locks = false) {F : Nat} {z : Int32 × Mm} : ∀ (N : Nat) (μ : Mm) (a1 : Int32) (a2 : Int32) (a3 : Int32) (a4 : Int32) (a5 : Int32) (h_a0 : l10 E 0), f_X10_play_b64 F N μ a1 a2 a3 a4 a5 = some z → ∀ {H : Heap} {locs : List Loc} {ls : Array Slot}, Iv E s μ H locs → lv_has ls 8 [(0, .ref (ad E 1000 0)), (1, .int a1), (2, .int a2), (3, .int a3), (4, .int a4), (5, .int a5)] → W p l e { frames := 5, cells := 0, slots := 0, locals := 115 } s m av below meth c H locs 0 0 (MQ below (Qm E (some (.int z.1)) z.2) av s 0 0 (Ad E)) (F0 m 64 ls []) := by
  have hx := C.1.1
  have hb := C.1.2.1
  intro N
  induction N with
  | zero => intro μ a1 a2 a3 a4 a5 h_a0 hf; cases hf
  | succ N ih =>
    intro μ a1 a2 a3 a4 a5 h_a0 hf H locs ls hI hl
    rw [f_X10_play_b64] at hf
    refine lv_iload hx hb dX10_play_64 (lv_at hl 5 rfl) ?_
    refine lv_iload_n hx hb dX10_play_66 rfl (lv_at hl 3 rfl) ?_
    refine lv_icmp_ge (tgt := 192) hx hb dX10_play_67 rfl (fun hc => ?_) (fun hc => ?_)
    · replace hf := it hf hc
      refine lv_iload_n hx hb dX10_play_192 rfl (lv_at hl 3 rfl) ?_
      obtain rfl := Option.some.inj hf
      exact m_iret C hr hlk hI dX10_play_193
    · replace hf := ie hf hc
      refine lv_iconst (v := (0 : Int32)) hx hb dX10_play_70 kc_0 ?_
      refine lv_istore hx hb dX10_play_71 hl (by decide) rfl (fun ls hl => ?_)
      have hl : lv_has ls 8 [(6, .int (0 : Int32)), (0, .ref (ad E 1000 0)), (1, .int a1), (2, .int a2), (3, .int a3), (4, .int a4), (5, .int a5)] := hl
      exact cb_X10_play_73 C hr hlk ih _ _ _ _ _ _ _ _ h_a0 hf hI (lv_sub hl [1, 2, 3, 4, 5, 6, 0] rfl)
def f_X10_play (F : Nat) (μ : Mm) (p1 : Int32) (p2 : Int32) (p3 : Int32) (p4 : Int32) : Option (Int32 × Mm) :=
 (f_X10_isTape μ p1).bind fun q47 =>
 if q47 = 0 then
 some ((-1 : Int32), μ)
 else
 (f_X10_isProcessor μ p4).bind fun q49 =>
 if q49 = 0 then
 some ((-1 : Int32), μ)
 else
 (f_X10_in μ p3 (0 : Int32) (20 : Int32)).bind fun q51 =>
 if q51 = 0 then
 some ((-1 : Int32), μ)
 else
 (ra μ 1020 0 6 p1).bind fun v53 =>
 if v53 = 0 then
 (f_X10_refuse μ (-11 : Int32)).bind fun q59 =>
 some (q59.1, q59.2)
 else
 (ra μ 1020 0 6 p1).bind fun v55 =>
 if v55 = (3 : Int32) then
 f_X10_play_b64 F F μ p1 p2 p3 p4 (0 : Int32)
 else
 (f_X10_refuse μ (-12 : Int32)).bind fun q57 =>
 some (q57.1, q57.2)
set_option maxHeartbeats 4000000 in
set_option maxRecDepth 100000 in
theorem c_X10_play (l : Launch) (E : En) {F : Nat} {μ : Mm} {p1 : Int32} {p2 : Int32} {p3 : Int32} {p4 : Int32} (h0 : l10 E 0) {z : Int32 × Mm} (hf : f_X10_play F μ p1 p2 p3 p4 = some z) : Met l yX10_play (wt yX10_play cX10_play 8 (some .int)) { frames := 5, cells := 0, slots := 0, locals := 115 } (Pm E [.ref (ad E 1000 0), .int p1, .int p2, .int p3, .int p4] μ) (Qm E (some (.int z.1)) z.2) 0 0 (Ad E) := by
  unfold f_X10_play at hf
  refine met_of (cc := cX10_play) (nL := 8) (ret := (some .int)) (by decide) _ (Nat.le_of_ble_eq_true rfl) ?_
  intro p e s m below meth c C hr hlk hI ls hl
  have hx := C.1.1
  have hb := C.1.2.1
  have hl : lv_has ls 8 [(0, .ref (ad E 1000 0)), (1, .int p1), (2, .int p2), (3, .int p3), (4, .int p4)] := hl
  refine lv_iload_n hx hb dX10_play_0 rfl (lv_at hl 1 rfl) ?_
  obtain ⟨q47, e48, hf⟩ := ob hf
  refine mcS (As := [.int p1]) (rest := []) C hI (c_X10_isTape l E  e48) ml_X10_330 ks_X10_isTape rfl rfl ⟨Nat.le_of_ble_eq_true rfl, Nat.le_of_ble_eq_true rfl⟩ ⟨Nat.zero_le _, Nat.zero_le _⟩ rfl rfl hl.1 (Nat.le_of_ble_eq_true rfl) dX10_play_1 (st1 := [.int q47]) rfl (fun H locs hI => ?_)
  refine lv_if_eq (tgt := 26) hx hb dX10_play_4 rfl (fun hc => ?_) (fun hc => ?_)
  · replace hf := it hf hc
    refine lv_iconst (v := (-1 : Int32)) hx hb dX10_play_26 kc_m1 ?_
    obtain rfl := Option.some.inj hf
    exact m_iret C hr hlk hI dX10_play_27
  · replace hf := ie hf hc
    refine lv_aload_n hx hb dX10_play_7 rfl (lv_at hl 0 rfl) ?_
    refine lv_iload hx hb dX10_play_8 (lv_at hl 4 rfl) ?_
    obtain ⟨q49, e50, hf⟩ := ob hf
    refine mcV (As := [.int p4]) (rest := []) C hI (c_X10_isProcessor l E h0 e50) ml_X10_153 kv_X10_isProcessor (m_recv C hI h0.1 (ce_1000 E _ _ _) rfl) rfl rfl ⟨Nat.le_of_ble_eq_true rfl, Nat.le_of_ble_eq_true rfl⟩ ⟨Nat.zero_le _, Nat.zero_le _⟩ rfl rfl hl.1 (Nat.le_of_ble_eq_true rfl) dX10_play_10 (st1 := [.int q49]) rfl (fun H locs hI => ?_)
    refine lv_if_eq (tgt := 26) hx hb dX10_play_13 rfl (fun hc => ?_) (fun hc => ?_)
    · replace hf := it hf hc
      refine lv_iconst (v := (-1 : Int32)) hx hb dX10_play_26 kc_m1 ?_
      obtain rfl := Option.some.inj hf
      exact m_iret C hr hlk hI dX10_play_27
    · replace hf := ie hf hc
      refine lv_iload_n hx hb dX10_play_16 rfl (lv_at hl 3 rfl) ?_
      refine lv_iconst (v := (0 : Int32)) hx hb dX10_play_17 kc_0 ?_
      refine lv_bipush (v := (20 : Int32)) hx hb dX10_play_18 kb_20 ?_
      obtain ⟨q51, e52, hf⟩ := ob hf
      refine mcS (As := [.int p3, .int (0 : Int32), .int (20 : Int32)]) (rest := []) C hI (c_X10_in l E  e52) ml_X10_136 ks_X10_in rfl rfl ⟨Nat.le_of_ble_eq_true rfl, Nat.le_of_ble_eq_true rfl⟩ ⟨Nat.zero_le _, Nat.zero_le _⟩ rfl rfl hl.1 (Nat.le_of_ble_eq_true rfl) dX10_play_20 (st1 := [.int q51]) rfl (fun H locs hI => ?_)
      refine lv_if_ne (tgt := 28) hx hb dX10_play_23 rfl (fun hc => ?_) (fun hc => ?_)
      · replace hf := ie hf hc
        refine lv_aload_n hx hb dX10_play_28 rfl (lv_at hl 0 rfl) ?_
        refine gf_10_19 C hI h0.1 fl_X10_57 dX10_play_29 ?_
        refine lv_iload_n hx hb dX10_play_32 rfl (lv_at hl 1 rfl) ?_
        obtain ⟨v53, e54, hf⟩ := ob hf
        refine m_iald C hI h0.2.2.2.2.2.2.2.2.2.2.2.2.2.1 (ce_1020 E _ _ _) e54 dX10_play_33 ?_
        refine lv_if_ne (tgt := 44) hx hb dX10_play_34 rfl (fun hc => ?_) (fun hc => ?_)
        · replace hf := ie hf hc
          refine lv_aload_n hx hb dX10_play_44 rfl (lv_at hl 0 rfl) ?_
          refine gf_10_19 C hI h0.1 fl_X10_57 dX10_play_45 ?_
          refine lv_iload_n hx hb dX10_play_48 rfl (lv_at hl 1 rfl) ?_
          obtain ⟨v55, e56, hf⟩ := ob hf
          refine m_iald C hI h0.2.2.2.2.2.2.2.2.2.2.2.2.2.1 (ce_1020 E _ _ _) e56 dX10_play_49 ?_
          refine lv_iconst (v := (3 : Int32)) hx hb dX10_play_50 kc_3 ?_
          refine lv_icmp_eq (tgt := 61) hx hb dX10_play_51 rfl (fun hc => ?_) (fun hc => ?_)
          · replace hf := it hf hc
            refine lv_iconst (v := (0 : Int32)) hx hb dX10_play_61 kc_0 ?_
            refine lv_istore hx hb dX10_play_62 hl (by decide) rfl (fun ls hl => ?_)
            have hl : lv_has ls 8 [(5, .int (0 : Int32)), (0, .ref (ad E 1000 0)), (1, .int p1), (2, .int p2), (3, .int p3), (4, .int p4)] := hl
            exact cb_X10_play_64 C hr hlk  _ _ _ _ _ _ _ h0 hf hI (lv_sub hl [1, 2, 3, 4, 5, 0] rfl)
          · replace hf := ie hf hc
            refine lv_aload_n hx hb dX10_play_54 rfl (lv_at hl 0 rfl) ?_
            refine lv_bipush (v := (-12 : Int32)) hx hb dX10_play_55 kb_m12 ?_
            obtain ⟨q57, e58, hf⟩ := ob hf
            refine mcV (As := [.int (-12 : Int32)]) (rest := []) C hI (c_X10_refuse l E h0 e58) ml_X10_333 kv_X10_refuse (m_recv C hI h0.1 (ce_1000 E _ _ _) rfl) rfl rfl ⟨Nat.le_of_ble_eq_true rfl, Nat.le_of_ble_eq_true rfl⟩ ⟨Nat.zero_le _, Nat.zero_le _⟩ rfl rfl hl.1 (Nat.le_of_ble_eq_true rfl) dX10_play_57 (st1 := [.int q57.1]) rfl (fun H locs hI => ?_)
            obtain rfl := Option.some.inj hf
            exact m_iret C hr hlk hI dX10_play_60
        · replace hf := it hf hc
          refine lv_aload_n hx hb dX10_play_37 rfl (lv_at hl 0 rfl) ?_
          refine lv_bipush (v := (-11 : Int32)) hx hb dX10_play_38 kb_m11 ?_
          obtain ⟨q59, e60, hf⟩ := ob hf
          refine mcV (As := [.int (-11 : Int32)]) (rest := []) C hI (c_X10_refuse l E h0 e60) ml_X10_333 kv_X10_refuse (m_recv C hI h0.1 (ce_1000 E _ _ _) rfl) rfl rfl ⟨Nat.le_of_ble_eq_true rfl, Nat.le_of_ble_eq_true rfl⟩ ⟨Nat.zero_le _, Nat.zero_le _⟩ rfl rfl hl.1 (Nat.le_of_ble_eq_true rfl) dX10_play_40 (st1 := [.int q59.1]) rfl (fun H locs hI => ?_)
          obtain rfl := Option.some.inj hf
          exact m_iret C hr hlk hI dX10_play_43
      · replace hf := it hf hc
        refine lv_iconst (v := (-1 : Int32)) hx hb dX10_play_26 kc_m1 ?_
        obtain rfl := Option.some.inj hf
        exact m_iret C hr hlk hI dX10_play_27

