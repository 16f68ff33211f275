theorem acl_X7_47 : Cond.methodLink RX7 47 arraycopyName ∈ T1 := T1_of 968 (by decide +kernel) rfl
theorem acl_X2_38 : Cond.methodLink RX2 38 arraycopyName ∈ T1 := T1_of 975 (by decide +kernel) rfl
theorem acl_X4_35 : Cond.methodLink RX4 35 arraycopyName ∈ T1 := T1_of 980 (by decide +kernel) rfl
theorem acl_X9_412 : Cond.methodLink RX9 412 arraycopyName ∈ T1 := T1_of 1028 (by decide +kernel) rfl
theorem ac_nat : Cond.native arraycopyName ∈ T1 := T1_of 970 (by decide +kernel) rfl
theorem ac_sta : Cond.static arraycopyName ∈ T1 := T1_of 969 (by decide +kernel) rfl
theorem ac_ini : Cond.initialized "java/lang/System" ∈ T1 := T1_of 101 (by decide +kernel) rfl
theorem kb_m15 : (Int8.ofInt (-15)).toInt32 = (-15 : Int32) := by decide
theorem kb_m14 : (Int8.ofInt (-14)).toInt32 = (-14 : Int32) := by decide
theorem kb_m13 : (Int8.ofInt (-13)).toInt32 = (-13 : Int32) := by decide
theorem kb_m12 : (Int8.ofInt (-12)).toInt32 = (-12 : Int32) := by decide
theorem kb_m11 : (Int8.ofInt (-11)).toInt32 = (-11 : Int32) := by decide
theorem kb_m5 : (Int8.ofInt (-5)).toInt32 = (-5 : Int32) := by decide
theorem kb_m4 : (Int8.ofInt (-4)).toInt32 = (-4 : Int32) := by decide
theorem kb_m3 : (Int8.ofInt (-3)).toInt32 = (-3 : Int32) := by decide
theorem kb_m2 : (Int8.ofInt (-2)).toInt32 = (-2 : Int32) := by decide
theorem kc_m1 : Int32.ofInt (-1) = (-1 : Int32) := by decide
theorem kc_0 : Int32.ofInt 0 = (0 : Int32) := by decide
theorem kl_0 : Int64.ofNat 0 = (0 : Int64) := by decide
theorem kc_1 : Int32.ofInt 1 = (1 : Int32) := by decide
theorem ki_1 (x : Int32) : x + Int32.ofInt 1 = x + (1 : Int32) := by rw [show Int32.ofInt 1 = (1 : Int32) from by decide]
theorem kl_1 : Int64.ofNat 1 = (1 : Int64) := by decide
theorem kc_2 : Int32.ofInt 2 = (2 : Int32) := by decide
theorem kc_3 : Int32.ofInt 3 = (3 : Int32) := by decide
theorem kc_4 : Int32.ofInt 4 = (4 : Int32) := by decide
theorem kc_5 : Int32.ofInt 5 = (5 : Int32) := by decide
theorem kb_6 : (Int8.ofInt 6).toInt32 = (6 : Int32) := by decide
theorem kb_8 : (Int8.ofInt 8).toInt32 = (8 : Int32) := by decide
theorem kb_9 : (Int8.ofInt 9).toInt32 = (9 : Int32) := by decide
theorem kb_10 : (Int8.ofInt 10).toInt32 = (10 : Int32) := by decide
theorem kb_11 : (Int8.ofInt 11).toInt32 = (11 : Int32) := by decide
theorem kb_12 : (Int8.ofInt 12).toInt32 = (12 : Int32) := by decide
theorem kb_15 : (Int8.ofInt 15).toInt32 = (15 : Int32) := by decide
theorem kb_16 : (Int8.ofInt 16).toInt32 = (16 : Int32) := by decide
theorem kb_20 : (Int8.ofInt 20).toInt32 = (20 : Int32) := by decide
theorem kb_32 : (Int8.ofInt 32).toInt32 = (32 : Int32) := by decide
theorem kb_63 : (Int8.ofInt 63).toInt32 = (63 : Int32) := by decide
theorem kb_64 : (Int8.ofInt 64).toInt32 = (64 : Int32) := by decide
theorem kb_67 : (Int8.ofInt 67).toInt32 = (67 : Int32) := by decide
theorem kb_100 : (Int8.ofInt 100).toInt32 = (100 : Int32) := by decide
theorem ks_200 : (Int16.ofInt 200).toInt32 = (200 : Int32) := by decide
theorem ks_256 : (Int16.ofInt 256).toInt32 = (256 : Int32) := by decide
section MM2
variable {p : Program} {l : Launch} {e : Env} {R : Room} {s : State} {m : MethodId} {args : Array Value} {below : List Frame} {meth : Method} {c : Code} {H : Heap} {locs : List Loc} {cells slots : Nat} {Q : State → Prop}
variable {E : En} {μ μ' : Mm} {cc : ByteArray} {nL : Nat} {own : String} {pc : Nat} {ls : Array Slot} {rest : List Value} {k i : Nat}
theorem mcV {y : MethodName} {bytes : ByteArray} {maxL index n : Nat} {ret : Option FieldType} {rm : Room} {v : Option Value} {As : List Value} (C : Cx E p s m args c cc nL own) (hI : Iv E s μ H locs)
    (hM : Met l y (wt y bytes maxL ret) rm (Pm E (.ref (ad E k i) :: As) μ) (Qm E v μ') 0 0 (Ad E)) (hl : Cond.methodLink own index y ∈ T1) (hy : kV y bytes maxL ret n)
    (hrec : ∃ cell : Cell, H[ad E k i]? = some cell ∧ cell.vm.isStatics = false ∧ s.vm.findClass y.cls = some cell.cls)
    (hrc : rm.cells = 0) (hrs : rm.slots = 0) (hR : rm.frames + 1 ≤ R.frames ∧ 8 + (maxL + 11) + rm.locals ≤ R.locals) (hf : cells ≤ R.cells ∧ slots ≤ R.slots) (hn : As.length = n) {st0 : List Value} (hst : st0 = As.reverse ++ .ref (ad E k i) :: rest) (hsz : ls.size = nL) (hW : (rest.map fun v => v.category).sum ≤ 8) (hdg : decode cc pc = .ok (.invokevirtual index, 3))
    {st1 : List Value} (h1 : v.toList ++ rest = st1) (kk : ∀ (H1 : Heap) (locs1 : List Loc), Iv E s μ' H1 locs1 → W p l e R s m args below meth c H1 locs1 cells slots Q (F0 m (pc + 3) ls st1)) : W p l e R s m args below meth c H locs cells slots Q (F0 m pc ls st0) :=
  m_callV C hI hM hl hy hrec hrc hrs hR hf hn hst hsz hW hdg (fun H1 l1 h => by rw [h1]; exact kk H1 l1 h)
theorem mcS {y : MethodName} {bytes : ByteArray} {maxL index n : Nat} {ret : Option FieldType} {rm : Room} {v : Option Value} {As : List Value} (C : Cx E p s m args c cc nL own) (hI : Iv E s μ H locs)
    (hM : Met l y (wt y bytes maxL ret) rm (Pm E As μ) (Qm E v μ') 0 0 (Ad E)) (hl : Cond.methodLink own index y ∈ T1) (hy : kS y bytes maxL ret n)
    (hrc : rm.cells = 0) (hrs : rm.slots = 0) (hR : rm.frames + 1 ≤ R.frames ∧ 8 + (maxL + 11) + rm.locals ≤ R.locals) (hf : cells ≤ R.cells ∧ slots ≤ R.slots) (hn : As.length = n) {st0 : List Value} (hst : st0 = As.reverse ++ rest) (hsz : ls.size = nL) (hW : (rest.map fun v => v.category).sum ≤ 8) (hdg : decode cc pc = .ok (.invokestatic index, 3))
    {st1 : List Value} (h1 : v.toList ++ rest = st1) (kk : ∀ (H1 : Heap) (locs1 : List Loc), Iv E s μ' H1 locs1 → W p l e R s m args below meth c H1 locs1 cells slots Q (F0 m (pc + 3) ls st1)) : W p l e R s m args below meth c H locs cells slots Q (F0 m pc ls st0) :=
  m_callS C hI hM hl hy hrc hrs hR hf hn hst hsz hW hdg (fun H1 l1 h => by rw [h1]; exact kk H1 l1 h)
theorem ts_ne {x c : Int32} {n : Int} (h : ¬ x = c) (hc : c.toInt = n) : ¬ x.toInt = n := fun e => h (Int32.toInt_inj.mp (e.trans hc.symm))
theorem rq_lt {n j : Nat} {x : Int32} (h : rq n x = some j) : j < n := by
  unfold rq at h
  split at h
  · cases h
  · next hx => cases h; omega
theorem l7_lane {t j : Nat} {x : Int32} (h : l7 E t) (e : rq 3 x = some j) : l2 E (3 * t + j) := by
  have := rq_lt e
  obtain ⟨-, -, -, -, -, h0, h1, h2⟩ := h
  rcases (show j = 0 ∨ j = 1 ∨ j = 2 by omega) with rfl | rfl | rfl
  · exact h0
  · exact h1
  · exact h2
theorem l9_tape {j : Nat} {x : Int32} (h : l9 E 0) (e : rq 6 x = some j) : l6 E j := by
  have := rq_lt e
  obtain ⟨-, -, -, -, -, -, -, -, -, -, h0, h1, h2, h3, h4, h5⟩ := h
  rcases (show j = 0 ∨ j = 1 ∨ j = 2 ∨ j = 3 ∨ j = 4 ∨ j = 5 by omega) with rfl | rfl | rfl | rfl | rfl | rfl
  · exact h0
  · exact h1
  · exact h2
  · exact h3
  · exact h4
  · exact h5
theorem m_copyI {index n n' k' i' : Nat} {sp dp cN : Int32} (C : Cx E p s m args c cc nL own) (hI : Iv E s μ H locs) (hin : (k, i) ∈ eL E) (hin' : (k', i') ∈ eL E) (hce : ce E (μ.1 k i) (μ.2 k i) k i = .inl (cy E 0, n, .inl (μ.1 k i))) (hce' : ∀ (f : Nat → Int32) (g : Nat → Int64), ce E f g k' i' = .inl (cy E 0, n', .inl f)) (hr : cpI μ k i n k' i' n' sp dp cN = some μ')
    (hlink : Cond.methodLink own index arraycopyName ∈ T1) (hsz : ls.size = nL) (hfr : 1 ≤ R.frames) (hlo : (rest.map fun v => v.category).sum + (nativeFrameWords "java/lang/System" "arraycopy" 5 + 11) ≤ R.locals) (hdg : decode cc pc = .ok (.invokestatic index, 3))
    (kk : ∀ (H1 : Heap) (locs1 : List Loc), Iv E s μ' H1 locs1 → W p l e R s m args below meth c H1 locs1 cells slots Q (F0 m (pc + 3) ls rest)) : W p l e R s m args below meth c H locs cells slots Q (F0 m pc ls (.int cN :: .int dp :: .ref (ad E k' i') :: .int sp :: .ref (ad E k i) :: rest)) := by
  obtain ⟨j, h1, h2⟩ := wl_get hin μ
  obtain ⟨j', h1', h2'⟩ := wl_get hin' μ
  rw [hce] at h2
  rw [hce'] at h2'
  unfold cpI at hr
  split at hr
  · cases hr
  · next hx =>
    cases hr
    simp only [not_or, Nat.not_lt] at hx
    obtain ⟨a1, a2, a3, a4, a5⟩ := hx
    refine va_copyi C.1.1 C.1.2.1 (C.1.2.2.1.trans hsz.symm) C.1.2.2.2.1 (m_in C hlink) (m_in C ac_nat) (m_in C ac_sta) (m_in C ac_ini) C.2.1 hI.1 (wl_D C.2.2 μ) hI.2 j j' 0 0 h2 h2' rfl rfl rfl a1 a2 a3 a4 a5 (fun _ _ => rfl) hfr hlo hdg (fun H1 locs1 hP _ hS => kk H1 locs1 ⟨?_, hS⟩)
    rw [← wl_set C.2.2 (μ := μ) h1' (fun a b h => sr_n a b h), hce', sr_s]
    exact hP
theorem m_copyL {index n n' k' i' : Nat} {sp dp cN : Int32} (C : Cx E p s m args c cc nL own) (hI : Iv E s μ H locs) (hin : (k, i) ∈ eL E) (hin' : (k', i') ∈ eL E) (hce : ce E (μ.1 k i) (μ.2 k i) k i = .inl (cy E 2, n, .inr (.inl (μ.2 k i)))) (hce' : ∀ (f : Nat → Int32) (g : Nat → Int64), ce E f g k' i' = .inl (cy E 2, n', .inr (.inl g))) (hr : cpL μ k i n k' i' n' sp dp cN = some μ')
    (hlink : Cond.methodLink own index arraycopyName ∈ T1) (hsz : ls.size = nL) (hfr : 1 ≤ R.frames) (hlo : (rest.map fun v => v.category).sum + (nativeFrameWords "java/lang/System" "arraycopy" 5 + 11) ≤ R.locals) (hdg : decode cc pc = .ok (.invokestatic index, 3))
    (kk : ∀ (H1 : Heap) (locs1 : List Loc), Iv E s μ' H1 locs1 → W p l e R s m args below meth c H1 locs1 cells slots Q (F0 m (pc + 3) ls rest)) : W p l e R s m args below meth c H locs cells slots Q (F0 m pc ls (.int cN :: .int dp :: .ref (ad E k' i') :: .int sp :: .ref (ad E k i) :: rest)) := by
  obtain ⟨j, h1, h2⟩ := wl_get hin μ
  obtain ⟨j', h1', h2'⟩ := wl_get hin' μ
  rw [hce] at h2
  rw [hce'] at h2'
  unfold cpL at hr
  split at hr
  · cases hr
  · next hx =>
    cases hr
    simp only [not_or, Nat.not_lt] at hx
    obtain ⟨a1, a2, a3, a4, a5⟩ := hx
    refine va_copyl C.1.1 C.1.2.1 (C.1.2.2.1.trans hsz.symm) C.1.2.2.2.1 (m_in C hlink) (m_in C ac_nat) (m_in C ac_sta) (m_in C ac_ini) C.2.1 hI.1 (wl_D C.2.2 μ) hI.2 j j' 2 2 h2 h2' rfl rfl rfl a1 a2 a3 a4 a5 (fun _ _ => rfl) hfr hlo hdg (fun H1 locs1 hP _ hS => kk H1 locs1 ⟨?_, hS⟩)
    rw [← wl_set C.2.2 (μ := μ) h1' (fun a b h => sl_n a b h), hce', sl_s]
    exact hP
theorem mmaxI {index : Nat} {x y : Int32} (C : Cx E p s m args c cc nL own) (hsz : ls.size = nL) (hl : Cond.methodLink own index yJ9_max_7cf53 ∈ T1) (hfr : 1 ≤ R.frames) (hlo : (rest.map fun v => v.category).sum + 13 ≤ R.locals) (hc : cells ≤ R.cells) (hs : slots ≤ R.slots) (hdg : decode cc pc = .ok (.invokestatic index, 3)) (kk : W p l e R s m args below meth c H locs cells slots Q (F0 m (pc + 3) ls (.int (if x < y then y else x) :: rest))) : W p l e R s m args below meth c H locs cells slots Q (F0 m pc ls (.int y :: .int x :: rest)) :=
  va_mmax C.1.1 C.1.2.1 (C.1.2.2.1.trans hsz.symm) C.1.2.2.2.1 (m_in C hl) (m_in C ks_J9_max_7cf53.1) (m_in C ks_J9_max_7cf53.2.1) (m_in C ks_J9_max_7cf53.2.2.1) hfr hlo hc hs hdg kk
theorem mminI {index : Nat} {x y : Int32} (C : Cx E p s m args c cc nL own) (hsz : ls.size = nL) (hl : Cond.methodLink own index yJ9_min_7cf53 ∈ T1) (hfr : 1 ≤ R.frames) (hlo : (rest.map fun v => v.category).sum + 13 ≤ R.locals) (hc : cells ≤ R.cells) (hs : slots ≤ R.slots) (hdg : decode cc pc = .ok (.invokestatic index, 3)) (kk : W p l e R s m args below meth c H locs cells slots Q (F0 m (pc + 3) ls (.int (if y < x then y else x) :: rest))) : W p l e R s m args below meth c H locs cells slots Q (F0 m pc ls (.int y :: .int x :: rest)) :=
  va_mmin C.1.1 C.1.2.1 (C.1.2.2.1.trans hsz.symm) C.1.2.2.2.1 (m_in C hl) (m_in C ks_J9_min_7cf53.1) (m_in C ks_J9_min_7cf53.2.1) (m_in C ks_J9_min_7cf53.2.2.1) hfr hlo hc hs hdg kk
theorem mmaxL {index : Nat} {x y : Int64} (C : Cx E p s m args c cc nL own) (hsz : ls.size = nL) (hl : Cond.methodLink own index yJ9_max_f86c9 ∈ T1) (hfr : 1 ≤ R.frames) (hlo : (rest.map fun v => v.category).sum + 15 ≤ R.locals) (hc : cells ≤ R.cells) (hs : slots ≤ R.slots) (hdg : decode cc pc = .ok (.invokestatic index, 3)) (kk : W p l e R s m args below meth c H locs cells slots Q (F0 m (pc + 3) ls (.long (if y < x then x else y) :: rest))) : W p l e R s m args below meth c H locs cells slots Q (F0 m pc ls (.long y :: .long x :: rest)) :=
  va_mmax_long C.1.1 C.1.2.1 (C.1.2.2.1.trans hsz.symm) C.1.2.2.2.1 (m_in C hl) (m_in C ks_J9_max_f86c9.1) (m_in C ks_J9_max_f86c9.2.1) (m_in C ks_J9_max_f86c9.2.2.1) hfr hlo hc hs hdg kk
theorem mminL {index : Nat} {x y : Int64} (C : Cx E p s m args c cc nL own) (hsz : ls.size = nL) (hl : Cond.methodLink own index yJ9_min_f86c9 ∈ T1) (hfr : 1 ≤ R.frames) (hlo : (rest.map fun v => v.category).sum + 15 ≤ R.locals) (hc : cells ≤ R.cells) (hs : slots ≤ R.slots) (hdg : decode cc pc = .ok (.invokestatic index, 3)) (kk : W p l e R s m args below meth c H locs cells slots Q (F0 m (pc + 3) ls (.long (if y < x then y else x) :: rest))) : W p l e R s m args below meth c H locs cells slots Q (F0 m pc ls (.long y :: .long x :: rest)) :=
  va_mmin_long C.1.1 C.1.2.1 (C.1.2.2.1.trans hsz.symm) C.1.2.2.2.1 (m_in C hl) (m_in C ks_J9_min_f86c9.1) (m_in C ks_J9_min_f86c9.2.1) (m_in C ks_J9_min_f86c9.2.2.1) hfr hlo hc hs hdg kk
end MM2
/-! Arrays.fill -/
def fl (μ : Mm) (k i n : Nat) (v : Int32) (j : Nat) : Mm := sr μ k i (fun x => if x < j then v else μ.1 k i x)
def flL (μ : Mm) (k i n : Nat) (v : Int64) (j : Nat) : Mm := sl μ k i (fun x => if x < j then v else μ.2 k i x)
def f_J7_fill_53178 (μ : Mm) (k i n : Nat) (v : Int32) : Option Mm := some (fl μ k i n v n)
def f_J7_fill_d0a16 (μ : Mm) (k i n : Nat) (v : Int64) : Option Mm := some (flL μ k i n v n)
theorem mm_ext {μ μ' : Mm} (h1 : ∀ a b, μ.1 a b = μ'.1 a b) (h2 : ∀ a b, μ.2 a b = μ'.2 a b) : μ = μ' := Prod.ext (funext fun a => funext fun b => h1 a b) (funext fun a => funext fun b => h2 a b)
theorem fl_0 (μ : Mm) (k i n : Nat) (v : Int32) : fl μ k i n v 0 = μ := mm_ext (fun a b => by
  show (if a = k ∧ b = i then _ else μ.1 a b) = _
  split
  · next h => rw [h.1, h.2]; funext x; simp
  · rfl) (fun _ _ => rfl)
theorem flL_0 (μ : Mm) (k i n : Nat) (v : Int64) : flL μ k i n v 0 = μ := mm_ext (fun _ _ => rfl) (fun a b => by
  show (if a = k ∧ b = i then _ else μ.2 a b) = _
  split
  · next h => rw [h.1, h.2]; funext x; simp
  · rfl)
theorem fl_s {μ : Mm} {k i n : Nat} {v : Int32} {j : Nat} (hj : j < n) (hn : n < 2 ^ 31) : wa (fl μ k i n v j) k i n (nI j) v = some (fl μ k i n v (j + 1)) := by
  unfold wa
  rw [if_neg (nI_in hj hn), nI_clamp (by omega)]
  refine congrArg some (mm_ext (fun a b => ?_) (fun _ _ => rfl))
  show (if a = k ∧ b = i then _ else (if a = k ∧ b = i then _ else μ.1 a b)) = (if a = k ∧ b = i then _ else μ.1 a b)
  split
  · rw [show (fl μ k i n v j).1 k i = (fun x => if x < j then v else μ.1 k i x) from sr_s _ _ _ _]
    funext x
    show (if x = j then v else if x < j then v else μ.1 k i x) = (if x < j + 1 then v else μ.1 k i x)
    by_cases h1 : x = j
    · rw [if_pos h1, if_pos (by omega)]
    · rw [if_neg h1]
      by_cases h2 : x < j
      · rw [if_pos h2, if_pos (by omega)]
      · rw [if_neg h2, if_neg (by omega)]
  · rfl
theorem flL_s {μ : Mm} {k i n : Nat} {v : Int64} {j : Nat} (hj : j < n) (hn : n < 2 ^ 31) : wg (flL μ k i n v j) k i n (nI j) v = some (flL μ k i n v (j + 1)) := by
  unfold wg
  rw [if_neg (nI_in hj hn), nI_clamp (by omega)]
  refine congrArg some (mm_ext (fun _ _ => rfl) (fun a b => ?_))
  show (if a = k ∧ b = i then _ else (if a = k ∧ b = i then _ else μ.2 a b)) = (if a = k ∧ b = i then _ else μ.2 a b)
  split
  · rw [show (flL μ k i n v j).2 k i = (fun x => if x < j then v else μ.2 k i x) from sl_s _ _ _ _]
    funext x
    show (if x = j then v else if x < j then v else μ.2 k i x) = (if x < j + 1 then v else μ.2 k i x)
    by_cases h1 : x = j
    · rw [if_pos h1, if_pos (by omega)]
    · rw [if_neg h1]
      by_cases h2 : x < j
      · rw [if_pos h2, if_pos (by omega)]
      · rw [if_neg h2, if_neg (by omega)]
  · rfl
theorem dJ7_fill_53178_0 : decode cJ7_fill_53178 0 = .ok (.iconst 0, 1) := by decide +kernel
theorem dJ7_fill_53178_1 : decode cJ7_fill_53178 1 = .ok (.istore_n 2, 1) := by decide +kernel
theorem dJ7_fill_53178_2 : decode cJ7_fill_53178 2 = .ok (.aload_n 0, 1) := by decide +kernel
theorem dJ7_fill_53178_3 : decode cJ7_fill_53178 3 = .ok (.arraylength, 1) := by decide +kernel
theorem dJ7_fill_53178_4 : decode cJ7_fill_53178 4 = .ok (.istore_n 3, 1) := by decide +kernel
theorem dJ7_fill_53178_5 : decode cJ7_fill_53178 5 = .ok (.iload_n 2, 1) := by decide +kernel
theorem dJ7_fill_53178_6 : decode cJ7_fill_53178 6 = .ok (.iload_n 3, 1) := by decide +kernel
theorem dJ7_fill_53178_7 : decode cJ7_fill_53178 7 = .ok (.if_icmp .ge 13, 3) := by decide +kernel
theorem dJ7_fill_53178_10 : decode cJ7_fill_53178 10 = .ok (.aload_n 0, 1) := by decide +kernel
theorem dJ7_fill_53178_11 : decode cJ7_fill_53178 11 = .ok (.iload_n 2, 1) := by decide +kernel
theorem dJ7_fill_53178_12 : decode cJ7_fill_53178 12 = .ok (.iload_n 1, 1) := by decide +kernel
theorem dJ7_fill_53178_13 : decode cJ7_fill_53178 13 = .ok (.iastore, 1) := by decide +kernel
theorem dJ7_fill_53178_14 : decode cJ7_fill_53178 14 = .ok (.iinc 2 1, 3) := by decide +kernel
theorem dJ7_fill_53178_17 : decode cJ7_fill_53178 17 = .ok (.goto (-12), 3) := by decide +kernel
theorem dJ7_fill_53178_20 : decode cJ7_fill_53178 20 = .ok (.return_, 1) := by decide +kernel
theorem dJ7_fill_d0a16_0 : decode cJ7_fill_d0a16 0 = .ok (.iconst 0, 1) := by decide +kernel
theorem dJ7_fill_d0a16_1 : decode cJ7_fill_d0a16 1 = .ok (.istore_n 3, 1) := by decide +kernel
theorem dJ7_fill_d0a16_2 : decode cJ7_fill_d0a16 2 = .ok (.aload_n 0, 1) := by decide +kernel
theorem dJ7_fill_d0a16_3 : decode cJ7_fill_d0a16 3 = .ok (.arraylength, 1) := by decide +kernel
theorem dJ7_fill_d0a16_4 : decode cJ7_fill_d0a16 4 = .ok (.istore 4, 2) := by decide +kernel
theorem dJ7_fill_d0a16_6 : decode cJ7_fill_d0a16 6 = .ok (.iload_n 3, 1) := by decide +kernel
theorem dJ7_fill_d0a16_7 : decode cJ7_fill_d0a16 7 = .ok (.iload 4, 2) := by decide +kernel
theorem dJ7_fill_d0a16_9 : decode cJ7_fill_d0a16 9 = .ok (.if_icmp .ge 13, 3) := by decide +kernel
theorem dJ7_fill_d0a16_12 : decode cJ7_fill_d0a16 12 = .ok (.aload_n 0, 1) := by decide +kernel
theorem dJ7_fill_d0a16_13 : decode cJ7_fill_d0a16 13 = .ok (.iload_n 3, 1) := by decide +kernel
theorem dJ7_fill_d0a16_14 : decode cJ7_fill_d0a16 14 = .ok (.lload_n 1, 1) := by decide +kernel
theorem dJ7_fill_d0a16_15 : decode cJ7_fill_d0a16 15 = .ok (.lastore, 1) := by decide +kernel
theorem dJ7_fill_d0a16_16 : decode cJ7_fill_d0a16 16 = .ok (.iinc 3 1, 3) := by decide +kernel
theorem dJ7_fill_d0a16_19 : decode cJ7_fill_d0a16 19 = .ok (.goto (-13), 3) := by decide +kernel
theorem dJ7_fill_d0a16_22 : decode cJ7_fill_d0a16 22 = .ok (.return_, 1) := by decide +kernel
set_option maxHeartbeats 4000000 in
theorem c_J7_fill_53178 (l : Launch) (E : En) {μ : Mm} {k i n : Nat} {v : Int32} (hin : (k, i) ∈ eL E) (hce : ∀ (f : Nat → Int32) (g : Nat → Int64), ce E f g k i = .inl (cy E 0, n, .inl f)) (hn : n ≤ 1000000) {z : Mm} (hf : f_J7_fill_53178 μ k i n v = some z) : Met l yJ7_fill_53178 (wt yJ7_fill_53178 cJ7_fill_53178 4 none) { frames := 0, cells := 0, slots := 0, locals := 0 } (Pm E [.ref (ad E k i), .int v] μ) (Qm E none z) 0 0 (Ad E) := by
  obtain rfl := Option.some.inj hf
  refine met_of (cc := cJ7_fill_53178) (nL := 4) (ret := none) (by decide) _ (Nat.le_of_ble_eq_true rfl) ?_
  intro p e s m below meth c C hr hlk hI ls hl
  have hx := C.1.1
  have hb := C.1.2.1
  have hl : lv_has ls 4 [(0, .ref (ad E k i)), (1, .int v)] := hl
  have loop : ∀ (d j : Nat), n - j = d → j ≤ n → ∀ {H : Heap} {locs : List Loc} {ls : Array Slot}, Iv E s (fl μ k i n v j) H locs → lv_has ls 4 [(2, .int (nI j)), (0, .ref (ad E k i)), (1, .int v), (3, .int (nI n))] → W p l e { frames := 0, cells := 0, slots := 0, locals := 0 } s m [Value.ref (ad E k i), .int v].toArray below meth c H locs 0 0 (MQ below (Qm E none (fl μ k i n v n)) [Value.ref (ad E k i), .int v].toArray s 0 0 (Ad E)) (F0 m 5 ls []) := by
    intro d
    induction d with
    | zero =>
      intro j h1 h2 H locs ls hI hl
      obtain rfl : j = n := by omega
      refine lv_iload_n hx hb dJ7_fill_53178_5 rfl (lv_at hl 0 rfl) ?_
      refine lv_iload_n hx hb dJ7_fill_53178_6 rfl (lv_at hl 3 rfl) ?_
      refine lv_icmp_ge (tgt := 20) hx hb dJ7_fill_53178_7 rfl (fun hc => ?_) (fun hc => absurd (nI_le (Nat.le_refl j) (by omega)) hc)
      exact m_vret C hr hlk hI dJ7_fill_53178_20
    | succ d ih =>
      intro j h1 h2 H locs ls hI hl
      have hj : j < n := by omega
      refine lv_iload_n hx hb dJ7_fill_53178_5 rfl (lv_at hl 0 rfl) ?_
      refine lv_iload_n hx hb dJ7_fill_53178_6 rfl (lv_at hl 3 rfl) ?_
      refine lv_icmp_ge (tgt := 20) hx hb dJ7_fill_53178_7 rfl (fun hc => absurd hc (nI_ge hj (by omega))) (fun hc => ?_)
      refine lv_aload_n hx hb dJ7_fill_53178_10 rfl (lv_at hl 1 rfl) ?_
      refine lv_iload_n hx hb dJ7_fill_53178_11 rfl (lv_at hl 0 rfl) ?_
      refine lv_iload_n hx hb dJ7_fill_53178_12 rfl (lv_at hl 2 rfl) ?_
      refine m_iast C hI hin hce (fl_s hj (by omega)) dJ7_fill_53178_13 (fun H locs hI => ?_)
      refine lv_iinc (v := nI (j + 1)) hx hb dJ7_fill_53178_14 hl (k := 0) rfl ((ki_1 _).trans (nI_succ j).symm) (by decide) rfl (fun ls hl => ?_)
      refine lv_goto (tgt := 5) hx hb dJ7_fill_53178_17 rfl ?_
      exact ih (j + 1) (by omega) (by omega) hI (lv_sub hl [0, 1, 2, 3] rfl)
  refine lv_iconst (v := (0 : Int32)) hx hb dJ7_fill_53178_0 kc_0 ?_
  refine lv_istore_n hx hb dJ7_fill_53178_1 rfl hl (by decide) rfl (fun ls hl => ?_)
  have hl : lv_has ls 4 [(2, .int (0 : Int32)), (0, .ref (ad E k i)), (1, .int v)] := hl
  refine lv_aload_n hx hb dJ7_fill_53178_2 rfl (lv_at hl 1 rfl) ?_
  refine m_alen (x := nI n) (t0 := 0) (ty := .int) (fun _ => rfl) C hI hin (hce _ _) rfl dJ7_fill_53178_3 ?_
  refine lv_istore_n hx hb dJ7_fill_53178_4 rfl hl (by decide) rfl (fun ls hl => ?_)
  have hl : lv_has ls 4 [(3, .int (nI n)), (2, .int (0 : Int32)), (0, .ref (ad E k i)), (1, .int v)] := hl
  exact loop n 0 (by omega) (by omega) (by rw [fl_0]; exact hI) (lv_sub hl [1, 2, 3, 0] rfl)
set_option maxHeartbeats 4000000 in
theorem c_J7_fill_d0a16 (l : Launch) (E : En) {μ : Mm} {k i n : Nat} {v : Int64} (hin : (k, i) ∈ eL E) (hce : ∀ (f : Nat → Int32) (g : Nat → Int64), ce E f g k i = .inl (cy E 2, n, .inr (.inl g))) (hn : n ≤ 1000000) {z : Mm} (hf : f_J7_fill_d0a16 μ k i n v = some z) : Met l yJ7_fill_d0a16 (wt yJ7_fill_d0a16 cJ7_fill_d0a16 5 none) { frames := 0, cells := 0, slots := 0, locals := 0 } (Pm E [.ref (ad E k i), .long v] μ) (Qm E none z) 0 0 (Ad E) := by
  obtain rfl := Option.some.inj hf
  refine met_of (cc := cJ7_fill_d0a16) (nL := 5) (ret := none) (by decide) _ (Nat.le_of_ble_eq_true rfl) ?_
  intro p e s m below meth c C hr hlk hI ls hl
  have hx := C.1.1
  have hb := C.1.2.1
  have hl : lv_has ls 5 [(0, .ref (ad E k i)), (1, .long v)] := hl
  have loop : ∀ (d j : Nat), n - j = d → j ≤ n → ∀ {H : Heap} {locs : List Loc} {ls : Array Slot}, Iv E s (flL μ k i n v j) H locs → lv_has ls 5 [(3, .int (nI j)), (0, .ref (ad E k i)), (1, .long v), (4, .int (nI n))] → W p l e { frames := 0, cells := 0, slots := 0, locals := 0 } s m [Value.ref (ad E k i), .long v].toArray below meth c H locs 0 0 (MQ below (Qm E none (flL μ k i n v n)) [Value.ref (ad E k i), .long v].toArray s 0 0 (Ad E)) (F0 m 6 ls []) := by
    intro d
    induction d with
    | zero =>
      intro j h1 h2 H locs ls hI hl
      obtain rfl : j = n := by omega
      refine lv_iload_n hx hb dJ7_fill_d0a16_6 rfl (lv_at hl 0 rfl) ?_
      refine lv_iload hx hb dJ7_fill_d0a16_7 (lv_at hl 3 rfl) ?_
      refine lv_icmp_ge (tgt := 22) hx hb dJ7_fill_d0a16_9 rfl (fun hc => ?_) (fun hc => absurd (nI_le (Nat.le_refl j) (by omega)) hc)
      exact m_vret C hr hlk hI dJ7_fill_d0a16_22
    | succ d ih =>
      intro j h1 h2 H locs ls hI hl
      have hj : j < n := by omega
      refine lv_iload_n hx hb dJ7_fill_d0a16_6 rfl (lv_at hl 0 rfl) ?_
      refine lv_iload hx hb dJ7_fill_d0a16_7 (lv_at hl 3 rfl) ?_
      refine lv_icmp_ge (tgt := 22) hx hb dJ7_fill_d0a16_9 rfl (fun hc => absurd hc (nI_ge hj (by omega))) (fun hc => ?_)
      refine lv_aload_n hx hb dJ7_fill_d0a16_12 rfl (lv_at hl 1 rfl) ?_
      refine lv_iload_n hx hb dJ7_fill_d0a16_13 rfl (lv_at hl 0 rfl) ?_
      refine lv_lload_n hx hb dJ7_fill_d0a16_14 rfl (lv_at hl 2 rfl) ?_
      refine m_last C hI hin hce (flL_s hj (by omega)) dJ7_fill_d0a16_15 (fun H locs hI => ?_)
      refine lv_iinc (v := nI (j + 1)) hx hb dJ7_fill_d0a16_16 hl (k := 0) rfl ((ki_1 _).trans (nI_succ j).symm) (by decide) rfl (fun ls hl => ?_)
      refine lv_goto (tgt := 6) hx hb dJ7_fill_d0a16_19 rfl ?_
      exact ih (j + 1) (by omega) (by omega) hI (lv_sub hl [0, 1, 2, 3] rfl)
  refine lv_iconst (v := (0 : Int32)) hx hb dJ7_fill_d0a16_0 kc_0 ?_
  refine lv_istore_n hx hb dJ7_fill_d0a16_1 rfl hl (by decide) rfl (fun ls hl => ?_)
  have hl : lv_has ls 5 [(3, .int (0 : Int32)), (0, .ref (ad E k i)), (1, .long v)] := hl
  refine lv_aload_n hx hb dJ7_fill_d0a16_2 rfl (lv_at hl 1 rfl) ?_
  refine m_alen (x := nI n) (t0 := 2) (ty := .long) (fun _ => rfl) C hI hin (hce _ _) rfl dJ7_fill_d0a16_3 ?_
  refine lv_istore hx hb dJ7_fill_d0a16_4 hl (by decide) rfl (fun ls hl => ?_)
  have hl : lv_has ls 5 [(4, .int (nI n)), (3, .int (0 : Int32)), (0, .ref (ad E k i)), (1, .long v)] := hl
  exact loop n 0 (by omega) (by omega) (by rw [flL_0]; exact hI) (lv_sub hl [1, 2, 3, 0] rfl)
