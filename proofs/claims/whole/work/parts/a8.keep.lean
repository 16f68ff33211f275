/-! keep: its contracts -/
theorem dX9_keep_0 : decode cX9_keep 0 = .ok (.iload_n 1, 1) := by decide +kernel
theorem dX9_keep_1 : decode cX9_keep 1 = .ok (.invokestatic 357, 3) := by decide +kernel
theorem dX9_keep_4 : decode cX9_keep 4 = .ok (.ifCond .ne 5, 3) := by decide +kernel
theorem dX9_keep_7 : decode cX9_keep 7 = .ok (.iconst (-1), 1) := by decide +kernel
theorem dX9_keep_8 : decode cX9_keep 8 = .ok (.ireturn, 1) := by decide +kernel
theorem dX9_keep_9 : decode cX9_keep 9 = .ok (.aload_n 0, 1) := by decide +kernel
theorem dX9_keep_10 : decode cX9_keep 10 = .ok (.getfield 32, 3) := by decide +kernel
theorem dX9_keep_13 : decode cX9_keep 13 = .ok (.iload_n 1, 1) := by decide +kernel
theorem dX9_keep_14 : decode cX9_keep 14 = .ok (.aaload, 1) := by decide +kernel
theorem dX9_keep_15 : decode cX9_keep 15 = .ok (.aload_n 0, 1) := by decide +kernel
theorem dX9_keep_16 : decode cX9_keep 16 = .ok (.getfield 12, 3) := by decide +kernel
theorem dX9_keep_19 : decode cX9_keep 19 = .ok (.invokevirtual 367, 3) := by decide +kernel
theorem dX9_keep_22 : decode cX9_keep 22 = .ok (.aload_n 0, 1) := by decide +kernel
theorem dX9_keep_23 : decode cX9_keep 23 = .ok (.getfield 12, 3) := by decide +kernel
theorem dX9_keep_26 : decode cX9_keep 26 = .ok (.invokevirtual 92, 3) := by decide +kernel
theorem dX9_keep_29 : decode cX9_keep 29 = .ok (.ireturn, 1) := by decide +kernel
section KP
variable {p : Program} {l : Launch} {e : Env} {R : Room} {s : State} {m : MethodId} {args : Array Value} {below : List Frame} {meth : Method} {c : Code} {H : Heap} {locs : List Loc} {cells slots : Nat} {Q : State → Prop}
variable {E E9 : En} {μ z : Mm} {cc : ByteArray} {nL : Nat} {own : String} {pc : Nat} {ls : Array Slot} {rest : List Value}
theorem m_callL {index d sz : Nat} (C : Cx E p s m args c cc nL own) (hN : Nx s) (hI : Iv E s μ H locs) (hz : H.size = sz) (hz0 : s.heap.size = sz)
    (hM : Met l yX6_layCopy (wt yX6_layCopy cX6_layCopy 2 none) { frames := 4, cells := 32, slots := 2775, locals := 104 } (Pl E sz [.ref (ad E 600 d), .ref (ad E 700 0)] μ) (Ql E sz E9 none z) 32 2775 (fun q => Ad E q ∨ sz ≤ q)) (hl : Cond.methodLink own index yX6_layCopy ∈ T1)
    (hrec : ∃ cell : Cell, H[ad E 600 d]? = some cell ∧ cell.vm.isStatics = false ∧ s.vm.findClass yX6_layCopy.cls = some cell.cls)
    (hR : 5 ≤ R.frames ∧ 125 ≤ R.locals) (hf : cells + 32 ≤ R.cells ∧ slots + 2775 ≤ R.slots) (hsz : ls.size = nL) (hW : (rest.map fun v => v.category).sum ≤ 8) (hdg : decode cc pc = .ok (.invokevirtual index, 3))
    (kk : ∀ (H1 : Heap) (locs1 : List Loc), va_P (eD E) vwCl (wl E9 z) H1 → va_S (fun q => Ad E q ∨ sz ≤ q) s.heap H1 locs1 → W p l e R s m args below meth c H1 locs1 (cells + 32) (slots + 2775) Q (F0 m (pc + 3) ls rest)) : W p l e R s m args below meth c H locs cells slots Q (F0 m pc ls (.ref (ad E 700 0) :: .ref (ad E 600 d) :: rest)) := by
  obtain ⟨k1, k2, k3, k4, k5, k6, k7⟩ := kv_X6_layCopy
  have run : va_Run p l e R s m args below meth c H locs cells slots 32 2775 (F0 m pc ls (.ref (ad E 700 0) :: .ref (ad E 600 d) :: rest)) rest (Ql E sz E9 none z (Value.ref (ad E 600 d) :: [.ref (ad E 700 0)]).toArray) (fun q => Ad E q ∨ sz ≤ q) :=
    va_runV (As := [.ref (ad E 700 0)]) (rest := rest) (g := F0 m pc ls (.ref (ad E 700 0) :: .ref (ad E 600 d) :: rest)) C.1 hM ⟨callB_of 1 C.1.2.2.2.2 (fun w h => by
      have : w ∈ T1 := by
        rcases List.mem_cons.mp h with rfl | h
        · exact k4
        · exact h
      exact ⟨this, T1_good this⟩) rfl rfl rfl (m_in C k3) (m_in C hl) ⟨k5, k6, k7⟩ ⟨hR.1, hR.2⟩, m_in C k1, m_in C k2⟩ ⟨Pl_blind, hrec, fun U hU hW => ⟨rfl, by rw [hU]; exact hz, by rw [hU]; exact hI.1, va_K.moved hW.alike C.2.1, C.2.2, hN.warm hW⟩⟩ rfl rfl hsz rfl (lv_room hW) hdg hf
  intro T hT X
  obtain ⟨v', st₀, t, T', L, h0, X', hL, e1, e2, ⟨hv, hP, hF⟩, st⟩ := run T hT X
  cases hv
  have hF1 := hF.1
  have hF2 := hF.2
  rw [h0] at hF1 hF2
  have hS := hI.2
  obtain ⟨t2, a1, b1⟩ := kk T'.heap (locs ++ L) (by rw [e1]; exact hP) ⟨Nat.le_trans hS.1 (by rw [e1]; exact hF1), fun q h1 h2 => by rw [e1, hF2 q (Nat.lt_of_lt_of_le h1 hS.1) h2]; exact hS.2.1 q h1 (fun w => h2 (.inl w)), fun q hq => by
      rcases List.mem_append.mp hq with h | h
      · exact .inl (hS.2.2 q h)
      · exact hL q h⟩ T' rfl X'
  exact ⟨t2, st t2 a1, b1⟩
end KP
theorem c_keep_out (l : Launch) {E : En} {μ : Mm} {sz : Nat} {x : Int32} (hq : f_X9_isTape μ x = some 0) :
    Met l yX9_keep (wt yX9_keep cX9_keep 2 (some .int)) { frames := 5, cells := 32, slots := 2775, locals := 125 } (Pl E sz [.ref (ad E 900 0), .int x] μ) (Ql E sz E (some (.int (-1))) μ) 32 2775 (fun q => Ad E q ∨ sz ≤ q) := by
  refine Met.ofW (cc := cX9_keep) (maxL := 2) (ret := some .int) (by decide) rfl ?_
  intro p e s m args below meth c s₁ B hml hv
  obtain ⟨rfl, hz, hP, hK, hD, hN⟩ := hv
  have hts := atoms_spec (ws := wt yX9_keep cX9_keep 2 (some .int)) B.pre
  have hown : s.vm.findClass RX9 = some m.cls := findClass_of_methodNamed B.named
  have hl := lv_entry [.ref (ad E 900 0), .int x] (n := 2) (Nat.le_of_ble_eq_true rfl)
  have hr := B.returns
  have hlk := B.notSynchronized
  rw [lg_entry_eq]
  generalize (lg_sl [.ref (ad E 900 0), .int x] ++ List.replicate (2 - (lg_sl [.ref (ad E 900 0), .int x]).length) Slot.unset).toArray = ls at hl ⊢
  have C : Cx E p s m [.ref (ad E 900 0), .int x].toArray c cX9_keep 2 RX9 := ⟨⟨B.exec, B.bytes, hml, hown, fun w hw => hts w (List.mem_cons_of_mem _ hw)⟩, hK, hD⟩
  have hx := C.1.1
  have hb := C.1.2.1
  have hl : lv_has ls 2 [(0, .ref (ad E 900 0)), (1, .int x)] := hl
  refine W.widen (k := 32) (n := 2775) (by omega) (by omega) ?_
  refine lv_iload_n hx hb dX9_keep_0 rfl (lv_at hl 1 rfl) ?_
  refine m_callS (As := [.int x]) (rest := []) C (μ := μ) ⟨hP, va_S.rf⟩ (c_X9_isTape l E hq) ml_X9_357 ks_X9_isTape rfl rfl ⟨Nat.le_of_ble_eq_true rfl, Nat.le_of_ble_eq_true rfl⟩ ⟨Nat.le_of_ble_eq_true rfl, Nat.le_of_ble_eq_true rfl⟩ rfl rfl hl.1 (Nat.le_of_ble_eq_true rfl) dX9_keep_1 (fun H locs hI => ?_)
  refine lv_if_ne (tgt := 9) hx hb dX9_keep_4 rfl (fun hc => absurd hc (by decide)) (fun hc => ?_)
  refine lv_iconst (v := (-1 : Int32)) hx hb dX9_keep_7 kc_m1 ?_
  exact W.iret hx hb hr (fun t ht _ => ⟨rfl, by rw [ht]; exact hI.1, by rw [ht]; exact hI.2.1, fun q h1 h2 => by rw [ht]; exact hI.2.2.1 q h1 (fun w => h2 (.inl w))⟩) (fun q hq => .inl (hI.2.2.2 q hq)) dX9_keep_8 hlk

theorem c_keep_in (l : Launch) {E E9 : En} {μ z : Mm} {F d sz : Nat} {r : Int32} (hd : d < 6) (hl9 : l9 E 0) (h900 : (900, 0) ∈ eL E9) (l70 : l7 E9 0) (x9 : ad E 900 0 = ad E9 900 0) (xd : eD E9 = eD E) (xt : tyE E9 = tyE E) (hA : ∀ q, Ad E9 q → Ad E q ∨ sz ≤ q) (gD : ∀ H : Heap, va_P (eD E) vwCl (wl E μ) H → H.size = sz → Dj E → Dj E9)
    (hM : Met l yX6_layCopy (wt yX6_layCopy cX6_layCopy 2 none) { frames := 4, cells := 32, slots := 2775, locals := 104 } (Pl E sz [.ref (ad E 600 d), .ref (ad E 700 0)] μ) (Ql E sz E9 none z) 32 2775 (fun q => Ad E q ∨ sz ≤ q)) (hr9 : f_X7_allMarks F z 0 = some r) :
    Met l yX9_keep (wt yX9_keep cX9_keep 2 (some .int)) { frames := 5, cells := 32, slots := 2775, locals := 125 } (Pl E sz [.ref (ad E 900 0), .int (nI d)] μ) (Ql E sz E9 (some (.int r)) z) 32 2775 (fun q => Ad E q ∨ sz ≤ q) := by
  refine Met.ofW (cc := cX9_keep) (maxL := 2) (ret := some .int) (by decide) rfl ?_
  intro p e s m args below meth c s₁ B hml hv
  obtain ⟨rfl, hz, hP, hK, hD, hN⟩ := hv
  have hts := atoms_spec (ws := wt yX9_keep cX9_keep 2 (some .int)) B.pre
  have hown : s.vm.findClass RX9 = some m.cls := findClass_of_methodNamed B.named
  have hl := lv_entry [.ref (ad E 900 0), .int (nI d)] (n := 2) (Nat.le_of_ble_eq_true rfl)
  have hr := B.returns
  have hlk := B.notSynchronized
  rw [lg_entry_eq]
  generalize (lg_sl [.ref (ad E 900 0), .int (nI d)] ++ List.replicate (2 - (lg_sl [.ref (ad E 900 0), .int (nI d)]).length) Slot.unset).toArray = ls at hl ⊢
  have hD9 : Dj E9 := gD s.heap hP hz hD
  have C : Cx E p s m [.ref (ad E 900 0), .int (nI d)].toArray c cX9_keep 2 RX9 := ⟨⟨B.exec, B.bytes, hml, hown, fun w hw => hts w (List.mem_cons_of_mem _ hw)⟩, hK, hD⟩
  have C9 : Cx E9 p s m [.ref (ad E 900 0), .int (nI d)].toArray c cX9_keep 2 RX9 := ⟨C.1, by rw [xd, xt]; exact C.2.1, hD9⟩
  have hx := C.1.1
  have hb := C.1.2.1
  have hl : lv_has ls 2 [(0, .ref (ad E 900 0)), (1, .int (nI d))] := hl
  have m6 : (600, d) ∈ eL E := by
    obtain ⟨-, -, -, -, -, -, -, -, -, -, g0, g1, g2, g3, g4, g5⟩ := hl9
    rcases (show d = 0 ∨ d = 1 ∨ d = 2 ∨ d = 3 ∨ d = 4 ∨ d = 5 by omega) with rfl | rfl | rfl | rfl | rfl | rfl
    · exact g0.1
    · exact g1.1
    · exact g2.1
    · exact g3.1
    · exact g4.1
    · exact g5.1
  refine lv_iload_n hx hb dX9_keep_0 rfl (lv_at hl 1 rfl) ?_
  refine m_callS (As := [.int (nI d)]) (rest := []) C (μ := μ) ⟨hP, va_S.rf⟩ (c_X9_isTape l E (isTape_in hd)) ml_X9_357 ks_X9_isTape rfl rfl ⟨Nat.le_of_ble_eq_true rfl, Nat.le_of_ble_eq_true rfl⟩ ⟨Nat.zero_le _, Nat.zero_le _⟩ rfl rfl hl.1 (Nat.le_of_ble_eq_true rfl) dX9_keep_1 (fun H locs hI => ?_)
  refine lv_if_ne (tgt := 9) hx hb dX9_keep_4 rfl (fun hc => ?_) (fun hc => absurd hc (by decide))
  refine lv_aload_n hx hb dX9_keep_9 rfl (lv_at hl 0 rfl) ?_
  refine gf_9_4 C hI hl9.1 fl_X9_32 dX9_keep_10 ?_
  refine lv_iload_n hx hb dX9_keep_13 rfl (lv_at hl 1 rfl) ?_
  refine m_aald (t0 := 4) (Cn := RX6) (v := d) (fun _ => rfl) C hI hl9.2.2.2.1 (ce_905 E _ _ _) (rq_in hd (by omega)) dX9_keep_14 ?_
  refine lv_aload_n hx hb dX9_keep_15 rfl (lv_at hl 0 rfl) ?_
  refine gf_9_0 C hI hl9.1 fl_X9_12 dX9_keep_16 ?_
  refine w_sz (fun hs => ?_)
  have hzH : H.size = sz := by have := hI.2.1; omega
  refine m_callL (rest := []) C hN hI hzH hz hM ml_X9_367 (m_recv C hI m6 (ce_600 E _ _ _) rfl) ⟨Nat.le_of_ble_eq_true rfl, Nat.le_of_ble_eq_true rfl⟩ ⟨Nat.le_of_ble_eq_true rfl, Nat.le_of_ble_eq_true rfl⟩ hl.1 (Nat.le_of_ble_eq_true rfl) dX9_keep_19 (fun H locs hP9 hS => ?_)
  refine lv_aload_n hx hb dX9_keep_22 rfl (lv_at hl 0 rfl) ?_
  refine W.eq (g2 := F0 m 23 ls [.ref (ad E9 900 0)]) (by rw [← x9]) ?_
  obtain ⟨j, -, h2⟩ := wl_get h900 z
  rw [ce_900] at h2
  have hP9' : va_P (eD E9) vwCl (wl E9 z) H := by rw [xd]; exact hP9
  refine va_get (D := eD E9) (ci := 9) (v := .ref (ad E9 700 0)) (C := RX9) (T := TX9) (N := 11) hx hb C.1.2.2.2.2 uw_9 C.1.2.2.2.1 C9.2.1 hP9' j h2 rfl 0 (by decide) (m_in C fl_X9_12) (fun _ h9 => h9) rfl dX9_keep_23 ?_
  obtain ⟨k1, k2, k3, k4, k5, k6, k7⟩ := kv_X7_allMarks
  have hrec : ∃ cell : Cell, H[ad E9 700 0]? = some cell ∧ cell.vm.isStatics = false ∧ s.vm.findClass yX7_allMarks.cls = some cell.cls := by
    obtain ⟨j, -, h2⟩ := wl_get l70.1 z
    rw [ce_700] at h2
    exact va_recv (ci := 7) (q := (RX7, TX7, 7)) C9.2.1 hP9' rfl h2
  intro T hT X
  obtain ⟨v', st₀, t, T', L, h0, X', hL, e1, e2, ⟨hv, hP8, hF⟩, st⟩ := va_runV (As := []) (rest := []) (g := F0 m 26 ls [.ref (ad E9 700 0)]) C9.1 (c_X7_allMarks l E9 l70 hr9) ⟨m_cb C9 ml_X9_92 k3 k4 k5 k6 k7 rfl rfl ⟨Nat.le_of_ble_eq_true rfl, Nat.le_of_ble_eq_true rfl⟩, m_in C k1, m_in C k2⟩ ⟨Pm_blind, hrec, fun U hU hW => ⟨rfl, by rw [hU]; exact hP9', va_K.moved hW.alike C9.2.1, hD9⟩⟩ rfl rfl hl.1 rfl (lv_room (Nat.le_of_ble_eq_true rfl)) dX9_keep_26 ⟨Nat.le_of_ble_eq_true rfl, Nat.le_of_ble_eq_true rfl⟩ T hT X
  cases hv
  have hF1 := hF.1
  have hF2 := hF.2
  rw [h0] at hF1 hF2
  have hS1 : va_S (fun q => Ad E q ∨ sz ≤ q) s.heap T'.heap (locs ++ L) := ⟨Nat.le_trans hS.1 (by rw [e1]; exact hF1), fun q h1 h2 => by rw [e1, hF2 q (Nat.lt_of_lt_of_le h1 hS.1) (fun w => h2 (hA q w))]; exact hS.2.1 q h1 h2, fun q hq => by
      rcases List.mem_append.mp hq with h | h
      · exact hS.2.2 q h
      · exact hA _ (hL q h)⟩
  obtain ⟨t2, a1, b1⟩ := (W.iret (Qc := Ql E sz E9 (some (.int r)) z) (free := fun q => Ad E q ∨ sz ≤ q) (v := r) (H := T'.heap) (locs := locs ++ L) (ls := ls) (pc := 29) hx hb hr (fun t1 ht _ => ⟨rfl, by rw [ht, e1, ← xd]; exact hP8, hS1.F ht⟩) hS1.2.2 dX9_keep_29 hlk) T' rfl X'
  exact ⟨t2, st t2 a1, b1⟩
