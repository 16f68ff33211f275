/-! THE LAW: the four methods that catch -/
def Pz (E : En) (ao : Nat) (g : Nat → Int64) (av : List Value) (μ : Mm) : Array Value → State → Prop := va_Pc av (fun U => (va_P (eD E) vwCl (wl E μ) U.heap ∧ va_K (eD E) vwCl (tyE E) U ∧ Dj E) ∧ XF (Ad E) U U.heap ∧ va_Nc isE iaE U ∧ va_at (eD E) vwCl (ao, .inl (cy E 2, 1, .inr (.inl g))) U.heap ∧ ¬ Ad E ao)
def Qz (E : En) (ao : Nat) (k : Int32) (v : Int64) (μ : Mm) : Array Value → State → Outcome → State → Prop := fun _ st oc t => oc = .returned (some (.int k)) ∧ va_P (eD E) vwCl (wl E μ) t.heap ∧ (∃ g : Nat → Int64, va_at (eD E) vwCl (ao, .inl (cy E 2, 1, .inr (.inl g))) t.heap ∧ (k = 0 → g 0 = v)) ∧ va_F (fun q => Ad E q ∨ q = ao) st t
theorem Pz_blind {E : En} {ao : Nat} {g : Nat → Int64} {av : List Value} {μ : Mm} : FrameBlind (Pz E ao g av μ) := fun a U f mk q => by
  obtain ⟨q0, ⟨qP, qK, qD⟩, qX, qN, qO, qA⟩ := q
  exact ⟨q0, ⟨qP, va_K.moved (u := U) (U := U.calling f mk a) (Vm.Alike.refl U.vm) qK, qD⟩, XF.moved (U := U.calling f mk a) qX (State.WarmedH.refl U), va_Nc.moved (u := U) (U := U.calling f mk a) (Vm.Alike.refl U.vm) qN, qO, qA⟩
theorem cl_L_13 : Cond.classLink RL 13 iaE ∈ T1 := T1_of 1036 (by decide +kernel) rfl
theorem cl_L_15 : Cond.classLink RL 15 isE ∈ T1 := T1_of 1037 (by decide +kernel) rfl
section ZZ
variable {p : Program} {l : Launch} {e : Env} {R : Room} {s : State} {m : MethodId} {args : Array Value} {below : List Frame} {meth : Method} {c : Code} {H : Heap} {locs : List Loc} {cells slots : Nat} {Q : State → Prop}
variable {E : En} {μ μ' : Mm} {cc : ByteArray} {nL : Nat} {own : String} {pc : Nat} {ls : Array Slot} {rest : List Value} {ao : Nat} {g : Nat → Int64}
theorem z_call {k : Int32} {v : Value} {st0 : List Value} {a : Array Value} (hr : vx_Run p l e R s m args below meth c H locs cells slots 1 6 (F0 m pc ls st0) rest (Qx E k v μ' a) (Xx E k μ') (Ad E)) (hS : va_S (fun q => Ad E q ∨ q = ao) s.heap H locs) (hO : va_at (eD E) vwCl (ao, .inl (cy E 2, 1, .inr (.inl g))) H) (hA : ¬ Ad E ao)
    (kk : k = 0 → ∀ (H1 : Heap) (locs1 : List Loc), va_P (eD E) vwCl (wl E μ') H1 → va_at (eD E) vwCl (ao, .inl (cy E 2, 1, .inr (.inl g))) H1 → va_S (fun q => Ad E q ∨ q = ao) s.heap H1 locs1 → W p l e R s m args below meth c H1 locs1 (cells + 1) (slots + 6) Q (F0 m (pc + 3) ls (v :: rest)))
    (kx : ∀ (n : String) (ce : Cell) (q9 : Addr) (H1 : Heap) (locs1 : List Loc), ((k = 1 ∧ n = iaE) ∨ (k = 2 ∧ n = isE)) → va_P (eD E) vwCl (wl E μ') H1 → va_at (eD E) vwCl (ao, .inl (cy E 2, 1, .inr (.inl g))) H1 → va_S (fun q => Ad E q ∨ q = ao) s.heap H1 locs1 → H1[q9]? = some ce → ce.vm = .none → s.vm.findClass n = some ce.cls → vx_W p l e R s m args below meth c H1 locs1 (cells + 1) (slots + 6) Q (F0 m pc ls rest) q9) : W p l e R s m args below meth c H locs cells slots Q (F0 m pc ls st0) := by
  intro T hT X
  rcases hr T hT X with ⟨v', st₀, t, T', L, h0, X', hL, e1, e2, ⟨hk, hv, hP, hF⟩, st⟩ | ⟨q, st₀, t, T', L, n, ce, h0, X', hL, e1, e2, ⟨hz, hP, hF⟩, hce, hcv, hcl, st⟩
  · cases hv
    obtain ⟨k1, k2, k3⟩ := vx_keep h0 e1 hS (fun q _ h => .inl h) (fun q h => .inl h) hL hF
    obtain ⟨t2, a1, b1⟩ := kk hk T'.heap (locs ++ L) (by rw [e1]; exact hP) (hO.kept (k2 ao hO.lt hA)) k3 T' rfl X'
    exact ⟨t2, st t2 a1, b1⟩
  · obtain ⟨k1, k2, k3⟩ := vx_keep h0 e1 hS (fun q _ h => .inl h) (fun q h => .inl h) hL hF
    obtain ⟨t2, a1, b1⟩ := kx n ce q T'.heap (locs ++ L) hz (by rw [e1]; exact hP) (hO.kept (k2 ao hO.lt hA)) k3 (by rw [e1]; exact hce) hcv hcl T' rfl X'
    exact ⟨t2, st.trans a1, b1⟩
/-- out[0] = v -/
theorem z_last {v : Int64} (C : Cx E p s m args c cc nL own) (hP : va_P (eD E) vwCl (wl E μ) H) (hO : va_at (eD E) vwCl (ao, .inl (cy E 2, 1, .inr (.inl g))) H) (hS : va_S (fun q => Ad E q ∨ q = ao) s.heap H locs) (hA : ¬ Ad E ao) (hdg : decode cc pc = .ok (.lastore, 1))
    (kk : ∀ (H1 : Heap) (locs1 : List Loc), va_P (eD E) vwCl (wl E μ) H1 → va_at (eD E) vwCl (ao, .inl (cy E 2, 1, .inr (.inl (vp_updL g 0 v)))) H1 → va_S (fun q => Ad E q ∨ q = ao) s.heap H1 locs1 → W p l e R s m args below meth c H1 locs1 cells slots Q (F0 m (pc + 1) ls rest)) : W p l e R s m args below meth c H locs cells slots Q (F0 m pc ls (.long v :: .int 0 :: .ref ao :: rest)) := by
  refine W.last C.1.1 C.1.2.1 hO ((C.2.1.2 2 _ rfl).1 1 (fun j => .long (g j))) (fun q => by cases q) (by show ¬ ((0 : Int32) < 0 ∨ (arrV _ _ _).slots.size ≤ _); rw [arrV_size]; exact (by decide : ¬ ((0 : Int32) < 0 ∨ 1 ≤ Int32.toNatClampNeg 0))) rfl rfl hdg fun H1 e9 z oq => ?_
  refine kk H1 _ (fun k q hq => ?_) ?_ (hS.put z oq (.inr rfl))
  · refine (hP k q hq).kept (oq q.1 (fun w => ?_))
    obtain ⟨c9, h9, rfl⟩ := wl_at hq
    exact hA ⟨c9, List.mem_of_getElem? h9, w⟩
  · show H1[ao]? = some (vp_cell _ _)
    rw [e9]
    rw [vp_cell_l, vp_cell_l, arrV_store]
    congr 2
    funext q
    by_cases hq : q = 0
    · subst hq
      simp [updV, vp_updL]
    · simp [updV, vp_updL, hq]
theorem z_ia {H : Heap} {q9 : Addr} {ce : Cell} {hi h1 h2 : Nat} (C : Cx E p s m args c cc nL RL) (hX : XF (Ad E) s s.heap) (htb : c.exceptionTable.toList = tableOf [(0, hi, h1, 13), (0, hi, h2, 15)]) (hpc : pc < hi) (hcell : H[q9]? = some ce) (hv : ce.vm = .none) (hcl : s.vm.findClass iaE = some ce.cls)
    (kk : W p l e R s m args below meth c H locs cells slots Q (F0 m h1 ls [.ref q9])) : vx_W p l e R s m args below meth c H locs cells slots Q (F0 m pc ls rest) q9 :=
  vx_catch (own := RL) (name := iaE) (E := iaE) C.1.2.2.2.1 [] ⟨0, hi, h1, 13⟩ [⟨0, hi, h2, 15⟩] htb (fun z hz => by cases hz) (by simp [covers, hpc]) (by decide : (13 : Nat) ≠ 0) (m_in C cl_L_13) (va_tabs (BX_tab (w := .castable iaE iaE) (by decide)) rfl (hX.2.2.1 (.castable iaE iaE) (by decide))) hcell hv hcl kk
theorem z_is {H : Heap} {q9 : Addr} {ce : Cell} {hi h1 h2 : Nat} (C : Cx E p s m args c cc nL RL) (hX : XF (Ad E) s s.heap) (hN : va_Nc isE iaE s) (htb : c.exceptionTable.toList = tableOf [(0, hi, h1, 13), (0, hi, h2, 15)]) (hpc : pc < hi) (hcell : H[q9]? = some ce) (hv : ce.vm = .none) (hcl : s.vm.findClass isE = some ce.cls)
    (kk : W p l e R s m args below meth c H locs cells slots Q (F0 m h2 ls [.ref q9])) : vx_W p l e R s m args below meth c H locs cells slots Q (F0 m pc ls rest) q9 :=
  vx_catch (own := RL) (name := isE) (E := isE) C.1.2.2.2.1 [⟨0, hi, h1, 13⟩] ⟨0, hi, h2, 15⟩ [] htb (fun z hz => by
    cases List.mem_singleton.mp hz
    exact .inr ⟨(by decide : (13 : Nat) ≠ 0), iaE, m_in C cl_L_13, hN⟩) (by simp [covers, hpc]) (by decide : (15 : Nat) ≠ 0) (m_in C cl_L_15) (va_tabs (BX_tab (w := .castable isE isE) (by decide)) rfl (hX.2.2.1 (.castable isE isE) (by decide))) hcell hv hcl kk
end ZZ
theorem dL_gap_0 : decode cL_gap 0 = .ok (.aload 4, 2) := by decide +kernel
theorem dL_gap_2 : decode cL_gap 2 = .ok (.iconst 0, 1) := by decide +kernel
theorem dL_gap_3 : decode cL_gap 3 = .ok (.aload_n 0, 1) := by decide +kernel
theorem dL_gap_4 : decode cL_gap 4 = .ok (.iload_n 1, 1) := by decide +kernel
theorem dL_gap_5 : decode cL_gap 5 = .ok (.iload_n 2, 1) := by decide +kernel
theorem dL_gap_6 : decode cL_gap 6 = .ok (.iload_n 3, 1) := by decide +kernel
theorem dL_gap_7 : decode cL_gap 7 = .ok (.invokevirtual 7, 3) := by decide +kernel
theorem dL_gap_10 : decode cL_gap 10 = .ok (.i2l, 1) := by decide +kernel
theorem dL_gap_11 : decode cL_gap 11 = .ok (.lastore, 1) := by decide +kernel
theorem dL_gap_12 : decode cL_gap 12 = .ok (.goto 11, 3) := by decide +kernel
theorem dL_gap_15 : decode cL_gap 15 = .ok (.astore 5, 2) := by decide +kernel
theorem dL_gap_17 : decode cL_gap 17 = .ok (.iconst 1, 1) := by decide +kernel
theorem dL_gap_18 : decode cL_gap 18 = .ok (.ireturn, 1) := by decide +kernel
theorem dL_gap_19 : decode cL_gap 19 = .ok (.astore 5, 2) := by decide +kernel
theorem dL_gap_21 : decode cL_gap 21 = .ok (.iconst 2, 1) := by decide +kernel
theorem dL_gap_22 : decode cL_gap 22 = .ok (.ireturn, 1) := by decide +kernel
theorem dL_gap_23 : decode cL_gap 23 = .ok (.iconst 0, 1) := by decide +kernel
theorem dL_gap_24 : decode cL_gap 24 = .ok (.ireturn, 1) := by decide +kernel
theorem cw_L_gap : Cond.codeWith yL_gap cL_gap 6 (some .int) [(0, 12, 15, 13), (0, 12, 19, 15)] ∈ T1 := T1_of 1035 (by decide +kernel) rfl
set_option maxHeartbeats 4000000 in
set_option maxRecDepth 100000 in
theorem c_L_gap (l : Launch) (hst : l.stackTraces = false) (E : En) {F : Nat} {μ : Mm} {p1 p2 p3 : Int32} {ao : Nat} {g : Nat → Int64} (h0 : l9 E 0) {z : Int32 × Int32 × Mm} (hf : f_X9_gap F μ p1 p2 p3 = some z) : Met l yL_gap (Cond.codeWith yL_gap cL_gap 6 (some .int) [(0, 12, 15, 13), (0, 12, 19, 15)] :: T1) { frames := 7, cells := 1, slots := 6, locals := 140 } (Pz E ao g [.ref (ad E 900 0), .int p1, .int p2, .int p3, .ref ao] μ) (Qz E ao z.1 (z.2.1.toInt64) z.2.2) 1 6 (fun q => Ad E q ∨ q = ao) := by
  refine va_MetW (cc := cL_gap) (maxL := 6) (ret := some .int) (hh := [(0, 12, 15, 13), (0, 12, 19, 15)]) (by decide) rfl ?_
  intro p e s m args below meth c s₁ B hml hv
  obtain ⟨rfl, ⟨hP, hK, hD⟩, hX, hN, hO, hA⟩ := hv
  have hts := atoms_spec (ws := Cond.codeWith yL_gap cL_gap 6 (some .int) [(0, 12, 15, 13), (0, 12, 19, 15)] :: T1) B.pre
  have hown : s.vm.findClass RL = some m.cls := findClass_of_methodNamed B.named
  have htb : c.exceptionTable.toList = tableOf [(0, 12, 15, 13), (0, 12, 19, 15)] := vx_table (x := yL_gap) B (hts _ List.mem_cons_self)
  have hl := lv_entry [.ref (ad E 900 0), .int p1, .int p2, .int p3, .ref ao] (n := 6) (Nat.le_of_ble_eq_true rfl)
  have hr := B.returns
  have hlk := B.notSynchronized
  rw [lg_entry_eq]
  generalize (lg_sl [.ref (ad E 900 0), .int p1, .int p2, .int p3, .ref ao] ++ List.replicate (6 - (lg_sl [.ref (ad E 900 0), .int p1, .int p2, .int p3, .ref ao]).length) Slot.unset).toArray = ls at hl ⊢
  have C : Cx E p s m [.ref (ad E 900 0), .int p1, .int p2, .int p3, .ref ao].toArray c cL_gap 6 RL := ⟨⟨B.exec, B.bytes, hml, hown, fun w hw => hts w (List.mem_cons_of_mem _ hw)⟩, hK, hD⟩
  have hx := C.1.1
  have hb := C.1.2.1
  have hl : lv_has ls 6 [(0, .ref (ad E 900 0)), (1, .int p1), (2, .int p2), (3, .int p3), (4, .ref ao)] := hl
  refine lv_aload hx hb dL_gap_0 (lv_at hl 4 rfl) ?_
  refine lv_iconst (v := (0 : Int32)) hx hb dL_gap_2 kc_0 ?_
  refine lv_aload_n hx hb dL_gap_3 rfl (lv_at hl 0 rfl) ?_
  refine lv_iload_n hx hb dL_gap_4 rfl (lv_at hl 1 rfl) ?_
  refine lv_iload_n hx hb dL_gap_5 rfl (lv_at hl 2 rfl) ?_
  refine lv_iload_n hx hb dL_gap_6 rfl (lv_at hl 3 rfl) ?_
  obtain ⟨k1, k2, k3, k4, k5, k6, k7⟩ := kv_X9_gap
  have hI : Iv E s μ s.heap [] := ⟨hP, va_S.rf⟩
  refine z_call (ao := ao) (g := g) (vx_runV (As := [.int p1, .int p2, .int p3]) (rest := [.int 0, .ref ao]) C.1 (c_X9_gap l hst E h0 hf) ⟨callB_of 3 C.1.2.2.2.2 (fun w h => by
      have : w ∈ T1 := by
        rcases List.mem_cons.mp h with rfl | h
        · exact k4
        · exact h
      exact ⟨this, T1_good this⟩) rfl rfl rfl (m_in C k3) (m_in C ml_L_7) ⟨k5, k6, k7⟩ ⟨Nat.le_of_ble_eq_true rfl, Nat.le_of_ble_eq_true rfl⟩, m_in C k1, m_in C k2⟩ ⟨Pmx_blind, m_recv C hI h0.1 (ce_900 E _ _ _) rfl, fun U hU hW => ⟨rfl, ⟨by rw [hU]; exact hP, va_K.moved hW.alike C.2.1, C.2.2⟩, by rw [hU]; exact hX.moved hW⟩⟩ rfl rfl hl.1 rfl (lv_room (Nat.le_of_ble_eq_true rfl)) dL_gap_7 ⟨Nat.le_of_ble_eq_true rfl, Nat.le_of_ble_eq_true rfl⟩) va_S.rf hO hA (fun hk H locs hP hO hS => ?_) (fun n ce q9 H locs hz hP hO hS hc1 hc2 hc3 => ?_)
  · refine lv_i2l (v := z.2.1.toInt64) hx hb dL_gap_10 rfl ?_
    refine z_last C hP hO hS hA dL_gap_11 (fun H locs hP hO hS => ?_)
    refine lv_goto (tgt := 23) hx hb dL_gap_12 rfl ?_
    refine lv_iconst (v := (0 : Int32)) hx hb dL_gap_23 kc_0 ?_
    exact W.iret hx hb hr (fun t ht _ => ⟨by rw [hk], by rw [ht]; exact hP, ⟨_, by rw [ht]; exact hO, fun _ => rfl⟩, hS.F ht⟩) hS.2.2 dL_gap_24 hlk
  · rcases hz with ⟨hk, rfl⟩ | ⟨hk, rfl⟩
    · refine z_ia C hX htb (by decide) hc1 hc2 hc3 ?_
      refine lv_astore hx hb dL_gap_15 hl (by decide) rfl (fun ls hl => ?_)
      refine lv_iconst (v := (1 : Int32)) hx hb dL_gap_17 kc_1 ?_
      exact W.iret hx hb hr (fun t ht _ => ⟨by rw [hk], by rw [ht]; exact hP, ⟨_, by rw [ht]; exact hO, fun w => absurd (hk.symm.trans w) (by decide)⟩, hS.F ht⟩) hS.2.2 dL_gap_18 hlk
    · refine z_is C hX hN htb (by decide) hc1 hc2 hc3 ?_
      refine lv_astore hx hb dL_gap_19 hl (by decide) rfl (fun ls hl => ?_)
      refine lv_iconst (v := (2 : Int32)) hx hb dL_gap_21 kc_2 ?_
      exact W.iret hx hb hr (fun t ht _ => ⟨by rw [hk], by rw [ht]; exact hP, ⟨_, by rw [ht]; exact hO, fun w => absurd (hk.symm.trans w) (by decide)⟩, hS.F ht⟩) hS.2.2 dL_gap_22 hlk
theorem dL_answer_0 : decode cL_answer 0 = .ok (.aload_n 3, 1) := by decide +kernel
theorem dL_answer_1 : decode cL_answer 1 = .ok (.iconst 0, 1) := by decide +kernel
theorem dL_answer_2 : decode cL_answer 2 = .ok (.aload_n 0, 1) := by decide +kernel
theorem dL_answer_3 : decode cL_answer 3 = .ok (.iload_n 1, 1) := by decide +kernel
theorem dL_answer_4 : decode cL_answer 4 = .ok (.iload_n 2, 1) := by decide +kernel
theorem dL_answer_5 : decode cL_answer 5 = .ok (.invokevirtual 17, 3) := by decide +kernel
theorem dL_answer_8 : decode cL_answer 8 = .ok (.i2l, 1) := by decide +kernel
theorem dL_answer_9 : decode cL_answer 9 = .ok (.lastore, 1) := by decide +kernel
theorem dL_answer_10 : decode cL_answer 10 = .ok (.goto 11, 3) := by decide +kernel
theorem dL_answer_13 : decode cL_answer 13 = .ok (.astore 4, 2) := by decide +kernel
theorem dL_answer_15 : decode cL_answer 15 = .ok (.iconst 1, 1) := by decide +kernel
theorem dL_answer_16 : decode cL_answer 16 = .ok (.ireturn, 1) := by decide +kernel
theorem dL_answer_17 : decode cL_answer 17 = .ok (.astore 4, 2) := by decide +kernel
theorem dL_answer_19 : decode cL_answer 19 = .ok (.iconst 2, 1) := by decide +kernel
theorem dL_answer_20 : decode cL_answer 20 = .ok (.ireturn, 1) := by decide +kernel
theorem dL_answer_21 : decode cL_answer 21 = .ok (.iconst 0, 1) := by decide +kernel
theorem dL_answer_22 : decode cL_answer 22 = .ok (.ireturn, 1) := by decide +kernel
theorem cw_L_answer : Cond.codeWith yL_answer cL_answer 5 (some .int) [(0, 10, 13, 13), (0, 10, 17, 15)] ∈ T1 := T1_of 1136 (by decide +kernel) rfl
set_option maxHeartbeats 4000000 in
set_option maxRecDepth 100000 in
theorem c_L_answer (l : Launch) (hst : l.stackTraces = false) (E : En) {F : Nat} {μ : Mm} {p1 p2 : Int32} {ao : Nat} {g : Nat → Int64} (h0 : l9 E 0) {z : Int32 × Int32 × Mm} (hf : f_X9_answer F μ p1 p2 = some z) : Met l yL_answer (Cond.codeWith yL_answer cL_answer 5 (some .int) [(0, 10, 13, 13), (0, 10, 17, 15)] :: T1) { frames := 7, cells := 1, slots := 6, locals := 140 } (Pz E ao g [.ref (ad E 900 0), .int p1, .int p2, .ref ao] μ) (Qz E ao z.1 (z.2.1.toInt64) z.2.2) 1 6 (fun q => Ad E q ∨ q = ao) := by
  refine va_MetW (cc := cL_answer) (maxL := 5) (ret := some .int) (hh := [(0, 10, 13, 13), (0, 10, 17, 15)]) (by decide) rfl ?_
  intro p e s m args below meth c s₁ B hml hv
  obtain ⟨rfl, ⟨hP, hK, hD⟩, hX, hN, hO, hA⟩ := hv
  have hts := atoms_spec (ws := Cond.codeWith yL_answer cL_answer 5 (some .int) [(0, 10, 13, 13), (0, 10, 17, 15)] :: T1) B.pre
  have hown : s.vm.findClass RL = some m.cls := findClass_of_methodNamed B.named
  have htb : c.exceptionTable.toList = tableOf [(0, 10, 13, 13), (0, 10, 17, 15)] := vx_table (x := yL_answer) B (hts _ List.mem_cons_self)
  have hl := lv_entry [.ref (ad E 900 0), .int p1, .int p2, .ref ao] (n := 5) (Nat.le_of_ble_eq_true rfl)
  have hr := B.returns
  have hlk := B.notSynchronized
  rw [lg_entry_eq]
  generalize (lg_sl [.ref (ad E 900 0), .int p1, .int p2, .ref ao] ++ List.replicate (5 - (lg_sl [.ref (ad E 900 0), .int p1, .int p2, .ref ao]).length) Slot.unset).toArray = ls at hl ⊢
  have C : Cx E p s m [.ref (ad E 900 0), .int p1, .int p2, .ref ao].toArray c cL_answer 5 RL := ⟨⟨B.exec, B.bytes, hml, hown, fun w hw => hts w (List.mem_cons_of_mem _ hw)⟩, hK, hD⟩
  have hx := C.1.1
  have hb := C.1.2.1
  have hl : lv_has ls 5 [(0, .ref (ad E 900 0)), (1, .int p1), (2, .int p2), (3, .ref ao)] := hl
  refine lv_aload_n hx hb dL_answer_0 rfl (lv_at hl 3 rfl) ?_
  refine lv_iconst (v := (0 : Int32)) hx hb dL_answer_1 kc_0 ?_
  refine lv_aload_n hx hb dL_answer_2 rfl (lv_at hl 0 rfl) ?_
  refine lv_iload_n hx hb dL_answer_3 rfl (lv_at hl 1 rfl) ?_
  refine lv_iload_n hx hb dL_answer_4 rfl (lv_at hl 2 rfl) ?_
  obtain ⟨k1, k2, k3, k4, k5, k6, k7⟩ := kv_X9_answer
  have hI : Iv E s μ s.heap [] := ⟨hP, va_S.rf⟩
  refine z_call (ao := ao) (g := g) (vx_runV (As := [.int p1, .int p2]) (rest := [.int 0, .ref ao]) C.1 (c_X9_answer l hst E h0 hf) ⟨callB_of 2 C.1.2.2.2.2 (fun w h => by
      have : w ∈ T1 := by
        rcases List.mem_cons.mp h with rfl | h
        · exact k4
        · exact h
      exact ⟨this, T1_good this⟩) rfl rfl rfl (m_in C k3) (m_in C ml_L_17) ⟨k5, k6, k7⟩ ⟨Nat.le_of_ble_eq_true rfl, Nat.le_of_ble_eq_true rfl⟩, m_in C k1, m_in C k2⟩ ⟨Pmx_blind, m_recv C hI h0.1 (ce_900 E _ _ _) rfl, fun U hU hW => ⟨rfl, ⟨by rw [hU]; exact hP, va_K.moved hW.alike C.2.1, C.2.2⟩, by rw [hU]; exact hX.moved hW⟩⟩ rfl rfl hl.1 rfl (lv_room (Nat.le_of_ble_eq_true rfl)) dL_answer_5 ⟨Nat.le_of_ble_eq_true rfl, Nat.le_of_ble_eq_true rfl⟩) va_S.rf hO hA (fun hk H locs hP hO hS => ?_) (fun n ce q9 H locs hz hP hO hS hc1 hc2 hc3 => ?_)
  · refine lv_i2l (v := z.2.1.toInt64) hx hb dL_answer_8 rfl ?_
    refine z_last C hP hO hS hA dL_answer_9 (fun H locs hP hO hS => ?_)
    refine lv_goto (tgt := 21) hx hb dL_answer_10 rfl ?_
    refine lv_iconst (v := (0 : Int32)) hx hb dL_answer_21 kc_0 ?_
    exact W.iret hx hb hr (fun t ht _ => ⟨by rw [hk], by rw [ht]; exact hP, ⟨_, by rw [ht]; exact hO, fun _ => rfl⟩, hS.F ht⟩) hS.2.2 dL_answer_22 hlk
  · rcases hz with ⟨hk, rfl⟩ | ⟨hk, rfl⟩
    · refine z_ia C hX htb (by decide) hc1 hc2 hc3 ?_
      refine lv_astore hx hb dL_answer_13 hl (by decide) rfl (fun ls hl => ?_)
      refine lv_iconst (v := (1 : Int32)) hx hb dL_answer_15 kc_1 ?_
      exact W.iret hx hb hr (fun t ht _ => ⟨by rw [hk], by rw [ht]; exact hP, ⟨_, by rw [ht]; exact hO, fun w => absurd (hk.symm.trans w) (by decide)⟩, hS.F ht⟩) hS.2.2 dL_answer_16 hlk
    · refine z_is C hX hN htb (by decide) hc1 hc2 hc3 ?_
      refine lv_astore hx hb dL_answer_17 hl (by decide) rfl (fun ls hl => ?_)
      refine lv_iconst (v := (2 : Int32)) hx hb dL_answer_19 kc_2 ?_
      exact W.iret hx hb hr (fun t ht _ => ⟨by rw [hk], by rw [ht]; exact hP, ⟨_, by rw [ht]; exact hO, fun w => absurd (hk.symm.trans w) (by decide)⟩, hS.F ht⟩) hS.2.2 dL_answer_20 hlk
theorem dL_differ_0 : decode cL_differ 0 = .ok (.aload 4, 2) := by decide +kernel
theorem dL_differ_2 : decode cL_differ 2 = .ok (.iconst 0, 1) := by decide +kernel
theorem dL_differ_3 : decode cL_differ 3 = .ok (.aload_n 0, 1) := by decide +kernel
theorem dL_differ_4 : decode cL_differ 4 = .ok (.iload_n 1, 1) := by decide +kernel
theorem dL_differ_5 : decode cL_differ 5 = .ok (.iload_n 2, 1) := by decide +kernel
theorem dL_differ_6 : decode cL_differ 6 = .ok (.iload_n 3, 1) := by decide +kernel
theorem dL_differ_7 : decode cL_differ 7 = .ok (.invokevirtual 21, 3) := by decide +kernel
theorem dL_differ_10 : decode cL_differ 10 = .ok (.i2l, 1) := by decide +kernel
theorem dL_differ_11 : decode cL_differ 11 = .ok (.lastore, 1) := by decide +kernel
theorem dL_differ_12 : decode cL_differ 12 = .ok (.goto 11, 3) := by decide +kernel
theorem dL_differ_15 : decode cL_differ 15 = .ok (.astore 5, 2) := by decide +kernel
theorem dL_differ_17 : decode cL_differ 17 = .ok (.iconst 1, 1) := by decide +kernel
theorem dL_differ_18 : decode cL_differ 18 = .ok (.ireturn, 1) := by decide +kernel
theorem dL_differ_19 : decode cL_differ 19 = .ok (.astore 5, 2) := by decide +kernel
theorem dL_differ_21 : decode cL_differ 21 = .ok (.iconst 2, 1) := by decide +kernel
theorem dL_differ_22 : decode cL_differ 22 = .ok (.ireturn, 1) := by decide +kernel
theorem dL_differ_23 : decode cL_differ 23 = .ok (.iconst 0, 1) := by decide +kernel
theorem dL_differ_24 : decode cL_differ 24 = .ok (.ireturn, 1) := by decide +kernel
theorem cw_L_differ : Cond.codeWith yL_differ cL_differ 6 (some .int) [(0, 12, 15, 13), (0, 12, 19, 15)] ∈ T1 := T1_of 1148 (by decide +kernel) rfl
set_option maxHeartbeats 4000000 in
set_option maxRecDepth 100000 in
theorem c_L_differ (l : Launch) (hst : l.stackTraces = false) (E : En) {F : Nat} {μ : Mm} {p1 p2 p3 : Int32} {ao : Nat} {g : Nat → Int64} (h0 : l9 E 0) {z : Int32 × Int32 × Mm} (hkp : ∀ d, d < 6 → ¬ μ.1 600 d 3 = 0 → l7 E (d + 1)) (hf : f_X9_differ F μ p1 p2 p3 = some z) : Met l yL_differ (Cond.codeWith yL_differ cL_differ 6 (some .int) [(0, 12, 15, 13), (0, 12, 19, 15)] :: T1) { frames := 7, cells := 1, slots := 6, locals := 140 } (Pz E ao g [.ref (ad E 900 0), .int p1, .int p2, .int p3, .ref ao] μ) (Qz E ao z.1 (z.2.1.toInt64) z.2.2) 1 6 (fun q => Ad E q ∨ q = ao) := by
  refine va_MetW (cc := cL_differ) (maxL := 6) (ret := some .int) (hh := [(0, 12, 15, 13), (0, 12, 19, 15)]) (by decide) rfl ?_
  intro p e s m args below meth c s₁ B hml hv
  obtain ⟨rfl, ⟨hP, hK, hD⟩, hX, hN, hO, hA⟩ := hv
  have hts := atoms_spec (ws := Cond.codeWith yL_differ cL_differ 6 (some .int) [(0, 12, 15, 13), (0, 12, 19, 15)] :: T1) B.pre
  have hown : s.vm.findClass RL = some m.cls := findClass_of_methodNamed B.named
  have htb : c.exceptionTable.toList = tableOf [(0, 12, 15, 13), (0, 12, 19, 15)] := vx_table (x := yL_differ) B (hts _ List.mem_cons_self)
  have hl := lv_entry [.ref (ad E 900 0), .int p1, .int p2, .int p3, .ref ao] (n := 6) (Nat.le_of_ble_eq_true rfl)
  have hr := B.returns
  have hlk := B.notSynchronized
  rw [lg_entry_eq]
  generalize (lg_sl [.ref (ad E 900 0), .int p1, .int p2, .int p3, .ref ao] ++ List.replicate (6 - (lg_sl [.ref (ad E 900 0), .int p1, .int p2, .int p3, .ref ao]).length) Slot.unset).toArray = ls at hl ⊢
  have C : Cx E p s m [.ref (ad E 900 0), .int p1, .int p2, .int p3, .ref ao].toArray c cL_differ 6 RL := ⟨⟨B.exec, B.bytes, hml, hown, fun w hw => hts w (List.mem_cons_of_mem _ hw)⟩, hK, hD⟩
  have hx := C.1.1
  have hb := C.1.2.1
  have hl : lv_has ls 6 [(0, .ref (ad E 900 0)), (1, .int p1), (2, .int p2), (3, .int p3), (4, .ref ao)] := hl
  refine lv_aload hx hb dL_differ_0 (lv_at hl 4 rfl) ?_
  refine lv_iconst (v := (0 : Int32)) hx hb dL_differ_2 kc_0 ?_
  refine lv_aload_n hx hb dL_differ_3 rfl (lv_at hl 0 rfl) ?_
  refine lv_iload_n hx hb dL_differ_4 rfl (lv_at hl 1 rfl) ?_
  refine lv_iload_n hx hb dL_differ_5 rfl (lv_at hl 2 rfl) ?_
  refine lv_iload_n hx hb dL_differ_6 rfl (lv_at hl 3 rfl) ?_
  obtain ⟨k1, k2, k3, k4, k5, k6, k7⟩ := kv_X9_differ
  have hI : Iv E s μ s.heap [] := ⟨hP, va_S.rf⟩
  refine z_call (ao := ao) (g := g) (vx_runV (As := [.int p1, .int p2, .int p3]) (rest := [.int 0, .ref ao]) C.1 (c_X9_differ l hst E h0 hkp hf) ⟨callB_of 3 C.1.2.2.2.2 (fun w h => by
      have : w ∈ T1 := by
        rcases List.mem_cons.mp h with rfl | h
        · exact k4
        · exact h
      exact ⟨this, T1_good this⟩) rfl rfl rfl (m_in C k3) (m_in C ml_L_21) ⟨k5, k6, k7⟩ ⟨Nat.le_of_ble_eq_true rfl, Nat.le_of_ble_eq_true rfl⟩, m_in C k1, m_in C k2⟩ ⟨Pmx_blind, m_recv C hI h0.1 (ce_900 E _ _ _) rfl, fun U hU hW => ⟨rfl, ⟨by rw [hU]; exact hP, va_K.moved hW.alike C.2.1, C.2.2⟩, by rw [hU]; exact hX.moved hW⟩⟩ rfl rfl hl.1 rfl (lv_room (Nat.le_of_ble_eq_true rfl)) dL_differ_7 ⟨Nat.le_of_ble_eq_true rfl, Nat.le_of_ble_eq_true rfl⟩) va_S.rf hO hA (fun hk H locs hP hO hS => ?_) (fun n ce q9 H locs hz hP hO hS hc1 hc2 hc3 => ?_)
  · refine lv_i2l (v := z.2.1.toInt64) hx hb dL_differ_10 rfl ?_
    refine z_last C hP hO hS hA dL_differ_11 (fun H locs hP hO hS => ?_)
    refine lv_goto (tgt := 23) hx hb dL_differ_12 rfl ?_
    refine lv_iconst (v := (0 : Int32)) hx hb dL_differ_23 kc_0 ?_
    exact W.iret hx hb hr (fun t ht _ => ⟨by rw [hk], by rw [ht]; exact hP, ⟨_, by rw [ht]; exact hO, fun _ => rfl⟩, hS.F ht⟩) hS.2.2 dL_differ_24 hlk
  · rcases hz with ⟨hk, rfl⟩ | ⟨hk, rfl⟩
    · refine z_ia C hX htb (by decide) hc1 hc2 hc3 ?_
      refine lv_astore hx hb dL_differ_15 hl (by decide) rfl (fun ls hl => ?_)
      refine lv_iconst (v := (1 : Int32)) hx hb dL_differ_17 kc_1 ?_
      exact W.iret hx hb hr (fun t ht _ => ⟨by rw [hk], by rw [ht]; exact hP, ⟨_, by rw [ht]; exact hO, fun w => absurd (hk.symm.trans w) (by decide)⟩, hS.F ht⟩) hS.2.2 dL_differ_18 hlk
    · refine z_is C hX hN htb (by decide) hc1 hc2 hc3 ?_
      refine lv_astore hx hb dL_differ_19 hl (by decide) rfl (fun ls hl => ?_)
      refine lv_iconst (v := (2 : Int32)) hx hb dL_differ_21 kc_2 ?_
      exact W.iret hx hb hr (fun t ht _ => ⟨by rw [hk], by rw [ht]; exact hP, ⟨_, by rw [ht]; exact hO, fun w => absurd (hk.symm.trans w) (by decide)⟩, hS.F ht⟩) hS.2.2 dL_differ_22 hlk
theorem dL_at_0 : decode cL_at 0 = .ok (.aload_n 3, 1) := by decide +kernel
theorem dL_at_1 : decode cL_at 1 = .ok (.iconst 0, 1) := by decide +kernel
theorem dL_at_2 : decode cL_at 2 = .ok (.aload_n 0, 1) := by decide +kernel
theorem dL_at_3 : decode cL_at 3 = .ok (.iload_n 1, 1) := by decide +kernel
theorem dL_at_4 : decode cL_at 4 = .ok (.iload_n 2, 1) := by decide +kernel
theorem dL_at_5 : decode cL_at 5 = .ok (.invokevirtual 24, 3) := by decide +kernel
theorem dL_at_8 : decode cL_at 8 = .ok (.lastore, 1) := by decide +kernel
theorem dL_at_9 : decode cL_at 9 = .ok (.goto 11, 3) := by decide +kernel
theorem dL_at_12 : decode cL_at 12 = .ok (.astore 4, 2) := by decide +kernel
theorem dL_at_14 : decode cL_at 14 = .ok (.iconst 1, 1) := by decide +kernel
theorem dL_at_15 : decode cL_at 15 = .ok (.ireturn, 1) := by decide +kernel
theorem dL_at_16 : decode cL_at 16 = .ok (.astore 4, 2) := by decide +kernel
theorem dL_at_18 : decode cL_at 18 = .ok (.iconst 2, 1) := by decide +kernel
theorem dL_at_19 : decode cL_at 19 = .ok (.ireturn, 1) := by decide +kernel
theorem dL_at_20 : decode cL_at 20 = .ok (.iconst 0, 1) := by decide +kernel
theorem dL_at_21 : decode cL_at 21 = .ok (.ireturn, 1) := by decide +kernel
theorem cw_L_at : Cond.codeWith yL_at cL_at 5 (some .int) [(0, 9, 12, 13), (0, 9, 16, 15)] ∈ T1 := T1_of 1158 (by decide +kernel) rfl
set_option maxHeartbeats 4000000 in
set_option maxRecDepth 100000 in
theorem c_L_at (l : Launch) (hst : l.stackTraces = false) (E : En) {F : Nat} {μ : Mm} {p1 p2 : Int32} {ao : Nat} {g : Nat → Int64} (h0 : l9 E 0) {z : Int32 × Int64 × Mm} (hf : f_X9_at μ p1 p2 = some z) : Met l yL_at (Cond.codeWith yL_at cL_at 5 (some .int) [(0, 9, 12, 13), (0, 9, 16, 15)] :: T1) { frames := 7, cells := 1, slots := 6, locals := 140 } (Pz E ao g [.ref (ad E 900 0), .int p1, .int p2, .ref ao] μ) (Qz E ao z.1 (z.2.1) z.2.2) 1 6 (fun q => Ad E q ∨ q = ao) := by
  refine va_MetW (cc := cL_at) (maxL := 5) (ret := some .int) (hh := [(0, 9, 12, 13), (0, 9, 16, 15)]) (by decide) rfl ?_
  intro p e s m args below meth c s₁ B hml hv
  obtain ⟨rfl, ⟨hP, hK, hD⟩, hX, hN, hO, hA⟩ := hv
  have hts := atoms_spec (ws := Cond.codeWith yL_at cL_at 5 (some .int) [(0, 9, 12, 13), (0, 9, 16, 15)] :: T1) B.pre
  have hown : s.vm.findClass RL = some m.cls := findClass_of_methodNamed B.named
  have htb : c.exceptionTable.toList = tableOf [(0, 9, 12, 13), (0, 9, 16, 15)] := vx_table (x := yL_at) B (hts _ List.mem_cons_self)
  have hl := lv_entry [.ref (ad E 900 0), .int p1, .int p2, .ref ao] (n := 5) (Nat.le_of_ble_eq_true rfl)
  have hr := B.returns
  have hlk := B.notSynchronized
  rw [lg_entry_eq]
  generalize (lg_sl [.ref (ad E 900 0), .int p1, .int p2, .ref ao] ++ List.replicate (5 - (lg_sl [.ref (ad E 900 0), .int p1, .int p2, .ref ao]).length) Slot.unset).toArray = ls at hl ⊢
  have C : Cx E p s m [.ref (ad E 900 0), .int p1, .int p2, .ref ao].toArray c cL_at 5 RL := ⟨⟨B.exec, B.bytes, hml, hown, fun w hw => hts w (List.mem_cons_of_mem _ hw)⟩, hK, hD⟩
  have hx := C.1.1
  have hb := C.1.2.1
  have hl : lv_has ls 5 [(0, .ref (ad E 900 0)), (1, .int p1), (2, .int p2), (3, .ref ao)] := hl
  refine lv_aload_n hx hb dL_at_0 rfl (lv_at hl 3 rfl) ?_
  refine lv_iconst (v := (0 : Int32)) hx hb dL_at_1 kc_0 ?_
  refine lv_aload_n hx hb dL_at_2 rfl (lv_at hl 0 rfl) ?_
  refine lv_iload_n hx hb dL_at_3 rfl (lv_at hl 1 rfl) ?_
  refine lv_iload_n hx hb dL_at_4 rfl (lv_at hl 2 rfl) ?_
  obtain ⟨k1, k2, k3, k4, k5, k6, k7⟩ := kv_X9_at
  have hI : Iv E s μ s.heap [] := ⟨hP, va_S.rf⟩
  refine z_call (ao := ao) (g := g) (vx_runV (As := [.int p1, .int p2]) (rest := [.int 0, .ref ao]) C.1 (c_X9_at l hst E h0 hf) ⟨callB_of 2 C.1.2.2.2.2 (fun w h => by
      have : w ∈ T1 := by
        rcases List.mem_cons.mp h with rfl | h
        · exact k4
        · exact h
      exact ⟨this, T1_good this⟩) rfl rfl rfl (m_in C k3) (m_in C ml_L_24) ⟨k5, k6, k7⟩ ⟨Nat.le_of_ble_eq_true rfl, Nat.le_of_ble_eq_true rfl⟩, m_in C k1, m_in C k2⟩ ⟨Pmx_blind, m_recv C hI h0.1 (ce_900 E _ _ _) rfl, fun U hU hW => ⟨rfl, ⟨by rw [hU]; exact hP, va_K.moved hW.alike C.2.1, C.2.2⟩, by rw [hU]; exact hX.moved hW⟩⟩ rfl rfl hl.1 rfl (lv_room (Nat.le_of_ble_eq_true rfl)) dL_at_5 ⟨Nat.le_of_ble_eq_true rfl, Nat.le_of_ble_eq_true rfl⟩) va_S.rf hO hA (fun hk H locs hP hO hS => ?_) (fun n ce q9 H locs hz hP hO hS hc1 hc2 hc3 => ?_)
  · refine z_last C hP hO hS hA dL_at_8 (fun H locs hP hO hS => ?_)
    refine lv_goto (tgt := 20) hx hb dL_at_9 rfl ?_
    refine lv_iconst (v := (0 : Int32)) hx hb dL_at_20 kc_0 ?_
    exact W.iret hx hb hr (fun t ht _ => ⟨by rw [hk], by rw [ht]; exact hP, ⟨_, by rw [ht]; exact hO, fun _ => rfl⟩, hS.F ht⟩) hS.2.2 dL_at_21 hlk
  · rcases hz with ⟨hk, rfl⟩ | ⟨hk, rfl⟩
    · refine z_ia C hX htb (by decide) hc1 hc2 hc3 ?_
      refine lv_astore hx hb dL_at_12 hl (by decide) rfl (fun ls hl => ?_)
      refine lv_iconst (v := (1 : Int32)) hx hb dL_at_14 kc_1 ?_
      exact W.iret hx hb hr (fun t ht _ => ⟨by rw [hk], by rw [ht]; exact hP, ⟨_, by rw [ht]; exact hO, fun w => absurd (hk.symm.trans w) (by decide)⟩, hS.F ht⟩) hS.2.2 dL_at_15 hlk
    · refine z_is C hX hN htb (by decide) hc1 hc2 hc3 ?_
      refine lv_astore hx hb dL_at_16 hl (by decide) rfl (fun ls hl => ?_)
      refine lv_iconst (v := (2 : Int32)) hx hb dL_at_18 kc_2 ?_
      exact W.iret hx hb hr (fun t ht _ => ⟨by rw [hk], by rw [ht]; exact hP, ⟨_, by rw [ht]; exact hO, fun w => absurd (hk.symm.trans w) (by decide)⟩, hS.F ht⟩) hS.2.2 dL_at_19 hlk
