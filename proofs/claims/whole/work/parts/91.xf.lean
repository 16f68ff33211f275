/-! METHODS THAT MAY THROW: what they need besides, and how they end -/
def iaE : String := "java/lang/IllegalArgumentException"
def isE : String := "java/lang/IllegalStateException"
def chN : List String := ["java/lang/RuntimeException", "java/lang/Exception"]
def dclW (C : String) : Cond := .declares ⟨C, "<init>", "(Ljava/lang/String;)V"⟩
def BX : List Cond := [.castable iaE iaE, .castable isE isE, dclW "java/lang/RuntimeException", dclW "java/lang/Exception", dclW "java/lang/Throwable"]
/-- the two statics of Throwable in H, the words that are no good words, the texts -/
def XF (A : Nat → Prop) (U : State) (H : Heap) : Prop := vx_Zq Bundle.tN "UNASSIGNED_STACK" Bundle.steD A U H ∧ vx_Zq Bundle.tN "SUPPRESSED_SENTINEL" Bundle.listD A U H ∧ (∀ w ∈ BX, w.before #[] U = true) ∧ ∀ i tx, (i, tx) ∈ [(309, "no such processor, or what is not 0 or 1"), (320, "the offs don't agree, or there is no such value"), (327, "no such x, or what is not 0 or 1"), (332, "its start or answer isn't told"), (379, "no such tape, what or task"), (384, "no copy is held"), (386, "the copy has no such task"), (405, "no such tape"), (410, "no row is held, or it has no such place")] → ∃ a, vk_R RX9 i tx a U
theorem BX_tab {w : Cond} (h : w ∈ BX) : w.onTables = true := by
  unfold BX at h
  simp only [List.mem_cons, List.not_mem_nil, or_false] at h
  rcases h with rfl | rfl | rfl | rfl | rfl <;> rfl
theorem BX_warm {w : Cond} (h : w ∈ BX) {s U : State} (hW : s.WarmedH U.vm) (hs : w.before #[] s = true) : w.before #[] U = true := by
  have e : w.before #[] (s.setVm U.vm) = true := by
    unfold BX dclW at h
    simp only [List.mem_cons, List.not_mem_nil, or_false] at h
    rcases h with rfl | rfl | rfl | rfl | rfl
    · rw [Cond.castable_setVm hW.alike]; exact hs
    · rw [Cond.castable_setVm hW.alike]; exact hs
    · rw [Cond.declares_setVm hW.alike]; exact hs
    · rw [Cond.declares_setVm hW.alike]; exact hs
    · rw [Cond.declares_setVm hW.alike]; exact hs
  exact va_tabs (BX_tab h) (rfl : (s.setVm U.vm).vm = U.vm) e
theorem XF.moved {A : Nat → Prop} {s U : State} {H : Heap} (h : XF A s H) (hW : s.WarmedH U.vm) : XF A U H :=
  ⟨h.1.moved hW.alike, h.2.1.moved hW.alike, fun w hw => BX_warm hw hW (h.2.2.1 w hw), fun i tx hi => by
    obtain ⟨a, ha⟩ := h.2.2.2 i tx hi
    exact ⟨a, vk_R.warm hW ha⟩⟩
theorem XF.kept {A : Nat → Prop} {s : State} {H H1 : Heap} (h : XF A s H) (hq : ∀ a : Nat, a < H.size → ¬ A a → H1[a]? = H[a]?) : XF A s H1 := ⟨h.1.kept hq, h.2.1.kept hq, h.2.2⟩
theorem XF.narrow {A B : Nat → Prop} {s : State} {H : Heap} (h : XF A s H) (hAB : ∀ q, B q → A q) : XF B s H := ⟨h.1.narrow hAB, h.2.1.narrow hAB, h.2.2⟩
theorem xg_ia : ∀ w ∈ (vx_atS RX9 311 iaE chN).filter goodWord, w ∈ T1 := T1_all _ (by decide +kernel)
theorem xg_is : ∀ w ∈ (vx_atS RX9 322 isE chN).filter goodWord, w ∈ T1 := T1_all _ (by decide +kernel)
theorem xn_ia : ∀ w ∈ (vx_atS RX9 311 iaE chN).filter (fun w => !goodWord w), w ∈ BX := by decide +kernel
theorem xn_is : ∀ w ∈ (vx_atS RX9 322 isE chN).filter (fun w => !goodWord w), w ∈ BX := by decide +kernel
theorem xk_ia : ∀ w ∈ [Cond.classLink RX9 307 iaE, .initialized iaE], w ∈ T1 := T1_all _ (by decide +kernel)
theorem xk_is : ∀ w ∈ [Cond.classLink RX9 318 isE, .initialized isE], w ∈ T1 := T1_all _ (by decide +kernel)
theorem xo_ia : ∀ w ∈ Cond.classLink RX9 307 iaE :: Cond.initialized iaE :: vx_atS RX9 311 iaE chN, vx_ot w = true := List.all_eq_true.mp (by decide +kernel)
theorem xo_is : ∀ w ∈ Cond.classLink RX9 318 isE :: Cond.initialized isE :: vx_atS RX9 322 isE chN, vx_ot w = true := List.all_eq_true.mp (by decide +kernel)
def Pmx (E : En) (av : List Value) (μ : Mm) : Array Value → State → Prop := va_Pc av (fun U => (va_P (eD E) vwCl (wl E μ) U.heap ∧ va_K (eD E) vwCl (tyE E) U ∧ Dj E) ∧ XF (Ad E) U U.heap)
/-- how it ends: k 0 with an answer, 1 and 2 with an exception -/
def Qx (E : En) (k : Int32) (v : Value) (μ : Mm) : Array Value → State → Outcome → State → Prop := fun a st o t => k = 0 ∧ Qm E (some v) μ a st o t
def Xx (E : En) (k : Int32) (μ : Mm) : String → State → State → Prop := fun n st t => ((k = 1 ∧ n = iaE) ∨ (k = 2 ∧ n = isE)) ∧ va_P (eD E) vwCl (wl E μ) t.heap ∧ va_F (Ad E) st t
theorem Pmx_blind {E : En} {av : List Value} {μ : Mm} : FrameBlind (Pmx E av μ) := fun a U g mk q => by
  obtain ⟨q0, ⟨qP, qK, qD⟩, qX⟩ := q
  refine ⟨q0, ⟨qP, va_K.moved (u := U) (U := U.calling g mk a) (Vm.Alike.refl U.vm) qK, qD⟩, ?_⟩
  exact XF.moved (U := U.calling g mk a) qX (State.WarmedH.refl U)
section MX
variable {p : Program} {l : Launch} {e : Env} {R : Room} {s : State} {m : MethodId} {args : Array Value} {below : List Frame} {meth : Method} {c : Code} {H : Heap} {locs : List Loc} {cells slots : Nat} {Q : State → Prop}
variable {E : En} {μ μ' : Mm} {cc : ByteArray} {nL : Nat} {own : String} {pc : Nat} {ls : Array Slot} {rest : List Value} {k i : Nat}
theorem mx_of {y : MethodName} {ret : Option FieldType} {rm : Room} {Qc : Array Value → State → Outcome → State → Prop} {XC : String → State → State → Prop} (hy : plainName y.cls = true) (av : List Value) (hn : (lg_sl av).length ≤ nL)
    (body : ∀ (p : Program) (e : Env) (s : State) (m : MethodId) (below : List Frame) (meth : Method) (c : Code), Cx E p s m av.toArray c cc nL y.cls → meth.sig.returnType = ret → meth.locks = false → (∀ x ∈ c.exceptionTable.toList, False) → XF (Ad E) s s.heap → Iv E s μ s.heap [] → ∀ ls : Array Slot, lv_has ls nL (lv_args 0 av) →
      W p l e rm s m av.toArray below meth c s.heap [] 0 0 (vx_MQ below Qc XC av.toArray s 1 6 (Ad E)) (F0 m 0 ls [])) : vx_Met l y (wt y cc nL ret) rm (Pmx E av μ) Qc XC 1 6 (Ad E) := by
  refine vx_ofW (cc := cc) (maxL := nL) (ret := ret) hy rfl ?_
  intro p e s m args below meth c s₁ B hml ht hv
  obtain ⟨rfl, ⟨hP, hK, hD⟩, hX⟩ := hv
  have hts := atoms_spec (ws := wt y cc nL ret) B.pre
  have hown : s.vm.findClass y.cls = some m.cls := findClass_of_methodNamed B.named
  have hl := lv_entry av (n := nL) hn
  rw [lg_entry_eq]
  exact body p e s m below meth c ⟨⟨B.exec, B.bytes, hml, hown, fun w hw => hts w (List.mem_cons_of_mem _ hw)⟩, hK, hD⟩ B.returns B.notSynchronized ht hX ⟨hP, va_S.rf⟩ _ hl
theorem mx_ret {g : JFrame} {v : Value} {k0 : Int32} {XC : String → State → State → Prop} (hk : k0 = 0) (hc : cells ≤ 1) (hs : slots ≤ 6) (w : W p l e R s m args below meth c H locs 1 6 (MQ below (Qm E (some v) μ) args s 1 6 (Ad E)) g) : W p l e R s m args below meth c H locs cells slots (vx_MQ below (Qx E k0 v μ) XC args s 1 6 (Ad E)) g := by
  refine W.widen (k := 1) (n := 6) hc hs ?_
  intro T hT X
  obtain ⟨t, a1, o, b1, b2, b3, b4⟩ := w T hT X
  exact ⟨t, a1, o, b1, b2, Or.inl ⟨⟨hk, b3⟩, b4⟩⟩
theorem mx_throw {cls text : String} {ik is ic : Nat} {k0 : Int32} {Qc : Array Value → State → Outcome → State → Prop} (C : Cx E p s m args c cc nL RX9) (hl : l.stackTraces = false) (hI : Iv E s μ H locs) (hX : XF (Ad E) s s.heap) (hsz : ls.size = nL) (hcl : Bundle.fit cls = true) (hin : (is, text) ∈ [(309, "no such processor, or what is not 0 or 1"), (320, "the offs don't agree, or there is no such value"), (327, "no such x, or what is not 0 or 1"), (332, "its start or answer isn't told"), (379, "no such tape, what or task"), (384, "no copy is held"), (386, "the copy has no such task"), (405, "no such tape"), (410, "no row is held, or it has no such place")])
    (hg : ∀ w ∈ (vx_atS RX9 ic cls chN).filter goodWord, w ∈ T1) (hn : ∀ w ∈ (vx_atS RX9 ic cls chN).filter (fun w => !goodWord w), w ∈ BX) (hkw : ∀ w ∈ [Cond.classLink RX9 ik cls, .initialized cls], w ∈ T1) (ho : ∀ w ∈ Cond.classLink RX9 ik cls :: Cond.initialized cls :: vx_atS RX9 ic cls chN, vx_ot w = true)
    (d0 : decode cc pc = .ok (.new ik, 3)) (d3 : decode cc (pc + 3) = .ok (.dup, 1)) (d4 : decode cc (pc + 4) = .ok (.ldc_w is, 3)) (d7 : decode cc (pc + 7) = .ok (.invokespecial ic, 3)) (d10 : decode cc (pc + 10) = .ok (.athrow, 1))
    (hout : ∀ x ∈ c.exceptionTable.toList, False) (hfr : 5 < R.frames) (hlo : (rest.map fun v => v.category).sum + 82 ≤ R.locals) (hc : cells + 1 ≤ R.cells) (hs : slots + 6 ≤ R.slots) (hc1 : cells = 0) (hs1 : slots = 0) (hlk : meth.locks = false) (hz : (k0 = 1 ∧ cls = iaE) ∨ (k0 = 2 ∧ cls = isE)) :
    W p l e R s m args below meth c H locs cells slots (vx_MQ below Qc (Xx E k0 μ) args s 1 6 (Ad E)) (F0 m pc ls rest) := by
  obtain ⟨sa, hsa⟩ := hX.2.2.2 is text hin
  have hat : ∀ w ∈ vx_atS RX9 ic cls chN, w.before args s = true := vx_hat (B := BX) (fun w hw => m_in C (hg w hw)) hn (fun w hw => va_tabs (BX_tab hw) rfl (hX.2.2.1 w hw))
  subst hc1; subst hs1
  refine vx_throwSW (A := Ad E) (names := chN) C.1.1 C.1.2.1 hl C.1.2.2.2.1 hcl (by decide) (m_in C (hkw _ List.mem_cons_self)) (m_in C (hkw _ (List.mem_cons_of_mem _ List.mem_cons_self))) hsa hat ho hX.1 hX.2.1 hI.2 (hsz.trans C.1.2.2.1.symm) d0 d3 d4 d7 d10 (fun x hx => (hout x hx).elim) (show chN.length + 3 < R.frames from hfr) (show (rest.map fun v => v.category).sum + (13 * (chN.length + 1) + 43) ≤ R.locals from hlo) hc hs hlk ?_ hI.2.2.2 (Nat.le_refl _) (Nat.le_refl _)
  intro t ht hz1 hz2
  refine ⟨hz, fun k' q hq => ?_, Nat.le_trans hI.2.1 hz1, fun q h1 h2 => ?_⟩
  · exact (hI.1 k' q hq).kept (hz2 q.1 (hI.1 k' q hq).lt)
  · rw [hz2 q (Nat.lt_of_lt_of_le h1 hI.2.1)]; exact hI.2.2.1 q h1 h2
end MX
