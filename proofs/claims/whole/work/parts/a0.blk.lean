/-! WHAT IS MADE: blocks of cells, one behind the other -/
def blk : Nat → List va_E → va_W
  | _, [] => []
  | b, e :: es => (b, e) :: blk (b + 1) es
theorem blk_at : ∀ (es : List va_E) (b k : Nat), (blk b es)[k]? = (es[k]?).map (fun e => (b + k, e))
  | [], _, _ => rfl
  | _ :: _, _, 0 => rfl
  | _ :: es, b, k + 1 => by
    show (blk (b + 1) es)[k]? = (es[k]?).map _
    rw [blk_at es (b + 1) k, show b + 1 + k = b + (k + 1) by omega]
theorem blk_get {es : List va_E} {b k : Nat} {e : va_E} (h : es[k]? = some e) : (blk b es)[k]? = some (b + k, e) := by rw [blk_at, h]; rfl
theorem blk_inv {es : List va_E} {b k : Nat} {x : Nat × va_E} (h : (blk b es)[k]? = some x) : k < es.length ∧ x.1 = b + k ∧ es[k]? = some x.2 := by
  rw [blk_at] at h
  cases he : es[k]? with
  | none => rw [he] at h; cases h
  | some e =>
    rw [he] at h
    cases h
    exact ⟨(List.getElem?_eq_some_iff.mp he).1, rfl, rfl⟩
theorem blk_set : ∀ (es : List va_E) (b k : Nat) (e : va_E), (blk b es).set k (b + k, e) = blk b (es.set k e)
  | [], _, _, _ => rfl
  | _ :: _, _, 0, _ => rfl
  | x :: es, b, k + 1, e => by
    show (b, x) :: (blk (b + 1) es).set k (b + (k + 1), e) = (b, x) :: blk (b + 1) (es.set k e)
    rw [← blk_set es (b + 1) k e, show b + 1 + k = b + (k + 1) by omega]
theorem blk_app : ∀ (es fs : List va_E) (b : Nat), blk b (es ++ fs) = blk b es ++ blk (b + es.length) fs
  | [], _, _ => rfl
  | x :: es, fs, b => by
    show (b, x) :: blk (b + 1) (es ++ fs) = (b, x) :: (blk (b + 1) es ++ blk (b + (es.length + 1)) fs)
    rw [blk_app es fs (b + 1), show b + 1 + es.length = b + (es.length + 1) by omega]
theorem blk_D (b : Nat) (es : List va_E) : va_D (fun q => b ≤ q) (blk b es) := by
  refine ⟨fun i j x y hx hy h => ?_, fun k x hx => ?_⟩
  · have := (blk_inv hx).2.1; have := (blk_inv hy).2.1; omega
  · have := (blk_inv hx).2.1
    show b ≤ x.1
    omega
theorem blk_len : ∀ (es : List va_E) (b : Nat), (blk b es).length = es.length
  | [], _ => rfl
  | _ :: es, b => congrArg (· + 1) (blk_len es (b + 1))
theorem blk_last (es : List va_E) (b : Nat) (x : Nat × va_E) : (blk b es ++ [x])[es.length]? = some x := by
  rw [List.getElem?_append_right (by rw [blk_len]; exact Nat.le_refl _), blk_len, Nat.sub_self]; rfl
theorem blk_q {b q n : Nat} {es : List va_E} {e : va_E} (h : va_D (fun q => b ≤ q) (blk b es ++ [(q, e)])) (h1 : q < n) (h2 : n ≤ b + es.length + 1) : q = b + es.length := by
  have hl := blk_len es b
  have a : (blk b es ++ [(q, e)])[es.length]? = some (q, e) := blk_last _ _ _
  have hb : b ≤ q := h.2 _ _ a
  rcases Nat.lt_or_ge q (b + es.length) with z | z
  · have hk : q - b < es.length := by omega
    have c : (blk b es ++ [(q, e)])[q - b]? = some (b + (q - b), es[q - b]) := by
      rw [List.getElem?_append_left (by omega)]
      exact blk_get (List.getElem?_eq_getElem hk)
    have := h.1 _ _ _ _ a c (by show q = b + (q - b); omega)
    omega
  · omega
/-- a block at b, and nothing behind it -/
def Bq (E : En) (s : State) (b : Nat) (es : List va_E) (cells : Nat) (H : Heap) (locs : List Loc) : Prop :=
  va_P (eD E) vwCl (blk b es) H ∧ va_S (fun q => b ≤ q) s.heap H locs ∧ b + es.length ≤ H.size ∧ s.heap.size + cells = b + es.length ∧ b ≤ s.heap.size
/-- the words that are not kept by every step: arrays over a class, nest mates -/
def nxL : List (String × Nat × MethodName) := [(RX7, 43, yX2_init), (RX9, 25, yX3_init), (RX9, 38, yX8_init), (RX9, 45, yX1_init), (RX9, 52, yX0_init), (RX9, 59, yX5_init), (RX9, 77, yX6_init)]
def Nx (U : State) : Prop := va_AO RX2 U ∧ va_AO RX6 U ∧ ∀ z ∈ nxL, va_Nw (.methodLinkNest z.1 z.2.1 z.2.2 RX9) U
theorem Nx.warm {s U : State} (h : Nx s) (hW : s.WarmedH U.vm) : Nx U := ⟨h.1.moved hW.alike, h.2.1.moved hW.alike, fun z hz => va_Nw.warmM hW (h.2.2 z hz)⟩
def Pk (E : En) (b ci : Nat) (fs : List Value) : Array Value → State → Prop := va_Pc [.ref b] (fun U => U.heap.size = b + 1 ∧ va_P (eD E) vwCl (blk b [.inr (ci, fs)]) U.heap ∧ va_K (eD E) vwCl (tyE E) U ∧ Nx U)
def Qk (E : En) (b : Nat) (es : List va_E) : Array Value → State → Outcome → State → Prop := fun _ st oc t => oc = .returned none ∧ va_P (eD E) vwCl (blk b es) t.heap ∧ b + es.length ≤ t.heap.size ∧ va_F (fun q => b ≤ q) st t
theorem Pk_blind {E : En} {b ci : Nat} {fs : List Value} : FrameBlind (Pk E b ci fs) := fun a U g mk q => by
  obtain ⟨q0, qs, qP, qK, qN⟩ := q
  exact ⟨q0, qs, qP, va_K.moved (u := U) (U := U.calling g mk a) (Vm.Alike.refl U.vm) qK, qN.1.moved (U := U.calling g mk a) (Vm.Alike.refl U.vm), qN.2.1.moved (U := U.calling g mk a) (Vm.Alike.refl U.vm), fun z hz => va_Nw.same (U := U.calling g mk a) rfl rfl (qN.2.2 z hz)⟩
section BB
variable {p : Program} {l : Launch} {e : Env} {R : Room} {s : State} {m : MethodId} {args : Array Value} {below : List Frame} {meth : Method} {c : Code} {H : Heap} {locs : List Loc} {cells slots : Nat} {Q : State → Prop}
variable {E : En} {cc : ByteArray} {nL : Nat} {own : String} {pc : Nat} {ls : Array Slot} {rest : List Value} {b : Nat} {es : List va_E}
theorem w_sz {g : JFrame} (kk : H.size ≤ s.heap.size + cells → W p l e R s m args below meth c H locs cells slots Q g) : W p l e R s m args below meth c H locs cells slots Q g := fun T hT X => kk (by rw [← hT]; exact X.heapSize) T hT X
theorem va_S.tr {A : Nat → Prop} {H0 H1 H2 : Heap} {l1 l2 : List Loc} (h : va_S A H0 H1 l1) (h2 : va_S A H1 H2 l2) : va_S A H0 H2 l2 :=
  ⟨Nat.le_trans h.1 h2.1, fun q a n => (h2.2.1 q (Nat.lt_of_lt_of_le a h.1) n).trans (h.2.1 q a n), h2.2.2⟩
theorem Bq.self (hB : Bq E s b es cells H locs) : va_S (fun q => b ≤ q) H H locs := ⟨Nat.le_refl _, fun _ _ _ => rfl, hB.2.1.2.2⟩
/-- an array of numbers is made -/
theorem bk_newa {atype : ArrayType} {t0 : Nat} {ty : FieldType} {n : Int32} {N : Nat} {a0 : vp_A} (hty : newarray.typeOf atype = ty) (ht : ∀ E : En, (tyE E)[t0]? = some (cy E t0, ty)) (ha : ∀ cA : ClassId, vp_cell cA a0 = arrV cA N (fun _ => defaultValue ty)) (hn : ¬ n < 0) (hN : n.toNatClampNeg = N) (hbytes : N * componentBytes ty ≤ 536870912)
    {n9 : Nat} (hlen : es.length = n9) (C : Cx E p s m args c cc nL own) (hB : Bq E s b es cells H locs) (harr : Cond.arrayClass (newarray.typeOf atype) ∈ T1) (hcells : cells + 1 ≤ R.cells) (hslots : slots + N ≤ R.slots) (hdg : decode cc pc = .ok (.newarray atype, 2))
    (kk : ∀ H1 : Heap, Bq E s b (es ++ [.inl (cy E t0, a0)]) (cells + 1) H1 locs → W p l e R s m args below meth c H1 locs (cells + 1) (slots + N) Q (F0 m (pc + 2) ls (.ref (b + n9) :: rest))) : W p l e R s m args below meth c H locs cells slots Q (F0 m pc ls (.int n :: rest)) := by
  subst hlen
  obtain ⟨b1, b2, b3, b4, b5⟩ := id hB
  refine va_newa C.1.1 C.1.2.1 (m_in C harr) hty C.2.1 b1 (blk_D b es) b2 (fun q hq => Nat.le_trans b5 hq) ha hn hN hbytes hcells hslots hdg (fun q cA H1 hK hP hD hS => ?_)
  refine w_sz (fun hs => ?_)
  have hlast := hP es.length (q, .inl (cA, a0)) (blk_last _ _ _)
  have hq : q = b + es.length := blk_q hD hlast.lt (by omega)
  have hc : cA = cy E t0 := by
    have k1 := (C.2.1.2 t0 _ (ht E)).2
    have k2 := (hK.2 (tyE E).length (cA, ty) (by rw [List.getElem?_append_right (Nat.le_refl _), Nat.sub_self]; rfl)).2
    subst hty
    cases atype <;> exact Option.some.inj (k2.symm.trans k1)
  subst hc
  subst hq
  have hz := hlast.lt
  have hP' : va_P (eD E) vwCl (blk b (es ++ [.inl (cy E t0, a0)])) H1 := by rw [blk_app]; exact hP
  exact kk H1 ⟨hP', hS, by rw [List.length_append]; exact hz, by rw [List.length_append]; show _ = b + (es.length + 1); omega, b5⟩
/-- an array of references is made -/
theorem bk_newq {t0 : Nat} {Cn : String} {index : Nat} {n : Int32} {N : Nat} (ht : ∀ E : En, (tyE E)[t0]? = some (cy E t0, .object Cn)) (hn : ¬ n < 0) (hN : n.toNatClampNeg = N) (hbytes : N * 4 ≤ 536870912)
    {n9 : Nat} (hlen : es.length = n9) (C : Cx E p s m args c cc nL own) (hB : Bq E s b es cells H locs) (hcl : Cond.classLink own index Cn ∈ T1) (hover : va_AO Cn s) (hcells : cells + 1 ≤ R.cells) (hslots : slots + N ≤ R.slots) (hdg : decode cc pc = .ok (.anewarray index, 3))
    (kk : ∀ H1 : Heap, Bq E s b (es ++ [.inl (cy E t0, N, .inr (.inr (.inr (.inr (fun _ => none)))))]) (cells + 1) H1 locs → W p l e R s m args below meth c H1 locs (cells + 1) (slots + N) Q (F0 m (pc + 3) ls (.ref (b + n9) :: rest))) : W p l e R s m args below meth c H locs cells slots Q (F0 m pc ls (.int n :: rest)) := by
  subst hlen
  obtain ⟨b1, b2, b3, b4, b5⟩ := id hB
  refine va_newq C.1.1 C.1.2.1 C.1.2.2.2.1 (m_in C hcl) hover C.2.1 b1 (blk_D b es) b2 (fun q hq => Nat.le_trans b5 hq) hn hN hbytes hcells hslots hdg (fun q cA H1 hK hP hD hS => ?_)
  refine w_sz (fun hs => ?_)
  have hlast := hP es.length _ (blk_last _ _ _)
  have hq : q = b + es.length := blk_q hD hlast.lt (by omega)
  have hc : cA = cy E t0 := by
    obtain ⟨-, -, -, -, -, k1⟩ := (C.2.1.2 t0 _ (ht E)).2
    obtain ⟨-, -, -, -, -, k2⟩ := (hK.2 (tyE E).length (cA, .object Cn) (by rw [List.getElem?_append_right (Nat.le_refl _), Nat.sub_self]; rfl)).2
    exact Option.some.inj (k2.symm.trans k1)
  subst hc
  subst hq
  have hz := hlast.lt
  have hP' : va_P (eD E) vwCl (blk b (es ++ [.inl (cy E t0, N, .inr (.inr (.inr (.inr (fun _ => none)))))])) H1 := by rw [blk_app]; exact hP
  exact kk H1 ⟨hP', hS, by rw [List.length_append]; exact hz, by rw [List.length_append]; show _ = b + (es.length + 1); omega, b5⟩
/-- an object is made -/
theorem bk_new {Cn : String} {T : u_T} {N ci index : Nat} {ty0 : Nat → FieldType} {fs : List Value} (hin0 : ∀ w ∈ u_ws Cn T N, w ∈ T1) (hty : ∀ k, k < N → parseFieldDescriptor (T k).2.2.1 = some (ty0 k)) (hc : vwCl[ci]? = some (Cn, T, N)) (hfs : ∀ j, j < N → defaultValue (ty0 j) = vp_V fs j)
    {n9 : Nat} (hlen : es.length = n9) (C : Cx E p s m args c cc nL own) (hB : Bq E s b es cells H locs) (hcl : Cond.classLink own index Cn ∈ T1) (hinst : Cond.instantiable Cn N ∈ T1) (hini : Cond.initialized Cn ∈ T1) (hcells : cells + 1 ≤ R.cells) (hslots : slots + N ≤ R.slots) (hdg : decode cc pc = .ok (.new index, 3))
    (kk : ∀ H1 : Heap, Bq E s b (es ++ [.inr (ci, fs)]) (cells + 1) H1 locs → W p l e R s m args below meth c H1 locs (cells + 1) (slots + N) Q (F0 m (pc + 3) ls (.ref (b + n9) :: rest))) : W p l e R s m args below meth c H locs cells slots Q (F0 m pc ls rest) := by
  subst hlen
  obtain ⟨b1, b2, b3, b4, b5⟩ := id hB
  refine va_new (ci := ci) (fs := fs) (C := Cn) (T := T) (N := N) C.1.1 C.1.2.1 C.1.2.2.2.2 hin0 ty0 hty C.1.2.2.2.1 (m_in C hcl) (m_in C hinst) (m_in C hini) C.2.1 b1 (blk_D b es) b2 (fun q hq => Nat.le_trans b5 hq) hc hfs hcells hslots hdg (fun q H1 hP hD hS => ?_)
  refine w_sz (fun hs => ?_)
  have hlast := hP es.length _ (blk_last _ _ _)
  have hq : q = b + es.length := blk_q hD hlast.lt (by omega)
  subst hq
  have hz := hlast.lt
  have hP' : va_P (eD E) vwCl (blk b (es ++ [.inr (ci, fs)])) H1 := by rw [blk_app]; exact hP
  exact kk H1 ⟨hP', hS, by rw [List.length_append]; exact hz, by rw [List.length_append]; show _ = b + (es.length + 1); omega, b5⟩
/-- a field of a made object is set: a final one (in a constructor), another one -/
theorem bk_putF {ref Cn : String} {T : u_T} {N ci index f q : Nat} {fs : List Value} {v : Value} {ty : FieldType} {ty0 : Nat → FieldType} (hin0 : ∀ w ∈ u_ws Cn T N, w ∈ T1) (hty : ∀ k, k < N → parseFieldDescriptor (T k).2.2.1 = some (ty0 k)) (hnm : ∀ a, a < N → ∀ b, b < N → a ≠ b → (T a).2.1 ≠ (T b).2.1) (hc : vwCl[ci]? = some (Cn, T, N)) (hf : f < N) (hrn : (T f).1 = ref) (hfin : (T f).2.2.2 = true) (hdecl : (T f).1 = own) (hd : parseFieldDescriptor (T f).2.2.1 = some ty) (hl : f < fs.length) (hn : narrow ty v = v) (hfit : fits ty v = true)
    (C : Cx E p s m args c cc nL own) (hin2 : meth.name = "<init>") (hB : Bq E s b es cells H locs) (he : es[q]? = some (.inr (ci, fs))) (hlink : Cond.fieldLink own index ref (T f).2.1 (T f).2.2.1 ∈ T1) (hdg : decode cc pc = .ok (.putfield index, 3))
    (kk : ∀ (H1 : Heap) (locs1 : List Loc), Bq E s b (es.set q (.inr (ci, fs.set f v))) cells H1 locs1 → W p l e R s m args below meth c H1 locs1 cells slots Q (F0 m (pc + 3) ls rest)) : W p l e R s m args below meth c H locs cells slots Q (F0 m pc ls (v :: .ref (b + q) :: rest)) := by
  obtain ⟨b1, b2, b3, b4, b5⟩ := id hB
  refine va_putF (D := eD E) (ci := ci) (v := v) (ty := ty) (C := Cn) (T := T) (N := N) C.1.1 C.1.2.1 C.1.2.2.2.2 hin0 ty0 hty hnm C.1.2.2.2.1 C.2.1 b1 (blk_D b es) hB.self q (blk_get he) hc f hf (m_in C hlink) (fun _ h9 => by rw [← hrn]; exact h9) hfin hin2 hdecl hd hn hfit hl hdg (fun H1 locs1 hP _ hS => kk H1 locs1 ⟨?_, b2.tr hS, ?_, ?_, b5⟩)
  · rw [← blk_set]; exact hP
  · rw [List.length_set]; exact Nat.le_trans b3 hS.1
  · rw [List.length_set]; exact b4
theorem bk_put {ref Cn : String} {T : u_T} {N ci index f q : Nat} {fs : List Value} {v : Value} {ty : FieldType} {ty0 : Nat → FieldType} (hin0 : ∀ w ∈ u_ws Cn T N, w ∈ T1) (hty : ∀ k, k < N → parseFieldDescriptor (T k).2.2.1 = some (ty0 k)) (hnm : ∀ a, a < N → ∀ b, b < N → a ≠ b → (T a).2.1 ≠ (T b).2.1) (hc : vwCl[ci]? = some (Cn, T, N)) (hf : f < N) (hrn : (T f).1 = ref) (hfin : (T f).2.2.2 = false) (hd : parseFieldDescriptor (T f).2.2.1 = some ty) (hl : f < fs.length) (hn : narrow ty v = v) (hfit : fits ty v = true)
    (C : Cx E p s m args c cc nL own) (hB : Bq E s b es cells H locs) (he : es[q]? = some (.inr (ci, fs))) (hlink : Cond.fieldLink own index ref (T f).2.1 (T f).2.2.1 ∈ T1) (hdg : decode cc pc = .ok (.putfield index, 3))
    (kk : ∀ (H1 : Heap) (locs1 : List Loc), Bq E s b (es.set q (.inr (ci, fs.set f v))) cells H1 locs1 → W p l e R s m args below meth c H1 locs1 cells slots Q (F0 m (pc + 3) ls rest)) : W p l e R s m args below meth c H locs cells slots Q (F0 m pc ls (v :: .ref (b + q) :: rest)) := by
  obtain ⟨b1, b2, b3, b4, b5⟩ := id hB
  refine va_put (D := eD E) (ci := ci) (v := v) (ty := ty) (C := Cn) (T := T) (N := N) C.1.1 C.1.2.1 C.1.2.2.2.2 hin0 ty0 hty hnm C.1.2.2.2.1 C.2.1 b1 (blk_D b es) hB.self q (blk_get he) hc f hf (m_in C hlink) (fun _ h9 => by rw [← hrn]; exact h9) hfin hd hn hfit hl hdg (fun H1 locs1 hP _ hS => kk H1 locs1 ⟨?_, b2.tr hS, ?_, ?_, b5⟩)
  · rw [← blk_set]; exact hP
  · rw [List.length_set]; exact Nat.le_trans b3 hS.1
  · rw [List.length_set]; exact b4
theorem bk_get {ref Cn : String} {T : u_T} {N ci index f q : Nat} {fs : List Value} {v : Value} (hin0 : ∀ w ∈ u_ws Cn T N, w ∈ T1) (hc : vwCl[ci]? = some (Cn, T, N)) (hf : f < N) (hrn : (T f).1 = ref) (C : Cx E p s m args c cc nL own) (hB : Bq E s b es cells H locs) (he : es[q]? = some (.inr (ci, fs))) (hv : fs[f]? = some v)
    (hlink : Cond.fieldLink own index ref (T f).2.1 (T f).2.2.1 ∈ T1) (hdg : decode cc pc = .ok (.getfield index, 3))
    (kk : W p l e R s m args below meth c H locs cells slots Q (F0 m (pc + 3) ls (v :: rest))) : W p l e R s m args below meth c H locs cells slots Q (F0 m pc ls (.ref (b + q) :: rest)) :=
  va_get (D := eD E) (ci := ci) (v := v) (C := Cn) (T := T) (N := N) C.1.1 C.1.2.1 C.1.2.2.2.2 hin0 C.1.2.2.2.1 C.2.1 hB.1 q (blk_get he) hc f hf (m_in C hlink) (fun _ h9 => by rw [← hrn]; exact h9) hv hdg kk
/-- an element of a made array is set -/
theorem bk_iast {q n : Nat} {x v : Int32} {f : Nat → Int32} (C : Cx E p s m args c cc nL own) (hB : Bq E s b es cells H locs) (he : es[q]? = some (.inl (cy E 0, n, .inl f))) (hx : vp_in x n) (hdg : decode cc pc = .ok (.iastore, 1))
    (kk : ∀ (H1 : Heap) (locs1 : List Loc), Bq E s b (es.set q (.inl (cy E 0, n, .inl (upd f x.toNatClampNeg v)))) cells H1 locs1 → W p l e R s m args below meth c H1 locs1 cells slots Q (F0 m (pc + 1) ls rest)) : W p l e R s m args below meth c H locs cells slots Q (F0 m pc ls (.int v :: .int x :: .ref (b + q) :: rest)) := by
  obtain ⟨b1, b2, b3, b4, b5⟩ := id hB
  refine va_iast C.1.1 C.1.2.1 C.2.1 b1 (blk_D b es) hB.self q 0 (blk_get he) rfl hx hdg (fun H1 locs1 hP _ hS => kk H1 locs1 ⟨?_, b2.tr hS, ?_, ?_, b5⟩)
  · rw [← blk_set]; exact hP
  · rw [List.length_set]; exact Nat.le_trans b3 hS.1
  · rw [List.length_set]; exact b4
theorem bk_aast {q n t0 qk ci : Nat} {x : Int32} {r : vw_C} {vs : List Value} {f : Nat → Option Nat} (ht : ∀ E : En, (tyE E)[t0]? = some (cy E t0, .object r.1)) (hc : vwCl[ci]? = some r) (C : Cx E p s m args c cc nL own) (hB : Bq E s b es cells H locs) (he : es[q]? = some (.inl (cy E t0, n, .inr (.inr (.inr (.inr f)))))) (hk : es[qk]? = some (.inr (ci, vs))) (hx : vp_in x n) (hdg : decode cc pc = .ok (.aastore, 1))
    (kk : ∀ (H1 : Heap) (locs1 : List Loc), Bq E s b (es.set q (.inl (cy E t0, n, .inr (.inr (.inr (.inr (va_up f x.toNatClampNeg (some (b + qk))))))))) cells H1 locs1 → W p l e R s m args below meth c H1 locs1 cells slots Q (F0 m (pc + 1) ls rest)) : W p l e R s m args below meth c H locs cells slots Q (F0 m pc ls (.ref (b + qk) :: .int x :: .ref (b + q) :: rest)) := by
  obtain ⟨b1, b2, b3, b4, b5⟩ := id hB
  refine va_astq C.1.1 C.1.2.1 C.2.1 b1 (blk_D b es) hB.self q t0 qk ci (blk_get he) (ht E) (blk_get hk) hc hx hdg (fun H1 locs1 hP _ hS => kk H1 locs1 ⟨?_, b2.tr hS, ?_, ?_, b5⟩)
  · rw [← blk_set]; exact hP
  · rw [List.length_set]; exact Nat.le_trans b3 hS.1
  · rw [List.length_set]; exact b4
/-- a row of numbers filled -/
def ff (f : Nat → Int32) (n : Nat) (v : Int32) : Nat → Int32 := fun j => if j < n then v else f j
theorem bk_fill {q n k index : Nat} {f : Nat → Int32} {v : Int32} (hce : ∀ (E : En) (f : Nat → Int32) (g : Nat → Int64), ce E f g k 0 = .inl (cy E 0, n, .inl f)) (hn : n ≤ 1000000) (C : Cx E p s m args c cc nL own) (hB : Bq E s b es cells H locs) (he : es[q]? = some (.inl (cy E 0, n, .inl f))) (hl : Cond.methodLink own index yJ7_fill_53178 ∈ T1)
    (hR : 1 ≤ R.frames ∧ 23 ≤ R.locals) (hf : cells ≤ R.cells ∧ slots ≤ R.slots) (hsz : ls.size = nL) (hW : (rest.map fun v => v.category).sum ≤ 8) (hdg : decode cc pc = .ok (.invokestatic index, 3))
    (kk : ∀ (H1 : Heap) (locs1 : List Loc), Bq E s b (es.set q (.inl (cy E 0, n, .inl (ff f n v)))) cells H1 locs1 → W p l e R s m args below meth c H1 locs1 cells slots Q (F0 m (pc + 3) ls rest)) : W p l e R s m args below meth c H locs cells slots Q (F0 m pc ls (.int v :: .ref (b + q) :: rest)) := by
  obtain ⟨b1, b2, b3, b4, b5⟩ := id hB
  have hql : q < es.length := (List.getElem?_eq_some_iff.mp he).1
  obtain ⟨E1, hE1⟩ : ∃ E1 : En, E1 = (E.1, E.2.1, E.2.2.1, fun _ _ => b + q, [(k, 0)]) := ⟨_, rfl⟩
  have x1 : eD E1 = eD E := by rw [hE1]; rfl
  have x2 : tyE E1 = tyE E := by rw [hE1]; rfl
  have x3 : cy E1 0 = cy E 0 := by rw [hE1]; rfl
  have x4 : ad E1 k 0 = b + q := by rw [hE1]; rfl
  have x5 : eL E1 = [(k, 0)] := by rw [hE1]; rfl
  clear hE1
  have hD1 : Dj E1 := fun i j c d hc hd _ => by
    rw [x5] at hc hd
    have h1 : i < 1 := (List.getElem?_eq_some_iff.mp hc).1
    have h2 : j < 1 := (List.getElem?_eq_some_iff.mp hd).1
    omega
  obtain ⟨μ, hμ⟩ : ∃ μ : Mm, μ.1 k 0 = f := ⟨(fun _ _ => f, fun _ _ _ => 0), rfl⟩
  have w1 : ∀ μ : Mm, wl E1 μ = [(b + q, .inl (cy E 0, n, .inl (μ.1 k 0)))] := fun μ => by
    unfold wl; rw [x5, List.map_cons, List.map_nil]
    show [(ad E1 k 0, ce E1 (μ.1 k 0) (μ.2 k 0) k 0)] = _
    rw [hce, x3, x4]
  have ha : ∀ x, Ad E1 x → x = b + q := fun x hx => by
    obtain ⟨c, hc, rfl⟩ := hx
    rw [x5] at hc
    rw [List.mem_singleton.mp hc]; exact x4
  have P1 : va_P (eD E1) vwCl (wl E1 μ) H := by
    rw [w1, x1, hμ]
    intro j x hx
    have hj : j < 1 := (List.getElem?_eq_some_iff.mp hx).1
    rw [show j = 0 by omega] at hx
    cases hx
    exact b1 q _ (blk_get he)
  obtain ⟨k1, k3, k4, k5, k6, k7⟩ := ks_J7_fill_53178
  have C1 : Cx E1 p s m args c cc nL own := ⟨C.1, by rw [x1, x2]; exact C.2.1, hD1⟩
  have run : va_Run p l e R s m args below meth c H locs cells slots 0 0 (F0 m pc ls (.int v :: .ref (b + q) :: rest)) rest (Qm E1 none (fl μ k 0 n v n) ([.ref (ad E1 k 0), .int v] : List Value).toArray) (Ad E1) :=
    va_runS (As := [.ref (ad E1 k 0), .int v]) (rest := rest) (g := F0 m pc ls (.int v :: .ref (b + q) :: rest)) C.1 (c_J7_fill_53178 l E1 (by rw [x5]; exact List.mem_singleton.mpr rfl) (hce E1) hn rfl) ⟨m_cb C1 hl k3 k4 k5 k6 k7 rfl rfl ⟨hR.1, hR.2⟩, m_in C k1⟩ ⟨Pm_blind, fun U hU hW => ⟨rfl, by rw [hU]; exact P1, va_K.moved hW.alike C1.2.1, hD1⟩⟩ rfl rfl hsz (by rw [x4]; rfl) (lv_room hW) hdg hf
  intro T hT X
  obtain ⟨v', st₀, t, T', L, h0, X', hL, e1, e2, ⟨hv, hP, hF⟩, st⟩ := run T hT X
  cases hv
  have hF1 := hF.1
  have hF2 := hF.2
  rw [h0] at hF1 hF2
  have e3 : (fl μ k 0 n v n).1 k 0 = ff f n v := by
    funext j
    rw [fl_at, ← hμ]
    unfold ff
    by_cases z : j < n
    · rw [if_pos ⟨rfl, rfl, z⟩, if_pos z]
    · rw [if_neg (fun w => z w.2.2), if_neg z]
  obtain ⟨t2, a1, b1'⟩ := kk T'.heap (locs ++ L) ⟨fun j x hx => by
      obtain ⟨y1, y2, y3⟩ := blk_inv hx
      rw [List.length_set] at y1
      by_cases z : j = q
      · subst z
        rw [w1, x1, e3] at hP
        have := hP 0 _ rfl
        rw [List.getElem?_set_self hql] at y3
        rw [e1, show x = (b + j, x.2) from by rw [← y2], ← Option.some.inj y3]; exact this
      · rw [List.getElem?_set_ne (fun w => z w.symm)] at y3
        have hb := b1 j (b + j, x.2) (blk_get y3)
        have hx' : x = (b + j, x.2) := by rw [← y2]
        rw [hx', e1]
        exact hb.kept (hF2 (b + j) (by omega) (fun w => by have := ha _ w; omega)), ⟨Nat.le_trans b2.1 (by rw [e1]; exact hF1), fun x z1 z2 => by
      rw [e1, hF2 x (Nat.lt_of_lt_of_le z1 b2.1) (fun w => z2 (by have := ha _ w; show b ≤ x; omega))]; exact b2.2.1 x z1 z2, fun x hx => by
      rcases List.mem_append.mp hx with h | h
      · exact b2.2.2 x h
      · have := ha _ (hL x h)
        show b ≤ x.base
        omega⟩, by rw [List.length_set, e1]; exact Nat.le_trans b3 hF1, by rw [List.length_set]; exact b4, b5⟩ T' rfl X'
  exact ⟨t2, st t2 a1, b1'⟩
/-- the constructor of the object that was made last -/
theorem bk_init {y : MethodName} {bytes : ByteArray} {maxL index ci : Nat} {fs : List Value} {es1 : List va_E} {rm : Room} {n9 : Nat} (hlen : es.length = n9) (hM : Met l y (wt y bytes maxL none) rm (Pk E (b + n9) ci fs) (Qk E (b + n9) es1) rm.cells rm.slots (fun q => b + n9 ≤ q)) (h1 : es1.length = rm.cells + 1)
    (C : Cx E p s m args c cc nL own) (hN : Nx s) (hB : Bq E s b (es ++ [.inr (ci, fs)]) cells H locs) (hl : Cond.methodLink own index y ∈ T1) (hi : Cond.initialized y.cls ∈ T1) (hcd : Cond.code y bytes maxL none ∈ T1) (hinst : Cond.instanceMethod y ∈ T1) (hy : y.name = "<init>" ∧ y.cls ≠ "java/lang/invoke/MethodHandle" ∧ y.cls ≠ "java/lang/invoke/VarHandle" ∧ (parseMethodDescriptor y.desc).map (fun d => d.parameters.length) = some 0)
    (hR : rm.frames + 1 ≤ R.frames ∧ 8 + (maxL + 11) + rm.locals ≤ R.locals) (hf : cells + rm.cells ≤ R.cells ∧ slots + rm.slots ≤ R.slots) (hsz : ls.size = nL) (hW : (rest.map fun v => v.category).sum ≤ 8) (hdg : decode cc pc = .ok (.invokespecial index, 3))
    (kk : ∀ (H1 : Heap) (locs1 : List Loc), Bq E s b (es ++ es1) (cells + rm.cells) H1 locs1 → W p l e R s m args below meth c H1 locs1 (cells + rm.cells) (slots + rm.slots) Q (F0 m (pc + 3) ls rest)) : W p l e R s m args below meth c H locs cells slots Q (F0 m pc ls (.ref (b + n9) :: rest)) := by
  subst hlen
  obtain ⟨b1, b2, b3, b4, b5⟩ := id hB
  rw [List.length_append] at b3 b4
  have b3 : b + (es.length + 1) ≤ H.size := b3
  have b4 : s.heap.size + cells = b + (es.length + 1) := b4
  rw [blk_app] at b1
  refine w_sz (fun hs => ?_)
  have P1 : va_P (eD E) vwCl (blk b es) H := fun k x hx => b1 k x (by rw [List.getElem?_append_left (by rw [blk_len]; exact (blk_inv hx).1)]; exact hx)
  have P2 : va_P (eD E) vwCl (blk (b + es.length) [.inr (ci, fs)]) H := fun k x hx => b1 (es.length + k) x (by rw [List.getElem?_append_right (by rw [blk_len]; omega), blk_len, Nat.add_sub_cancel_left]; exact hx)
  have hzz : H.size = b + es.length + 1 := by omega
  have run : va_Run p l e R s m args below meth c H locs cells slots rm.cells rm.slots (F0 m pc ls (.ref (b + es.length) :: rest)) rest (Qk E (b + es.length) es1 (Value.ref (b + es.length) :: []).toArray) (fun q => b + es.length ≤ q) := va_runI (As := []) (rest := rest) (g := F0 m pc ls (.ref (b + es.length) :: rest)) C.1 hM ⟨callB_of 0 C.1.2.2.2.2 (fun w h => by
    have : w ∈ T1 := by
      rcases List.mem_cons.mp h with rfl | h
      · exact hcd
      · exact h
    exact ⟨this, T1_good this⟩) rfl rfl rfl (m_in C hi) (m_in C hl) hy.2 hR, hy.1, m_in C hinst⟩ ⟨Pk_blind, fun U hU hW => ⟨rfl, by rw [hU]; exact hzz, by rw [hU]; exact P2, va_K.moved hW.alike C.2.1, hN.warm hW⟩⟩ rfl rfl hsz rfl (lv_room hW) hdg hf
  intro T hT X
  obtain ⟨v', st₀, t, T', L, h0, X', hL, e1, e2, ⟨hv, hP, hz, hF⟩, st⟩ := run T hT X
  cases hv
  have hF1 := hF.1
  have hF2 := hF.2
  rw [h0] at hF1 hF2
  obtain ⟨t2, a1, b1'⟩ := kk T'.heap (locs ++ L) ⟨by
      rw [blk_app]
      refine (P1.kept (fun k x hx => ?_)).app (by rw [e1]; exact hP)
      have := (blk_inv hx)
      rw [e1]
      exact hF2 x.1 (by omega) (by show ¬ b + es.length ≤ x.1; omega), ⟨Nat.le_trans b2.1 (by rw [e1]; exact hF1), fun q x1 x2 => by
      rw [e1, hF2 q (Nat.lt_of_lt_of_le x1 b2.1) (fun w => x2 (by show b ≤ q; omega))]; exact b2.2.1 q x1 x2, fun q hq => by
      rcases List.mem_append.mp hq with h | h
      · exact b2.2.2 q h
      · have := hL q h
        show b ≤ q.base
        omega⟩, by rw [List.length_append, e1]; omega, by rw [List.length_append]; omega, b5⟩ T' rfl X'
  exact ⟨t2, st t2 a1, b1'⟩
theorem bk_initN {y : MethodName} {bytes : ByteArray} {maxL index ci : Nat} {fs : List Value} {es1 : List va_E} {rm : Room} {n9 : Nat} (hlen : es.length = n9) (hM : Met l y (wt y bytes maxL none) rm (Pk E (b + n9) ci fs) (Qk E (b + n9) es1) rm.cells rm.slots (fun q => b + n9 ≤ q)) (h1 : es1.length = rm.cells + 1)
    (C : Cx E p s m args c cc nL own) (hN : Nx s) (hB : Bq E s b (es ++ [.inr (ci, fs)]) cells H locs) (hl : (own, index, y) ∈ nxL) (hi : Cond.initialized y.cls ∈ T1) (hcd : Cond.code y bytes maxL none ∈ T1) (hinst : Cond.instanceMethod y ∈ T1) (hy : y.name = "<init>" ∧ y.cls ≠ "java/lang/invoke/MethodHandle" ∧ y.cls ≠ "java/lang/invoke/VarHandle" ∧ (parseMethodDescriptor y.desc).map (fun d => d.parameters.length) = some 0)
    (hR : rm.frames + 1 ≤ R.frames ∧ 8 + (maxL + 11) + rm.locals ≤ R.locals) (hf : cells + rm.cells ≤ R.cells ∧ slots + rm.slots ≤ R.slots) (hsz : ls.size = nL) (hW : (rest.map fun v => v.category).sum ≤ 8) (hdg : decode cc pc = .ok (.invokespecial index, 3))
    (kk : ∀ (H1 : Heap) (locs1 : List Loc), Bq E s b (es ++ es1) (cells + rm.cells) H1 locs1 → W p l e R s m args below meth c H1 locs1 (cells + rm.cells) (slots + rm.slots) Q (F0 m (pc + 3) ls rest)) : W p l e R s m args below meth c H locs cells slots Q (F0 m pc ls (.ref (b + n9) :: rest)) := by
  subst hlen
  obtain ⟨b1, b2, b3, b4, b5⟩ := id hB
  rw [List.length_append] at b3 b4
  have b3 : b + (es.length + 1) ≤ H.size := b3
  have b4 : s.heap.size + cells = b + (es.length + 1) := b4
  rw [blk_app] at b1
  refine w_sz (fun hs => ?_)
  have P1 : va_P (eD E) vwCl (blk b es) H := fun k x hx => b1 k x (by rw [List.getElem?_append_left (by rw [blk_len]; exact (blk_inv hx).1)]; exact hx)
  have P2 : va_P (eD E) vwCl (blk (b + es.length) [.inr (ci, fs)]) H := fun k x hx => b1 (es.length + k) x (by rw [List.getElem?_append_right (by rw [blk_len]; omega), blk_len, Nat.add_sub_cancel_left]; exact hx)
  have hzz : H.size = b + es.length + 1 := by omega
  have run : va_Run p l e R s m args below meth c H locs cells slots rm.cells rm.slots (F0 m pc ls (.ref (b + es.length) :: rest)) rest (Qk E (b + es.length) es1 (Value.ref (b + es.length) :: []).toArray) (fun q => b + es.length ≤ q) := va_runIN (As := []) (rest := rest) (g := F0 m pc ls (.ref (b + es.length) :: rest)) C.1 hM ⟨va_cnB 0 C.1.2.2.2.2 (fun w h => by
    have : w ∈ T1 := by
      rcases List.mem_cons.mp h with rfl | h
      · exact hcd
      · exact h
    exact ⟨this, T1_good this⟩) rfl rfl rfl (hN.2.2 _ hl) (m_in C hi) hy.2 hR, hy.1, m_in C hinst⟩ ⟨Pk_blind, fun U hU hW => ⟨rfl, by rw [hU]; exact hzz, by rw [hU]; exact P2, va_K.moved hW.alike C.2.1, hN.warm hW⟩⟩ rfl rfl hsz rfl (lv_room hW) hdg hf
  intro T hT X
  obtain ⟨v', st₀, t, T', L, h0, X', hL, e1, e2, ⟨hv, hP, hz, hF⟩, st⟩ := run T hT X
  cases hv
  have hF1 := hF.1
  have hF2 := hF.2
  rw [h0] at hF1 hF2
  obtain ⟨t2, a1, b1'⟩ := kk T'.heap (locs ++ L) ⟨by
      rw [blk_app]
      refine (P1.kept (fun k x hx => ?_)).app (by rw [e1]; exact hP)
      have := (blk_inv hx)
      rw [e1]
      exact hF2 x.1 (by omega) (by show ¬ b + es.length ≤ x.1; omega), ⟨Nat.le_trans b2.1 (by rw [e1]; exact hF1), fun q x1 x2 => by
      rw [e1, hF2 q (Nat.lt_of_lt_of_le x1 b2.1) (fun w => x2 (by show b ≤ q; omega))]; exact b2.2.1 q x1 x2, fun q hq => by
      rcases List.mem_append.mp hq with h | h
      · exact b2.2.2 q h
      · have := hL q h
        show b ≤ q.base
        omega⟩, by rw [List.length_append, e1]; omega, by rw [List.length_append]; omega, b5⟩ T' rfl X'
  exact ⟨t2, st t2 a1, b1'⟩
theorem kmet_of {y : MethodName} {ci : Nat} {fs : List Value} {es' : List va_E} {rm : Room} (hy : plainName y.cls = true) (hE : Dj E) (hn : 1 ≤ nL)
    (body : ∀ (p : Program) (e : Env) (s : State) (m : MethodId) (below : List Frame) (meth : Method) (c : Code), Cx E p s m [.ref b].toArray c cc nL y.cls → meth.sig.returnType = none → meth.locks = false → meth.name = y.name → Nx s → Bq E s b [.inr (ci, fs)] 0 s.heap [] → ∀ ls : Array Slot, lv_has ls nL (lv_args 0 [.ref b]) →
      W p l e rm s m [.ref b].toArray below meth c s.heap [] 0 0 (MQ below (Qk E b es') [.ref b].toArray s rm.cells rm.slots (fun q => b ≤ q)) (F0 m 0 ls [])) : Met l y (wt y cc nL none) rm (Pk E b ci fs) (Qk E b es') rm.cells rm.slots (fun q => b ≤ q) := by
  refine Met.ofW (cc := cc) (maxL := nL) (ret := none) hy rfl ?_
  intro p e s m args below meth c s₁ B hml hv
  obtain ⟨rfl, hz, hP, hK, hN⟩ := hv
  have hts := atoms_spec (ws := wt y cc nL none) B.pre
  have hown : s.vm.findClass y.cls = some m.cls := findClass_of_methodNamed B.named
  have hl := lv_entry [.ref b] (n := nL) hn
  rw [lg_entry_eq]
  exact body p e s m below meth c ⟨⟨B.exec, B.bytes, hml, hown, fun w hw => hts w (List.mem_cons_of_mem _ hw)⟩, hK, hE⟩ B.returns B.notSynchronized (name_of_methodNamed B.named B.method).1 hN ⟨hP, va_S.rf, Nat.le_of_eq hz.symm, hz, by omega⟩ _ hl
theorem bk_vret (C : Cx E p s m args c cc nL own) (hr : meth.sig.returnType = none) (hlocks : meth.locks = false) (hB : Bq E s b es cells H locs) (hdg : decode cc pc = .ok (.return_, 1)) : W p l e R s m args below meth c H locs cells slots (MQ below (Qk E b es) args s cells slots (fun q => b ≤ q)) (F0 m pc ls []) :=
  W.vret C.1.1 C.1.2.1 hr (fun t ht _ => ⟨rfl, by rw [ht]; exact hB.1, by rw [ht]; exact hB.2.2.1, hB.2.1.F ht⟩) hB.2.1.2.2 hdg hlocks
theorem bk_obj {index : Nat} {a : Nat} (hl : Cond.methodLink own index objectInit ∈ T1) (hi : Cond.instanceMethod objectInit ∈ T1) (hcd : Cond.code objectInit ⟨#[0xb1]⟩ 1 none ∈ T1) (C : Cx E p s m args c cc nL own) (hsz : ls.size = nL) (hR : 1 ≤ R.frames) (hW : (rest.map fun v => v.category).sum + 12 ≤ R.locals) (hdg : decode cc pc = .ok (.invokespecial index, 3))
    (kk : W p l e R s m args below meth c H locs cells slots Q (F0 m (pc + 3) ls rest)) : W p l e R s m args below meth c H locs cells slots Q (F0 m pc ls (.ref a :: rest)) :=
  W.objInit C.1.1 C.1.2.1 C.1.2.2.2.1 (m_in C hl) (m_in C hi) (m_in C hcd) rfl (by rw [C.1.2.2.1]; exact hsz) rfl hdg hR (by show 2 * 0 + _ + 12 ≤ _; omega) kk
end BB
