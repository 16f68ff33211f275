/-! THE LAW: what holds in its loop, and its rows -/
theorem rm_c : 20000 ≤ room_1.cells := Nat.le_of_ble_eq_true rfl
theorem rm_s : 2000000 ≤ room_1.slots := Nat.le_of_ble_eq_true rfl
abbrev EL (s : State) (D : va_G) (cyf : Nat → ClassId) (tb : Nat → Nat) (ks : List Nat) : En := En0 D cyf s.heap.size (s.heap.size + 75) tb (exs ks)
def LC (p : Program) (l : Launch) (s : State) (m : MethodId) (c : Code) (b L : Nat) (xs : Nat → Int32) (D : va_G) (cyf : Nat → ClassId) : Prop :=
  (p.tables.exec = Jvm.exec ∧ c.code = cL_law ∧ c.maxLocals = 8 ∧ s.vm.findClass RL = some m.cls ∧ ∀ w ∈ T1, w.before #[Value.ref b] s = true) ∧ (∀ (ad0 : Nat → Nat → Nat) (L9 : List (Nat × Nat)), va_K D vwCl (tyE (D.1, D.2, cyf, ad0, L9)) s) ∧ va_X b L xs s s.heap ∧ b < s.heap.size ∧ Nx s ∧ XF (fun q => s.heap.size ≤ q) s s.heap ∧ va_Nc isE iaE s ∧ l.stackTraces = false ∧ L ≤ 3072
def LG (E : En) (s : State) : Prop := Dj E ∧ (∀ q, Ad E q → s.heap.size ≤ q) ∧ ¬ Ad E (s.heap.size + 113)
def LH (E : En) (s : State) (g : Nat → Int64) (μ : Mm) (H : Heap) : Prop := va_P (eD E) vwCl (wl E μ) H ∧ va_at (eD E) vwCl (s.heap.size + 113, .inl (cy E 2, 1, .inr (.inl g))) H ∧ va_S (fun q => s.heap.size ≤ q) s.heap H []
def LK (ks : List Nat) (μ : Mm) : Prop := (∀ e ∈ ks, e < 6) ∧ ∀ e : Nat, e < 6 → (¬ μ.1 600 e 3 = 0 ↔ e ∈ ks)
def LI (s : State) (D : va_G) (cyf : Nat → ClassId) (tb : Nat → Nat) (ks : List Nat) (μ : Mm) (g : Nat → Int64) (H : Heap) : Prop := LG (EL s D cyf tb ks) s ∧ LH (EL s D cyf tb ks) s g μ H ∧ LK ks μ ∧ Rel μ
def lcs (s : State) (b : Nat) (i : Int32) : List (Nat × Value) := [(4, .int i), (3, .ref (s.heap.size + 113)), (2, .ref (s.heap.size + 75)), (1, .ref s.heap.size), (0, .ref b)]
theorem LK.mv {ks : List Nat} {μ μ' : Mm} (h : LK ks μ) (k : KP μ μ') : LK ks μ' := ⟨h.1, fun e he => by rw [k e]; exact h.2 e he⟩
theorem LK.l7 {s : State} {D : va_G} {cyf : Nat → ClassId} {tb : Nat → Nat} {ks : List Nat} {μ : Mm} (h : LK ks μ) : ∀ d, d < 6 → ¬ μ.1 600 d 3 = 0 → l7 (EL s D cyf tb ks) (d + 1) := fun d hd hk => grow_l7 ((h.2 d hd).mp hk)
section LR
variable {p : Program} {l : Launch} {e : Env} {s : State} {m : MethodId} {below : List Frame} {meth : Method} {c : Code} {H : Heap} {cells slots : Nat} {Q : State → Prop}
variable {E E9 : En} {μ μ' : Mm} {pc : Nat} {ls : Array Slot} {rest : List Value} {b L n : Nat} {xs : Nat → Int32} {D : va_G} {cyf : Nat → ClassId} {tb : Nat → Nat} {ks : List Nat} {g : Nat → Int64}
theorem LC.cx (C : LC p l s m c b L xs D cyf) (hG : LG (EL s D cyf tb ks) s) : Cx (EL s D cyf tb ks) p s m #[.ref b] c cL_law 8 RL := ⟨C.1, C.2.1 _ _, hG.1⟩
/-- script[i + j] -/
theorem la_arg {j : Nat} {jn : Int} (C : LC p l s m c b L xs D cyf) (hS : va_S (fun q => s.heap.size ≤ q) s.heap H []) (h0 : ls[0]? = some (.val (.ref b))) (h4 : ls[4]? = some (.val (.int (nI (6 * n))))) (hn : 6 * n + 6 ≤ L) (hj : Int32.ofInt jn = nI j) (hj6 : j < 6)
    (d0 : decode cL_law pc = .ok (.aload_n 0, 1)) (d1 : decode cL_law (pc + 1) = .ok (.iload 4, 2)) (d3 : decode cL_law (pc + 3) = .ok (.iconst jn, 1)) (d4 : decode cL_law (pc + 4) = .ok (.iadd, 1)) (d5 : decode cL_law (pc + 5) = .ok (.iaload, 1))
    (kk : W p l e room_1 s m #[.ref b] below meth c H [] cells slots Q (F0 m (pc + 6) ls (.int (xs (6 * n + j)) :: rest))) : W p l e room_1 s m #[.ref b] below meth c H [] cells slots Q (F0 m pc ls rest) := by
  have hx := C.1.1
  have hb := C.1.2.1
  have hL := C.2.2.2.2.2.2.2.2
  refine lv_aload_n hx hb d0 rfl h0 ?_
  refine lv_iload hx hb d1 h4 ?_
  refine lv_iconst hx hb d3 hj ?_
  refine lv_iadd hx hb d4 ?_
  rw [nI_add]
  refine va_sld hx hb C.2.2.1 C.2.2.2.1 (Nat.not_le.mpr C.2.2.2.1) hS (i := nI (6 * n + j)) ?_ d5 ?_
  · show ¬ (nI (6 * n + j) < 0 ∨ L ≤ (nI (6 * n + j)).toNatClampNeg)
    rw [clN (by omega)]
    intro h
    rcases h with h | h
    · exact nN0 (by omega) h
    · omega
  · rw [clN (by omega)]; exact kk
/-- a call of an object's method -/
theorem la_V {y : MethodName} {bytes : ByteArray} {maxL index np k i : Nat} {ret : Option FieldType} {rm : Room} {v : Option Value} {As : List Value} (C : Cx E p s m #[.ref b] c cL_law 8 RL) (hG : LG E s) (hH : LH E s g μ H)
    (hM : Met l y (wt y bytes maxL ret) rm (Pm E (.ref (ad E k i) :: As) μ) (Qm E v μ') 0 0 (Ad E)) (hl : Cond.methodLink RL index y ∈ T1) (hy : kV y bytes maxL ret np)
    (hrec : ∃ cell : Cell, H[ad E k i]? = some cell ∧ cell.vm.isStatics = false ∧ s.vm.findClass y.cls = some cell.cls)
    (hrc : rm.cells = 0) (hrs : rm.slots = 0) (hR : rm.frames + 1 ≤ room_1.frames ∧ 8 + (maxL + 11) + rm.locals ≤ room_1.locals) (hf : cells ≤ room_1.cells ∧ slots ≤ room_1.slots) (hn : As.length = np) {st0 st1 : List Value} (hst : st0 = As.reverse ++ .ref (ad E k i) :: rest) (hsz : ls.size = 8) (hW : (rest.map fun v => v.category).sum ≤ 8) (hdg : decode cL_law pc = .ok (.invokevirtual index, 3)) (h1 : v.toList ++ rest = st1)
    (kk : ∀ H1 : Heap, LH E s g μ' H1 → W p l e room_1 s m #[.ref b] below meth c H1 [] cells slots Q (F0 m (pc + 3) ls st1)) : W p l e room_1 s m #[.ref b] below meth c H [] cells slots Q (F0 m pc ls st0) := by
  subst h1
  obtain ⟨k1, k2, k3, k4, k5, k6, k7⟩ := hy
  obtain ⟨hP0, hO, hS⟩ := hH
  have run := va_runV (g := F0 m pc ls st0) (below := below) (meth := meth) (e := e) (locs := []) (As := As) (rest := rest) C.1 hM ⟨m_cb C hl k3 k4 k5 k6 k7 hrc hrs hR, m_in C k1, m_in C k2⟩ ⟨Pm_blind, hrec, fun U hU hW => ⟨rfl, by rw [hU]; exact hP0, va_K.moved hW.alike C.2.1, C.2.2⟩⟩ rfl hn hsz hst (lv_room hW) hdg hf
  intro T hT X
  obtain ⟨v', st₀, t, T', L', h0, X', hL, e1, e2, ⟨hv, hP, hz, hk⟩, st⟩ := run T hT X
  cases hv
  rw [h0] at hz hk
  have hO' : va_at (eD E) vwCl (s.heap.size + 113, .inl (cy E 2, 1, .inr (.inl g))) T'.heap := hO.kept (by rw [e1]; exact hk _ hO.lt hG.2.2)
  have hS' : va_S (fun q => s.heap.size ≤ q) s.heap T'.heap [] := ⟨Nat.le_trans hS.1 (by rw [e1]; exact hz), fun q h1 h2 => by rw [e1, hk q (Nat.lt_of_lt_of_le h1 hS.1) (fun w => h2 (hG.2.1 q w))]; exact hS.2.1 q h1 h2, fun q hq => by cases hq⟩
  obtain ⟨t2, a1, b1⟩ := va_forget (locs := [] ++ L') (fun q hq => hG.2.1 _ (hL q hq)) (kk T'.heap ⟨by rw [e1]; exact hP, hO', hS'⟩) T' rfl X'
  exact ⟨t2, st t2 a1, b1⟩
/-- a call of one of the four methods that catch -/
theorem la_S {y : MethodName} {bytes : ByteArray} {maxL index np : Nat} {rm : Room} {As : List Value} {hh : List (Nat × Nat × Nat × Nat)} {k : Int32} {v : Int64} (C : Cx E p s m #[.ref b] c cL_law 8 RL) (hG : LG E s) (hH : LH E s g μ H) (hX : XF (fun q => s.heap.size ≤ q) s s.heap) (hN : va_Nc isE iaE s)
    (hM : Met l y (Cond.codeWith y bytes maxL (some .int) hh :: T1) rm (Pz E (s.heap.size + 113) g As μ) (Qz E (s.heap.size + 113) k v μ') 1 6 (fun q => Ad E q ∨ q = s.heap.size + 113)) (hl : Cond.methodLink RL index y ∈ T1) (hcw : Cond.codeWith y bytes maxL (some .int) hh ∈ T1) (hst0 : Cond.static y ∈ T1) (hin : Cond.initialized y.cls ∈ T1) (hy : y.cls ≠ "java/lang/invoke/MethodHandle" ∧ y.cls ≠ "java/lang/invoke/VarHandle" ∧ (parseMethodDescriptor y.desc).map (fun d => d.parameters.length) = some np)
    (hrc : rm.cells = 1) (hrs : rm.slots = 6) (hR : rm.frames + 1 ≤ room_1.frames ∧ 8 + (maxL + 11) + rm.locals ≤ room_1.locals) (hf : cells + 1 ≤ room_1.cells ∧ slots + 6 ≤ room_1.slots) (hn : As.length = np) {st0 : List Value} (hst : st0 = As.reverse ++ rest) (hsz : ls.size = 8) (hW : (rest.map fun v => v.category).sum ≤ 8) (hdg : decode cL_law pc = .ok (.invokestatic index, 3))
    (kk : ∀ (H1 : Heap) (g1 : Nat → Int64), (k = 0 → g1 0 = v) → LH E s g1 μ' H1 → W p l e room_1 s m #[.ref b] below meth c H1 [] (cells + 1) (slots + 6) Q (F0 m (pc + 3) ls (.int k :: rest))) : W p l e room_1 s m #[.ref b] below meth c H [] cells slots Q (F0 m pc ls st0) := by
  obtain ⟨hP0, hO, hS⟩ := hH
  have hX1 : XF (Ad E) s H := (hX.kept (fun q h1 h2 => hS.2.1 q h1 h2)).narrow (fun q hq => hG.2.1 q hq)
  have run := vx_runSW (g := F0 m pc ls st0) (below := below) (meth := meth) (e := e) (locs := []) (cells := cells) (slots := slots) (As := As) (rest := rest) C.1 hM (vx_cwSW (R := room_1) (own := RL) (index := index) (Ts := T1) (ws' := T1) np C.1.2.2.2.2 (fun w h => by
      have : w ∈ T1 := by
        simp only [va_wsS, List.cons_append, List.nil_append, List.mem_cons] at h
        rcases h with rfl | rfl | rfl | rfl | h
        · exact hl
        · exact hst0
        · exact hin
        · exact hcw
        · exact h
      exact ⟨this, T1_good this⟩) rfl hrc hrs hy hR) ⟨Pz_blind, fun U hU hW => ⟨rfl, ⟨by rw [hU]; exact hP0, va_K.moved hW.alike C.2.1, C.2.2⟩, by rw [hU]; exact hX1.moved hW, hN.moved hW.alike, by rw [hU]; exact hO, hG.2.2⟩⟩ rfl hn hsz hst (lv_room hW) hdg hf
  intro T hT X
  obtain ⟨v', st₀, t, T', L', h0, X', hL, e1, e2, ⟨hv, hP, ⟨g1, hO1, hg1⟩, hz, hk⟩, st⟩ := run T hT X
  cases hv
  rw [h0] at hz hk
  have up : ∀ q, (Ad E q ∨ q = s.heap.size + 113) → s.heap.size ≤ q := fun q hq => by
    rcases hq with h | h
    · exact hG.2.1 q h
    · omega
  have hS' : va_S (fun q => s.heap.size ≤ q) s.heap T'.heap [] := ⟨Nat.le_trans hS.1 (by rw [e1]; exact hz), fun q h1 h2 => by rw [e1, hk q (Nat.lt_of_lt_of_le h1 hS.1) (fun w => h2 (up q w))]; exact hS.2.1 q h1 h2, fun q hq => by cases hq⟩
  obtain ⟨t2, a1, b1⟩ := va_forget (locs := [] ++ L') (fun q hq => up _ (hL q hq)) (kk T'.heap g1 hg1 ⟨by rw [e1]; exact hP, by rw [e1]; exact hO1, hS'⟩) T' rfl X'
  exact ⟨t2, st t2 a1, b1⟩
/-- out[0] -/
theorem la_out (C : Cx E p s m #[.ref b] c cL_law 8 RL) (hH : LH E s g μ H) (hdg : decode cL_law pc = .ok (.laload, 1))
    (kk : W p l e room_1 s m #[.ref b] below meth c H [] cells slots Q (F0 m (pc + 1) ls (.long (g 0) :: rest))) : W p l e room_1 s m #[.ref b] below meth c H [] cells slots Q (F0 m pc ls (.int 0 :: .ref (s.heap.size + 113) :: rest)) := by
  have hP : va_P (eD E) vwCl [(s.heap.size + 113, .inl (cy E 2, 1, .inr (.inl g)))] H := fun k q hq => by
    rcases k with _ | k
    · cases hq; exact hH.2.1
    · cases hq
  exact va_lald C.1.1 C.1.2.1 C.2.1 hP 0 2 rfl rfl (i := 0) (by unfold vp_in; decide) hdg kk
/-- the object x, the model -/
theorem la_x (C : Cx (EL s D cyf tb ks) p s m #[.ref b] c cL_law 8 RL) (hH : LH (EL s D cyf tb ks) s g μ H) : ∃ cell : Cell, H[ad (EL s D cyf tb ks) 900 0]? = some cell ∧ cell.vm.isStatics = false ∧ s.vm.findClass RX9 = some cell.cls := by
  obtain ⟨j, -, h2⟩ := wl_get (En_l9 D cyf s.heap.size (s.heap.size + 75) tb (exs ks)).1 μ
  rw [ce_900] at h2
  exact va_recv (ci := 9) (q := (RX9, TX9, 11)) C.2.1 hH.1 rfl h2
theorem la_m (C : Cx (EL s D cyf tb ks) p s m #[.ref b] c cL_law 8 RL) (hH : LH (EL s D cyf tb ks) s g μ H) : ∃ cell : Cell, H[ad (EL s D cyf tb ks) 1000 0]? = some cell ∧ cell.vm.isStatics = false ∧ s.vm.findClass RX10 = some cell.cls := by
  obtain ⟨j, -, h2⟩ := wl_get (En_l10 D cyf s.heap.size (s.heap.size + 75) tb (exs ks)).1 μ
  rw [ce_1000] at h2
  exact va_recv (ci := 10) (q := (RX10, TX10, 55)) C.2.1 hH.1 rfl h2
/-- keep: what lives may grow -/
theorem la_K {v : Value} {sz : Nat} {As : List Value} (C : Cx E p s m #[.ref b] c cL_law 8 RL) (hN : Nx s) (hG : LG E s) (hH : LH E s g μ H) (hz9 : H.size = sz) (xd : eD E9 = eD E) (xc : cy E9 2 = cy E 2)
    (hM : Met l yX9_keep (wt yX9_keep cX9_keep 2 (some .int)) { frames := 5, cells := 32, slots := 2775, locals := 125 } (Pl E sz (.ref (ad E 900 0) :: As) μ) (Ql E sz E9 (some v) μ') 32 2775 (fun q => Ad E q ∨ sz ≤ q)) (hrec : ∃ cell : Cell, H[ad E 900 0]? = some cell ∧ cell.vm.isStatics = false ∧ s.vm.findClass RX9 = some cell.cls) (hn : As.length = 1) {st0 : List Value} (hst : st0 = As.reverse ++ .ref (ad E 900 0) :: rest) (hsz : ls.size = 8) (hW : (rest.map fun v => v.category).sum ≤ 8) (hdg : decode cL_law pc = .ok (.invokevirtual 149, 3)) (hf : cells + 32 ≤ room_1.cells ∧ slots + 2775 ≤ room_1.slots)
    (kk : ∀ H1 : Heap, LH E9 s g μ' H1 → W p l e room_1 s m #[.ref b] below meth c H1 [] (cells + 32) (slots + 2775) Q (F0 m (pc + 3) ls (v :: rest))) : W p l e room_1 s m #[.ref b] below meth c H [] cells slots Q (F0 m pc ls st0) := by
  obtain ⟨k1, k2, k3, k4, k5, k6, k7⟩ := kv_X9_keep
  obtain ⟨hP0, hO, hS⟩ := hH
  have run := va_runV (R := room_1) (g := F0 m pc ls st0) (below := below) (meth := meth) (e := e) (locs := []) (cells := cells) (slots := slots) (As := As) (rest := rest) C.1 hM ⟨callB_of 1 C.1.2.2.2.2 (fun w h => by
      have : w ∈ T1 := by
        rcases List.mem_cons.mp h with rfl | h
        · exact k4
        · exact h
      exact ⟨this, T1_good this⟩) rfl rfl rfl (m_in C k3) (m_in C ml_L_149) ⟨k5, k6, k7⟩ ⟨Nat.le_of_ble_eq_true rfl, Nat.le_of_ble_eq_true rfl⟩, m_in C k1, m_in C k2⟩ ⟨Pl_blind, hrec, fun U hU hW => ⟨rfl, by rw [hU]; exact hz9, by rw [hU]; exact hP0, va_K.moved hW.alike C.2.1, C.2.2, hN.warm hW⟩⟩ rfl hn hsz hst (lv_room hW) hdg hf
  intro T hT X
  obtain ⟨v', st₀, t, T', L', h0, X', hL, e1, e2, ⟨hv, hP, hz, hk⟩, st⟩ := run T hT X
  cases hv
  rw [h0] at hz hk
  have up : ∀ q, (Ad E q ∨ sz ≤ q) → s.heap.size ≤ q := fun q hq => by
    rcases hq with h | h
    · exact hG.2.1 q h
    · have := hS.1; omega
  have hO' : va_at (eD E9) vwCl (s.heap.size + 113, .inl (cy E9 2, 1, .inr (.inl g))) T'.heap := by
    rw [xd, xc]
    refine hO.kept ?_
    rw [e1]
    refine hk _ hO.lt (fun w => ?_)
    rcases w with w | w
    · exact hG.2.2 w
    · have := hO.lt
      have : s.heap.size + 113 < H.size := this
      omega
  have hS' : va_S (fun q => s.heap.size ≤ q) s.heap T'.heap [] := ⟨Nat.le_trans hS.1 (by rw [e1]; exact hz), fun q h1 h2 => by rw [e1, hk q (Nat.lt_of_lt_of_le h1 hS.1) (fun w => h2 (up q w))]; exact hS.2.1 q h1 h2, fun q hq => by cases hq⟩
  obtain ⟨t2, a1, b1⟩ := va_forget (locs := [] ++ L') (fun q hq => up _ (hL q hq)) (kk T'.heap ⟨by rw [e1, xd]; exact hP, hO', hS'⟩) T' rfl X'
  exact ⟨t2, st t2 a1, b1⟩
end LR
