/-! THE CLAIM OUT OF ONE WALK OF THE LAW'S BODY. Your part is whole_start (and what it stands on); all else here is the same for every law, but numbers. -/
def R_law : String := "TaskTraceLaw"
def lw_P (b : Addr) (xs : List Int32) (args : Array Value) (s : State) : Prop := args = #[.ref b] ∧ s.IntsAt b xs ∧ xs.length ≤ 3072 ∧ (Jvm.Cond.and given_1 narrow_1).before args s = true
def lw_Q (_ : Array Value) (s : State) (o : Outcome) (t : State) : Prop := o = .returned (some (.int 1)) ∧ Framed s o t [] room_1.cells room_1.slots
def lw_Z (below : List Frame) (a : Array Value) (s : State) : State → Prop := fun t => ∃ o, t.status = .running ∧ Ended t below o ∧ lw_Q a s o t
/-- the law's own end, with 1 on the stack, nothing written that was there before, its room as the claim has it -/
theorem lw_ret {p : Program} {l : Launch} {e : Env} {s : State} {m : MethodId} {below : List Frame} {meth : Method} {c : Code} {b : Nat} (hx : p.tables.exec = Jvm.exec) (hb : c.code = code) (hr : meth.sig.returnType = ret) (hlocks : meth.locks = false) {pc : Nat} {H : Heap} {ls : Array Slot} (hdg : decode code pc = .ok (.ireturn, 1)) : W p l e room_1 s m #[Value.ref b] below meth c H [] room_1.cells room_1.slots (lw_Z below #[Value.ref b] s) (F0 m pc ls [.int 1]) := by
  intro T hT X
  obtain ⟨fs, hret, hrun, hended, hW, hframe⟩ := X.leave (v := some (.int 1)) (hlocks := hlocks) (fun h => by rw [hr] at h; cases h)
  have hmeth' : T.vm.method? m = some meth := X.method'
  refine ⟨T.setFrames fs, ?_, .returned (some (.int 1)), hrun, hended, rfl, ⟨_, rfl⟩, hW, hframe⟩
  jvm_step X.here [X.here.top, hx, hb, hdg, hmeth', hr, ret, narrow_b1]
  (try refine ⟨rfl, ?_⟩); (try refine ⟨rfl, ?_⟩)
  first | (intro acts; rw [hret _ acts rfl rfl rfl]) | rw [hret _ _ rfl rfl rfl]
  exact Steps.refl _
/-- what holds at the law's entry: the machine, the code, the tables' words (any of lw_tbl by 'hts w (by decide +kernel)'), the script of L ints xs at the cell b, what the Statement gives of the start (any of its parts by flat_of_before) -/
def lw_At (p : Program) (s : State) (m : MethodId) (meth : Method) (c : Code) (b L : Nat) (xs : Nat → Int32) : Prop :=
  p.tables.exec = Jvm.exec ∧ c.code = code ∧ meth.sig.returnType = ret ∧ c.maxLocals = 8 ∧ s.vm.findClass R_law = some m.cls ∧ (∀ w ∈ lw_tbl, w.before #[Value.ref b] s = true) ∧ va_X b L xs s s.heap ∧ b < s.heap.size ∧ meth.locks = false ∧ (Jvm.Cond.and given_1 narrow_1).before #[Value.ref b] s = true
theorem bx_in : ∀ w ∈ BX, w ∈ lw_tbl := by decide +kernel
def txL : List (Nat × String) := [(309, "no such processor, or what is not 0 or 1"), (320, "the offs don't agree, or there is no such value"), (327, "no such x, or what is not 0 or 1"), (332, "its start or answer isn't told"), (379, "no such tape, what or task"), (384, "no copy is held"), (386, "the copy has no such task"), (405, "no such tape"), (410, "no row is held, or it has no such place")]
theorem tx_in : ∀ z ∈ txL, Cond.stringRef RX9 z.1 z.2 ∈ lw_tbl := by decide +kernel
theorem XF_of {s : State} {args : Array Value} {k9 : ClassId} (hts : ∀ w ∈ lw_tbl, w.before args s = true) (hgv : (Jvm.Cond.and given_1 narrow_1).before args s = true) (h9 : s.vm.findClass RX9 = some k9) : XF (fun q => s.heap.size ≤ q) s s.heap := by
  have fl := flat_of_before _ hgv
  refine ⟨vx_Zqof (args := args) (hts _ (List.mem_of_getElem? (i := 1069) (by decide +kernel))) (hts _ (List.mem_of_getElem? (i := 96) (by decide +kernel))) (fl _ (by decide +kernel)) (fun a ha => Nat.not_le.mpr ha), vx_Zqof (args := args) (hts _ (List.mem_of_getElem? (i := 1071) (by decide +kernel))) (hts _ (List.mem_of_getElem? (i := 96) (by decide +kernel))) (fl _ (by decide +kernel)) (fun a ha => Nat.not_le.mpr ha), fun w hw => va_tabs (BX_tab hw) rfl (hts w (bx_in w hw)), fun i tx hi => ?_⟩
  have h := hts _ (tx_in (i, tx) hi)
  obtain ⟨k, cf, j, a, -, -, -, -, -, h2⟩ := Cond.stringRef_spec (first := s) (o := none) (idx := []) h9 h
  exact ⟨a, vk_R.of h h2⟩
theorem Ad_0 {D : va_G} {cyf : Nat → ClassId} {b0 bm : Nat} {tb : Nat → Nat} {q : Nat} (hb : b0 + 75 ≤ bm) (h : Ad (En0 D cyf b0 bm tb []) q) : b0 ≤ q ∧ q < bm + 38 := by
  have e : wl (En0 D cyf b0 bm tb []) mu0 = blk b0 (kq9 (En0 D cyf b0 bm tb []) b0) ++ blk bm (kb10 (En0 D cyf b0 bm tb []) bm) := by
    rw [← wl_9, ← wl_10]
    unfold wl
    show ((L9 ++ (L10 ++ [])).map _) = _
    rw [List.append_nil, List.map_append]
  obtain ⟨c9, hc, rfl⟩ := h
  obtain ⟨j, -, h2⟩ := wl_get hc mu0
  rw [e] at h2
  rcases Nat.lt_or_ge j (blk b0 (kq9 (En0 D cyf b0 bm tb []) b0)).length with z | z
  · rw [List.getElem?_append_left z] at h2
    obtain ⟨y1, y2, -⟩ := blk_inv h2
    have y1 : j < 75 := y1
    have y2 : ad (En0 D cyf b0 bm tb []) c9.1 c9.2 = b0 + j := y2
    omega
  · rw [List.getElem?_append_right z] at h2
    obtain ⟨y1, y2, -⟩ := blk_inv h2
    rw [kbl_10] at y1
    have y2 : ad (En0 D cyf b0 bm tb []) c9.1 c9.2 = bm + (j - (blk b0 (kq9 (En0 D cyf b0 bm tb []) b0)).length) := y2
    omega
set_option maxHeartbeats 4000000 in
theorem whole_start {p : Program} {e : Env} {s : State} {m : MethodId} {below : List Frame} {meth : Method} {c : Code} (l : Launch) (hst : l.stackTraces = false) {b L : Nat} {xs : Nat → Int32} (hL : L ≤ 3072) (C0 : lw_At p s m meth c b L xs) : W p l e room_1 s m #[Value.ref b] below meth c s.heap [] 0 0 (lw_Z below #[Value.ref b] s) (entryFrame m ([Value.ref b] : List Value).toArray 8) := by
  obtain ⟨hx, hb, hr, hml, hown, hts, hX, hbl, hlk, hgv⟩ := C0
  have hT1 : ∀ w ∈ T1, w.before #[Value.ref b] s = true := fun w hw => hts w (List.mem_filter.mp hw).1
  obtain ⟨D, cyf, hK⟩ := K_of hts
  have hN := Nx_of hts
  have h9 : s.vm.findClass RX9 = some (D.1 9) := ((hK (fun _ _ => 0) []).1 9 (RX9, TX9, 11) rfl).2.1
  have hXF := XF_of hts hgv h9
  have hNc : va_Nc isE iaE s := va_Nc.of (flat_of_before _ hgv (.not (.castable isE iaE)) (by decide +kernel))
  have C : LC p l s m c b L xs D cyf := ⟨⟨hx, hb, hml, hown, hT1⟩, hK, hX, hbl, hN, hXF, hNc, hst, hL⟩
  have hD0 : Dj (D.1, D.2, cyf, fun _ _ => 0, []) := fun i j c d h => by cases h
  have hl := lv_entry [Value.ref b] (n := 8) (Nat.le_of_ble_eq_true rfl)
  rw [lg_entry_eq]
  refine law_made (E := (D.1, D.2, cyf, fun _ _ => 0, [])) ⟨C.1, hK _ _, hD0⟩ hD0 hN hl (fun H locs ls hB hl => ?_)
  obtain ⟨b1, b2, -, -, -⟩ := hB
  refine va_forget (fun q hq => b2.2.2 q hq) ?_
  obtain ⟨hP, hO⟩ := law_world (D := D) (cyf := cyf) (ad0 := fun _ _ => 0) (L := []) (fun _ => 0) b1
  have hI : LI s D cyf (fun _ => 0) [] mu0 (fun _ => 0) H := by
    refine ⟨⟨Dj_of (st_D (Nat.le_refl _)), fun q hq => (Ad_0 (Nat.le_refl _) hq).1, fun hq => ?_⟩, ⟨hP, hO, b2.1, b2.2.1, fun q hq => by cases hq⟩, ⟨fun e he => (by cases he), fun e he => ⟨fun h => absurd rfl h, fun h => by cases h⟩⟩, Rel_0⟩
    have := (Ad_0 (Nat.le_refl _) hq).2
    omega
  refine lv_iconst (v := (0 : Int32)) hx hb dL_law_20 kc_0 ?_
  refine lv_istore hx hb dL_law_21 hl (by decide) rfl (fun ls hl => ?_)
  have hl : lv_has ls 8 (lcs s b (nI (6 * 0))) := hl
  refine law_loop C (fun H ls => ?_) 512 0 (fun _ => 0) [] mu0 (fun _ => 0) H ls 114 25079 (by omega) (by omega) (by omega) (by omega) hI hl
  refine lv_iconst (v := (1 : Int32)) hx hb dL_law_1806 kc_1 ?_
  exact lw_ret hx hb hr hlk dL_law_1807
set_option maxHeartbeats 4000000 in
theorem lw_walk (l : Launch) (hst : l.stackTraces = false) (b : Addr) (xs : List Int32) : MetFree l x (headSpec (Jvm.Cond.code x code maxLocals ret :: tables_1) room_1) (lw_P b xs) (fun _ _ _ _ _ => True) lw_Q := by
  refine MetFree.of_bodyS (code := code) (maxLocals := maxLocals) (ret := ret) (by decide) ?_ ?_
  · intro args s m h hn
    obtain ⟨meth, c, h1, h2, h3, h4, h5, h6, -, -⟩ := Cond.code_spec hn (atoms_spec (ws := Jvm.Cond.code x code maxLocals ret :: tables_1) h _ List.mem_cons_self)
    exact ⟨meth, c, h1, h2, h3, h4, h5, h6⟩
  · intro p e s m args below meth c s₁ B hml0 hP _
    obtain ⟨rfl, hx, hbd, hgv⟩ := hP
    obtain ⟨scr, harrAt, hlist, hof, hsmall⟩ := hx
    obtain ⟨hcb, hkn, -, -⟩ := State.arrayAt?_spec harrAt
    have hown : s.vm.findClass R_law = some m.cls := findClass_of_methodNamed B.named
    have hts0 : ∀ c ∈ (Jvm.Cond.code x code maxLocals ret :: tables_1), c.before #[Value.ref b] s = true := atoms_spec (ws := Jvm.Cond.code x code maxLocals ret :: tables_1) B.pre
    have hts : ∀ w ∈ lw_tbl, w.before #[Value.ref b] s = true := k2_hts_sels lw_privs (fun w hw => hts0 w (List.mem_cons_of_mem _ hw)) lw_privs_ok
    have hml : c.maxLocals = 8 := B.maxLocals_eq (hts0 _ List.mem_cons_self)
    have X₀ : Stand p l e room_1 s m #[Value.ref b] below meth c s₁ [] 0 0 := Stand.of_body B
    have hh0 : s₁.heap = s.heap := by rw [B.state]; rfl
    have hsz : scr.slots.size = xs.length := by rw [← Array.length_toList, hlist, List.length_map]
    have hval : ∀ j : Nat, j < xs.length → scr.slots[j]? = some (.int (xs.getD j 0)) := fun j hj => by
      rw [← Array.getElem?_toList, hlist]
      simp [hj]
    have hbl : b < s.heap.size := (Array.getElem?_eq_some_iff.mp hcb).1
    have hX : va_X b xs.length (fun j => xs.getD j 0) s s.heap := ⟨scr, hcb, hof, hkn, hsz, hval⟩
    have K : W p l e room_1 s m #[Value.ref b] below meth c s₁.heap [] 0 0 (lw_Z below #[Value.ref b] s) (entryFrame m ([Value.ref b] : List Value).toArray 8) := by
      rw [hh0]
      exact whole_start l hst hbd ⟨B.exec, B.bytes, B.returns, hml, hown, hts, hX, hbl, B.notSynchronized, hgv⟩
    obtain ⟨t, a1, o, b1, b2, b3⟩ := K s₁ rfl X₀
    exact ⟨t, o, a1, b1, b2, b3⟩
theorem lw_pre_spec {args : Array Value} {s : State} (h : (Jvm.Cond.and given_1 narrow_1).before args s = true) (hr : rest_1_c.before args s = true) : ∃ (b : Addr) (xs : List Int32), lw_P b xs args s := by
  have hs := flat_of_before _ h
  have hq := flat_of_before _ hr
  have hc : (Cond.count 1).before args s = true := hs _ (by decide +kernel)
  have harr : (Cond.arrayOf (.arg 0) .int).before args s = true := hs _ (by decide +kernel)
  have hle : (Cond.le (.length (.arg 0)) (.int 3072)).before args s = true := hs _ (by decide +kernel)
  have hlen : (Cond.isInt (.length (.arg 0))).before args s = true := hq _ (by decide +kernel)
  have hall : (Cond.all (.arg 0) (.isInt (.elem (.arg 0) (.index 0)))).before args s = true := hq _ (by decide +kernel)
  obtain ⟨b, xs, hb, hx⟩ := State.ints_of_pre rfl harr hlen hall
  have hsm : xs.length < 2 ^ 31 := hx.choose_spec.2.2.2
  have hev : (Term.length (.arg 0)).eval args s none [] s = some (.int xs.length.toInt32) := hx.length_eval hb
  have hv := Cond.le_ints hev (show (Term.int 3072).eval args s none [] s = some (.int 3072) from rfl)
  have hd : xs.length.toInt32 ≤ 3072 := by
    simpa [Cond.before, Cond.holds, hv] using hle
  have hN : xs.length ≤ 3072 := (Int32.ofNat_le_ofNat hsm (by decide)).mp (show Int32.ofNat xs.length ≤ Int32.ofNat 3072 from hd)
  exact ⟨b, xs, Cond.one_arg hc (show args[0]? = some (.ref b) from hb), hx, hN, h⟩
theorem lw_comes (l : Launch) (hst : l.stackTraces = false) : Comes l x (Jvm.Cond.code x code maxLocals ret :: tables_1) room_1 (fun tb e args s => Calls_1 tb e args s ∧ rest_1 tb e args s ∧ Pre_1 tb e args s)
    (fun _ _ args s o t => lw_Q args s o t) := by
  intro p e ha hc hk s m args below hf hfit hheap happ hpre
  obtain ⟨b, xs, hP⟩ := lw_pre_spec hpre.2.2 hpre.2.1
  obtain ⟨k, o, h1, h2, h3, hQ⟩ := lw_walk l hst b xs p e ha hc hk s m args below hf ((Spec.applies_iff_loose hf).mp happ).1 hP trivial
  exact ⟨k, o, h1, h2, h3, hQ⟩
theorem lw_frame {s t : State} {o : Outcome} {args : Array Value} (h : Framed s o t [] room_1.cells room_1.slots) :
    Framed s o t (fieldLocs frame_1_writes args s ++ arrayLocs frame_1_arrays args s ++ staticLocs frame_1_statics s) room_1.cells room_1.slots := h
theorem lw_limb (L : Cond) (hL : ∀ (args : Array Value) (s t : State), L.after args s (.returned (some (.int 1))) t = true) :
    ArmFor flags0 classFile x code maxLocals ret World_1 tables_1 room_1 Calls_1 rest_1 Pre_1
      (fun tb e a s o t => postC L tb e a s o t ∧ Framed s o t (fieldLocs frame_1_writes a s ++ arrayLocs frame_1_arrays a s ++ staticLocs frame_1_statics s) room_1.cells room_1.slots) := by
  intro l hfl _ _ p e ha hc hk s m args below hf hfit hheap happ hpre
  have hst : l.stackTraces = false := by
    unfold Launch.stackTraces; rw [hfl]; decide
  obtain ⟨k, o, h1, h2, h3, rfl, hF⟩ := lw_comes l hst p e ha hc hk s m args below hf hfit hheap happ hpre
  exact ⟨k, _, h1, h2, h3, hL args s _, lw_frame hF⟩
theorem i_vc : Claimed_1_1 ∧ Claimed_1_2 := ⟨lw_limb limb_1_1 (fun args s t => by simp [limb_1_1, Cond.after, Cond.holds, Cond.value]), lw_limb limb_1_2 (fun args s t => Cond.after_iff.mpr (by
  first | (rw [show limb_1_2 = Cond.eq .result (.int 1) from rfl, Cond.eq_ints (x := 1) (y := 1) rfl rfl]; simp; done) | (simp [limb_1_2, Cond.value, Term.eval]; done)))⟩
