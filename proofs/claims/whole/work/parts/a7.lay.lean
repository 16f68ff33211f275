/-! keep: the tape's copy is made, or used again -/
def Pl (E : En) (sz : Nat) (av : List Value) (μ : Mm) : Array Value → State → Prop := va_Pc av (fun U => U.heap.size = sz ∧ va_P (eD E) vwCl (wl E μ) U.heap ∧ va_K (eD E) vwCl (tyE E) U ∧ Dj E ∧ Nx U)
def Ql (E : En) (sz : Nat) (E' : En) (v : Option Value) (μ : Mm) : Array Value → State → Outcome → State → Prop := fun _ st oc t => oc = .returned v ∧ va_P (eD E) vwCl (wl E' μ) t.heap ∧ va_F (fun q => Ad E q ∨ sz ≤ q) st t
theorem Pl_blind {E : En} {sz : Nat} {av : List Value} {μ : Mm} : FrameBlind (Pl E sz av μ) := fun a U g mk q => by
  obtain ⟨q0, qs, qP, qK, qD, qN⟩ := q
  exact ⟨q0, qs, qP, va_K.moved (u := U) (U := U.calling g mk a) (Vm.Alike.refl U.vm) qK, qD, qN.1.moved (U := U.calling g mk a) (Vm.Alike.refl U.vm), qN.2.1.moved (U := U.calling g mk a) (Vm.Alike.refl U.vm), fun z hz => va_Nw.same (U := U.calling g mk a) rfl rfl (qN.2.2 z hz)⟩
theorem cl_X6_32 : Cond.classLink RX6 32 RX7 ∈ T1 := T1_of 962 (by decide +kernel) rfl
theorem dX6_layCopy_0 : decode cX6_layCopy 0 = .ok (.aload_n 0, 1) := by decide +kernel
theorem dX6_layCopy_1 : decode cX6_layCopy 1 = .ok (.getfield 22, 3) := by decide +kernel
theorem dX6_layCopy_4 : decode cX6_layCopy 4 = .ok (.ifnonnull 14, 3) := by decide +kernel
theorem dX6_layCopy_7 : decode cX6_layCopy 7 = .ok (.aload_n 0, 1) := by decide +kernel
theorem dX6_layCopy_8 : decode cX6_layCopy 8 = .ok (.new 32, 3) := by decide +kernel
theorem dX6_layCopy_11 : decode cX6_layCopy 11 = .ok (.dup, 1) := by decide +kernel
theorem dX6_layCopy_12 : decode cX6_layCopy 12 = .ok (.invokespecial 34, 3) := by decide +kernel
theorem dX6_layCopy_15 : decode cX6_layCopy 15 = .ok (.putfield 22, 3) := by decide +kernel
theorem dX6_layCopy_18 : decode cX6_layCopy 18 = .ok (.aload_n 0, 1) := by decide +kernel
theorem dX6_layCopy_19 : decode cX6_layCopy 19 = .ok (.getfield 22, 3) := by decide +kernel
theorem dX6_layCopy_22 : decode cX6_layCopy 22 = .ok (.aload_n 1, 1) := by decide +kernel
theorem dX6_layCopy_23 : decode cX6_layCopy 23 = .ok (.invokevirtual 35, 3) := by decide +kernel
theorem dX6_layCopy_26 : decode cX6_layCopy 26 = .ok (.aload_n 0, 1) := by decide +kernel
theorem dX6_layCopy_27 : decode cX6_layCopy 27 = .ok (.iconst 5, 1) := by decide +kernel
theorem dX6_layCopy_28 : decode cX6_layCopy 28 = .ok (.putfield 15, 3) := by decide +kernel
theorem dX6_layCopy_31 : decode cX6_layCopy 31 = .ok (.return_, 1) := by decide +kernel
section LL
variable {p : Program} {l : Launch} {e : Env} {R : Room} {s : State} {m : MethodId} {args : Array Value} {below : List Frame} {meth : Method} {c : Code} {H : Heap} {locs : List Loc} {cells slots : Nat} {Q : State → Prop}
variable {E : En} {μ μ' : Mm} {cc : ByteArray} {nL : Nat} {own : String} {pc : Nat} {ls : Array Slot} {rest : List Value} {i : Nat}
theorem pf_6_3 {index : Nat} (C : Cx E p s m args c cc nL own) (hI : Iv E s μ H locs) (hin : (600, i) ∈ eL E) (hlink : Cond.fieldLink own index RX6 "kept" "LTaskTrace$Trace;" ∈ T1) (hdg : decode cc pc = .ok (.putfield index, 3))
    (kk : ∀ (H1 : Heap) (locs1 : List Loc), Iv E s (wi μ 600 i 3 1) H1 locs1 → W p l e R s m args below meth c H1 locs1 cells slots Q (F0 m (pc + 3) ls rest)) : W p l e R s m args below meth c H locs cells slots Q (F0 m pc ls (.ref (ad E 700 (i + 1)) :: .ref (ad E 600 i) :: rest)) := by
  obtain ⟨j, h1, h2⟩ := wl_get hin μ
  rw [ce_600] at h2
  refine va_put (D := eD E) (ci := 6) (v := .ref (ad E 700 (i + 1))) (ty := .object RX7) (C := RX6) (T := TX6) (N := 4) C.1.1 C.1.2.1 C.1.2.2.2.2 uw_6 tyX6 tyX6_ok nmX6 C.1.2.2.2.1 C.2.1 hI.1 (wl_D C.2.2 μ) hI.2 j h2 rfl 3 (by decide) (m_in C hlink) (fun _ h9 => h9) rfl (by decide +kernel) rfl rfl (Nat.le_of_ble_eq_true rfl) hdg (fun H1 locs1 hP _ hS => kk H1 locs1 ⟨?_, hS⟩)
  rw [← wl_set C.2.2 (μ := μ) (μ' := wi μ 600 i 3 1) h1 (fun a b h => sr_n a b h), show (wi μ 600 i 3 1).1 600 i = upd (μ.1 600 i) 3 1 from sr_s _ _ _ _, show (wi μ 600 i 3 1).2 600 i = μ.2 600 i from rfl, ce_600]
  exact hP
end LL
theorem grow_A {D : va_G} {cyf : Nat → ClassId} {b0 bm : Nat} {tb : Nat → Nat} {ks : List Nat} {d sz q : Nat} (hd : d < 6) (hks : ∀ e ∈ ks, e < 6 ∧ ¬ e = d) (h : Ad (En0 D cyf b0 bm (gup tb d sz) (exs (d :: ks))) q) : Ad (En0 D cyf b0 bm tb (exs ks)) q ∨ sz ≤ q := by
  obtain ⟨c, hc, rfl⟩ := h
  have hc : c ∈ L9 ++ (L10 ++ (exs ks ++ tcs (d + 1))) := hc
  rw [← List.append_assoc L10, ← List.append_assoc L9] at hc
  rcases List.mem_append.mp hc with h | h
  · exact .inl ⟨c, h, (adr_eq (old_out hks hd h)).symm⟩
  · right
    obtain ⟨i, hi⟩ := List.getElem?_of_mem h
    have h2 : ((tcs (d + 1)).map (fun c => (ad (En0 D cyf b0 bm (gup tb d sz) (exs (d :: ks))) c.1 c.2, ce (En0 D cyf b0 bm (gup tb d sz) (exs (d :: ks))) ((mkT mu0 (d + 1)).1 c.1 c.2) ((mkT mu0 (d + 1)).2 c.1 c.2) c.1 c.2)))[i]? = some (ad (En0 D cyf b0 bm (gup tb d sz) (exs (d :: ks))) c.1 c.2, ce (En0 D cyf b0 bm (gup tb d sz) (exs (d :: ks))) ((mkT mu0 (d + 1)).1 c.1 c.2) ((mkT mu0 (d + 1)).2 c.1 c.2) c.1 c.2) := by rw [List.getElem?_map, hi]; rfl
    rw [wl_t hd] at h2
    have := (blk_inv h2).2.1
    show sz ≤ ad (En0 D cyf b0 bm (gup tb d sz) (exs (d :: ks))) c.1 c.2
    have h3 : ad (En0 D cyf b0 bm (gup tb d sz) (exs (d :: ks))) c.1 c.2 = sz + i := this
    omega
set_option maxHeartbeats 4000000 in
set_option maxRecDepth 100000 in
theorem lay_gen (l : Launch) {E E' : En} {μ : Mm} {F d sz : Nat} {z : Mm} (h3 : μ.1 600 d 3 = 0) (m6 : (600, d) ∈ eL E) (m6' : (600, d) ∈ eL E') (a6 : ad E 600 d = ad E' 600 d) (a70 : ad E 700 0 = ad E' 700 0) (a7 : ad E' 700 (d + 1) = sz) (xd : eD E' = eD E) (xt : tyE E' = tyE E) (hA' : ∀ q, Ad E' q → Ad E q ∨ sz ≤ q)
    (gP : ∀ H : Heap, va_P (eD E) vwCl (wl E μ) H → va_P (eD E) vwCl (blk sz (kb7 E sz)) H → va_P (eD E') vwCl (wl E' (mkT μ (d + 1))) H) (l70 : l7 E' 0) (l7d : l7 E' (d + 1)) (gD : ∀ H : Heap, va_P (eD E) vwCl (wl E μ) H → H.size = sz → Dj E → Dj E') (hf : f_X7_become F (wi (mkT μ (d + 1)) 600 d 3 1) (d + 1) 0 = some z) :
    Met l yX6_layCopy (wt yX6_layCopy cX6_layCopy 2 none) { frames := 4, cells := 32, slots := 2775, locals := 104 } (Pl E sz [.ref (ad E 600 d), .ref (ad E 700 0)] μ) (Ql E sz E' none (wi z 600 d 1 5)) 32 2775 (fun q => Ad E q ∨ sz ≤ q) := by
  refine Met.ofW (cc := cX6_layCopy) (maxL := 2) (ret := none) (by decide) rfl ?_
  intro p e s m args below meth c s₁ B hml hv
  obtain ⟨rfl, hz, hP, hK, hD, hN⟩ := hv
  have hts := atoms_spec (ws := wt yX6_layCopy cX6_layCopy 2 none) B.pre
  have hown : s.vm.findClass RX6 = some m.cls := findClass_of_methodNamed B.named
  have hl := lv_entry [.ref (ad E 600 d), .ref (ad E 700 0)] (n := 2) (Nat.le_of_ble_eq_true rfl)
  have hr := B.returns
  have hlk := B.notSynchronized
  rw [lg_entry_eq]
  generalize (lg_sl [.ref (ad E 600 d), .ref (ad E 700 0)] ++ List.replicate (2 - (lg_sl [.ref (ad E 600 d), .ref (ad E 700 0)]).length) Slot.unset).toArray = ls at hl ⊢
  have hD' : Dj E' := gD s.heap hP hz hD
  have C : Cx E p s m [.ref (ad E 600 d), .ref (ad E 700 0)].toArray c cX6_layCopy 2 RX6 := ⟨⟨B.exec, B.bytes, hml, hown, fun w hw => hts w (List.mem_cons_of_mem _ hw)⟩, hK, hD⟩
  have C' : Cx E' p s m [.ref (ad E 600 d), .ref (ad E 700 0)].toArray c cX6_layCopy 2 RX6 := ⟨C.1, by rw [xd, xt]; exact C.2.1, hD'⟩
  have hx := C.1.1
  have hb := C.1.2.1
  have hl : lv_has ls 2 [(0, .ref (ad E 600 d)), (1, .ref (ad E 700 0))] := hl
  refine lv_aload_n hx hb dX6_layCopy_0 rfl (lv_at hl 0 rfl) ?_
  refine gf_6_3 C (μ := μ) (H := s.heap) (locs := []) ⟨hP, va_S.rf⟩ m6 fl_X6_22 dX6_layCopy_1 ?_
  rw [if_pos h3]
  refine lv_ifnonnullN hx hb dX6_layCopy_4 ?_
  refine lv_aload_n hx hb dX6_layCopy_7 rfl (lv_at hl 0 rfl) ?_
  have hB : Bq E s sz [] 0 s.heap [] := ⟨(fun k x hk => by cases hk), va_S.rf, Nat.le_of_eq hz.symm, hz, Nat.le_of_eq hz.symm⟩
  refine bk_new (Cn := RX7) (T := TX7) (N := 7) (ci := 7) (ty0 := tyX7) (fs := [.null, .null, .null, .null, .int 0, .int 0, .int 0]) uw_7 tyX7_ok rfl (by decide) (n9 := 0) rfl C hB cl_X6_32 it_X7 in_X7 (Nat.le_of_ble_eq_true rfl) (Nat.le_of_ble_eq_true rfl) dX6_layCopy_8 (fun H hB => ?_)
  refine lv_dup hx hb dX6_layCopy_11 rfl ?_
  refine bk_init (es := []) (rest := [.ref (sz + 0), .ref (ad E 600 d)]) (es1 := kb7 E (sz + 0)) (n9 := 0) rfl (c_X7_init l E hD (sz + 0)) rfl C hN hB ml_X6_34 in_X7 cw_X7 im_X7 (by decide +kernel) ⟨Nat.le_of_ble_eq_true rfl, Nat.le_of_ble_eq_true rfl⟩ ⟨Nat.le_of_ble_eq_true rfl, Nat.le_of_ble_eq_true rfl⟩ hl.1 (Nat.le_of_ble_eq_true rfl) dX6_layCopy_12 (fun H locs hB => ?_)
  obtain ⟨b1, b2, b3, b4, b5⟩ := id hB
  refine va_forget (fun q hq => by have := b2.2.2 q hq; show s.heap.size ≤ q.base; omega) ?_
  have same : ∀ q : Nat, q < s.heap.size → H[q]? = s.heap[q]? := fun q hq => b2.2.1 q hq (by show ¬ sz ≤ q; omega)
  have hP1 : va_P (eD E) vwCl (wl E μ) H := hP.kept (fun k x hx => same _ (hP k x hx).lt)
  have hI : Iv E' s (mkT μ (d + 1)) H [] := ⟨gP H hP1 b1, b2.1, fun q h _ => same q h, fun q hq => by cases hq⟩
  refine W.eq (g2 := F0 m 15 ls [.ref (ad E' 700 (d + 1)), .ref (ad E' 600 d)]) (by rw [a7, ← a6]; rfl) ?_
  have hl : lv_has ls 2 [(0, .ref (ad E' 600 d)), (1, .ref (ad E' 700 0))] := by rw [← a6, ← a70]; exact hl
  refine pf_6_3 C' hI m6' fl_X6_22 dX6_layCopy_15 (fun H locs hI => ?_)
  refine lv_aload_n hx hb dX6_layCopy_18 rfl (lv_at hl 0 rfl) ?_
  refine gf_6_3 C' hI m6' fl_X6_22 dX6_layCopy_19 ?_
  rw [if_neg (show ¬ (wi (mkT μ (d + 1)) 600 d 3 1).1 600 d 3 = 0 from by rw [wi_at, if_pos ⟨rfl, rfl, rfl⟩]; decide)]
  refine lv_aload_n hx hb dX6_layCopy_22 rfl (lv_at hl 1 rfl) ?_
  refine m_callV (As := [.ref (ad E' 700 0)]) (rest := []) C' hI (c_X7_become l E' l7d l70 hf) ml_X6_35 kv_X7_become (m_recv C' hI l7d.1 (ce_700 E' _ _ _) rfl) rfl rfl ⟨Nat.le_of_ble_eq_true rfl, Nat.le_of_ble_eq_true rfl⟩ ⟨Nat.le_of_ble_eq_true rfl, Nat.le_of_ble_eq_true rfl⟩ rfl rfl hl.1 (Nat.le_of_ble_eq_true rfl) dX6_layCopy_23 (fun H locs hI => ?_)
  refine lv_aload_n hx hb dX6_layCopy_26 rfl (lv_at hl 0 rfl) ?_
  refine lv_iconst (v := (5 : Int32)) hx hb dX6_layCopy_27 kc_5 ?_
  refine pf_6_1 C' hI m6' fl_X6_15 rfl dX6_layCopy_28 (fun H locs hI => ?_)
  exact W.vret hx hb hr (fun t ht _ => ⟨rfl, by rw [ht, ← xd]; exact hI.1, by rw [ht]; exact hI.2.1, fun q h1 h2 => by rw [ht]; exact hI.2.2.1 q h1 (fun w => h2 (hA' q w))⟩) (fun q hq => hA' _ (hI.2.2.2 q hq)) dX6_layCopy_31 hlk
theorem m600 {D : va_G} {cyf : Nat → ClassId} {b0 bm : Nat} {tb : Nat → Nat} {ex : List (Nat × Nat)} {d : Nat} (hd : d < 6) : (600, d) ∈ eL (En0 D cyf b0 bm tb ex) := by
  refine En_mem9 ?_
  rcases (show d = 0 ∨ d = 1 ∨ d = 2 ∨ d = 3 ∨ d = 4 ∨ d = 5 by omega) with rfl | rfl | rfl | rfl | rfl | rfl <;> decide
theorem a700 (D : va_G) (cyf : Nat → ClassId) (b0 bm : Nat) (tb : Nat → Nat) (ex : List (Nat × Nat)) (d sz : Nat) : ad (En0 D cyf b0 bm (gup tb d sz) ex) 700 (d + 1) = sz := by
  show gup tb d sz d + 0 = sz
  unfold gup; rw [if_pos rfl, Nat.add_zero]
theorem ad_eq {D : va_G} {cyf : Nat → ClassId} {b0 bm : Nat} {tb : Nat → Nat} {ex ex' : List (Nat × Nat)} {d sz k i : Nat} (h : ¬ inT (d + 1) k i) : ad (En0 D cyf b0 bm tb ex) k i = ad (En0 D cyf b0 bm (gup tb d sz) ex') k i := (adr_eq h).symm
set_option maxRecDepth 100000 in
theorem c_lay_new (l : Launch) {D : va_G} {cyf : Nat → ClassId} {b0 bm : Nat} {tb : Nat → Nat} {ks : List Nat} {μ : Mm} {F d sz : Nat} {z : Mm} (hd : d < 6) (hks : ∀ e ∈ ks, e < 6 ∧ ¬ e = d) (h3 : μ.1 600 d 3 = 0) (hf : f_X7_become F (wi (mkT μ (d + 1)) 600 d 3 1) (d + 1) 0 = some z) :
    Met l yX6_layCopy (wt yX6_layCopy cX6_layCopy 2 none) { frames := 4, cells := 32, slots := 2775, locals := 104 } (Pl (En0 D cyf b0 bm tb (exs ks)) sz [.ref (ad (En0 D cyf b0 bm tb (exs ks)) 600 d), .ref (ad (En0 D cyf b0 bm tb (exs ks)) 700 0)] μ) (Ql (En0 D cyf b0 bm tb (exs ks)) sz (En0 D cyf b0 bm (gup tb d sz) (exs (d :: ks))) none (wi z 600 d 1 5)) 32 2775 (fun q => Ad (En0 D cyf b0 bm tb (exs ks)) q ∨ sz ≤ q) :=
  lay_gen l h3 (m600 hd) (m600 hd) (ad_eq (k := 600) (i := d) (by unfold inT; omega)) (ad_eq (k := 700) (i := 0) (by unfold inT; omega)) (a700 D cyf b0 bm tb _ d sz) rfl rfl (fun _ h => grow_A hd hks h) (fun _ h1 h2 => grow_P hd hks h3 h1 h2) (En_l9 D cyf b0 bm _ _).2.2.2.2.1 (grow_l7 List.mem_cons_self) (fun H h1 h2 h4 => grow_D (H := H) hd hks h1 (Nat.le_of_eq h2) h4) hf
set_option maxHeartbeats 4000000 in
theorem c_lay_old (l : Launch) {E : En} {μ : Mm} {F d sz : Nat} {z : Mm} (h3 : ¬ μ.1 600 d 3 = 0) (m6 : (600, d) ∈ eL E) (l70 : l7 E 0) (l7d : l7 E (d + 1)) (hf : f_X7_become F μ (d + 1) 0 = some z) :
    Met l yX6_layCopy (wt yX6_layCopy cX6_layCopy 2 none) { frames := 4, cells := 32, slots := 2775, locals := 104 } (Pl E sz [.ref (ad E 600 d), .ref (ad E 700 0)] μ) (Ql E sz E none (wi z 600 d 1 5)) 32 2775 (fun q => Ad E q ∨ sz ≤ q) := by
  refine Met.ofW (cc := cX6_layCopy) (maxL := 2) (ret := none) (by decide) rfl ?_
  intro p e s m args below meth c s₁ B hml hv
  obtain ⟨rfl, hz, hP, hK, hD, hN⟩ := hv
  have hts := atoms_spec (ws := wt yX6_layCopy cX6_layCopy 2 none) B.pre
  have hown : s.vm.findClass RX6 = some m.cls := findClass_of_methodNamed B.named
  have hl := lv_entry [.ref (ad E 600 d), .ref (ad E 700 0)] (n := 2) (Nat.le_of_ble_eq_true rfl)
  have hr := B.returns
  have hlk := B.notSynchronized
  rw [lg_entry_eq]
  generalize (lg_sl [.ref (ad E 600 d), .ref (ad E 700 0)] ++ List.replicate (2 - (lg_sl [.ref (ad E 600 d), .ref (ad E 700 0)]).length) Slot.unset).toArray = ls at hl ⊢
  have C : Cx E p s m [.ref (ad E 600 d), .ref (ad E 700 0)].toArray c cX6_layCopy 2 RX6 := ⟨⟨B.exec, B.bytes, hml, hown, fun w hw => hts w (List.mem_cons_of_mem _ hw)⟩, hK, hD⟩
  have hx := C.1.1
  have hb := C.1.2.1
  have hl : lv_has ls 2 [(0, .ref (ad E 600 d)), (1, .ref (ad E 700 0))] := hl
  refine W.widen (k := 32) (n := 2775) (by omega) (by omega) ?_
  have hI : Iv E s μ s.heap [] := ⟨hP, va_S.rf⟩
  refine lv_aload_n hx hb dX6_layCopy_0 rfl (lv_at hl 0 rfl) ?_
  refine gf_6_3 C hI m6 fl_X6_22 dX6_layCopy_1 ?_
  rw [if_neg h3]
  refine lv_ifnonnull (tgt := 18) hx hb dX6_layCopy_4 rfl ?_
  refine lv_aload_n hx hb dX6_layCopy_18 rfl (lv_at hl 0 rfl) ?_
  refine gf_6_3 C hI m6 fl_X6_22 dX6_layCopy_19 ?_
  rw [if_neg h3]
  refine lv_aload_n hx hb dX6_layCopy_22 rfl (lv_at hl 1 rfl) ?_
  refine m_callV (As := [.ref (ad E 700 0)]) (rest := []) C hI (c_X7_become l E l7d l70 hf) ml_X6_35 kv_X7_become (m_recv C hI l7d.1 (ce_700 E _ _ _) rfl) rfl rfl ⟨Nat.le_of_ble_eq_true rfl, Nat.le_of_ble_eq_true rfl⟩ ⟨Nat.le_of_ble_eq_true rfl, Nat.le_of_ble_eq_true rfl⟩ rfl rfl hl.1 (Nat.le_of_ble_eq_true rfl) dX6_layCopy_23 (fun H locs hI => ?_)
  refine lv_aload_n hx hb dX6_layCopy_26 rfl (lv_at hl 0 rfl) ?_
  refine lv_iconst (v := (5 : Int32)) hx hb dX6_layCopy_27 kc_5 ?_
  refine pf_6_1 C hI m6 fl_X6_15 rfl dX6_layCopy_28 (fun H locs hI => ?_)
  exact W.vret hx hb hr (fun t ht _ => ⟨rfl, by rw [ht]; exact hI.1, by rw [ht]; exact hI.2.1, fun q h1 h2 => by rw [ht]; exact hI.2.2.1 q h1 (fun w => h2 (.inl w))⟩) (fun q hq => .inl (hI.2.2.2 q hq)) dX6_layCopy_31 hlk
