/-! THE LAW: keep, and the loop -/
section KL
variable {p : Program} {l : Launch} {e : Env} {s : State} {m : MethodId} {below : List Frame} {meth : Method} {c : Code} {H : Heap} {cells slots : Nat} {Q : State → Prop}
variable {μ : Mm} {ls : Array Slot} {b L n : Nat} {xs : Nat → Int32} {D : va_G} {cyf : Nat → ClassId} {tb : Nat → Nat} {ks : List Nat} {g : Nat → Int64}
theorem LG.grow {μ : Mm} {H : Heap} {d : Nat} (hd : d < 6) (hnk : ∀ e ∈ ks, e < 6 ∧ ¬ e = d) (hG : LG (EL s D cyf tb ks) s) (hH : LH (EL s D cyf tb ks) s g μ H) : LG (EL s D cyf (gup tb d H.size) (d :: ks)) s := by
  have hz : s.heap.size + 113 < H.size := hH.2.1.lt
  refine ⟨grow_D hd hnk hH.1 (Nat.le_refl _) hG.1, fun q hq => ?_, fun hq => ?_⟩
  · rcases grow_A hd hnk hq with h | h
    · exact hG.2.1 q h
    · omega
  · rcases grow_A hd hnk hq with h | h
    · exact hG.2.2 h
    · omega
set_option maxHeartbeats 4000000 in
set_option maxRecDepth 100000 in
theorem la_keep (C : LC p l s m c b L xs D cyf) (hn : 6 * n + 6 ≤ L) (hI : LI s D cyf tb ks μ g H) (hl : lv_has ls 8 (lcs s b (nI (6 * n)))) (hc : cells + 33 ≤ room_1.cells ∧ slots + 2800 ≤ room_1.slots)
    (kk : ∀ (tb : Nat → Nat) (ks : List Nat) (μ : Mm) (g : Nat → Int64) (H : Heap) (ls : Array Slot), LI s D cyf tb ks μ g H → lv_has ls 8 (lcs s b (nI (6 * n))) → W p l e room_1 s m #[.ref b] below meth c H [] (cells + 33) (slots + 2800) Q (F0 m 1800 ls [])) : W p l e room_1 s m #[.ref b] below meth c H [] cells slots Q (F0 m 1313 ls []) := by
  obtain ⟨hG, hH, hK, hR⟩ := hI
  have X := C.cx hG
  have hx := X.1.1
  have hb := X.1.2.1
  have fin : ∀ (tb : Nat → Nat) (ks : List Nat) (μ1 μ2 : Mm) (r : Int32) (H : Heap), LG (EL s D cyf tb ks) s → LH (EL s D cyf tb ks) s g μ1 H → f_X10_keep 1000 μ1 (xs (6 * n + 1)) = some (r, μ2) → LK ks μ2 → Rel μ2 → W p l e room_1 s m #[.ref b] below meth c H [] (cells + 32) (slots + 2775) Q (F0 m 1323 ls [.int r]) := fun tb ks μ1 μ2 r H hG hH e2 hK hR2 => by
    have X := C.cx hG
    refine lv_aload_n hx hb dL_law_1323 rfl (lv_at hl 2 rfl) ?_
    refine la_arg (n := n) (j := 1) C hH.2.2 (lv_at hl 4 rfl) (lv_at hl 0 rfl) hn rfl (by decide) dL_law_1324 dL_law_1325 dL_law_1327 dL_law_1328 dL_law_1329 ?_
    refine la_V (k := 1000) (i := 0) (As := [.int (xs (6 * n + 1))]) (rest := [.int r]) X hG hH (c_X10_keep l _ (En_l10 D cyf s.heap.size (s.heap.size + 75) tb (exs ks)) e2) ml_L_152 kv_X10_keep (la_m X hH) rfl rfl ⟨Nat.le_of_ble_eq_true rfl, Nat.le_of_ble_eq_true rfl⟩ ⟨by omega, by omega⟩ rfl rfl hl.1 (Nat.le_of_ble_eq_true rfl) dL_law_1330 (st1 := [.int r, .int r]) rfl (fun H hH => ?_)
    refine lv_icmp_eq (tgt := 1800) hx hb dL_law_1333 rfl (fun _ => ?_) (fun h => absurd rfl h)
    exact W.widen (by omega) (by omega) (kk tb ks μ2 g H ls ⟨hG, hH, hK, hR2⟩ hl)
  refine lv_aload_n hx hb dL_law_1313 rfl (lv_at hl 3 rfl) ?_
  refine la_arg (n := n) (j := 1) C hH.2.2 (lv_at hl 4 rfl) (lv_at hl 0 rfl) hn rfl (by decide) dL_law_1314 dL_law_1315 dL_law_1317 dL_law_1318 dL_law_1319 ?_
  have h9 := En_l9 D cyf s.heap.size (s.heap.size + 75) tb (exs ks)
  rcases isTape_c μ (xs (6 * n + 1)) with ⟨q1, q2⟩ | ⟨d, hd, hxd⟩
  · refine la_K (E9 := EL s D cyf tb ks) (sz := H.size) (As := [.int (xs (6 * n + 1))]) (rest := []) X C.2.2.2.2.1 hG hH rfl rfl rfl (c_keep_out l q1) (la_x X hH) rfl rfl hl.1 (Nat.le_of_ble_eq_true rfl) dL_law_1320 ⟨by omega, by omega⟩ (fun H hH => ?_)
    exact fin tb ks μ μ (-1) H hG hH (by unfold f_X10_keep; rw [q2, obs, if_pos rfl]) hK hR
  · obtain ⟨D9, C9, hr⟩ := id hR
    by_cases h3 : μ.1 600 d 3 = 0
    · have hnk : ∀ e ∈ ks, e < 6 ∧ ¬ e = d := fun e he => ⟨hK.1 e he, fun w => by subst w; exact absurd h3 ((hK.2 e hd).mpr he)⟩
      obtain ⟨m1, r, μ2, f1, f2, f3, hR2⟩ := keep_ok (F := 1000) (d := d) (m0 := wi (mkT μ (d + 1)) 600 d 3 1) (Nat.le_refl _) hd hr (fun k i j a b9 => by rw [wi_at, if_neg b9, mkT_n a]) rfl (by rw [wi_at, if_pos ⟨rfl, rfl, rfl⟩]; decide)
      have h99 := En_l9 D cyf s.heap.size (s.heap.size + 75) (gup tb d H.size) (exs (d :: ks))
      refine la_K (E9 := EL s D cyf (gup tb d H.size) (d :: ks)) (sz := H.size) (As := [.int (nI d)]) (rest := []) X C.2.2.2.2.1 hG hH rfl rfl rfl (c_keep_in l hd h9 h99.1 h99.2.2.2.2.1 (ad_eq (k := 900) (i := 0) (by unfold inT; omega)) rfl rfl (fun q hq => grow_A hd hnk hq) (fun H h1 h2 h4 => grow_D (H := H) hd hnk h1 (Nat.le_of_eq h2) h4) (c_lay_new l hd hnk h3 f1) f2) (la_x X hH) rfl (by rw [hxd]; rfl) hl.1 (Nat.le_of_ble_eq_true rfl) dL_law_1320 ⟨by omega, by omega⟩ (fun H1 hH1 => ?_)
      refine fin (gup tb d H.size) (d :: ks) (wi m1 600 d 1 5) μ2 r H1 (hG.grow hd hnk hH) hH1 (by rw [hxd]; exact f3) ⟨fun e he => ?_, fun e he => ?_⟩ hR2
      · rcases List.mem_cons.mp he with rfl | h
        · exact hd
        · exact hK.1 e h
      · have k2 : μ2.1 600 e 3 = (wi m1 600 d 1 5).1 600 e 3 := ((fr_X10_keep (by omega) (by omega) (by omega) (by omega) (by omega) (by omega) (by omega) (by omega) (by omega) (by omega) (by omega) f3)).1
        have k1 : m1.1 600 e 3 = (wi (mkT μ (d + 1)) 600 d 3 1).1 600 e 3 := kp_X7_become f1 e
        rw [k2, wi_at, if_neg (by omega), k1, wi_at]
        by_cases hed : e = d
        · subst hed
          rw [if_pos ⟨rfl, rfl, rfl⟩]
          exact ⟨fun _ => List.mem_cons_self, fun _ => by decide⟩
        · rw [if_neg (by omega), mkT_n (by unfold tc; omega)]
          refine (hK.2 e he).trans ⟨fun h => List.mem_cons_of_mem _ h, fun h => ?_⟩
          rcases List.mem_cons.mp h with h | h
          · exact absurd h hed
          · exact h
    · obtain ⟨m1, r, μ2, f1, f2, f3, hR2⟩ := keep_ok (F := 1000) (d := d) (m0 := μ) (Nat.le_refl _) hd hr (fun _ _ _ _ _ => rfl) rfl h3
      refine la_K (E9 := EL s D cyf tb ks) (sz := H.size) (As := [.int (nI d)]) (rest := []) X C.2.2.2.2.1 hG hH rfl rfl rfl (c_keep_in l hd h9 h9.1 h9.2.2.2.2.1 rfl rfl rfl (fun q hq => .inl hq) (fun H _ _ h4 => h4) (c_lay_old l h3 (m600 hd) h9.2.2.2.2.1 (hK.l7 d hd h3) f1) f2) (la_x X hH) rfl (by rw [hxd]; rfl) hl.1 (Nat.le_of_ble_eq_true rfl) dL_law_1320 ⟨by omega, by omega⟩ (fun H1 hH1 => ?_)
      refine fin tb ks (wi m1 600 d 1 5) μ2 r H1 hG hH1 (by rw [hxd]; exact f3) (hK.mv (fun e => ?_)) hR2
      have k2 : μ2.1 600 e 3 = (wi m1 600 d 1 5).1 600 e 3 := ((fr_X10_keep (by omega) (by omega) (by omega) (by omega) (by omega) (by omega) (by omega) (by omega) (by omega) (by omega) (by omega) f3)).1
      rw [k2, wi_at, if_neg (by omega)]
      exact kp_X7_become f1 e
set_option maxHeartbeats 4000000 in
theorem law_sw {x : Int32} (C : LC p l s m c b L xs D cyf) (hn : 6 * n + 6 ≤ L) (hI : LI s D cyf tb ks μ g H) (hl : lv_has ls 8 (lcs s b (nI (6 * n)))) (hc : cells + 33 ≤ room_1.cells ∧ slots + 2800 ≤ room_1.slots)
    (kk : ∀ (tb : Nat → Nat) (ks : List Nat) (μ : Mm) (g : Nat → Int64) (H : Heap) (ls : Array Slot), LI s D cyf tb ks μ g H → lv_has ls 8 (lcs s b (nI (6 * n))) → W p l e room_1 s m #[.ref b] below meth c H [] (cells + 33) (slots + 2800) Q (F0 m 1800 ls [])) : W p l e room_1 s m #[.ref b] below meth c H [] cells slots Q (F0 m 40 ls [.int x]) := by
  have hx := C.1.1
  have hb := C.1.2.1
  by_cases hout : x.toInt < 0 ∨ 36 < x.toInt
  · exact lv_tableOut (tgt := 1800) hx hb dL_law_40 hout rfl (W.widen (by omega) (by omega) (kk tb ks μ g H ls hI hl))
  · have h1 : ¬ x.toInt < 0 := fun h => hout (.inl h)
    have h2 : ¬ 36 < x.toInt := fun h => hout (.inr h)
    obtain ⟨v, hv⟩ : ∃ v : Nat, x.toInt = (v : Int) := ⟨x.toInt.toNat, by omega⟩
    have hv36 : v < 37 := by omega
    have go : ∀ (off : Int) (tgt : Nat), (#[164, 213, 250, 287, 324, 397, 446, 471, 508, 545, 582, 619, 656, 681, 706, 755, 780, 817, 878, 915, 964, 977, 1057, 1125, 1162, 1187, 1224, 1273, 1298, 1323, 1403, 1428, 1489, 1514, 1595, 1662, 1735] : Array Int)[v]? = some off → ((40 : Nat) : Int) + off = (tgt : Int) → W p l e room_1 s m #[.ref b] below meth c H [] cells slots Q (F0 m tgt ls []) → W p l e room_1 s m #[.ref b] below meth c H [] cells slots Q (F0 m 40 ls [.int x]) := fun off tgt g1 g2 k =>
      lv_tableIn hx hb dL_law_40 h1 h2 (by rw [hv, Int.sub_zero, Int.toNat_natCast]; exact g1) g2 k
    clear hv h1 h2 hout
    match v, hv36, go with
    | 0, _, go => exact go 164 204 rfl rfl (la_begin C hn hI hl hc kk)
    | 1, _, go => exact go 213 253 rfl rfl (la_home C hn hI hl hc kk)
    | 2, _, go => exact go 250 290 rfl rfl (la_rank C hn hI hl hc kk)
    | 3, _, go => exact go 287 327 rfl rfl (la_other C hn hI hl hc kk)
    | 4, _, go => exact go 324 364 rfl rfl (la_mark C hn hI hl hc kk)
    | 5, _, go => exact go 397 437 rfl rfl (la_told C hn hI hl hc kk)
    | 6, _, go => exact go 446 486 rfl rfl (la_state C hn hI hl hc kk)
    | 7, _, go => exact go 471 511 rfl rfl (la_holder C hn hI hl hc kk)
    | 8, _, go => exact go 508 548 rfl rfl (la_sum C hn hI hl hc kk)
    | 9, _, go => exact go 545 585 rfl rfl (la_busy C hn hI hl hc kk)
    | 10, _, go => exact go 582 622 rfl rfl (la_wait C hn hI hl hc kk)
    | 11, _, go => exact go 619 659 rfl rfl (la_held C hn hI hl hc kk)
    | 12, _, go => exact go 656 696 rfl rfl (la_chain C hn hI hl hc kk)
    | 13, _, go => exact go 681 721 rfl rfl (la_jobs C hn hI hl hc kk)
    | 14, _, go => exact go 706 746 rfl rfl (la_job C hn hI hl hc kk)
    | 15, _, go => exact go 755 795 rfl rfl (la_worst C hn hI hl hc kk)
    | 16, _, go => exact go 780 820 rfl rfl (la_late C hn hI hl hc kk)
    | 17, _, go => exact go 817 857 rfl rfl (la_law C hn hI hl hc kk)
    | 18, _, go => exact go 878 918 rfl rfl (la_breaks C hn hI hl hc kk)
    | 19, _, go => exact go 915 955 rfl rfl (la_broken C hn hI hl hc kk)
    | 20, _, go => exact go 964 1004 rfl rfl (la_agree C hn hI hl hc kk)
    | 21, _, go => exact go 977 1017 rfl rfl (la_gap C hn hI hl hc kk)
    | 22, _, go => exact go 1057 1097 rfl rfl (la_answer C hn hI hl hc kk)
    | 23, _, go => exact go 1125 1165 rfl rfl (la_again C hn hI hl hc kk)
    | 24, _, go => exact go 1162 1202 rfl rfl (la_slowest C hn hI hl hc kk)
    | 25, _, go => exact go 1187 1227 rfl rfl (la_period C hn hI hl hc kk)
    | 26, _, go => exact go 1224 1264 rfl rfl (la_tape C hn hI hl hc kk)
    | 27, _, go => exact go 1273 1313 rfl rfl (la_keep C hn hI hl hc kk)
    | 28, _, go => exact go 1298 1338 rfl rfl (la_back C hn hI hl hc kk)
    | 29, _, go => exact go 1323 1363 rfl rfl (la_differ C hn hI hl hc kk)
    | 30, _, go => exact go 1403 1443 rfl rfl (la_toss C hn hI hl hc kk)
    | 31, _, go => exact go 1428 1468 rfl rfl (la_play C hn hI hl hc kk)
    | 32, _, go => exact go 1489 1529 rfl rfl (la_clear C hn hI hl hc kk)
    | 33, _, go => exact go 1514 1554 rfl rfl (la_put C hn hI hl hc kk)
    | 34, _, go => exact go 1595 1635 rfl rfl (la_at C hn hI hl hc kk)
    | 35, _, go => exact go 1662 1702 rfl rfl (la_copy C hn hI hl hc kk)
    | 36, _, go => exact go 1735 1775 rfl rfl (la_count C hn hI hl hc kk)
    | k + 37, h, _ => exact absurd h (by omega)
theorem cond_gt {L n : Nat} (hL : L ≤ 3072) (hn : 6 * n ≤ L) : (nI L - (6 : Int32) < nI (6 * n)) ↔ L < 6 * n + 6 := by
  have h1 : (nI L - (6 : Int32)).toInt = (L : Int) - 6 := by
    rw [Int32.toInt_sub, nIT (by omega), show (6 : Int32).toInt = 6 from by decide]
    exact Int.bmod_eq_of_le (by omega) (by omega)
  rw [Int32.lt_iff_toInt_lt, h1, nIT (by omega)]
  omega
set_option maxHeartbeats 4000000 in
theorem law_loop (C : LC p l s m c b L xs D cyf) (ke : ∀ (H : Heap) (ls : Array Slot), W p l e room_1 s m #[.ref b] below meth c H [] room_1.cells room_1.slots Q (F0 m 1806 ls [])) : ∀ (k n : Nat) (tb : Nat → Nat) (ks : List Nat) (μ : Mm) (g : Nat → Int64) (H : Heap) (ls : Array Slot) (cells slots : Nat), L ≤ 6 * n + 6 * k + 5 → 6 * n ≤ L → cells ≤ 114 + 33 * n → slots ≤ 25079 + 2800 * n → LI s D cyf tb ks μ g H → lv_has ls 8 (lcs s b (nI (6 * n))) →
    W p l e room_1 s m #[.ref b] below meth c H [] cells slots Q (F0 m 23 ls []) := by
  have hx := C.1.1
  have hb := C.1.2.1
  have hL := C.2.2.2.2.2.2.2.2
  have r1 := rm_c
  have r2 := rm_s
  intro k
  induction k with
  | zero =>
    intro n tb ks μ g H ls cells slots h1 h2 h3 h4 hI hl
    have hS := hI.2.1.2.2
    refine lv_iload hx hb dL_law_23 (lv_at hl 0 rfl) ?_
    refine lv_aload_n hx hb dL_law_25 rfl (lv_at hl 4 rfl) ?_
    refine va_slen hx hb C.2.2.1 C.2.2.2.1 (Nat.not_le.mpr C.2.2.2.1) hS dL_law_26 ?_
    refine lv_bipush (v := (6 : Int32)) hx hb dL_law_27 kb_6 ?_
    refine lv_isub hx hb dL_law_29 ?_
    refine lv_icmp_gt (tgt := 1806) hx hb dL_law_30 rfl (fun _ => W.widen (by omega) (by omega) (ke H ls)) (fun h => absurd ((cond_gt hL h2).mpr (by omega)) h)
  | succ k ih =>
    intro n tb ks μ g H ls cells slots h1 h2 h3 h4 hI hl
    have hS := hI.2.1.2.2
    refine lv_iload hx hb dL_law_23 (lv_at hl 0 rfl) ?_
    refine lv_aload_n hx hb dL_law_25 rfl (lv_at hl 4 rfl) ?_
    refine va_slen hx hb C.2.2.1 C.2.2.2.1 (Nat.not_le.mpr C.2.2.2.1) hS dL_law_26 ?_
    refine lv_bipush (v := (6 : Int32)) hx hb dL_law_27 kb_6 ?_
    refine lv_isub hx hb dL_law_29 ?_
    refine lv_icmp_gt (tgt := 1806) hx hb dL_law_30 rfl (fun _ => W.widen (by omega) (by omega) (ke H ls)) (fun hq => ?_)
    have hn6 : 6 * n + 6 ≤ L := by
      rcases Nat.lt_or_ge L (6 * n + 6) with h | h
      · exact absurd ((cond_gt hL h2).mpr h) hq
      · exact h
    refine lv_aload_n hx hb dL_law_33 rfl (lv_at hl 4 rfl) ?_
    refine lv_iload hx hb dL_law_34 (lv_at hl 0 rfl) ?_
    refine va_sld hx hb C.2.2.1 C.2.2.2.1 (Nat.not_le.mpr C.2.2.2.1) hS (i := nI (6 * n)) ?_ dL_law_36 ?_
    · show ¬ (nI (6 * n) < 0 ∨ L ≤ (nI (6 * n)).toNatClampNeg)
      rw [clN (by omega)]
      intro h
      rcases h with h | h
      · exact nN0 (by omega) h
      · omega
    refine lv_bipush (v := (63 : Int32)) hx hb dL_law_37 kb_63 ?_
    refine lv_iand hx hb dL_law_39 ?_
    refine law_sw C hn6 hI hl ⟨by omega, by omega⟩ (fun tb ks μ g H ls hI hl => ?_)
    refine lv_iinc (v := nI (6 * (n + 1))) hx hb dL_law_1800 hl (k := 0) rfl ?_ (by decide) rfl (fun ls hl => ?_)
    · rw [show Int32.ofInt 6 = nI 6 from by decide, nI_add]
      rfl
    have hl : lv_has ls 8 (lcs s b (nI (6 * (n + 1)))) := hl
    refine lv_goto (tgt := 23) hx hb dL_law_1803 rfl ?_
    exact ih (n + 1) tb ks μ g H ls (cells + 33) (slots + 2800) (by omega) (by omega) (by omega) (by omega) hI hl
end KL
