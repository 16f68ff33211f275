/-! MARKS: told before? the clock; one more mark on a lane -/
def mkv (W : Nat) : Int32 := ((1 : Int32) <<< (nI W &&& 31)) - (1 : Int32)
theorem maskE {W : Nat} (h1 : 4 ≤ W) (h2 : W ≤ 16) (x : Int32) : ∃ j, j < 65536 ∧ x &&& mkv W = nI j := by
  have key : ∀ (W : Nat), (mkv W).toBitVec.toNat = 2 ^ W - 1 → W ≤ 16 → ∃ j, j < 65536 ∧ x &&& mkv W = nI j := fun W hm hW => by
    obtain ⟨j, hj, e⟩ := pk_andE x W hm
    exact ⟨j, Nat.lt_of_lt_of_le hj (Nat.pow_le_pow_right (by omega) hW), e⟩
  rcases (show W = 4 ∨ W = 5 ∨ W = 6 ∨ W = 7 ∨ W = 8 ∨ W = 9 ∨ W = 10 ∨ W = 11 ∨ W = 12 ∨ W = 13 ∨ W = 14 ∨ W = 15 ∨ W = 16 by omega) with rfl | rfl | rfl | rfl | rfl | rfl | rfl | rfl | rfl | rfl | rfl | rfl | rfl <;> exact key _ (by decide) (by omega)
theorem maskV {W : Nat} (h1 : 4 ≤ W) (h2 : W ≤ 16) : ∃ v, v < 65536 ∧ mkv W = nI v := by
  rcases (show W = 4 ∨ W = 5 ∨ W = 6 ∨ W = 7 ∨ W = 8 ∨ W = 9 ∨ W = 10 ∨ W = 11 ∨ W = 12 ∨ W = 13 ∨ W = 14 ∨ W = 15 ∨ W = 16 by omega) with rfl | rfl | rfl | rfl | rfl | rfl | rfl | rfl | rfl | rfl | rfl | rfl | rfl
  · exact ⟨15, by omega, by decide⟩
  · exact ⟨31, by omega, by decide⟩
  · exact ⟨63, by omega, by decide⟩
  · exact ⟨127, by omega, by decide⟩
  · exact ⟨255, by omega, by decide⟩
  · exact ⟨511, by omega, by decide⟩
  · exact ⟨1023, by omega, by decide⟩
  · exact ⟨2047, by omega, by decide⟩
  · exact ⟨4095, by omega, by decide⟩
  · exact ⟨8191, by omega, by decide⟩
  · exact ⟨16383, by omega, by decide⟩
  · exact ⟨32767, by omega, by decide⟩
  · exact ⟨65535, by omega, by decide⟩
theorem nb_in : ∀ a : Nat, a < 128 → (nI a).toInt8.toInt32 = nI a := by decide
theorem nb_m1 : (-1 : Int32).toInt8.toInt32 = -1 := by decide
/-- the reference asks whether a mark k with x was told -/
theorem told13 {F : Nat} {m : Mm} {p : Nat} {L : La} {k x : Int32} (hM : ML m p L) (K2 : Int32 → Int32 → Int32 → Option Int32) : ∀ (N j : Nat), zn L - j < N → j ≤ zn L → ((∃ i, j ≤ i ∧ i < zn L ∧ zK L i = k ∧ zX L i = x) → f_X10_wasTold_b13 F m K2 N k x (nI p) (nI j) = some 1) ∧ ((¬ ∃ i, j ≤ i ∧ i < zn L ∧ zK L i = k ∧ zX L i = x) → f_X10_wasTold_b13 F m K2 N k x (nI p) (nI j) = K2 k x (nI (p + 1))) := by
  obtain ⟨h1, h2, h3, h4⟩ := hM
  intro N
  induction N with
  | zero => intro j h; omega
  | succ N ih =>
    intro j hj hj2
    rw [f_X10_wasTold_b13, ra_in h1 (by omega), obs, h3]
    by_cases e : j = zn L
    · rw [if_pos (nle (by omega) (by omega) (by omega)), s1]
      exact ⟨fun ⟨i, a, b, _⟩ => by omega, fun _ => rfl⟩
    · have hjn : j < zn L := by omega
      obtain ⟨k1, -, k3, -⟩ := h4 j hjn
      obtain ⟨i1, i2⟩ := ih (j + 1) (by omega) (by omega)
      rw [if_neg (ngt (by omega) (by omega) hjn), show (200 : Int32) = nI 200 from rfl, pk_mul, nI_add, ra_in (by omega) (by omega), obs, k1, ra_in (by omega) (by omega), obs, k3, s1]
      by_cases q1 : zK L j = k
      · rw [if_pos q1]
        by_cases q2 : zX L j = x
        · rw [if_pos q2]
          exact ⟨fun _ => rfl, fun z => absurd ⟨j, by omega, hjn, q1, q2⟩ z⟩
        · rw [if_neg q2]
          refine ⟨fun ⟨i, a, b, c, d⟩ => i1 ⟨i, ?_, b, c, d⟩, fun z => i2 (fun ⟨i, a, b, c, d⟩ => z ⟨i, by omega, b, c, d⟩)⟩
          rcases Nat.lt_or_ge j i with w | w
          · omega
          · exact absurd d (by rw [show i = j by omega]; exact q2)
      · rw [if_neg q1]
        refine ⟨fun ⟨i, a, b, c, d⟩ => i1 ⟨i, ?_, b, c, d⟩, fun z => i2 (fun ⟨i, a, b, c, d⟩ => z ⟨i, by omega, b, c, d⟩)⟩
        rcases Nat.lt_or_ge j i with w | w
        · omega
        · exact absurd c (by rw [show i = j by omega]; exact q1)
theorem told_m {F P : Nat} {m : Mm} {L : Nat → La} {k x : Int32} (hF : 1000 ≤ F) (hP : P ≤ 3) (e : m.1 1000 0 1 = nI P) (hM : ∀ p, p < 3 → ML m p (L p)) : ((∃ p i, p < P ∧ i < zn (L p) ∧ zK (L p) i = k ∧ zX (L p) i = x) → f_X10_wasTold F m k x = some 1) ∧ ((¬ ∃ p i, p < P ∧ i < zn (L p) ∧ zK (L p) i = k ∧ zX (L p) i = x) → f_X10_wasTold F m k x = some 0) := by
  have key : ∀ (N p : Nat), P - p < N → p ≤ P → ((∃ q i, p ≤ q ∧ q < P ∧ i < zn (L q) ∧ zK (L q) i = k ∧ zX (L q) i = x) → f_X10_wasTold_b2 F m N k x (nI p) = some 1) ∧ ((¬ ∃ q i, p ≤ q ∧ q < P ∧ i < zn (L q) ∧ zK (L q) i = k ∧ zX (L q) i = x) → f_X10_wasTold_b2 F m N k x (nI p) = some 0) := by
    intro N
    induction N with
    | zero => intro p h; omega
    | succ N ih =>
      intro p hp hp2
      rw [f_X10_wasTold_b2, e]
      by_cases ep : p = P
      · rw [if_pos (nle (by omega) (by omega) (by omega))]
        exact ⟨fun ⟨q, i, a, b, _⟩ => by omega, fun _ => rfl⟩
      · have hpP : p < P := by omega
        have hm := hM p (by omega)
        have := hm.2.1
        rw [if_neg (ngt (by omega) (by omega) hpP)]
        obtain ⟨t1, t2⟩ := told13 (F := F) (k := k) (x := x) hm (fun a1 a2 a3 => f_X10_wasTold_b2 F m N a1 a2 a3) F 0 (by omega) (by omega)
        obtain ⟨i1, i2⟩ := ih (p + 1) (by omega) (by omega)
        by_cases z : ∃ i, 0 ≤ i ∧ i < zn (L p) ∧ zK (L p) i = k ∧ zX (L p) i = x
        · refine ⟨fun _ => t1 z, fun w => ?_⟩
          obtain ⟨i, _, a, b, c⟩ := z
          exact absurd ⟨p, i, by omega, hpP, a, b, c⟩ w
        · have t2' := t2 z
          refine ⟨fun ⟨q, i, a, b, c, d, f⟩ => (t2'.trans (i1 ⟨q, i, ?_, b, c, d, f⟩)), fun w => t2'.trans (i2 (fun ⟨q, i, a, b, c, d, f⟩ => w ⟨q, i, by omega, b, c, d, f⟩))⟩
          rcases Nat.lt_or_ge p q with u | u
          · omega
          · obtain rfl : q = p := by omega
            exact absurd ⟨i, by omega, c, d, f⟩ z
  obtain ⟨k1, k2⟩ := key F 0 (by omega) (by omega)
  unfold f_X10_wasTold
  exact ⟨fun ⟨p, i, a, b⟩ => k1 ⟨p, i, by omega, a, b⟩, fun z => k2 (fun ⟨p, i, _, a, b⟩ => z ⟨p, i, a, b⟩)⟩
theorem letterPlace_in {μ : Mm} {c x : Nat} (hc : c < 4) (hx : x < 64) : f_X7_letterPlace μ (nI (9 + c)) (nI x) = some (nI (64 * c + x)) := by
  unfold f_X7_letterPlace
  rw [if_neg (by rw [show (9 : Int32) = nI 9 from rfl, ltN (by omega) (by omega)]; omega), if_neg (by rw [show (12 : Int32) = nI 12 from rfl, ltN (by omega) (by omega)]; omega), if_neg (nN0 (by omega)), if_pos (by rw [show (64 : Int32) = nI 64 from rfl, ltN (by omega) (by omega)]; omega)]
  rw [show (9 : Int32) = nI 9 from rfl, pk_sub (by omega), show (64 : Int32) = nI 64 from rfl, pk_mul, nI_add, show (9 + c - 9) * 64 + x = 64 * c + x by omega]
theorem letterPlace_lo {μ : Mm} {k : Nat} {x : Int32} (hk : k < 9) : f_X7_letterPlace μ (nI k) x = some (-1) := by
  unfold f_X7_letterPlace
  rw [if_pos (by rw [show (9 : Int32) = nI 9 from rfl, ltN (by omega) (by omega)]; omega)]
theorem nIm1 {a : Nat} (h : a < 1000000) : ¬ nI a = -1 := fun e => by
  have := congrArg Int32.toInt e
  rw [nIT (by omega)] at this
  have e1 : (-1 : Int32).toInt = -1 := by decide
  omega
theorem letterAt_in {μ : Mm} {t c x : Nat} (hc : c < 4) (hx : x < 64) : f_X7_letterAt μ t (nI (9 + c)) (nI x) = some (μ.1 704 t (64 * c + x)) := by
  unfold f_X7_letterAt
  rw [letterPlace_in hc hx, obs, if_neg (nIm1 (by omega)), ra_in (by omega) (by omega), obs]
/-- a lane with one mark more -/
def lapp (L : La) (k t x m : Int32) : La := (zn L + 1, upd (zK L) (zn L) k, upd (zT L) (zn L) t, upd (zX L) (zn L) x, upd (zM L) (zn L) m)
theorem lapp_lt {L : La} {k t x m : Int32} {j : Nat} (h : j < zn L) : zK (lapp L k t x m) j = zK L j ∧ zT (lapp L k t x m) j = zT L j ∧ zX (lapp L k t x m) j = zX L j ∧ zM (lapp L k t x m) j = zM L j := ⟨up_n _ _ (by omega), up_n _ _ (by omega), up_n _ _ (by omega), up_n _ _ (by omega)⟩
theorem lapp_n (L : La) (k t x m : Int32) : zn (lapp L k t x m) = zn L + 1 ∧ zK (lapp L k t x m) (zn L) = k ∧ zT (lapp L k t x m) (zn L) = t ∧ zX (lapp L k t x m) (zn L) = x ∧ zM (lapp L k t x m) (zn L) = m := ⟨rfl, up_s _ _ _, up_s _ _ _, up_s _ _ _, up_s _ _ _⟩
theorem sq_app {hm : Nat → Bool} {L : La} {k t x m : Int32} : ∀ j, j ≤ zn L → sq hm (lapp L k t x m) j = sq hm L j
  | 0, _ => rfl
  | j + 1, h => by
    obtain ⟨a, b, c, -⟩ := lapp_lt (k := k) (t := t) (x := x) (m := m) (show j < zn L by omega)
    show ms hm (sq hm (lapp L k t x m) j) _ _ _ = ms hm (sq hm L j) _ _ _
    rw [sq_app j (by omega), a, b, c]
theorem sq_appn {hm : Nat → Bool} {L : La} {k t x m : Int32} : sq hm (lapp L k t x m) (zn L + 1) = ms hm (sq hm L (zn L)) k t x := by
  obtain ⟨-, a, b, c, -⟩ := lapp_n L k t x m
  show ms hm (sq hm (lapp L k t x m) (zn L)) _ _ _ = _
  rw [sq_app _ (Nat.le_refl _), a, b, c]
theorem LV_app {hm : Nat → Bool} {L : La} {k u v : Nat} {t x m : Int32} (h : LV hm L) (hn : zn L < 200) (hw' : Wh hm (nI k) t x) (hk : k ≤ 12) (ht : t = -1 ∨ ∃ u, u < 8 ∧ t = nI u) (hx : x = -1 ∨ ∃ y, y < 64 ∧ x = nI y) (hb : k = 2 → hw (sq hm L (zn L)) t.toNatClampNeg = 2) (hm1 : m = nI v) (hv : v ≤ 65536 * (zn L + 1)) (hmono : 1 ≤ zn L → zm L (zn L - 1) ≤ v) : LV hm (lapp L (nI k) t x m) := by
  obtain ⟨h1, h2, h3, h4, h5, h6, h7⟩ := h
  obtain ⟨n0, n1, n2, n3, n4'⟩ := lapp_n L (nI k) t x m
  have cas : ∀ j, j < zn (lapp L (nI k) t x m) → j < zn L ∨ j = zn L := fun j hj => by rw [n0] at hj; omega
  have zmv : zm (lapp L (nI k) t x m) (zn L) = v := by unfold zm; rw [n4', hm1, clN (by omega)]
  have zml : ∀ j, j < zn L → zm (lapp L (nI k) t x m) j = zm L j := fun j hj => by unfold zm; rw [(lapp_lt hj).2.2.2]
  refine ⟨by rw [n0]; omega, fun j hj => ?_, fun j hj => ?_, fun j hj => ?_, fun j hj => ?_, fun j hj => ?_, fun j hj => ?_⟩
  · rcases cas j hj with q | q
    · obtain ⟨a, b, c, -⟩ := lapp_lt (k := nI k) (t := t) (x := x) (m := m) q
      rw [a, b, c]; exact h2 j q
    · rw [q, n1, n2, n3]; exact hw'
  · rcases cas j hj with q | q
    · rw [(lapp_lt q).1]; exact h3 j q
    · rw [q, n1]; exact ⟨k, hk, rfl⟩
  · rcases cas j hj with q | q
    · rw [(lapp_lt q).2.1, (lapp_lt q).2.2.1]; exact h4 j q
    · rw [q, n2, n3]; exact ⟨ht, hx⟩
  · rcases cas j hj with q | q
    · rw [(lapp_lt q).1, (lapp_lt q).2.1, sq_app _ (by omega)]; exact h5 j q
    · rw [q, n1, n2, sq_app _ (Nat.le_refl _)]
      intro z
      exact hb ((eqN (b := 2) (by omega) (by omega)).mp z)
  · rcases cas j hj with q | q
    · rw [(lapp_lt q).2.2.2, zml j q]; exact h6 j q
    · rw [q, n4', zmv]; exact ⟨hm1, hv⟩
  · rw [n0] at hj
    rcases Nat.lt_or_ge (j + 1) (zn L) with q | q
    · rw [zml j (by omega), zml (j + 1) q]; exact h7 j q
    · have e : j + 1 = zn L := by omega
      rw [zml j (by omega), e, zmv, show j = zn L - 1 by omega]; exact hmono (by omega)
