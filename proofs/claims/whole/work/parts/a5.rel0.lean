/-! THE START: both sides fit; the world is the memory's -/
theorem Rel_0 : Rel mu0 := by
  refine ⟨D0 1 2 16, fun _ => D0 1 2 16, TV_0 ⟨by omega, by omega⟩ ⟨by omega, by omega⟩ ⟨by omega, by omega⟩, ⟨⟨rfl, rfl, rfl⟩, fun u _ => ⟨rfl, rfl⟩, fun p hp => ⟨CL_0 rfl, ⟨⟨fun _ _ _ => rfl, fun _ _ _ => (by decide : ¬ (0 : Int32) = 1), fun l hl => ?_, rfl, rfl⟩, fun w a b c => absurd c (show ¬ (0 : Int32) = 3 by decide)⟩⟩, fun c x hc hx => Or.inl ⟨?_, fun p j _ hj => absurd hj (Nat.not_lt_zero j)⟩, fun _ _ _ _ _ => rfl⟩, ⟨⟨rfl, rfl, rfl⟩, fun _ _ => ⟨rfl, rfl⟩, fun p hp => ⟨by omega, Nat.zero_le _, rfl, fun j hj => absurd hj (Nat.not_lt_zero j)⟩⟩, fun u hu => ?_, ⟨0, by omega, rfl, rfl, fun l hl => absurd hl (Nat.not_lt_zero l)⟩, ⟨rfl, rfl⟩, fun d hd => ⟨0, by omega, rfl, rfl, fun a => absurd a (by omega), fun a => absurd a (by omega)⟩⟩
  · show (if l < 4 then (-2 : Int32) else 0) = -2
    rw [if_pos hl]
  · show (if 64 * c + x < 256 then (-1 : Int32) else 0) = -1
    rw [if_pos (by omega)]
  · have a : mu0.1 902 0 u = -1 := by
      show (if u < 8 then (-1 : Int32) else 0) = -1
      rw [if_pos hu]
    have b : mu0.1 1007 0 u = -1 := by
      rcases (show u = 0 ∨ u = 1 ∨ u = 2 ∨ u = 3 ∨ u = 4 ∨ u = 5 ∨ u = 6 ∨ u = 7 by omega) with rfl | rfl | rfl | rfl | rfl | rfl | rfl | rfl <;> rfl
    exact ⟨by rw [a, b], .inl a⟩
theorem blk_swap {D : va_G} {cl : List vw_C} {es : List va_E} {b q : Nat} {e e' : va_E} {H : Heap} (h : va_P D cl (blk b es) H) (he : es[q]? = some e) (hx : va_at D cl (b + q, e) H → va_at D cl (b + q, e') H) : va_P D cl (blk b (es.set q e')) H := fun k x hk => by
  obtain ⟨y1, y2, y3⟩ := blk_inv hk
  rw [List.length_set] at y1
  have hx' : x = (b + k, x.2) := by rw [← y2]
  by_cases z : k = q
  · subst z
    rw [List.getElem?_set_self y1] at y3
    rw [hx', ← Option.some.inj y3]
    exact hx (h k _ (blk_get he))
  · rw [List.getElem?_set_ne (fun w => z w.symm)] at y3
    rw [hx']
    exact h k _ (blk_get y3)
theorem En_mem9 {D : va_G} {cyf : Nat → ClassId} {b0 bm : Nat} {tb : Nat → Nat} {ex : List (Nat × Nat)} {c : Nat × Nat} (h : c ∈ L9) : c ∈ eL (En0 D cyf b0 bm tb ex) := List.mem_append_left _ h
theorem En_mem10 {D : va_G} {cyf : Nat → ClassId} {b0 bm : Nat} {tb : Nat → Nat} {ex : List (Nat × Nat)} {c : Nat × Nat} (h : c ∈ L10) : c ∈ eL (En0 D cyf b0 bm tb ex) := List.mem_append_right _ (List.mem_append_left _ h)
theorem En_l9 (D : va_G) (cyf : Nat → ClassId) (b0 bm : Nat) (tb : Nat → Nat) (ex : List (Nat × Nat)) : l9 (En0 D cyf b0 bm tb ex) 0 := by
  unfold l9 l7 l3 l8 l1 l0 l5 l6 l2 l4
  and_intros <;> exact En_mem9 (by decide)
theorem En_l10 (D : va_G) (cyf : Nat → ClassId) (b0 bm : Nat) (tb : Nat → Nat) (ex : List (Nat × Nat)) : l10 (En0 D cyf b0 bm tb ex) 0 := by
  unfold l10
  and_intros <;> exact En_mem10 (by decide)
theorem Dj_of {E : En} {A : Nat → Prop} {μ : Mm} (h : va_D A (wl E μ)) : Dj E := fun i j c d hc hd e => by
  have g : ∀ (i : Nat) (c : Nat × Nat), (eL E)[i]? = some c → (wl E μ)[i]? = some (ad E c.1 c.2, ce E (μ.1 c.1 c.2) (μ.2 c.1 c.2) c.1 c.2) := fun i c hc => by unfold wl; rw [List.getElem?_map, hc]; rfl
  exact h.1 i j _ _ (g i c hc) (g j d hd) e
theorem arrV_cg {cA : ClassId} {n : Nat} {f g : Nat → Value} (h : ∀ j, j < n → f j = g j) : arrV cA n f = arrV cA n g := by
  unfold arrV
  rw [show (fun j : Fin n => f j.val) = fun j : Fin n => g j.val from funext fun j => h j.val j.isLt]
theorem at_q {D : va_G} {cl : List vw_C} {a n : Nat} {cA : ClassId} {f g : Nat → Option Nat} {H : Heap} (h : va_at D cl (a, .inl (cA, n, .inr (.inr (.inr (.inr f))))) H) (hfg : ∀ j, j < n → f j = g j) : va_at D cl (a, .inl (cA, n, .inr (.inr (.inr (.inr g))))) H := by
  have h : H[a]? = some (arrV cA n (fun j => va_rf (f j))) := h
  show H[a]? = some (arrV cA n (fun j => va_rf (g j)))
  rw [h, arrV_cg (fun j hj => by rw [hfg j hj])]
theorem kq9_eq (E : En) (b : Nat) : kq9 E b = ((kb9 E b).set 4 (.inl (cy E 3, 3, .inr (.inr (.inr (.inr (fun j => some (ad E 200 (3 * 0 + j))))))))).set 40 (.inl (cy E 4, 6, .inr (.inr (.inr (.inr (fun j => some (ad E 600 j))))))) := rfl
theorem st_P {D : va_G} {cyf : Nat → ClassId} {b0 bm : Nat} {tb : Nat → Nat} {H : Heap} (h9 : va_P D vwCl (blk b0 (kb9 (En0 D cyf b0 bm tb []) b0)) H) (h10 : va_P D vwCl (blk bm (kb10 (En0 D cyf b0 bm tb []) bm)) H) : va_P D vwCl (wl (En0 D cyf b0 bm tb []) mu0) H := by
  have e : wl (En0 D cyf b0 bm tb []) mu0 = blk b0 (kq9 (En0 D cyf b0 bm tb []) b0) ++ blk bm (kb10 (En0 D cyf b0 bm tb []) bm) := by
    rw [← wl_9, ← wl_10]
    unfold wl
    show ((L9 ++ (L10 ++ [])).map _) = _
    rw [List.append_nil, List.map_append]
  rw [e]
  refine va_P.app ?_ h10
  rw [kq9_eq]
  refine blk_swap (blk_swap h9 (q := 4) rfl (fun h => at_q h (fun j hj => ?_))) (q := 40) rfl (fun h => at_q h (fun j hj => ?_))
  · rcases (show j = 0 ∨ j = 1 ∨ j = 2 by omega) with rfl | rfl | rfl <;> rfl
  · rcases (show j = 0 ∨ j = 1 ∨ j = 2 ∨ j = 3 ∨ j = 4 ∨ j = 5 by omega) with rfl | rfl | rfl | rfl | rfl | rfl <;> rfl
theorem D_app {A : Nat → Prop} {ws : va_W} {b : Nat} {es : List va_E} (h : va_D A ws) (hlt : ∀ (k : Nat) (x : Nat × va_E), ws[k]? = some x → x.1 < b) (hA : ∀ q, b ≤ q → A q) : va_D A (ws ++ blk b es) := by
  have key : ∀ (k : Nat) (x : Nat × va_E), (ws ++ blk b es)[k]? = some x → (k < ws.length ∧ ws[k]? = some x) ∨ (ws.length ≤ k ∧ x.1 = b + (k - ws.length)) := fun k x hx => by
    rcases Nat.lt_or_ge k ws.length with z | z
    · rw [List.getElem?_append_left z] at hx; exact .inl ⟨z, hx⟩
    · rw [List.getElem?_append_right z] at hx; exact .inr ⟨z, (blk_inv hx).2.1⟩
  refine ⟨fun i j x y hx hy e => ?_, fun k x hx => ?_⟩
  · rcases key i x hx with ⟨a1, a2⟩ | ⟨a1, a2⟩ <;> rcases key j y hy with ⟨c1, c2⟩ | ⟨c1, c2⟩
    · exact h.1 i j x y a2 c2 e
    · have := hlt i x a2; omega
    · have := hlt j y c2; omega
    · omega
  · rcases key k x hx with ⟨a1, a2⟩ | ⟨a1, a2⟩
    · exact h.2 k x a2
    · exact hA x.1 (by omega)
theorem st_D {D : va_G} {cyf : Nat → ClassId} {b0 bm : Nat} {tb : Nat → Nat} (h : b0 + 75 ≤ bm) : va_D (fun q => b0 ≤ q) (wl (En0 D cyf b0 bm tb []) mu0) := by
  have e : wl (En0 D cyf b0 bm tb []) mu0 = blk b0 (kq9 (En0 D cyf b0 bm tb []) b0) ++ blk bm (kb10 (En0 D cyf b0 bm tb []) bm) := by
    rw [← wl_9, ← wl_10]
    unfold wl
    show ((L9 ++ (L10 ++ [])).map _) = _
    rw [List.append_nil, List.map_append]
  rw [e]
  refine D_app (blk_D _ _) (fun k x hx => ?_) (fun q hq => by show b0 ≤ q; omega)
  obtain ⟨y1, y2, -⟩ := blk_inv hx
  have : k < 75 := y1
  omega
