/-! A COPY IS MADE: the world grows by a trace -/
def tcs (t : Nat) : List (Nat × Nat) := [(700, t), (701, t), (702, t), (703, t), (704, t), (200, 3 * t + 0), (201, 3 * t + 0), (202, 3 * t + 0), (203, 3 * t + 0), (204, 3 * t + 0), (400, 3 * t + 0), (401, 3 * t + 0), (402, 3 * t + 0), (403, 3 * t + 0), (200, 3 * t + 1), (201, 3 * t + 1), (202, 3 * t + 1), (203, 3 * t + 1), (204, 3 * t + 1), (400, 3 * t + 1), (401, 3 * t + 1), (402, 3 * t + 1), (403, 3 * t + 1), (200, 3 * t + 2), (201, 3 * t + 2), (202, 3 * t + 2), (203, 3 * t + 2), (204, 3 * t + 2), (400, 3 * t + 2), (401, 3 * t + 2), (402, 3 * t + 2), (403, 3 * t + 2)]
def exs : List Nat → List (Nat × Nat)
  | [] => []
  | d :: ks => exs ks ++ tcs (d + 1)
def gup (tb : Nat → Nat) (d b : Nat) : Nat → Nat := fun e => if e = d then b else tb e
/-- a cell of the trace t, in the order of addresses -/
def inT (t k i : Nat) : Prop := (200 ≤ k ∧ k < 300 ∧ i / 3 = t) ∨ (400 ≤ k ∧ k < 500 ∧ ¬ i = 21 ∧ i / 3 = t) ∨ (700 ≤ k ∧ k < 800 ∧ i = t)
theorem adr_eq {b0 bm : Nat} {tb : Nat → Nat} {d b k i : Nat} (h : ¬ inT (d + 1) k i) : adr b0 bm (gup tb d b) k i = adr b0 bm tb k i := by
  unfold inT at h
  have tq : ∀ t, ¬ t = d + 1 → tbo b0 (gup tb d b) t = tbo b0 tb t := fun t ht => by
    cases t with
    | zero => rfl
    | succ t =>
      show gup tb d b t = tb t
      unfold gup; rw [if_neg (by omega)]
  unfold adr
  by_cases z : k < 100
  · rw [if_pos z, if_pos z]
  rw [if_neg z, if_neg z]
  have z100 := z
  clear z
  by_cases z : k < 200
  · rw [if_pos z, if_pos z]
  rw [if_neg z, if_neg z]
  have z200 := z
  clear z
  by_cases z : k < 300
  · rw [if_pos z, if_pos z, tq (i / 3) (by omega)]
  rw [if_neg z, if_neg z]
  have z300 := z
  clear z
  by_cases z : k < 400
  · rw [if_pos z, if_pos z]
  rw [if_neg z, if_neg z]
  have z400 := z
  clear z
  by_cases z : k < 500
  · rw [if_pos z, if_pos z]
    by_cases w : i = 21
    · rw [if_pos w, if_pos w]
    · rw [if_neg w, if_neg w, tq (i / 3) (by omega)]
  rw [if_neg z, if_neg z]
  have z500 := z
  clear z
  by_cases z : k < 600
  · rw [if_pos z, if_pos z]
  rw [if_neg z, if_neg z]
  have z600 := z
  clear z
  by_cases z : k < 700
  · rw [if_pos z, if_pos z]
  rw [if_neg z, if_neg z]
  have z700 := z
  clear z
  by_cases z : k < 800
  · rw [if_pos z, if_pos z, tq i (by omega)]
  rw [if_neg z, if_neg z]
theorem at_mv {D : va_G} {cl : List vw_C} {E E' : En} {x : Nat → Int32} {y : Nat → Int64} {H : Heap} {a k i d : Nat} (hd : d < 6) (hcy : ∀ n, cy E' n = cy E n) (had : ∀ k i, ¬ inT (d + 1) k i → ad E' k i = ad E k i) (hk : ¬ inT (d + 1) k i) (h6 : k = 600 → i = d → x 3 = 0) (h : va_at D cl (a, ce E x y k i) H) : va_at D cl (a, ce E' x y k i) H := by
  have far : ∀ k j, ¬ (200 ≤ k ∧ k < 300) → ¬ (400 ≤ k ∧ k < 500) → ¬ (700 ≤ k ∧ k < 800) → ad E' k j = ad E k j := fun k j a b c => had k j (by unfold inT; omega)
  by_cases q : k = 703
  · subst q
    rw [ce_703] at h ⊢
    rw [hcy]
    refine at_q h (fun j hj => ?_)
    rw [had 200 (3 * i + j) (by unfold inT at hk ⊢; omega)]
  have e : ce E' x y k i = ce E x y k i := by
    unfold inT at hk
    unfold ce
    by_cases z : k < 100
    · rw [if_pos z, if_pos z]
      unfold ce0
      simp only [hcy, far 1 i (by omega) (by omega) (by omega), far 2 i (by omega) (by omega) (by omega)]
    rw [if_neg z, if_neg z]
    have z100 := z
    clear z
    by_cases z : k < 200
    · rw [if_pos z, if_pos z]
      unfold ce1
      simp only [hcy, far 101 i (by omega) (by omega) (by omega), far 102 i (by omega) (by omega) (by omega), far 103 i (by omega) (by omega) (by omega), far 104 i (by omega) (by omega) (by omega), far 105 i (by omega) (by omega) (by omega), far 106 i (by omega) (by omega) (by omega), far 107 i (by omega) (by omega) (by omega), far 108 i (by omega) (by omega) (by omega), far 109 i (by omega) (by omega) (by omega), far 110 i (by omega) (by omega) (by omega), far 111 i (by omega) (by omega) (by omega)]
    rw [if_neg z, if_neg z]
    have z200 := z
    clear z
    by_cases z : k < 300
    · rw [if_pos z, if_pos z]
      unfold ce2
      simp only [hcy, had 201 i (by unfold inT; omega), had 202 i (by unfold inT; omega), had 203 i (by unfold inT; omega), had 204 i (by unfold inT; omega), had 400 i (by unfold inT; omega)]
    rw [if_neg z, if_neg z]
    have z300 := z
    clear z
    by_cases z : k < 400
    · rw [if_pos z, if_pos z]
      unfold ce3
      simp only [hcy, far 301 i (by omega) (by omega) (by omega), far 302 i (by omega) (by omega) (by omega), far 303 i (by omega) (by omega) (by omega), far 304 i (by omega) (by omega) (by omega)]
    rw [if_neg z, if_neg z]
    have z400 := z
    clear z
    by_cases z : k < 500
    · rw [if_pos z, if_pos z]
      unfold ce4
      simp only [hcy, had 401 i (by unfold inT; omega), had 402 i (by unfold inT; omega), had 403 i (by unfold inT; omega)]
    rw [if_neg z, if_neg z]
    have z500 := z
    clear z
    by_cases z : k < 600
    · rw [if_pos z, if_pos z]
      unfold ce5
      simp only [hcy, far 501 i (by omega) (by omega) (by omega)]
    rw [if_neg z, if_neg z]
    have z600 := z
    clear z
    by_cases z : k < 700
    · rw [if_pos z, if_pos z]
      unfold ce6
      by_cases w : k = 600
      · rw [if_pos w, if_pos w, far 601 i (by omega) (by omega) (by omega)]
        by_cases v : i = d
        · rw [if_pos (h6 w v), if_pos (h6 w v)]
        · rw [had 700 (i + 1) (by unfold inT; omega)]
      · rw [if_neg w, if_neg w, hcy]
    rw [if_neg z, if_neg z]
    have z700 := z
    clear z
    by_cases z : k < 800
    · rw [if_pos z, if_pos z]
      unfold ce7
      simp only [hcy, had 701 i (by unfold inT; omega), had 702 i (by unfold inT; omega), had 703 i (by unfold inT; omega), had 704 i (by unfold inT; omega), if_neg q]
    rw [if_neg z, if_neg z]
    have z800 := z
    clear z
    by_cases z : k < 900
    · rw [if_pos z, if_pos z]
      unfold ce8
      rw [had 400 21 (by unfold inT; omega)]
    rw [if_neg z, if_neg z]
    have z900 := z
    clear z
    by_cases z : k < 1000
    · rw [if_pos z, if_pos z]
      unfold ce9
      have f : (fun j => some (ad E' 600 j)) = fun j => some (ad E 600 j) := funext fun j => by rw [far 600 j (by omega) (by omega) (by omega)]
      simp only [hcy, f, had 700 0 (by unfold inT; omega), far 902 i (by omega) (by omega) (by omega), far 903 i (by omega) (by omega) (by omega), far 300 0 (by omega) (by omega) (by omega), far 905 i (by omega) (by omega) (by omega), far 800 0 (by omega) (by omega) (by omega), far 100 0 (by omega) (by omega) (by omega), far 0 0 (by omega) (by omega) (by omega), far 500 0 (by omega) (by omega) (by omega)]
    rw [if_neg z, if_neg z]
    have z1000 := z
    clear z
    unfold ce10
    simp only [hcy, far 1005 i (by omega) (by omega) (by omega), far 1006 i (by omega) (by omega) (by omega), far 1007 i (by omega) (by omega) (by omega), far 1008 i (by omega) (by omega) (by omega), far 1009 i (by omega) (by omega) (by omega), far 1010 i (by omega) (by omega) (by omega), far 1011 i (by omega) (by omega) (by omega), far 1012 i (by omega) (by omega) (by omega), far 1014 i (by omega) (by omega) (by omega), far 1015 i (by omega) (by omega) (by omega), far 1016 i (by omega) (by omega) (by omega), far 1017 i (by omega) (by omega) (by omega), far 1020 i (by omega) (by omega) (by omega), far 1021 i (by omega) (by omega) (by omega), far 1022 i (by omega) (by omega) (by omega), far 1023 i (by omega) (by omega) (by omega), far 1024 i (by omega) (by omega) (by omega), far 1025 i (by omega) (by omega) (by omega), far 1026 i (by omega) (by omega) (by omega), far 1027 i (by omega) (by omega) (by omega), far 1028 i (by omega) (by omega) (by omega), far 1029 i (by omega) (by omega) (by omega), far 1030 i (by omega) (by omega) (by omega), far 1031 i (by omega) (by omega) (by omega), far 1038 i (by omega) (by omega) (by omega), far 1039 i (by omega) (by omega) (by omega), far 1040 i (by omega) (by omega) (by omega), far 1041 i (by omega) (by omega) (by omega), far 1044 i (by omega) (by omega) (by omega), far 1045 i (by omega) (by omega) (by omega), far 1046 i (by omega) (by omega) (by omega), far 1050 i (by omega) (by omega) (by omega), far 1051 i (by omega) (by omega) (by omega), far 1052 i (by omega) (by omega) (by omega), far 1053 i (by omega) (by omega) (by omega), far 1054 i (by omega) (by omega) (by omega), far 1055 i (by omega) (by omega) (by omega)]
  rw [e]; exact h
theorem L9_old : ∀ c ∈ L9, ((200 ≤ c.1 ∧ c.1 < 300) → c.2 / 3 = 0) ∧ ((400 ≤ c.1 ∧ c.1 < 500 ∧ ¬ c.2 = 21) → c.2 / 3 = 0) ∧ ((700 ≤ c.1 ∧ c.1 < 800) → c.2 = 0) := by decide
theorem L10_old : ∀ c ∈ L10, 1000 ≤ c.1 := by decide
theorem tcs_in {t : Nat} {c : Nat × Nat} (h : c ∈ tcs t) : (200 ≤ c.1 ∧ c.1 < 300 ∧ 3 * t ≤ c.2 ∧ c.2 < 3 * t + 3) ∨ (400 ≤ c.1 ∧ c.1 < 500 ∧ 3 * t ≤ c.2 ∧ c.2 < 3 * t + 3) ∨ (700 ≤ c.1 ∧ c.1 < 800 ∧ c.2 = t) := by
  unfold tcs at h
  simp only [List.mem_cons, List.not_mem_nil, or_false] at h
  rcases h with rfl | rfl | rfl | rfl | rfl | rfl | rfl | rfl | rfl | rfl | rfl | rfl | rfl | rfl | rfl | rfl | rfl | rfl | rfl | rfl | rfl | rfl | rfl | rfl | rfl | rfl | rfl | rfl | rfl | rfl | rfl | rfl <;> (dsimp only; omega)
theorem exs_in : ∀ {ks : List Nat} {c : Nat × Nat}, c ∈ exs ks → ∃ e, e ∈ ks ∧ c ∈ tcs (e + 1)
  | [], _, h => by cases h
  | d :: ks, c, h => by
    rcases List.mem_append.mp h with h | h
    · obtain ⟨e, h1, h2⟩ := exs_in h
      exact ⟨e, List.mem_cons_of_mem _ h1, h2⟩
    · exact ⟨d, List.mem_cons_self, h⟩
theorem old_out {ks : List Nat} {d : Nat} {c : Nat × Nat} (hks : ∀ e ∈ ks, e < 6 ∧ ¬ e = d) (hd : d < 6) (h : c ∈ L9 ++ (L10 ++ exs ks)) : ¬ inT (d + 1) c.1 c.2 := by
  unfold inT
  rcases List.mem_append.mp h with h | h
  · obtain ⟨a1, a2, a3⟩ := L9_old c h
    omega
  rcases List.mem_append.mp h with h | h
  · have := L10_old c h
    omega
  · obtain ⟨e, h1, h2⟩ := exs_in h
    have h3 := hks e h1
    have h4 := tcs_in h2
    omega
def mkT (μ : Mm) (t : Nat) : Mm := (fun k i => if (((200 ≤ k ∧ k ≤ 204) ∨ (400 ≤ k ∧ k ≤ 403)) ∧ 3 * t ≤ i ∧ i < 3 * t + 3) ∨ (700 ≤ k ∧ k ≤ 704 ∧ i = t) then m00 k else μ.1 k i, μ.2)
theorem mkT_o {μ : Mm} {d k i : Nat} (hd : d < 6) (h : ¬ inT (d + 1) k i) : (mkT μ (d + 1)).1 k i = μ.1 k i := by
  unfold inT at h
  show (if _ then _ else _) = _
  rw [if_neg (by omega)]
theorem mkT_n {μ : Mm} {t k i j : Nat} (h : ¬ tc t k i) : (mkT μ t).1 k i j = μ.1 k i j := by
  unfold tc at h
  show (if _ then m00 k else μ.1 k i) j = _
  rw [if_neg h]
set_option maxRecDepth 100000 in
set_option maxHeartbeats 4000000 in
theorem wl_t {D : va_G} {cyf : Nat → ClassId} {b0 bm : Nat} {tb : Nat → Nat} {ex : List (Nat × Nat)} {μ : Mm} {d sz : Nat} (hd : d < 6) : (tcs (d + 1)).map (fun c => (ad (En0 D cyf b0 bm (gup tb d sz) ex) c.1 c.2, ce (En0 D cyf b0 bm (gup tb d sz) ex) ((mkT μ (d + 1)).1 c.1 c.2) ((mkT μ (d + 1)).2 c.1 c.2) c.1 c.2)) = blk sz ((kb7 (En0 D cyf b0 bm (gup tb d sz) ex) sz).set 3 (.inl (cyf 3, 3, .inr (.inr (.inr (.inr (fun j => some (ad (En0 D cyf b0 bm (gup tb d sz) ex) 200 (3 * (d + 1) + j))))))))) := by
  rcases (show d = 0 ∨ d = 1 ∨ d = 2 ∨ d = 3 ∨ d = 4 ∨ d = 5 by omega) with rfl | rfl | rfl | rfl | rfl | rfl <;> rfl
theorem kb7_c {E E' : En} {b : Nat} (h0 : cy E 0 = cy E' 0) (h3 : cy E 3 = cy E' 3) : kb7 E b = kb7 E' b := by unfold kb7; rw [h0, h3]
set_option maxRecDepth 100000 in
theorem grow_P {D : va_G} {cyf : Nat → ClassId} {b0 bm : Nat} {tb : Nat → Nat} {ks : List Nat} {μ : Mm} {d sz : Nat} {H : Heap} (hd : d < 6) (hks : ∀ e ∈ ks, e < 6 ∧ ¬ e = d) (h3 : μ.1 600 d 3 = 0) (hP : va_P D vwCl (wl (En0 D cyf b0 bm tb (exs ks)) μ) H) (hB : va_P D vwCl (blk sz (kb7 (En0 D cyf b0 bm tb (exs ks)) sz)) H) : va_P D vwCl (wl (En0 D cyf b0 bm (gup tb d sz) (exs (d :: ks))) (mkT μ (d + 1))) H := by
  obtain ⟨E', hE'⟩ : ∃ E', E' = En0 D cyf b0 bm (gup tb d sz) (exs (d :: ks)) := ⟨_, rfl⟩
  have e : wl E' (mkT μ (d + 1)) = (L9 ++ (L10 ++ exs ks)).map (fun c => (ad E' c.1 c.2, ce E' ((mkT μ (d + 1)).1 c.1 c.2) ((mkT μ (d + 1)).2 c.1 c.2) c.1 c.2)) ++ (tcs (d + 1)).map (fun c => (ad E' c.1 c.2, ce E' ((mkT μ (d + 1)).1 c.1 c.2) ((mkT μ (d + 1)).2 c.1 c.2) c.1 c.2)) := by
    rw [← List.map_append, List.append_assoc, List.append_assoc]
    unfold wl
    rw [hE']; rfl
  rw [← hE', e]
  refine va_P.app (fun q x hx => ?_) ?_
  · rw [List.getElem?_map] at hx
    cases hc : (L9 ++ (L10 ++ exs ks))[q]? with
    | none => rw [hc] at hx; cases hx
    | some c =>
      rw [hc] at hx
      cases hx
      have ho := old_out hks hd (List.mem_of_getElem? hc)
      have ha : ∀ k i, ¬ inT (d + 1) k i → ad E' k i = ad (En0 D cyf b0 bm tb (exs ks)) k i := fun k i h => by rw [hE']; exact adr_eq h
      have h0 := hP q (ad (En0 D cyf b0 bm tb (exs ks)) c.1 c.2, ce (En0 D cyf b0 bm tb (exs ks)) (μ.1 c.1 c.2) (μ.2 c.1 c.2) c.1 c.2) (by
        unfold wl
        show ((L9 ++ (L10 ++ exs ks)).map _)[q]? = _
        rw [List.getElem?_map, hc]; rfl)
      show va_at D vwCl (ad E' c.1 c.2, ce E' ((mkT μ (d + 1)).1 c.1 c.2) (μ.2 c.1 c.2) c.1 c.2) H
      rw [ha _ _ ho, mkT_o hd ho]
      exact at_mv hd (fun n => by rw [hE']; rfl) ha ho (fun h1 h2 => by rw [h1, h2]; exact h3) h0
  · rw [hE', wl_t hd]
    have hB' : va_P D vwCl (blk sz (kb7 (En0 D cyf b0 bm (gup tb d sz) (exs (d :: ks))) sz)) H := by
      rw [kb7_c (E := En0 D cyf b0 bm (gup tb d sz) (exs (d :: ks))) (E' := En0 D cyf b0 bm tb (exs ks)) rfl rfl]; exact hB
    refine blk_swap (q := 3) hB' rfl (fun h => at_q h (fun j hj => ?_))
    rcases (show d = 0 ∨ d = 1 ∨ d = 2 ∨ d = 3 ∨ d = 4 ∨ d = 5 by omega) with rfl | rfl | rfl | rfl | rfl | rfl <;> rcases (show j = 0 ∨ j = 1 ∨ j = 2 by omega) with rfl | rfl | rfl <;> rfl
/-- the addresses of the world that grew are apart -/
theorem grow_D {D : va_G} {cyf : Nat → ClassId} {b0 bm : Nat} {tb : Nat → Nat} {ks : List Nat} {μ : Mm} {d sz : Nat} {H : Heap} (hd : d < 6) (hks : ∀ e ∈ ks, e < 6 ∧ ¬ e = d) (hP : va_P D vwCl (wl (En0 D cyf b0 bm tb (exs ks)) μ) H) (hz : H.size ≤ sz) (hD : Dj (En0 D cyf b0 bm tb (exs ks))) : Dj (En0 D cyf b0 bm (gup tb d sz) (exs (d :: ks))) := by
  obtain ⟨E', hE'⟩ : ∃ E', E' = En0 D cyf b0 bm (gup tb d sz) (exs (d :: ks)) := ⟨_, rfl⟩
  have ha : ∀ k i, ¬ inT (d + 1) k i → ad E' k i = ad (En0 D cyf b0 bm tb (exs ks)) k i := fun k i h => by rw [hE']; exact adr_eq h
  have hl : eL E' = (L9 ++ (L10 ++ exs ks)) ++ tcs (d + 1) := by
    rw [hE']
    show L9 ++ (L10 ++ (exs ks ++ tcs (d + 1))) = _
    rw [List.append_assoc, List.append_assoc]
  have old : ∀ (i : Nat) (c : Nat × Nat), (L9 ++ (L10 ++ exs ks))[i]? = some c → ad E' c.1 c.2 = ad (En0 D cyf b0 bm tb (exs ks)) c.1 c.2 ∧ ad E' c.1 c.2 < sz := fun i c hc => by
    have h1 := ha _ _ (old_out hks hd (List.mem_of_getElem? hc))
    refine ⟨h1, ?_⟩
    have := (hP i (ad (En0 D cyf b0 bm tb (exs ks)) c.1 c.2, ce (En0 D cyf b0 bm tb (exs ks)) (μ.1 c.1 c.2) (μ.2 c.1 c.2) c.1 c.2) (by
        unfold wl
        show ((L9 ++ (L10 ++ exs ks)).map _)[i]? = _
        rw [List.getElem?_map, hc]; rfl)).lt
    rw [h1]; exact Nat.lt_of_lt_of_le this hz
  have new : ∀ (i : Nat) (c : Nat × Nat), (tcs (d + 1))[i]? = some c → ad E' c.1 c.2 = sz + i := fun i c hc => by
    have h2 : ((tcs (d + 1)).map (fun c => (ad E' c.1 c.2, ce E' ((mkT μ (d + 1)).1 c.1 c.2) ((mkT μ (d + 1)).2 c.1 c.2) c.1 c.2)))[i]? = some (ad E' c.1 c.2, ce E' ((mkT μ (d + 1)).1 c.1 c.2) ((mkT μ (d + 1)).2 c.1 c.2) c.1 c.2) := by rw [List.getElem?_map, hc]; rfl
    rw [hE', wl_t hd] at h2
    rw [hE']
    exact (blk_inv h2).2.1
  rw [← hE']
  intro i j c c' hc hc' e
  rw [hl] at hc hc'
  have key : ∀ (k : Nat) (x : Nat × Nat), ((L9 ++ (L10 ++ exs ks)) ++ tcs (d + 1))[k]? = some x → (k < (L9 ++ (L10 ++ exs ks)).length ∧ (L9 ++ (L10 ++ exs ks))[k]? = some x) ∨ ((L9 ++ (L10 ++ exs ks)).length ≤ k ∧ (tcs (d + 1))[k - (L9 ++ (L10 ++ exs ks)).length]? = some x) := fun k x hx => by
    rcases Nat.lt_or_ge k (L9 ++ (L10 ++ exs ks)).length with z | z
    · rw [List.getElem?_append_left z] at hx; exact .inl ⟨z, hx⟩
    · rw [List.getElem?_append_right z] at hx; exact .inr ⟨z, hx⟩
  rcases key i c hc with ⟨x1, x2⟩ | ⟨x1, x2⟩ <;> rcases key j c' hc' with ⟨y1, y2⟩ | ⟨y1, y2⟩
  · exact hD i j c c' x2 y2 (by rw [← (old i c x2).1, ← (old j c' y2).1]; exact e)
  · have := (old i c x2).2; have := new _ c' y2; omega
  · have := (old j c' y2).2; have := new _ c x2; omega
  · have := new _ c x2; have := new _ c' y2; omega
theorem grow_l7 {D : va_G} {cyf : Nat → ClassId} {b0 bm : Nat} {tb : Nat → Nat} {ks : List Nat} {e : Nat} (h : e ∈ ks) : l7 (En0 D cyf b0 bm tb (exs ks)) (e + 1) := by
  have sub : ∀ (ks : List Nat) (c : Nat × Nat), e ∈ ks → c ∈ tcs (e + 1) → c ∈ exs ks := fun ks => by
    induction ks with
    | nil => intro c h; cases h
    | cons d ks ih =>
      intro c h hc
      rcases List.mem_cons.mp h with rfl | h
      · exact List.mem_append_right _ hc
      · exact List.mem_append_left _ (ih c h hc)
  have m : ∀ c, c ∈ tcs (e + 1) → c ∈ eL (En0 D cyf b0 bm tb (exs ks)) := fun c hc => List.mem_append_right _ (List.mem_append_right _ (sub ks c h hc))
  unfold l7 l2 l4
  and_intros <;> exact m _ (by unfold tcs; simp)
