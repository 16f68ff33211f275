/-! THE LAW: the words that are carried by hand -/
theorem nx_in : ∀ z ∈ nxL, Cond.methodLinkNest z.1 z.2.1 z.2.2 RX9 ∈ lw_tbl := by decide +kernel
theorem Nx_of {s : State} {args : Array Value} (hts : ∀ w ∈ lw_tbl, w.before args s = true) : Nx s :=
  ⟨va_AO.of (hts (.arrayOver (.object RX2)) (by decide +kernel)), va_AO.of (hts (.arrayOver (.object RX6)) (by decide +kernel)), fun z hz => va_Nw.of rfl (hts _ (nx_in z hz))⟩
