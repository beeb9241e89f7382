/-! The law's walk (open). -/
theorem law_ok {g : am_P} {l : Launch} (hl : l.stackTraces = false) {L : Nat} {xs : Nat → Int32} (hL : L ≤ 256) : cG (g, l) eL_law 300 (cQ lw_K) 0 [some (.ref 0), none, none, none, none, none, none] [] (cIni L xs) := by
  sorry
