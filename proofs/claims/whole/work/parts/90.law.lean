/-! The law's walk. -/
theorem law_ok {g : am_P} {l : Launch} (hl : l.stackTraces = false) {L : Nat} {xs : Nat → Int32} (hL : L ≤ 256) : cG (g, l) eL_law 300 (cQ lw_K) 0 [some (.ref 0), none, none, none, none, none, none] [] (cIni L xs) := by
  refine w_L_law (d := 299) (L := L) ⟨Nat.one_pos, rfl⟩ (i_top (d := 295) (C := cIni L xs) rfl fun C3 a1 a2 a3 a4 a5 => ⟨rfl, a5, i_ref (d := 298) (C := C3) a1 fun C11 S b1 b2 b3 => ⟨rfl, b3, ?_⟩⟩)
  have e11 : C11.1 = 399 := b1.2.1
  have w3 : C3.2.1 = 0 + 3359 := a2
  have w11 := b1.2.2.1
  have gg : gfr (cIni L xs) (cnw C11 21 1) := a4.trans (b1.1.trans (gfr.nw _ 21 1))
  have t9 : cT (cnw C11 21 1) 399 21 1 := by
    have z := cT_nw0 (C := C11) (t := 21) (n := 1) (by omega)
    rwa [e11] at z
  rw [a1, e11]
  exact law_loop (W := 20000) hl hL (by decide) 64 0 (by omega) (by decide) _ A0 ⟨((a3.g b1.1).g (gfr.nw _ 21 1)).ci (by show 400 ≤ C11.1 + 1; omega), A0_ok, ⟨S, b1.mods, b2.ri⟩, ⟨Nat.succ_pos _, gg.1.2 0 Nat.one_pos⟩, fun i => (gg.2 0 i Nat.one_pos).1, t9, by show C11.1 + 1 ≤ _; omega, by show C11.2.1 + 1 ≤ _; omega⟩
