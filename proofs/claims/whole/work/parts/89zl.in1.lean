/-! New objects of the class: views, findings, the checker, the text. -/
/-- all that stood stands -/
def gfr (C C' : cS) : Prop := cle C C' ∧ ∀ a i, a < C.1 → cI C' a i = cI C a i ∧ cJ C' a i = cJ C a i ∧ cR C' a i = cR C a i
theorem gfr.refl (C : cS) : gfr C C := ⟨cle.refl _, fun _ _ _ => ⟨rfl, rfl, rfl⟩⟩
theorem gfr.trans {A B C : cS} (h : gfr A B) (k : gfr B C) : gfr A C := ⟨h.1.trans k.1, fun a i q => by
  obtain ⟨h1, h2, h3⟩ := h.2 a i q
  obtain ⟨k1, k2, k3⟩ := k.2 a i (Nat.lt_of_lt_of_le q h.1.1)
  exact ⟨k1.trans h1, k2.trans h2, k3.trans h3⟩⟩
theorem gfr.nw (C : cS) (t n : Nat) : gfr C (cnw C t n) := ⟨cle_nw C t n, fun a i q => by
  have e : a ≠ C.1 := Nat.ne_of_lt q
  refine ⟨?_, ?_, ?_⟩
  · show (if a = C.1 then _ else _) = _
    rw [if_neg e]
  · show (if a = C.1 then _ else _) = _
    rw [if_neg e]
  · show (if a = C.1 then _ else _) = _
    rw [if_neg e]⟩
theorem gfr.si {C C' : cS} (h : gfr C C') {a : Nat} (ha : C.1 ≤ a) (i : Nat) (v : Int32) : gfr C (csi C' a i v) := ⟨h.1.trans (cle_same rfl rfl), fun b j q => by
  obtain ⟨h1, h2, h3⟩ := h.2 b j q
  exact ⟨(cI_csi_ne _ _ (by omega)).trans h1, h2, h3⟩⟩
theorem gfr.sr {C C' : cS} (h : gfr C C') {a : Nat} (ha : C.1 ≤ a) (i : Nat) (v : Option Nat) : gfr C (csr C' a i v) := ⟨h.1.trans (cle_same rfl rfl), fun b j q => by
  obtain ⟨h1, h2, h3⟩ := h.2 b j q
  exact ⟨h1, h2, (cR_csr_ne _ _ (by omega)).trans h3⟩⟩
theorem cR_nw (C : cS) (t n i : Nat) : cR (cnw C t n) C.1 i = none := by
  show (if C.1 = C.1 then _ else _) = _
  rw [if_pos rfl]
theorem cI_nw (C : cS) (t n i : Nat) : cI (cnw C t n) C.1 i = 0 := by
  show (if C.1 = C.1 then _ else _) = _
  rw [if_pos rfl]
theorem cJ_nw (C : cS) (t n i : Nat) : cJ (cnw C t n) C.1 i = 0 := by
  show (if C.1 = C.1 then _ else _) = _
  rw [if_pos rfl]
theorem VA.w {C C' : cS} {t : Nat} (h : VA C t) (le : cle C C') (e : cR C' t 0 = cR C t 0) : VA C' t := ⟨h.1.le le, e.trans h.2.1, h.2.2.le le⟩
theorem VA.g {C C' : cS} {t : Nat} (h : VA C t) (k : gfr C C') : VA C' t := h.w k.1 (k.2 t 0 h.1.2.1).2.2
theorem FA.g {C C' : cS} {t : Nat} (h : FA C t) (k : gfr C C') : FA C' t := ⟨h.1.le k.1, (k.2 t 2 h.1.2.1).2.2.trans h.2.1, (k.2 t 3 h.1.2.1).2.2.trans h.2.2.1, h.2.2.2.1.g k, h.2.2.2.2.g k⟩
theorem FA.w {C C' : cS} {t : Nat} (h : FA C t) (le : cle C C') (e : ∀ a i, t ≤ a → a < t + 5 → cR C' a i = cR C a i) : FA C' t := ⟨h.1.le le, (e t 2 (by omega) (by omega)).trans h.2.1, (e t 3 (by omega) (by omega)).trans h.2.2.1, h.2.2.2.1.w le (e _ 0 (by omega) (by omega)), h.2.2.2.2.w le (e _ 0 (by omega) (by omega))⟩
section INI
variable {c : cX} {d : Nat} {C : cS} {K : Option Value → cS → Prop}
theorem i_view (h0 : 0 < C.1) (k : ∀ C', C'.1 = C.1 + 2 → C'.2.1 = C.2.1 + 19 → VA C' C.1 → gfr C C' → cle (cnw C 8 2) C' → K none C') : cM c (d + 1) eX8_init (.ref C.1 :: []) (cnw C 8 2) K := by
  have le : cle (cnw C 8 2) (csi (csr (cnw (cnw C 8 2) 21 17) C.1 0 (some (C.1 + 1))) C.1 1 0) := (cle_nw _ 21 17).trans (cle_same rfl rfl)
  refine w_X8_init C.1 (cT_nw0 h0) (k _ rfl ?_ ⟨(cT_nw0 h0).le le, cR_csr _ _ _ _, (cT_nw0 (C := cnw C 8 2) (t := 21) (n := 17) (Nat.succ_pos _)).le (cle_same rfl rfl)⟩ ((((gfr.nw C 8 2).trans (gfr.nw _ 21 17)).sr (Nat.le_refl _) _ _).si (Nat.le_refl _) _ _) le)
  show C.2.1 + 2 + 17 = _
  omega
theorem i_find (h0 : 0 < C.1) (k : ∀ C', C'.1 = C.1 + 5 → C'.2.1 = C.2.1 + 42 → FA C' C.1 → gfr C C' → cle (cnw C 2 4) C' → K none C') : cM c (d + 2) eX2_init (.ref C.1 :: []) (cnw C 2 4) K := by
  refine w_X2_init C.1 (cT_nw0 h0) (i_view (Nat.succ_pos _) fun C3 a1 a2 a3 a4 a5 => ⟨rfl, a5, i_view (C := csr C3 C.1 2 (some (C.1 + 1))) (by show 0 < C3.1; rw [a1]; exact Nat.succ_pos _) fun C11 b1 b2 b3 b4 b5 => ⟨rfl, b5, ?_⟩⟩)
  have a1' : C3.1 = C.1 + 3 := a1
  have a2' : C3.2.1 = C.2.1 + 4 + 19 := a2
  have a3' : VA C3 (C.1 + 1) := a3
  have b1' : C11.1 = C3.1 + 2 := b1
  have b2' : C11.2.1 = C3.2.1 + 19 := b2
  have b3' : VA C11 C3.1 := b3
  have g1 : gfr C C3 := (((gfr.nw C 2 4).si (Nat.le_refl _) _ _).si (Nat.le_refl _) _ _).trans a4
  have g2 : gfr C C11 := (g1.sr (Nat.le_refl _) _ _).trans b4
  have le3 : cle (cnw C 2 4) C3 := (cle_same (C := cnw C 2 4) (C' := csi (csi (cnw C 2 4) C.1 0 0) C.1 1 (-1)) rfl rfl).trans a4.1
  have le : cle (cnw C 2 4) (csr C11 C.1 3 (some C3.1)) := le3.trans ((cle_same (C := C3) (C' := csr C3 C.1 2 (some (C.1 + 1))) rfl rfl).trans (b4.1.trans (cle_same rfl rfl)))
  have v1 : VA (csr C3 C.1 2 (some (C.1 + 1))) (C.1 + 1) := a3'.w (cle_same rfl rfl) (cR_csr_ne _ _ (by omega))
  have lt : C.1 < (csr C3 C.1 2 (some (C.1 + 1))).1 := by show C.1 < C3.1; omega
  refine k (csr C11 C.1 3 (some C3.1)) (by show C11.1 = _; omega) (by show C11.2.1 = _; omega) ⟨(cT_nw0 h0).le le, ?_, ?_, ?_, ?_⟩ (g2.sr (Nat.le_refl _) _ _) le
  · rw [cR_csr_ne _ _ (by omega), (b4.2 C.1 2 lt).2.2, cR_csr]
  · rw [cR_csr, a1']
  · exact (v1.g b4).w (cle_same rfl rfl) (cR_csr_ne _ _ (by omega))
  · rw [← a1']
    exact b3'.w (cle_same rfl rfl) (cR_csr_ne _ _ (by omega))
def CHB (C : cS) : Prop := cT C 5 1 7 ∧ cR C 5 0 = some 6 ∧ cR C 5 1 = some 7 ∧ cR C 5 2 = some 8 ∧ cR C 5 3 = some 9 ∧ cR C 5 4 = some 10 ∧ cT C 6 25 60 ∧ cT C 7 27 17 ∧ cT C 8 20 17 ∧ cT C 9 25 17 ∧ VA C 10
def CHJ (C : cS) (i s : Nat) : Prop := CHB C ∧ (∀ j, j < i → cR C 6 j = some (12 + 5 * j) ∧ FA C (12 + 5 * j)) ∧ ∀ j, j < s → cR C 7 j = some (312 + 2 * j) ∧ VA C (312 + 2 * j)
theorem CHB.w {C C' : cS} (h : CHB C) (le : cle C C') (e : ∀ a i, a = 5 ∨ a = 10 → cR C' a i = cR C a i) : CHB C' := by
  obtain ⟨h1, h2, h3, h4, h5, h6, h7, h8, h9, h10, h11⟩ := h
  exact ⟨h1.le le, by rw [e 5 _ (Or.inl rfl)]; exact h2, by rw [e 5 _ (Or.inl rfl)]; exact h3, by rw [e 5 _ (Or.inl rfl)]; exact h4, by rw [e 5 _ (Or.inl rfl)]; exact h5, by rw [e 5 _ (Or.inl rfl)]; exact h6, h7.le le, h8.le le, h9.le le, h10.le le, h11.w le (e 10 0 (Or.inr rfl))⟩
theorem CHJ.g {C C' : cS} {i s : Nat} (h : CHJ C i s) (k : gfr C C') : CHJ C' i s := by
  obtain ⟨h1, h2, h3⟩ := h
  have q5 := h1.1.2.1
  have q6 := h1.2.2.2.2.2.2.1.2.1
  have q7 := h1.2.2.2.2.2.2.2.1.2.1
  have q10 := h1.2.2.2.2.2.2.2.2.2.2.1.2.1
  exact ⟨h1.w k.1 (fun a i q => (k.2 a i (by omega)).2.2), fun j hj => ⟨(k.2 6 j q6).2.2.trans (h2 j hj).1, (h2 j hj).2.g k⟩, fun j hj => ⟨(k.2 7 j q7).2.2.trans (h3 j hj).1, (h3 j hj).2.g k⟩⟩
theorem CHJ.w6 {C : cS} {i s : Nat} (h : CHJ C i s) (f : FA C (12 + 5 * i)) : CHJ (csr C 6 i (some (12 + 5 * i))) (i + 1) s := by
  obtain ⟨h1, h2, h3⟩ := h
  have le : cle C (csr C 6 i (some (12 + 5 * i))) := cle_same rfl rfl
  refine ⟨h1.w le (fun a i q => cR_csr_ne _ _ (by omega)), fun j hj => ?_, fun j hj => ⟨(cR_csr_ne _ _ (by omega)).trans (h3 j hj).1, (h3 j hj).2.w le (cR_csr_ne _ _ (by omega))⟩⟩
  by_cases e : j = i
  · subst e
    exact ⟨cR_csr _ _ _ _, f.w le (fun a i q1 q2 => cR_csr_ne _ _ (by omega))⟩
  · exact ⟨(cR_csr_ne _ _ (by omega)).trans (h2 j (by omega)).1, (h2 j (by omega)).2.w le (fun a i q1 q2 => cR_csr_ne _ _ (by omega))⟩
theorem CHJ.w7 {C : cS} {i s : Nat} (h : CHJ C i s) (f : VA C (312 + 2 * s)) : CHJ (csr C 7 s (some (312 + 2 * s))) i (s + 1) := by
  obtain ⟨h1, h2, h3⟩ := h
  have le : cle C (csr C 7 s (some (312 + 2 * s))) := cle_same rfl rfl
  refine ⟨h1.w le (fun a i q => cR_csr_ne _ _ (by omega)), fun j hj => ⟨(cR_csr_ne _ _ (by omega)).trans (h2 j hj).1, (h2 j hj).2.w le (fun a i q1 q2 => cR_csr_ne _ _ (by omega))⟩, fun j hj => ?_⟩
  by_cases e : j = s
  · subst e
    exact ⟨cR_csr _ _ _ _, f.w le (cR_csr_ne _ _ (by omega))⟩
  · exact ⟨(cR_csr_ne _ _ (by omega)).trans (h3 j (by omega)).1, (h3 j (by omega)).2.w le (cR_csr_ne _ _ (by omega))⟩
theorem i_chk89 {B : cS} {w : Nat} (hB : B.1 ≤ 5) (k : ∀ C', C'.1 = 346 → C'.2.1 = w + 19 * 17 → CHJ C' 60 17 → gfr B C' → K none C') : ∀ r s, s + r = 17 → ∀ C, C.1 = 312 + 2 * s → C.2.1 = w + 19 * s → CHJ C 60 s → gfr B C → cG c eX1_init (d + 1 + 1) (cQ K) 89 [some (.ref 5), some (.int (nI s))] [] C := by
  intro r
  induction r with
  | zero =>
    intro s hs C e1 e2 h g
    have : s = 17 := by omega
    subst this
    exact w_X1_init_89 5 (nI 17) h.1.1 ⟨fun _ => k C e1 e2 h g, fun z => absurd (show (17 : Int32) ≤ nI 17 by decide) z⟩
  | succ r ih =>
    intro s hs C e1 e2 h g
    refine w_X1_init_89 5 (nI s) h.1.1 ⟨fun z => absurd ((nI_leI (a := 17) (by decide) (by omega)).mp z) (by omega), fun _ => i_view (by omega) fun C4 a1 a2 a3 a4 a5 => ⟨rfl, a5, 7, h.1.2.2.1, 17, h.1.2.2.2.2.2.2.2.1.le a4.1, s, am_ix_n (by omega) (by decide), ?_⟩⟩
    rw [e1] at a3
    rw [e1, show nI s + 1 = nI (s + 1) from nI_1 s]
    exact ih (s + 1) (by omega) _ (by show C4.1 = _; omega) (by show C4.2.1 = _; omega) ((h.g a4).w7 a3) ((g.trans a4).sr (by omega) _ _)
theorem i_chk62 {B : cS} {w : Nat} (hB : B.1 ≤ 5) (k : ∀ C', C'.1 = 346 → C'.2.1 = w + 42 * 60 + 19 * 17 → CHJ C' 60 17 → gfr B C' → K none C') : ∀ r i, i + r = 60 → ∀ C, C.1 = 12 + 5 * i → C.2.1 = w + 42 * i → CHJ C i 0 → gfr B C → cG c eX1_init (d + 1 + 1 + 1) (cQ K) 62 [some (.ref 5), some (.int (nI i))] [] C := by
  intro r
  induction r with
  | zero =>
    intro i hi C e1 e2 h g
    have : i = 60 := by omega
    subst this
    exact w_X1_init_62 5 (nI 60) h.1.1 ⟨fun _ => i_chk89 (d := d + 1) hB k 17 0 rfl C e1 e2 h g, fun z => absurd (show (60 : Int32) ≤ nI 60 by decide) z⟩
  | succ r ih =>
    intro i hi C e1 e2 h g
    refine w_X1_init_62 5 (nI i) h.1.1 ⟨fun z => absurd ((nI_leI (a := 60) (by decide) (by omega)).mp z) (by omega), fun _ => i_find (by omega) fun C4 a1 a2 a3 a4 a5 => ⟨rfl, a5, 6, h.1.2.1, 60, h.1.2.2.2.2.2.2.1.le a4.1, i, am_ix_n (by omega) (by decide), ?_⟩⟩
    rw [e1] at a3
    rw [e1, show nI i + 1 = nI (i + 1) from nI_1 i]
    exact ih (i + 1) (by omega) _ (by show C4.1 = _; omega) (by show C4.2.1 = _; omega) ((h.g a4).w6 a3) ((g.trans a4).sr (by omega) _ _)
end INI
