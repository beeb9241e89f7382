/-! A new object of the reference. -/
theorem rT_inj2 : ∀ k, k < 42 → ∀ j, j < 42 → (rT.getD k (0, 0, 0)).1 = (rT.getD j (0, 0, 0)).1 → k = j := by decide +kernel
theorem rT_k {k f t n : Nat} (e : rT[k]? = some (f, t, n)) : k < 42 ∧ (rT.getD k (0, 0, 0)).1 = f := ⟨(List.getElem?_eq_some_iff.mp e).1, by rw [List.getD_eq_getElem?_getD, e]; rfl⟩
theorem rT_ne {k j f t n t' n' : Nat} (e : rT[k]? = some (f, t, n)) (e' : rT[j]? = some (f, t', n')) : k = j := rT_inj2 k (rT_k e).1 j (rT_k e').1 ((rT_k e).2.trans (rT_k e').2.symm)
theorem rIx_no {k f t n f' : Nat} (e : rT[k]? = some (f, t, n)) (h : rIx f' = none) : f' ≠ f := fun z => by
  have := List.findIdx?_eq_none_iff.mp h _ (List.mem_of_getElem? e)
  simp only [beq_eq_false_iff_ne] at this
  exact this z.symm
theorem rIx_at {f k : Nat} (h : rIx f = some k) : ∃ t n, rT[k]? = some (f, t, n) := by
  obtain ⟨q, q1, _⟩ := List.findIdx?_eq_some_iff_getElem.mp h
  have e : rT[k]? = some rT[k] := List.getElem?_eq_getElem q
  have e1 : rT[k].1 = f := beq_iff_eq.mp q1
  generalize rT[k] = z at e e1
  obtain ⟨f', t, n⟩ := z
  have e1' : f' = f := e1
  subst e1'
  exact ⟨t, n, e⟩
/-- the first j arrays stand -/
def RN (B : cS) (w j : Nat) (C : cS) (S : rS) : Prop := gfr B C ∧ C.1 = 357 + j ∧ C.2.1 ≤ w + 320 * j ∧ C.2.2.1 356 = (10, 59) ∧ (∀ f, rIx f = none → cI C 356 f = S.1 f 0) ∧ (∀ k f t n, k < j → rT[k]? = some (f, t, n) → cR C 356 f = some (357 + k) ∧ C.2.2.1 (357 + k) = (t, n) ∧ (t = 21 → ∀ i, cJ C (357 + k) i = S.2 f i) ∧ (t ≠ 21 → ∀ i, cI C (357 + k) i = S.1 f i)) ∧ ∀ k f t n, j ≤ k → rT[k]? = some (f, t, n) → ∀ i, S.1 f i = 0 ∧ S.2 f i = 0
section RNS
variable {B C : cS} {w j : Nat} {S : rS}
theorem RN.T (h : RN B w j C S) : cT C 356 10 59 := ⟨by decide, by have := h.2.1; omega, h.2.2.2.1⟩
theorem RN.ar {k f t n : Nat} (h : RN B w j C S) (hk : k < j) (e : rT[k]? = some (f, t, n)) : cR C 356 f = some (357 + k) ∧ cT C (357 + k) t n := by
  obtain ⟨u1, u2, _, _⟩ := h.2.2.2.2.2.1 k f t n hk e
  exact ⟨u1, by omega, by have := h.2.1; omega, u2⟩
theorem RN.nw {f t n : Nat} (h : RN B w j C S) (hB : B.1 ≤ 356) (e : rT[j]? = some (f, t, n)) (hn : n ≤ 320) : RN B w (j + 1) (csr (cnw C t n) 356 f (some C.1)) S := by
  obtain ⟨h1, h2, h3, h4, h5, h6, h7⟩ := h
  have le : cle C (csr (cnw C t n) 356 f (some C.1)) := (cle_nw C t n).trans (cle_same rfl rfl)
  refine ⟨(h1.trans (gfr.nw C t n)).sr hB _ _, by show C.1 + 1 = _; omega, by show C.2.1 + n ≤ _; omega, (le.2 356 (by omega)).trans h4, fun f' z => ((gfr.nw C t n).2 356 f' (by omega)).1.trans (h5 f' z), fun k f' t' n' hk e' => ?_, fun k f' t' n' hk e' => h7 k f' t' n' (by omega) e'⟩
  by_cases ek : k = j
  · subst ek
    have ez : (f', t', n') = (f, t, n) := Option.some.inj (e'.symm.trans e)
    injection ez with z1 z2
    injection z2 with z2 z3
    subst z1 z2 z3
    have z := h7 k f' t' n' (Nat.le_refl _) e
    rw [← h2]
    exact ⟨cR_csr _ _ _ _, (cT_nw0 (C := C) (t := t') (n := n') (by omega)).2.2, fun _ i => (cJ_nw C t' n' i).trans (z i).2.symm, fun _ i => (cI_nw C t' n' i).trans (z i).1.symm⟩
  · have hk' : k < j := by omega
    obtain ⟨u1, u2, u3, u4⟩ := h6 k f' t' n' hk' e'
    have ne : f' ≠ f := fun z => ek (rT_ne (z ▸ e') e)
    have g := fun i => (gfr.nw C t n).2 (357 + k) i (by omega)
    exact ⟨(cR_csr_ne _ _ (by omega)).trans (((gfr.nw C t n).2 356 f' (by omega)).2.2.trans u1), (le.2 _ (by omega)).trans u2, fun q i => (g i).2.1.trans (u3 q i), fun q i => (g i).1.trans (u4 q i)⟩
theorem RN.fi {f : Nat} {v : Int32} (h : RN B w j C S) (hB : B.1 ≤ 356) (e : rIx f = none) : RN B w j (csi C 356 f v) (rsi S f 0 v) := by
  obtain ⟨h1, h2, h3, h4, h5, h6, h7⟩ := h
  refine ⟨h1.si hB _ _, h2, h3, h4, fun f' z => ?_, fun k f' t' n' hk e' => ?_, fun k f' t' n' hk e' i => ?_⟩
  · by_cases q : f' = f
    · rw [q, cI_csi, rsi_i]
    · rw [cI_csi_ne _ _ (by omega), rsi_ne _ _ (by omega)]
      exact h5 f' z
  · obtain ⟨u1, u2, u3, u4⟩ := h6 k f' t' n' hk e'
    have ne := rIx_no e' e
    refine ⟨u1, u2, u3, fun q i => ?_⟩
    rw [cI_csi_ne _ _ (by omega), rsi_ne _ _ (by omega)]
    exact u4 q i
  · have ne := rIx_no e' e
    rw [rsi_ne _ _ (by omega)]
    exact h7 k f' t' n' hk e' i
theorem RN.wi {k f t n i : Nat} {v : Int32} (h : RN B w j C S) (hB : B.1 ≤ 356) (hk : k < j) (e : rT[k]? = some (f, t, n)) (ht : t ≠ 21) : RN B w j (csi C (357 + k) i v) (rsi S f i v) := by
  obtain ⟨h1, h2, h3, h4, h5, h6, h7⟩ := h
  refine ⟨h1.si (by omega) _ _, h2, h3, h4, fun f' z => ?_, fun k' f' t' n' hk' e' => ?_, fun k' f' t' n' hk' e' i' => ?_⟩
  · have ne := rIx_no e z
    rw [cI_csi_ne _ _ (by omega), rsi_ne _ _ (by omega)]
    exact h5 f' z
  · obtain ⟨u1, u2, u3, u4⟩ := h6 k' f' t' n' hk' e'
    refine ⟨u1, u2, u3, fun q i' => ?_⟩
    by_cases ek : k' = k
    · subst ek
      have ez : (f', t', n') = (f, t, n) := Option.some.inj (e'.symm.trans e)
      injection ez with z1 _
      subst z1
      by_cases ei : i' = i
      · rw [ei, cI_csi, rsi_i]
      · rw [cI_csi_ne _ _ (by omega), rsi_ne _ _ (by omega)]
        exact u4 q i'
    · have ne : f' ≠ f := fun z => ek (rT_ne (z ▸ e') e)
      rw [cI_csi_ne _ _ (by omega), rsi_ne _ _ (by omega)]
      exact u4 q i'
  · have ne : f' ≠ f := fun z => by
      have := rT_ne (z ▸ e') e
      omega
    rw [rsi_ne _ _ (by omega)]
    exact h7 k' f' t' n' hk' e' i'
theorem RN.go {G : cS → Prop} {f t n : Nat} (h : RN B w j C S) (hB : B.1 ≤ 356) (e : rT[j]? = some (f, t, n)) (hn : n ≤ 320) (k : ∀ C', RN B w (j + 1) C' S → G C') : G (csr (cnw C t n) 356 f (some C.1)) := k _ (h.nw hB e hn)
theorem RN.gof {G : cS → Prop} {f : Nat} {v : Int32} (h : RN B w j C S) (hB : B.1 ≤ 356) (e : rIx f = none) (k : ∀ C', RN B w j C' (rsi S f 0 v) → G C') : G (csi C 356 f v) := k _ (h.fi hB e)
theorem RN.go3 {G : cS → Prop} (h : RN B w 33 C S) (hB : B.1 ≤ 356) (k : ∀ C', RN B w 34 C' (rsi (rsi S 45 0 2) 45 1 2) → G C') : G (csr (csi (csi (cnw C 20 2) C.1 0 2) C.1 1 2) 356 45 (some C.1)) := by
  have h' : RN B w 34 (csr (cnw C 20 2) 356 45 (some C.1)) S := h.nw hB rfl (by decide)
  have e : C.1 = 357 + 33 := h.2.1
  have h2 : RN B w 34 (csi (csi (csr (cnw C 20 2) 356 45 (some C.1)) (357 + 33) 0 2) (357 + 33) 1 2) (rsi (rsi S 45 0 2) 45 1 2) := (h'.wi (k := 33) (f := 45) (t := 20) (n := 2) hB (by decide) rfl (by decide)).wi (k := 33) (f := 45) (t := 20) (n := 2) hB (by decide) rfl (by decide)
  rw [← e] at h2
  exact k _ h2
theorem RN.mods (h : RN B w 42 C S) : MODS (cnw C 21 1) S := by
  obtain ⟨h1, h2, h3, h4, h5, h6, h7⟩ := h
  have g := gfr.nw C 21 1
  refine ⟨(g.1.2 356 (by omega)).trans h4, by show 400 ≤ C.1 + 1; omega, fun f z => (g.2 356 f (by omega)).1.trans (h5 f z), fun f k z => ?_, fun k f t n e => ?_⟩
  · obtain ⟨t, n, e⟩ := rIx_at z
    exact (g.2 356 f (by omega)).2.2.trans (h6 k f t n (rT_k e).1 e).1
  · have k42 := (rT_k e).1
    obtain ⟨u1, u2, u3, u4⟩ := h6 k f t n k42 e
    exact ⟨(g.1.2 _ (by omega)).trans u2, fun q i => (g.2 _ i (by omega)).2.1.trans (u3 q i), fun q i => (g.2 _ i (by omega)).1.trans (u4 q i)⟩
end RNS
def PS (S : rS) (i p : Nat) : Prop := (S.1 1 0 = -1 ∧ S.1 40 0 = 13 ∧ S.1 45 0 = 2 ∧ S.1 45 1 = 2 ∧ S.1 47 0 = -1) ∧ (S.1 41 0 = 2 ∧ S.1 41 1 = 4 ∧ S.1 41 2 = 8 ∧ ∀ j, j < i → S.1 41 (3 + j) = 1) ∧ ((∀ j, j < 3 → S.1 42 j = 0) ∧ ∀ j, j < i → S.1 42 (3 + j) = nI j) ∧ (∀ j, j < p → S.1 43 j = -1 ∧ S.1 44 j = -1) ∧ ∀ f, f = 2 ∨ f = 12 ∨ f = 18 ∨ f = 19 ∨ f = 39 ∨ f = 46 → ∀ j, S.1 f j = 0
theorem rsi2_ne (S : rS) {f i g j f' i' : Nat} (v u : Int32) (h : ¬ (f' = f ∧ i' = i)) (k : ¬ (f' = g ∧ i' = j)) : (rsi (rsi S f i v) g j u).1 f' i' = S.1 f' i' := (rsi_ne _ _ k).trans (rsi_ne _ _ h)
theorem PS.si {S : rS} {i : Nat} (h : PS S i 0) : PS (rsi (rsi S 41 (3 + i) 1) 42 (3 + i) (nI i)) (i + 1) 0 := by
  obtain ⟨⟨a1, a2, a3, a4, a5⟩, ⟨b1, b2, b3, b4⟩, ⟨c1, c2⟩, _, e⟩ := h
  refine ⟨⟨(rsi2_ne _ _ _ (by omega) (by omega)).trans a1, (rsi2_ne _ _ _ (by omega) (by omega)).trans a2, (rsi2_ne _ _ _ (by omega) (by omega)).trans a3, (rsi2_ne _ _ _ (by omega) (by omega)).trans a4, (rsi2_ne _ _ _ (by omega) (by omega)).trans a5⟩, ⟨(rsi2_ne _ _ _ (by omega) (by omega)).trans b1, (rsi2_ne _ _ _ (by omega) (by omega)).trans b2, (rsi2_ne _ _ _ (by omega) (by omega)).trans b3, fun j hj => ?_⟩, ⟨fun j hj => (rsi2_ne _ _ _ (by omega) (by omega)).trans (c1 j hj), fun j hj => ?_⟩, fun j hj => absurd hj (Nat.not_lt_zero _), fun f hf j => (rsi2_ne _ _ _ (by omega) (by omega)).trans (e f hf j)⟩
  · by_cases ej : j = i
    · rw [ej, rsi_ne _ _ (by omega), rsi_i]
    · exact (rsi2_ne _ _ _ (by omega) (by omega)).trans (b4 j (by omega))
  · by_cases ej : j = i
    · rw [ej, rsi_i]
    · exact (rsi2_ne _ _ _ (by omega) (by omega)).trans (c2 j (by omega))
theorem PS.sp {S : rS} {i p : Nat} (h : PS S i p) : PS (rsi (rsi S 43 p (-1)) 44 p (-1)) i (p + 1) := by
  obtain ⟨⟨a1, a2, a3, a4, a5⟩, ⟨b1, b2, b3, b4⟩, ⟨c1, c2⟩, d, e⟩ := h
  refine ⟨⟨(rsi2_ne _ _ _ (by omega) (by omega)).trans a1, (rsi2_ne _ _ _ (by omega) (by omega)).trans a2, (rsi2_ne _ _ _ (by omega) (by omega)).trans a3, (rsi2_ne _ _ _ (by omega) (by omega)).trans a4, (rsi2_ne _ _ _ (by omega) (by omega)).trans a5⟩, ⟨(rsi2_ne _ _ _ (by omega) (by omega)).trans b1, (rsi2_ne _ _ _ (by omega) (by omega)).trans b2, (rsi2_ne _ _ _ (by omega) (by omega)).trans b3, fun j hj => (rsi2_ne _ _ _ (by omega) (by omega)).trans (b4 j hj)⟩, ⟨fun j hj => (rsi2_ne _ _ _ (by omega) (by omega)).trans (c1 j hj), fun j hj => (rsi2_ne _ _ _ (by omega) (by omega)).trans (c2 j hj)⟩, fun j hj => ?_, fun f hf j => (rsi2_ne _ _ _ (by omega) (by omega)).trans (e f hf j)⟩
  by_cases ej : j = p
  · rw [ej]
    exact ⟨(rsi_ne _ _ (by omega)).trans (rsi_i _ _ _ _), rsi_i _ _ _ _⟩
  · exact ⟨(rsi2_ne _ _ _ (by omega) (by omega)).trans (d j (by omega)).1, (rsi2_ne _ _ _ (by omega) (by omega)).trans (d j (by omega)).2⟩
theorem PS.ri {S : rS} (h : PS S 10 64) : RI S A0 := by
  obtain ⟨⟨a1, a2, a3, a4, a5⟩, ⟨b1, b2, b3, b4⟩, ⟨c1, c2⟩, d, e⟩ := h
  refine ⟨⟨e 2 (by omega) 0, fun i hi => absurd hi (Nat.not_lt_zero _), fun i _ => e 12 (by omega) i⟩, ⟨fun i _ pt kk y no z => (by cases z), fun i _ b z => (by cases z)⟩, ⟨e 18 (by omega) 0, e 19 (by omega) 0, a1, fun b z => (by cases z), fun z => (by cases z)⟩, e 39 (by omega) 0, ⟨a2, fun i hi => ?_⟩, a3, a4, e 46 (by omega) 0, a5⟩
  have hi' : i < 13 := hi
  show S.1 41 i = nI (L0.2 i).1 ∧ S.1 42 i = (L0.2 i).2.1 ∧ S.1 43 i = rfI (L0.2 i).2.2.1 ∧ S.1 44 i = rfI (L0.2 i).2.2.2
  rw [(d i (by omega)).1, (d i (by omega)).2]
  have : i = 0 ∨ i = 1 ∨ i = 2 ∨ 3 ≤ i := by omega
  rcases this with rfl | rfl | rfl | q
  · exact ⟨b1, c1 0 (by decide), rfl, rfl⟩
  · exact ⟨b2, c1 1 (by decide), rfl, rfl⟩
  · exact ⟨b3, c1 2 (by decide), rfl, rfl⟩
  · have e1 : L0.2 i = (1, nI (i - 3), none, none) := by
      show (if i = 0 then _ else if i = 1 then _ else if i = 2 then _ else _) = _
      rw [if_neg (by omega), if_neg (by omega), if_neg (by omega)]
    have e3 : 3 + (i - 3) = i := by omega
    have x1 := b4 (i - 3) (by omega)
    have x2 := c2 (i - 3) (by omega)
    rw [e3] at x1 x2
    rw [e1, x1, x2]
    exact ⟨rfl, rfl, rfl, rfl⟩
section INR
variable {c : cX} {d : Nat} {K : Option Value → cS → Prop}
theorem i_ref417 {B : cS} {w : Nat} (hB : B.1 ≤ 356) (k : ∀ C S, RN B w 42 C S → PS S 10 64 → K none C) : ∀ r p, p + r = 64 → ∀ C S, RN B w 42 C S → PS S 10 p → cG c eX10_init (d + 1) (cQ K) 417 [some (.ref 356), some (.int (nI p))] [] C := by
  intro r
  induction r with
  | zero =>
    intro p hp C S h ps
    have : p = 64 := by omega
    subst this
    exact w_X10_init_417 356 (nI 64) h.T ⟨fun _ => k C S h ps, fun z => absurd (show (64 : Int32) ≤ nI 64 by decide) z⟩
  | succ r ih =>
    intro p hp C S h ps
    have a1 := h.ar (k := 31) (f := 43) (t := 20) (n := 64) (by decide) rfl
    refine w_X10_init_417 356 (nI p) h.T ⟨fun z => absurd ((nI_leI (a := 64) (by decide) (by omega)).mp z) (by omega), fun _ => ⟨357 + 31, a1.1, 64, a1.2, p, am_ix_n (by omega) (by decide), ?_⟩⟩
    have h' := h.wi (k := 31) (f := 43) (t := 20) (n := 64) (i := p) (v := -1) hB (by decide) rfl (by decide)
    have a2 := h'.ar (k := 32) (f := 44) (t := 20) (n := 64) (by decide) rfl
    refine w_X10_init_430 356 (nI p) h'.T ⟨357 + 32, a2.1, 64, a2.2, p, am_ix_n (by omega) (by decide), ?_⟩
    rw [nI_1]
    exact ih (p + 1) (by omega) _ _ (h'.wi (k := 32) (f := 44) (t := 20) (n := 64) (i := p) (v := -1) hB (by decide) rfl (by decide)) ps.sp
theorem i_ref385 {B : cS} {w : Nat} (hB : B.1 ≤ 356) (k : ∀ C S, RN B w 42 C S → PS S 10 64 → K none C) : ∀ r i, i + r = 10 → ∀ C S, RN B w 42 C S → PS S i 0 → cG c eX10_init (d + 1) (cQ K) 385 [some (.ref 356), some (.int (nI i))] [] C := by
  intro r
  induction r with
  | zero =>
    intro i hi C S h ps
    have : i = 10 := by omega
    subst this
    exact w_X10_init_385 356 (nI 10) h.T ⟨fun _ => i_ref417 hB k 64 0 rfl C S h ps, fun z => absurd (show (10 : Int32) ≤ nI 10 by decide) z⟩
  | succ r ih =>
    intro i hi C S h ps
    have a1 := h.ar (k := 29) (f := 41) (t := 20) (n := 64) (by decide) rfl
    have ix : am_ix (3 + nI i) (3 + i) 64 := by
      rw [show (3 : Int32) + nI i = nI (3 + i) from nI_add 3 i]
      exact am_ix_n (by omega) (by decide)
    refine w_X10_init_385 356 (nI i) h.T ⟨fun z => absurd ((nI_leI (a := 10) (by decide) (by omega)).mp z) (by omega), fun _ => ⟨357 + 29, a1.1, 64, a1.2, 3 + i, ix, ?_⟩⟩
    have h' := h.wi (k := 29) (f := 41) (t := 20) (n := 64) (i := 3 + i) (v := 1) hB (by decide) rfl (by decide)
    have a2 := h'.ar (k := 30) (f := 42) (t := 20) (n := 64) (by decide) rfl
    refine w_X10_init_400 356 (nI i) h'.T ⟨357 + 30, a2.1, 64, a2.2, 3 + i, ix, ?_⟩
    rw [nI_1]
    exact ih (i + 1) (by omega) _ _ (h'.wi (k := 30) (f := 42) (t := 20) (n := 64) (i := 3 + i) (v := nI i) hB (by decide) rfl (by decide)) ps.si
theorem i_ref {C : cS} (e : C.1 = 356) (k : ∀ C' S, RN C (C.2.1 + 59) 42 C' S → PS S 10 64 → cle (cnw C 10 59) C' → K none C') : cM c (d + 1) eX10_init (.ref C.1 :: []) (cnw C 10 59) K := by
  have hB : C.1 ≤ 356 := by omega
  have T1 : cT (cnw C 10 59) 356 10 59 := by
    have := cT_nw0 (C := C) (t := 10) (n := 59) (by omega)
    rwa [e] at this
  have h : RN C (C.2.1 + 59) 0 (cnw C 10 59) (fun _ _ => 0, fun _ _ => 0) := ⟨gfr.nw _ _ _, congrArg (· + 1) e, Nat.le_refl _, T1.2.2, fun f _ => by rw [← e]; exact cI_nw _ _ _ _, fun k f t n hk => absurd hk (Nat.not_lt_zero _), fun k f t n _ _ i => ⟨rfl, rfl⟩⟩
  have kk : ∀ C' S, RN C (C.2.1 + 59) 42 C' S → PS S 10 64 → K none C' := fun C' S a1 a2 => k C' S a1 a2 (cle_cnw a1.1.1 (by rw [e]; exact a1.T))
  rw [e]
  generalize cnw C 10 59 = X at h T1
  generalize C.2.1 + 59 = w at h kk
  clear k T1
  revert h
  generalize C = B at hB kk
  intro h
  refine w_X10_init 356 h.T ?_
  refine w_X10_init_4 356 h.T (h.gof (G := fun C => cG c eX10_init (d + 1) (cQ K) 9 [some (.ref 356), none] [] C) hB (f := 1) (v := -1) rfl fun C h => ?_)
  refine w_X10_init_9 356 h.T (h.go (G := fun C => cG c eX10_init (d + 1) (cQ K) 17 [some (.ref 356), none] [] C) hB (f := 3) (t := 20) (n := 60) rfl (by decide) fun C h => ?_)
  refine w_X10_init_17 356 h.T (h.go (G := fun C => cG c eX10_init (d + 1) (cQ K) 26 [some (.ref 356), none] [] C) hB (f := 4) (t := 20) (n := 320) rfl (by decide) fun C h => ?_)
  refine w_X10_init_26 356 h.T (h.go (G := fun C => cG c eX10_init (d + 1) (cQ K) 35 [some (.ref 356), none] [] C) hB (f := 5) (t := 20) (n := 320) rfl (by decide) fun C h => ?_)
  refine w_X10_init_35 356 h.T (h.go (G := fun C => cG c eX10_init (d + 1) (cQ K) 44 [some (.ref 356), none] [] C) hB (f := 6) (t := 20) (n := 320) rfl (by decide) fun C h => ?_)
  refine w_X10_init_44 356 h.T (h.go (G := fun C => cG c eX10_init (d + 1) (cQ K) 53 [some (.ref 356), none] [] C) hB (f := 7) (t := 20) (n := 320) rfl (by decide) fun C h => ?_)
  refine w_X10_init_53 356 h.T (h.go (G := fun C => cG c eX10_init (d + 1) (cQ K) 62 [some (.ref 356), none] [] C) hB (f := 8) (t := 20) (n := 320) rfl (by decide) fun C h => ?_)
  refine w_X10_init_62 356 h.T (h.go (G := fun C => cG c eX10_init (d + 1) (cQ K) 71 [some (.ref 356), none] [] C) hB (f := 9) (t := 20) (n := 320) rfl (by decide) fun C h => ?_)
  refine w_X10_init_71 356 h.T (h.go (G := fun C => cG c eX10_init (d + 1) (cQ K) 78 [some (.ref 356), none] [] C) hB (f := 10) (t := 20) (n := 5) rfl (by decide) fun C h => ?_)
  refine w_X10_init_78 356 h.T (h.go (G := fun C => cG c eX10_init (d + 1) (cQ K) 85 [some (.ref 356), none] [] C) hB (f := 11) (t := 20) (n := 5) rfl (by decide) fun C h => ?_)
  refine w_X10_init_85 356 h.T (h.go (G := fun C => cG c eX10_init (d + 1) (cQ K) 92 [some (.ref 356), none] [] C) hB (f := 12) (t := 22) (n := 3) rfl (by decide) fun C h => ?_)
  refine w_X10_init_92 356 h.T (h.go (G := fun C => cG c eX10_init (d + 1) (cQ K) 99 [some (.ref 356), none] [] C) hB (f := 13) (t := 20) (n := 3) rfl (by decide) fun C h => ?_)
  refine w_X10_init_99 356 h.T (h.go (G := fun C => cG c eX10_init (d + 1) (cQ K) 106 [some (.ref 356), none] [] C) hB (f := 14) (t := 20) (n := 3) rfl (by decide) fun C h => ?_)
  refine w_X10_init_106 356 h.T (h.go (G := fun C => cG c eX10_init (d + 1) (cQ K) 113 [some (.ref 356), none] [] C) hB (f := 15) (t := 20) (n := 3) rfl (by decide) fun C h => ?_)
  refine w_X10_init_113 356 h.T (h.go (G := fun C => cG c eX10_init (d + 1) (cQ K) 121 [some (.ref 356), none] [] C) hB (f := 16) (t := 20) (n := 21) rfl (by decide) fun C h => ?_)
  refine w_X10_init_121 356 h.T (h.go (G := fun C => cG c eX10_init (d + 1) (cQ K) 129 [some (.ref 356), none] [] C) hB (f := 17) (t := 20) (n := 21) rfl (by decide) fun C h => ?_)
  refine w_X10_init_129 356 h.T (h.go (G := fun C => cG c eX10_init (d + 1) (cQ K) 137 [some (.ref 356), none] [] C) hB (f := 24) (t := 20) (n := 8) rfl (by decide) fun C h => ?_)
  refine w_X10_init_137 356 h.T (h.go (G := fun C => cG c eX10_init (d + 1) (cQ K) 145 [some (.ref 356), none] [] C) hB (f := 25) (t := 20) (n := 80) rfl (by decide) fun C h => ?_)
  refine w_X10_init_145 356 h.T (h.go (G := fun C => cG c eX10_init (d + 1) (cQ K) 154 [some (.ref 356), none] [] C) hB (f := 26) (t := 21) (n := 320) rfl (by decide) fun C h => ?_)
  refine w_X10_init_154 356 h.T (h.go (G := fun C => cG c eX10_init (d + 1) (cQ K) 163 [some (.ref 356), none] [] C) hB (f := 27) (t := 21) (n := 320) rfl (by decide) fun C h => ?_)
  refine w_X10_init_163 356 h.T (h.go (G := fun C => cG c eX10_init (d + 1) (cQ K) 172 [some (.ref 356), none] [] C) hB (f := 28) (t := 21) (n := 320) rfl (by decide) fun C h => ?_)
  refine w_X10_init_172 356 h.T (h.go (G := fun C => cG c eX10_init (d + 1) (cQ K) 180 [some (.ref 356), none] [] C) hB (f := 29) (t := 20) (n := 64) rfl (by decide) fun C h => ?_)
  refine w_X10_init_180 356 h.T (h.go (G := fun C => cG c eX10_init (d + 1) (cQ K) 188 [some (.ref 356), none] [] C) hB (f := 30) (t := 20) (n := 64) rfl (by decide) fun C h => ?_)
  refine w_X10_init_188 356 h.T (h.go (G := fun C => cG c eX10_init (d + 1) (cQ K) 196 [some (.ref 356), none] [] C) hB (f := 31) (t := 20) (n := 80) rfl (by decide) fun C h => ?_)
  refine w_X10_init_196 356 h.T (h.go (G := fun C => cG c eX10_init (d + 1) (cQ K) 204 [some (.ref 356), none] [] C) hB (f := 32) (t := 20) (n := 8) rfl (by decide) fun C h => ?_)
  refine w_X10_init_204 356 h.T (h.go (G := fun C => cG c eX10_init (d + 1) (cQ K) 212 [some (.ref 356), none] [] C) hB (f := 33) (t := 22) (n := 8) rfl (by decide) fun C h => ?_)
  refine w_X10_init_212 356 h.T (h.go (G := fun C => cG c eX10_init (d + 1) (cQ K) 220 [some (.ref 356), none] [] C) hB (f := 34) (t := 21) (n := 40) rfl (by decide) fun C h => ?_)
  refine w_X10_init_220 356 h.T (h.go (G := fun C => cG c eX10_init (d + 1) (cQ K) 228 [some (.ref 356), none] [] C) hB (f := 35) (t := 21) (n := 40) rfl (by decide) fun C h => ?_)
  refine w_X10_init_228 356 h.T (h.go (G := fun C => cG c eX10_init (d + 1) (cQ K) 235 [some (.ref 356), none] [] C) hB (f := 36) (t := 21) (n := 5) rfl (by decide) fun C h => ?_)
  refine w_X10_init_235 356 h.T (h.go (G := fun C => cG c eX10_init (d + 1) (cQ K) 242 [some (.ref 356), none] [] C) hB (f := 37) (t := 21) (n := 5) rfl (by decide) fun C h => ?_)
  refine w_X10_init_242 356 h.T (h.gof (G := fun C => cG c eX10_init (d + 1) (cQ K) 248 [some (.ref 356), none] [] C) hB (f := 40) (v := 13) rfl fun C h => ?_)
  refine w_X10_init_248 356 h.T (h.go (G := fun C => cG c eX10_init (d + 1) (cQ K) 256 [some (.ref 356), none] [] C) hB (f := 41) (t := 20) (n := 64) rfl (by decide) fun C h => ?_)
  refine w_X10_init_256 356 h.T (h.go (G := fun C => cG c eX10_init (d + 1) (cQ K) 264 [some (.ref 356), none] [] C) hB (f := 42) (t := 20) (n := 64) rfl (by decide) fun C h => ?_)
  refine w_X10_init_264 356 h.T (h.go (G := fun C => cG c eX10_init (d + 1) (cQ K) 272 [some (.ref 356), none] [] C) hB (f := 43) (t := 20) (n := 64) rfl (by decide) fun C h => ?_)
  refine w_X10_init_272 356 h.T (h.go (G := fun C => cG c eX10_init (d + 1) (cQ K) 280 [some (.ref 356), none] [] C) hB (f := 44) (t := 20) (n := 64) rfl (by decide) fun C h => ?_)
  refine w_X10_init_280 356 h.T (h.go3 (G := fun C => cG c eX10_init (d + 1) (cQ K) 295 [some (.ref 356), none] [] C) hB fun C h => ?_)
  refine w_X10_init_295 356 h.T (h.gof (G := fun C => cG c eX10_init (d + 1) (cQ K) 300 [some (.ref 356), none] [] C) hB (f := 47) (v := -1) rfl fun C h => ?_)
  refine w_X10_init_300 356 h.T (h.go (G := fun C => cG c eX10_init (d + 1) (cQ K) 308 [some (.ref 356), none] [] C) hB (f := 51) (t := 20) (n := 80) rfl (by decide) fun C h => ?_)
  refine w_X10_init_308 356 h.T (h.go (G := fun C => cG c eX10_init (d + 1) (cQ K) 316 [some (.ref 356), none] [] C) hB (f := 52) (t := 20) (n := 80) rfl (by decide) fun C h => ?_)
  refine w_X10_init_316 356 h.T (h.go (G := fun C => cG c eX10_init (d + 1) (cQ K) 324 [some (.ref 356), none] [] C) hB (f := 53) (t := 20) (n := 80) rfl (by decide) fun C h => ?_)
  refine w_X10_init_324 356 h.T (h.go (G := fun C => cG c eX10_init (d + 1) (cQ K) 332 [some (.ref 356), none] [] C) hB (f := 54) (t := 20) (n := 80) rfl (by decide) fun C h => ?_)
  refine w_X10_init_332 356 h.T (h.go (G := fun C => cG c eX10_init (d + 1) (cQ K) 340 [some (.ref 356), none] [] C) hB (f := 55) (t := 20) (n := 40) rfl (by decide) fun C h => ?_)
  refine w_X10_init_340 356 h.T (h.go (G := fun C => cG c eX10_init (d + 1) (cQ K) 347 [some (.ref 356), none] [] C) hB (f := 56) (t := 21) (n := 5) rfl (by decide) fun C h => ?_)
  refine w_X10_init_347 356 h.T (h.go (G := fun C => cG c eX10_init (d + 1) (cQ K) 354 [some (.ref 356), none] [] C) hB (f := 57) (t := 21) (n := 5) rfl (by decide) fun C h => ?_)
  refine w_X10_init_354 356 h.T (h.go (G := fun C => cG c eX10_init (d + 1) (cQ K) 361 [some (.ref 356), none] [] C) hB (f := 58) (t := 21) (n := 5) rfl (by decide) fun C h => ?_)
  have a1 := h.ar (k := 29) (f := 41) (t := 20) (n := 64) (by decide) rfl
  refine w_X10_init_361 356 h.T ⟨357 + 29, a1.1, 64, a1.2, 0, am_ix_n (j := 0) (by decide) (by decide), ?_⟩
  replace h := h.wi (k := 29) (f := 41) (t := 20) (n := 64) (i := 0) (v := 2) hB (by decide) rfl (by decide)
  have a2 := h.ar (k := 29) (f := 41) (t := 20) (n := 64) (by decide) rfl
  refine w_X10_init_368 356 h.T ⟨357 + 29, a2.1, 64, a2.2, 1, am_ix_n (j := 1) (by decide) (by decide), ?_⟩
  replace h := h.wi (k := 29) (f := 41) (t := 20) (n := 64) (i := 1) (v := 4) hB (by decide) rfl (by decide)
  have a3 := h.ar (k := 29) (f := 41) (t := 20) (n := 64) (by decide) rfl
  refine w_X10_init_375 356 h.T ⟨357 + 29, a3.1, 64, a3.2, 2, am_ix_n (j := 2) (by decide) (by decide), ?_⟩
  replace h := h.wi (k := 29) (f := 41) (t := 20) (n := 64) (i := 2) (v := 8) hB (by decide) rfl (by decide)
  refine i_ref385 hB kk 10 0 rfl _ _ h ⟨⟨rfl, rfl, rfl, rfl, rfl⟩, ⟨rfl, rfl, rfl, fun j hj => absurd hj (Nat.not_lt_zero _)⟩, ⟨fun j _ => rfl, fun j hj => absurd hj (Nat.not_lt_zero _)⟩, fun j hj => absurd hj (Nat.not_lt_zero _), fun f hf j => ?_⟩
  rcases hf with rfl | rfl | rfl | rfl | rfl | rfl <;> rfl
end INR
