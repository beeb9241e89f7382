/-! New objects of the class: the checker whole, the text, the cells. -/
def ast (X : cS) (o t n k : Nat) : cS := csr (cnw X t n) o k (some X.1)
theorem ast_le (X : cS) (o t n k : Nat) : cle X (ast X o t n k) := (cle_nw X t n).trans (cle_same rfl rfl)
theorem ast_T {X : cS} (o t n k : Nat) (h : 0 < X.1) : cT (ast X o t n k) X.1 t n := (cT_nw0 (C := X) (t := t) (n := n) h).le (cle_same rfl rfl)
theorem ast_R (X : cS) (o t n k : Nat) : cR (ast X o t n k) o k = some X.1 := cR_csr _ _ _ _
theorem ast_Rn {X : cS} {o t n k a i : Nat} (h : a < X.1) (hne : ¬ (a = o ∧ i = k)) : cR (ast X o t n k) a i = cR X a i := (cR_csr_ne _ _ hne).trans ((gfr.nw X t n).2 a i h).2.2
theorem ast_I {X : cS} {o t n k a i : Nat} (h : a < X.1) : cI (ast X o t n k) a i = cI X a i := ((gfr.nw X t n).2 a i h).1
theorem ast_I0 (X : cS) (o t n k i : Nat) : cI (ast X o t n k) X.1 i = 0 := cI_nw X t n i
theorem ast_g {B X : cS} (h : gfr B X) {o : Nat} (ho : B.1 ≤ o) (t n k : Nat) : gfr B (ast X o t n k) := (h.trans (gfr.nw X t n)).sr ho _ _
section INJ
variable {c : cX} {d : Nat} {C : cS} {K : Option Value → cS → Prop}
theorem four (o t0 n0 t1 n1 t2 n2 t3 n3 tt nn : Nat) (e : C.1 = o) (ho : 0 < o) :
    (ast (ast (ast (ast (cnw C tt nn) o t0 n0 0) o t1 n1 1) o t2 n2 2) o t3 n3 3).1 = o + 5 ∧ (ast (ast (ast (ast (cnw C tt nn) o t0 n0 0) o t1 n1 1) o t2 n2 2) o t3 n3 3).2.1 = C.2.1 + nn + n0 + n1 + n2 + n3 ∧
    cT (ast (ast (ast (ast (cnw C tt nn) o t0 n0 0) o t1 n1 1) o t2 n2 2) o t3 n3 3) o tt nn ∧
    (cR (ast (ast (ast (ast (cnw C tt nn) o t0 n0 0) o t1 n1 1) o t2 n2 2) o t3 n3 3) o 0 = some (o + 1) ∧ cR (ast (ast (ast (ast (cnw C tt nn) o t0 n0 0) o t1 n1 1) o t2 n2 2) o t3 n3 3) o 1 = some (o + 2) ∧ cR (ast (ast (ast (ast (cnw C tt nn) o t0 n0 0) o t1 n1 1) o t2 n2 2) o t3 n3 3) o 2 = some (o + 3) ∧ cR (ast (ast (ast (ast (cnw C tt nn) o t0 n0 0) o t1 n1 1) o t2 n2 2) o t3 n3 3) o 3 = some (o + 4)) ∧
    (cT (ast (ast (ast (ast (cnw C tt nn) o t0 n0 0) o t1 n1 1) o t2 n2 2) o t3 n3 3) (o + 1) t0 n0 ∧ cT (ast (ast (ast (ast (cnw C tt nn) o t0 n0 0) o t1 n1 1) o t2 n2 2) o t3 n3 3) (o + 2) t1 n1 ∧ cT (ast (ast (ast (ast (cnw C tt nn) o t0 n0 0) o t1 n1 1) o t2 n2 2) o t3 n3 3) (o + 3) t2 n2 ∧ cT (ast (ast (ast (ast (cnw C tt nn) o t0 n0 0) o t1 n1 1) o t2 n2 2) o t3 n3 3) (o + 4) t3 n3) ∧
    (∀ a i, o ≤ a → a < o + 5 → cI (ast (ast (ast (ast (cnw C tt nn) o t0 n0 0) o t1 n1 1) o t2 n2 2) o t3 n3 3) a i = 0) ∧ gfr C (ast (ast (ast (ast (cnw C tt nn) o t0 n0 0) o t1 n1 1) o t2 n2 2) o t3 n3 3) := by
  have x0 : (cnw C tt nn).1 = o + 1 := congrArg (· + 1) e
  have w0 : (cnw C tt nn).2.1 = C.2.1 + nn := rfl
  have T0 : cT (cnw C tt nn) o tt nn := by rw [← e]; exact cT_nw0 (by omega)
  have I0 : ∀ i, cI (cnw C tt nn) o i = 0 := fun i => by rw [← e]; exact cI_nw _ _ _ _
  have G0 : gfr C (cnw C tt nn) := gfr.nw C tt nn
  generalize cnw C tt nn = A0 at x0 w0 T0 I0 G0 ⊢
  have x1 : (ast A0 o t0 n0 0).1 = o + 2 := congrArg (· + 1) x0
  have w1 : (ast A0 o t0 n0 0).2.1 = A0.2.1 + n0 := rfl
  have T1 : cT (ast A0 o t0 n0 0) (o + 1) t0 n0 := by rw [← x0]; exact ast_T _ _ _ _ (by omega)
  have R1 : cR (ast A0 o t0 n0 0) o 0 = some (o + 1) := by rw [← x0]; exact ast_R _ _ _ _ _
  have I1 : ∀ a i, o ≤ a → a < o + 2 → cI (ast A0 o t0 n0 0) a i = 0 := fun a i q1 q2 => by
    by_cases z : a = o + 1
    · rw [z, ← x0]; exact ast_I0 _ _ _ _ _ _
    · have : a = o := by omega
      rw [this, ast_I (by omega)]; exact I0 i
  have T0' := T0.le (ast_le A0 o t0 n0 0)
  have G1 := ast_g G0 (o := o) (by omega) t0 n0 0
  generalize ast A0 o t0 n0 0 = A1 at x1 w1 T1 R1 I1 T0' G1 ⊢
  have x2 : (ast A1 o t1 n1 1).1 = o + 3 := congrArg (· + 1) x1
  have w2 : (ast A1 o t1 n1 1).2.1 = A1.2.1 + n1 := rfl
  have T2 : cT (ast A1 o t1 n1 1) (o + 2) t1 n1 := by rw [← x1]; exact ast_T _ _ _ _ (by omega)
  have R2 : cR (ast A1 o t1 n1 1) o 1 = some (o + 2) := by rw [← x1]; exact ast_R _ _ _ _ _
  have R21 : cR (ast A1 o t1 n1 1) o 0 = some (o + 1) := (ast_Rn (by omega) (by omega)).trans R1
  have I2 : ∀ a i, o ≤ a → a < o + 3 → cI (ast A1 o t1 n1 1) a i = 0 := fun a i q1 q2 => by
    by_cases z : a = o + 2
    · rw [z, ← x1]; exact ast_I0 _ _ _ _ _ _
    · rw [ast_I (by omega)]; exact I1 a i q1 (by omega)
  have T0'' := T0'.le (ast_le A1 o t1 n1 1)
  have T1' := T1.le (ast_le A1 o t1 n1 1)
  have G2 := ast_g G1 (o := o) (by omega) t1 n1 1
  generalize ast A1 o t1 n1 1 = A2 at x2 w2 T2 R2 R21 I2 T0'' T1' G2 ⊢
  have x3 : (ast A2 o t2 n2 2).1 = o + 4 := congrArg (· + 1) x2
  have w3 : (ast A2 o t2 n2 2).2.1 = A2.2.1 + n2 := rfl
  have T3 : cT (ast A2 o t2 n2 2) (o + 3) t2 n2 := by rw [← x2]; exact ast_T _ _ _ _ (by omega)
  have R3 : cR (ast A2 o t2 n2 2) o 2 = some (o + 3) := by rw [← x2]; exact ast_R _ _ _ _ _
  have R31 : cR (ast A2 o t2 n2 2) o 0 = some (o + 1) := (ast_Rn (by omega) (by omega)).trans R21
  have R32 : cR (ast A2 o t2 n2 2) o 1 = some (o + 2) := (ast_Rn (by omega) (by omega)).trans R2
  have I3 : ∀ a i, o ≤ a → a < o + 4 → cI (ast A2 o t2 n2 2) a i = 0 := fun a i q1 q2 => by
    by_cases z : a = o + 3
    · rw [z, ← x2]; exact ast_I0 _ _ _ _ _ _
    · rw [ast_I (by omega)]; exact I2 a i q1 (by omega)
  have T0a := T0''.le (ast_le A2 o t2 n2 2)
  have T1a := T1'.le (ast_le A2 o t2 n2 2)
  have T2a := T2.le (ast_le A2 o t2 n2 2)
  have G3 := ast_g G2 (o := o) (by omega) t2 n2 2
  generalize ast A2 o t2 n2 2 = A3 at x3 w3 T3 R3 R31 R32 I3 T0a T1a T2a G3 ⊢
  have x4 : (ast A3 o t3 n3 3).1 = o + 5 := congrArg (· + 1) x3
  have w4 : (ast A3 o t3 n3 3).2.1 = A3.2.1 + n3 := rfl
  refine ⟨x4, by omega, T0a.le (ast_le _ _ _ _ _), ⟨(ast_Rn (by omega) (by omega)).trans R31, (ast_Rn (by omega) (by omega)).trans R32, (ast_Rn (by omega) (by omega)).trans R3, by rw [← x3]; exact ast_R _ _ _ _ _⟩, ⟨T1a.le (ast_le _ _ _ _ _), T2a.le (ast_le _ _ _ _ _), T3.le (ast_le _ _ _ _ _), by rw [← x3]; exact ast_T _ _ _ _ (by omega)⟩, fun a i q1 q2 => ?_, ast_g G3 (o := o) (by omega) t3 n3 3⟩
  by_cases z : a = o + 4
  · rw [z, ← x3]; exact ast_I0 _ _ _ _ _ _
  · rw [ast_I (by omega)]; exact I3 a i q1 (by omega)
theorem i_chk (e : C.1 = 5) (k : ∀ C', C'.1 = 346 → C'.2.1 = C.2.1 + 2980 → CHK C' → gfr C C' → cle (cnw C 1 7) C' → K none C') : cM c (d + 3) eX1_init (.ref C.1 :: []) (cnw C 1 7) K := by
  obtain ⟨f1, f2, f3, ⟨r0, r1, r2, r3⟩, ⟨t0, t1, t2, t3⟩, f6, f7⟩ := four (C := C) 5 25 60 27 17 20 17 25 17 1 7 e (by decide)
  have T5 : cT (cnw C 1 7) 5 1 7 := by
    have := cT_nw0 (C := C) (t := 1) (n := 7) (by omega)
    rwa [e] at this
  rw [e]
  refine w_X1_init 5 T5 ?_
  show cM c (d + 2) eX8_init (.ref (ast (ast (ast (ast (cnw C 1 7) 5 25 60 0) 5 27 17 1) 5 20 17 2) 5 25 17 3).1 :: []) (cnw (ast (ast (ast (ast (cnw C 1 7) 5 25 60 0) 5 27 17 1) 5 20 17 2) 5 25 17 3) 8 2) (fun v C21 => v = none ∧ cle (cnw (ast (ast (ast (ast (cnw C 1 7) 5 25 60 0) 5 27 17 1) 5 20 17 2) 5 25 17 3) 8 2) C21 ∧ (cG c eX1_init (d + 2 + 1) (cQ K) 62 [some (.ref 5), some (.int 0)] [] (csi (csr (csr C21 5 4 (some (ast (ast (ast (ast (cnw C 1 7) 5 25 60 0) 5 27 17 1) 5 20 17 2) 5 25 17 3).1)) 5 5 none) 5 6 (-1))))
  generalize ast (ast (ast (ast (cnw C 1 7) 5 25 60 0) 5 27 17 1) 5 20 17 2) 5 25 17 3 = A at f1 f2 f3 r0 r1 r2 r3 t0 t1 t2 t3 f6 f7 ⊢
  refine i_view (by omega) fun C21 a1 a2 a3 a4 a5 => ⟨rfl, a5, ?_⟩
  have f1' : A.1 = 10 := f1
  rw [f1'] at a3 ⊢
  have le : cle C21 (csi (csr (csr C21 5 4 (some 10)) 5 5 none) 5 6 (-1)) := cle_same rfl rfl
  have g : gfr C (csi (csr (csr C21 5 4 (some 10)) 5 5 none) 5 6 (-1)) := (((f7.trans a4).sr (by omega) _ _).sr (by omega) _ _).si (by omega) _ _
  have rr : ∀ i, i < 4 → cR (csi (csr (csr C21 5 4 (some 10)) 5 5 none) 5 6 (-1)) 5 i = cR A 5 i := fun i hi => (cR_csr_ne _ _ (by omega)).trans ((cR_csr_ne _ _ (by omega)).trans (a4.2 5 i (by omega)).2.2)
  have base : CHB (csi (csr (csr C21 5 4 (some 10)) 5 5 none) 5 6 (-1)) := ⟨(f3.le a4.1).le le, (rr 0 (by decide)).trans r0, (rr 1 (by decide)).trans r1, (rr 2 (by decide)).trans r2, (rr 3 (by decide)).trans r3, (cR_csr_ne _ _ (by omega)).trans (cR_csr _ _ _ _), (t0.le a4.1).le le, (t1.le a4.1).le le, (t2.le a4.1).le le, (t3.le a4.1).le le, a3.w le ((cR_csr_ne _ _ (by omega)).trans (cR_csr_ne _ _ (by omega)))⟩
  refine i_chk62 (d := d) (w := C.2.1 + 137) (B := C) (by omega) (fun C' b1 b2 b3 b4 => ?_) 60 0 rfl _ (by show C21.1 = 12; omega) (by show C21.2.1 = _; omega) ⟨base, fun j hj => absurd hj (by omega), fun j hj => absurd hj (by omega)⟩ g
  obtain ⟨⟨u1, u2, u3, u4, u5, u6, u7, u8, u9, u10, u11⟩, v1, v2⟩ := b3
  refine k C' b1 (by omega) ⟨u1, u2, u3, u4, u5, u6, u7, u8, u9, u10, u11, v1, v2⟩ b4 (cle_cnw b4.1 ?_)
  rw [e]
  exact u1
theorem i_text (h0 : 0 < C.1) (k : ∀ C', C'.1 = C.1 + 2 → C'.2.1 = C.2.1 + 62 → cT C' C.1 7 2 → cR C' C.1 0 = some (C.1 + 1) → cT C' (C.1 + 1) 23 60 → cI C' C.1 1 = 0 → gfr C C' → cle (cnw C 7 2) C' → K none C') : cM c (d + 1) eX7_init (.ref C.1 :: []) (cnw C 7 2) K := by
  have le : cle (cnw C 7 2) (csi (csr (cnw (cnw C 7 2) 23 60) C.1 0 (some (C.1 + 1))) C.1 1 0) := (cle_nw _ 23 60).trans (cle_same rfl rfl)
  refine w_X7_init C.1 (cT_nw0 h0) (k _ rfl ?_ ((cT_nw0 h0).le le) (cR_csr _ _ _ _) ((cT_nw0 (C := cnw C 7 2) (t := 23) (n := 60) (Nat.succ_pos _)).le (cle_same rfl rfl)) (cI_csi _ _ _ _) ((((gfr.nw C 7 2).trans (gfr.nw _ 23 60)).sr (Nat.le_refl _) _ _).si (Nat.le_refl _) _ _) le)
  show C.2.1 + 2 + 60 = _
  omega
/-- the cells at the beginning -/
def L0 : cL := (13, fun i => if i = 0 then (2, 0, none, none) else if i = 1 then (4, 0, none, none) else if i = 2 then (8, 0, none, none) else (1, nI (i - 3), none, none))
theorem L0_ok : clO L0 := by
  refine ⟨by decide, by decide, fun i hi => ?_⟩
  have hi' : i < 13 := hi
  show ((if i = 0 then _ else if i = 1 then _ else if i = 2 then _ else _ : cE).1 = 1 ∨ _) ∧ _
  have : i = 0 ∨ i = 1 ∨ i = 2 ∨ 3 ≤ i := by omega
  rcases this with rfl | rfl | rfl | q
  · exact ⟨Or.inr (Or.inl rfl), ⟨fun z => absurd z (by decide), fun z => absurd z (by decide)⟩, fun a z => (by cases z), fun a z => (by cases z), fun z => absurd z (by decide)⟩
  · exact ⟨Or.inr (Or.inr (Or.inl rfl)), ⟨fun _ => rfl, fun _ => rfl⟩, fun a z => (by cases z), fun a z => (by cases z), fun z => absurd z (by decide)⟩
  · exact ⟨Or.inr (Or.inr (Or.inr (Or.inl rfl))), ⟨fun z => absurd z (by decide), fun z => absurd z (by decide)⟩, fun a z => (by cases z), fun a z => (by cases z), fun z => absurd z (by decide)⟩
  · have e : L0.2 i = (1, nI (i - 3), none, none) := by
      show (if i = 0 then _ else if i = 1 then _ else if i = 2 then _ else _) = _
      rw [if_neg (by omega), if_neg (by omega), if_neg (by omega)]
    show ((L0.2 i).1 = 1 ∨ _) ∧ _
    rw [e]
    exact ⟨Or.inl rfl, ⟨fun z => absurd z (show ¬ (1 : Nat) = 4 by decide), fun z => by omega⟩, fun a z => (by cases z), fun a z => (by cases z), fun z => absurd z (show ¬ (1 : Nat) = 16 by decide)⟩
def CLJ (C : cS) (n : Nat) : Prop := cT C 350 0 6 ∧ cR C 350 0 = some 351 ∧ cR C 350 1 = some 352 ∧ cR C 350 2 = some 353 ∧ cR C 350 3 = some 354 ∧ cT C 351 20 64 ∧ cT C 352 20 64 ∧ cT C 353 20 64 ∧ cT C 354 20 64 ∧ cI C 350 4 = 0 ∧ cI C 350 5 = 13 ∧
  (∀ j, cI C 351 j = if j = 0 then 2 else if j = 1 then 4 else if j = 2 then 8 else if j < n then 1 else 0) ∧ (∀ j, cI C 352 j = if 3 ≤ j ∧ j < n then nI (j - 3) else 0) ∧ (∀ j, j < n → cI C 353 j = -1) ∧ ∀ j, j < n → cI C 354 j = -1
theorem CLJ.cls (h : CLJ C 13) : CLS C 0 L0 := by
  obtain ⟨h1, h2, h3, h4, h5, h6, h7, h8, h9, h10, h11, h12, h13, h14, h15⟩ := h
  refine ⟨h1, h2, h3, h4, h5, h6, h7, h8, h9, h10, h11, fun i hi => ?_⟩
  have hi' : i < 13 := hi
  rw [h12 i, h13 i, h14 i hi', h15 i hi']
  have : i = 0 ∨ i = 1 ∨ i = 2 ∨ 3 ≤ i := by omega
  rcases this with rfl | rfl | rfl | q
  · exact ⟨rfl, rfl, rfl, rfl⟩
  · exact ⟨rfl, rfl, rfl, rfl⟩
  · exact ⟨rfl, rfl, rfl, rfl⟩
  · have e : L0.2 i = (1, nI (i - 3), none, none) := by
      show (if i = 0 then _ else if i = 1 then _ else if i = 2 then _ else _) = _
      rw [if_neg (by omega), if_neg (by omega), if_neg (by omega)]
    rw [e, if_neg (by omega), if_neg (by omega), if_neg (by omega), if_pos hi', if_pos ⟨q, hi'⟩]
    exact ⟨rfl, rfl, rfl, rfl⟩
theorem i_cells71 {B : cS} {w : Nat} (hB : B.1 ≤ 350) (k : ∀ C', C'.1 = 355 → C'.2.1 = w → CLJ C' 13 → gfr B C' → K none C') : ∀ r n, n + r = 13 → ∀ C, C.1 = 355 → C.2.1 = w → CLJ C n → gfr B C → cG c eX0_init (d + 1) (cQ K) 71 [some (.ref 350), some (.int (nI n))] [] C := by
  intro r
  induction r with
  | zero =>
    intro n hn C e1 e2 h g
    have : n = 13 := by omega
    subst this
    exact w_X0_init_71 350 (nI 13) h.1 ⟨fun _ => k C e1 e2 h g, fun z => absurd (show (13 : Int32) ≤ nI 13 by decide) z⟩
  | succ r ih =>
    intro n hn C e1 e2 h g
    obtain ⟨h1, h2, h3, h4, h5, h6, h7, h8, h9, h10, h11, h12, h13, h14, h15⟩ := h
    refine w_X0_init_71 350 (nI n) h1 ⟨fun z => absurd ((nI_leI (a := 13) (by decide) (by omega)).mp z) (by omega), fun _ => ⟨353, h4, 64, h8, n, am_ix_n (by omega) (by decide), 354, h5, 64, h9, n, am_ix_n (by omega) (by decide), fun z => ?_, fun z => ⟨351, h2, 64, h6, n, am_ix_n (by omega) (by decide), 352, h3, 64, h7, n, am_ix_n (by omega) (by decide), ?_⟩⟩⟩
    · have q : n < 3 := (nI_ltI (b := 3) (by omega) (by decide)).mp z
      rw [nI_1]
      have le : cle C (csi (csi C 353 n (-1)) 354 n (-1)) := cle_same rfl rfl
      refine ih (n + 1) (by omega) _ e1 e2 ⟨h1.le le, h2, h3, h4, h5, h6.le le, h7.le le, h8.le le, h9.le le, (cI_csi_ne _ _ (by omega)).trans ((cI_csi_ne _ _ (by omega)).trans h10), (cI_csi_ne _ _ (by omega)).trans ((cI_csi_ne _ _ (by omega)).trans h11), fun j => (cI_csi_ne _ _ (by omega)).trans ((cI_csi_ne _ _ (by omega)).trans ((h12 j).trans ?_)), fun j => (cI_csi_ne _ _ (by omega)).trans ((cI_csi_ne _ _ (by omega)).trans ((h13 j).trans ?_)), fun j hj => ?_, fun j hj => ?_⟩ ((g.si (by omega) _ _).si (by omega) _ _)
      · by_cases j0 : j = 0
        · rw [if_pos j0, if_pos j0]
        by_cases j1 : j = 1
        · rw [if_neg j0, if_neg j0, if_pos j1, if_pos j1]
        by_cases j2 : j = 2
        · rw [if_neg j0, if_neg j0, if_neg j1, if_neg j1, if_pos j2, if_pos j2]
        rw [if_neg j0, if_neg j0, if_neg j1, if_neg j1, if_neg j2, if_neg j2, if_neg (by omega), if_neg (by omega)]
      · rw [if_neg (by omega), if_neg (by omega)]
      · by_cases ej : j = n
        · rw [ej]; exact (cI_csi_ne _ _ (by omega)).trans (cI_csi _ _ _ _)
        · exact (cI_csi_ne _ _ (by omega)).trans ((cI_csi_ne _ _ (by omega)).trans (h14 j (by omega)))
      · by_cases ej : j = n
        · rw [ej]; exact cI_csi _ _ _ _
        · exact (cI_csi_ne _ _ (by omega)).trans ((cI_csi_ne _ _ (by omega)).trans (h15 j (by omega)))
    · have q : ¬ n < 3 := fun y => z ((nI_ltI (b := 3) (by omega) (by decide)).mpr y)
      rw [nI_1, show nI n - 3 = nI (n - 3) from pk_sub (a := n) (b := 3) (by omega)]
      have le : cle C (csi (csi (csi (csi C 353 n (-1)) 354 n (-1)) 351 n 1) 352 n (nI (n - 3))) := cle_same rfl rfl
      refine ih (n + 1) (by omega) _ e1 e2 ⟨h1.le le, h2, h3, h4, h5, h6.le le, h7.le le, h8.le le, h9.le le, (cI_csi_ne _ _ (by omega)).trans ((cI_csi_ne _ _ (by omega)).trans ((cI_csi_ne _ _ (by omega)).trans ((cI_csi_ne _ _ (by omega)).trans h10))), (cI_csi_ne _ _ (by omega)).trans ((cI_csi_ne _ _ (by omega)).trans ((cI_csi_ne _ _ (by omega)).trans ((cI_csi_ne _ _ (by omega)).trans h11))), fun j => ?_, fun j => ?_, fun j hj => ?_, fun j hj => ?_⟩ ((((g.si (by omega) _ _).si (by omega) _ _).si (by omega) _ _).si (by omega) _ _)
      · by_cases ej : j = n
        · rw [ej, if_neg (by omega), if_neg (by omega), if_neg (by omega), if_pos (by omega)]
          exact (cI_csi_ne _ _ (by omega)).trans (cI_csi _ _ _ _)
        · refine (cI_csi_ne _ _ (by omega)).trans ((cI_csi_ne _ _ (by omega)).trans ((cI_csi_ne _ _ (by omega)).trans ((cI_csi_ne _ _ (by omega)).trans ((h12 j).trans ?_))))
          by_cases j0 : j = 0
          · rw [if_pos j0, if_pos j0]
          by_cases j1 : j = 1
          · rw [if_neg j0, if_neg j0, if_pos j1, if_pos j1]
          by_cases j2 : j = 2
          · rw [if_neg j0, if_neg j0, if_neg j1, if_neg j1, if_pos j2, if_pos j2]
          by_cases j3 : j < n
          · rw [if_neg j0, if_neg j0, if_neg j1, if_neg j1, if_neg j2, if_neg j2, if_pos j3, if_pos (by omega)]
          · rw [if_neg j0, if_neg j0, if_neg j1, if_neg j1, if_neg j2, if_neg j2, if_neg j3, if_neg (by omega)]
      · by_cases ej : j = n
        · rw [ej, if_pos (by omega)]
          exact cI_csi _ _ _ _
        · refine (cI_csi_ne _ _ (by omega)).trans ((cI_csi_ne _ _ (by omega)).trans ((cI_csi_ne _ _ (by omega)).trans ((cI_csi_ne _ _ (by omega)).trans ((h13 j).trans ?_))))
          by_cases j3 : 3 ≤ j ∧ j < n
          · rw [if_pos j3, if_pos (by omega)]
          · rw [if_neg j3, if_neg (by omega)]
      · by_cases ej : j = n
        · rw [ej]; exact (cI_csi_ne _ _ (by omega)).trans ((cI_csi_ne _ _ (by omega)).trans ((cI_csi_ne _ _ (by omega)).trans (cI_csi _ _ _ _)))
        · exact (cI_csi_ne _ _ (by omega)).trans ((cI_csi_ne _ _ (by omega)).trans ((cI_csi_ne _ _ (by omega)).trans ((cI_csi_ne _ _ (by omega)).trans (h14 j (by omega)))))
      · by_cases ej : j = n
        · rw [ej]; exact (cI_csi_ne _ _ (by omega)).trans ((cI_csi_ne _ _ (by omega)).trans (cI_csi _ _ _ _))
        · exact (cI_csi_ne _ _ (by omega)).trans ((cI_csi_ne _ _ (by omega)).trans ((cI_csi_ne _ _ (by omega)).trans ((cI_csi_ne _ _ (by omega)).trans (h15 j (by omega)))))
theorem i_cells (e : C.1 = 350) (k : ∀ C', C'.1 = 355 → C'.2.1 = C.2.1 + 262 → CLS C' 0 L0 → gfr C C' → cle (cnw C 0 6) C' → K none C') : cM c (d + 1) eX0_init (.ref C.1 :: []) (cnw C 0 6) K := by
  obtain ⟨f1, f2, f3, ⟨r0, r1, r2, r3⟩, ⟨t0, t1, t2, t3⟩, f6, f7⟩ := four (C := C) 350 20 64 20 64 20 64 20 64 0 6 e (by decide)
  have T5 : cT (cnw C 0 6) 350 0 6 := by
    have := cT_nw0 (C := C) (t := 0) (n := 6) (by omega)
    rwa [e] at this
  rw [e]
  refine w_X0_init 350 T5 ⟨351, r0, 64, t0, 0, am_ix_n (j := 0) (by decide) (by decide), 351, r0, 64, t0, 1, am_ix_n (j := 1) (by decide) (by decide), 351, r0, 64, t0, 2, am_ix_n (j := 2) (by decide) (by decide), ?_⟩
  show cG c eX0_init (d + 1) (cQ K) 71 [some (.ref 350), some (.int 0)] [] (csi (csi (csi (csi (csi (ast (ast (ast (ast (cnw C 0 6) 350 20 64 0) 350 20 64 1) 350 20 64 2) 350 20 64 3) 350 4 0) 350 5 13) 351 0 2) 351 1 4) 351 2 8)
  generalize ast (ast (ast (ast (cnw C 0 6) 350 20 64 0) 350 20 64 1) 350 20 64 2) 350 20 64 3 = A at f1 f2 f3 r0 r1 r2 r3 t0 t1 t2 t3 f6 f7 ⊢
  have le : cle A (csi (csi (csi (csi (csi A 350 4 0) 350 5 13) 351 0 2) 351 1 4) 351 2 8) := cle_same rfl rfl
  refine i_cells71 (d := d) (w := C.2.1 + 262) (B := C) (by omega) (fun C' b1 b2 b3 b4 => k C' b1 b2 b3.cls b4 (cle_cnw b4.1 ?_)) 13 0 rfl _ (by show A.1 = 355; omega) (by show A.2.1 = _; omega) ⟨f3.le le, r0, r1, r2, r3, t0.le le, t1.le le, t2.le le, t3.le le, ?_, ?_, fun j => ?_, fun j => ?_, fun j hj => absurd hj (by omega), fun j hj => absurd hj (by omega)⟩ (((((f7.si (by omega) _ _).si (by omega) _ _).si (by omega) _ _).si (by omega) _ _).si (by omega) _ _)
  · rw [e]; exact b3.1
  · exact (cI_csi_ne _ _ (by omega)).trans ((cI_csi_ne _ _ (by omega)).trans ((cI_csi_ne _ _ (by omega)).trans ((cI_csi_ne _ _ (by omega)).trans (cI_csi _ _ _ _))))
  · exact (cI_csi_ne _ _ (by omega)).trans ((cI_csi_ne _ _ (by omega)).trans ((cI_csi_ne _ _ (by omega)).trans (cI_csi _ _ _ _)))
  · by_cases j2 : j = 2
    · rw [j2]; exact cI_csi _ _ _ _
    refine (cI_csi_ne _ _ (by omega)).trans ?_
    by_cases j1 : j = 1
    · rw [j1]; exact cI_csi _ _ _ _
    refine (cI_csi_ne _ _ (by omega)).trans ?_
    by_cases j0 : j = 0
    · rw [j0]; exact cI_csi _ _ _ _
    refine (cI_csi_ne _ _ (by omega)).trans ((cI_csi_ne _ _ (by omega)).trans ((cI_csi_ne _ _ (by omega)).trans ((f6 351 j (by omega) (by omega)).trans ?_)))
    rw [if_neg j0, if_neg j1, if_neg j2, if_neg (by omega)]
  · refine (cI_csi_ne _ _ (by omega)).trans ((cI_csi_ne _ _ (by omega)).trans ((cI_csi_ne _ _ (by omega)).trans ((cI_csi_ne _ _ (by omega)).trans ((cI_csi_ne _ _ (by omega)).trans ((f6 352 j (by omega) (by omega)).trans ?_)))))
    rw [if_neg (by omega)]
end INJ
