/-! A new object of the class. -/
def tg (k : Nat) : Nat := [2, 4, 5, 346, 348, 350, 355].getD k 0
def O1 (C : cS) (n : Nat) : Prop := ∀ k, k < n → cR C 1 k = some (tg k)
theorem O1.w {C : cS} {n v : Nat} (h : O1 C n) (hv : v = tg n) : O1 (csr C 1 n (some v)) (n + 1) := fun k hk => by
  by_cases e : k = n
  · rw [e, ← hv]; exact cR_csr _ _ _ _
  · exact (cR_csr_ne _ _ (by omega)).trans (h k (by omega))
theorem O1.g {C C' : cS} {n : Nat} (h : O1 C n) (q : 1 < C.1) (k : gfr C C') : O1 C' n := fun j hj => (k.2 1 j q).2.2.trans (h j hj)
/-- all but the cell 1 stands -/
def g1 (C C' : cS) : Prop := cle C C' ∧ ∀ a i, a < C.1 → a ≠ 1 → cI C' a i = cI C a i ∧ cJ C' a i = cJ C a i ∧ cR C' a i = cR C a i
theorem gfr.g1 {C C' : cS} (h : gfr C C') : g1 C C' := ⟨h.1, fun a i q _ => h.2 a i q⟩
theorem g1.trans {A B C : cS} (h : g1 A B) (k : g1 B C) : g1 A C := ⟨h.1.trans k.1, fun a i q z => by
  obtain ⟨h1, h2, h3⟩ := h.2 a i q z
  obtain ⟨k1, k2, k3⟩ := k.2 a i (Nat.lt_of_lt_of_le q h.1.1) z
  exact ⟨k1.trans h1, k2.trans h2, k3.trans h3⟩⟩
theorem g1.r (C : cS) (i : Nat) (v : Option Nat) : g1 C (csr C 1 i v) := ⟨cle_same rfl rfl, fun a j q z => ⟨rfl, rfl, cR_csr_ne _ _ (by omega)⟩⟩
theorem g1.i (C : cS) (i : Nat) (v : Int32) : g1 C (csi C 1 i v) := ⟨cle_same rfl rfl, fun a j q z => ⟨cI_csi_ne _ _ (by omega), rfl, rfl⟩⟩
theorem CHK.x {C C' : cS} (h : CHK C) (le : cle C C') (e : ∀ a i, 5 ≤ a → a < 346 → cR C' a i = cR C a i) : CHK C' := by
  obtain ⟨u1, u2, u3, u4, u5, u6, u7, u8, u9, u10, u11, v1, v2⟩ := h
  exact ⟨u1.le le, by rw [e 5 _ (by omega) (by omega)]; exact u2, by rw [e 5 _ (by omega) (by omega)]; exact u3, by rw [e 5 _ (by omega) (by omega)]; exact u4, by rw [e 5 _ (by omega) (by omega)]; exact u5, by rw [e 5 _ (by omega) (by omega)]; exact u6, u7.le le, u8.le le, u9.le le, u10.le le, u11.w le (e 10 0 (by omega) (by omega)), fun i hi => ⟨by rw [e 6 _ (by omega) (by omega)]; exact (v1 i hi).1, (v1 i hi).2.w le (fun a j q1 q2 => e a j (by omega) (by omega))⟩, fun s hs => ⟨by rw [e 7 _ (by omega) (by omega)]; exact (v2 s hs).1, (v2 s hs).2.w le (e _ 0 (by omega) (by omega))⟩⟩
theorem CLS.x {C C' : cS} {kept : Nat} {L : cL} (h : CLS C kept L) (le : cle C C') (e : ∀ a i, 350 ≤ a → a < 355 → cI C' a i = cI C a i ∧ cR C' a i = cR C a i) : CLS C' kept L := by
  obtain ⟨u1, u2, u3, u4, u5, u6, u7, u8, u9, u10, u11, v⟩ := h
  exact ⟨u1.le le, by rw [(e 350 _ (by omega) (by omega)).2]; exact u2, by rw [(e 350 _ (by omega) (by omega)).2]; exact u3, by rw [(e 350 _ (by omega) (by omega)).2]; exact u4, by rw [(e 350 _ (by omega) (by omega)).2]; exact u5, u6.le le, u7.le le, u8.le le, u9.le le, by rw [(e 350 _ (by omega) (by omega)).1]; exact u10, by rw [(e 350 _ (by omega) (by omega)).1]; exact u11, fun i hi => by
    rw [(e 351 _ (by omega) (by omega)).1, (e 352 _ (by omega) (by omega)).1, (e 353 _ (by omega) (by omega)).1, (e 354 _ (by omega) (by omega)).1]
    exact v i hi⟩
/-- what stands behind a new object -/
def TB (C : cS) : Prop := cT C 1 9 12 ∧ O1 C 7 ∧ VA C 346 ∧ VA C 348 ∧ CHK C ∧ (cT C 2 7 2 ∧ cR C 2 0 = some 3 ∧ cT C 3 23 60 ∧ cI C 2 1 = 0) ∧ (cT C 4 26 3 ∧ ∀ i, cR C 4 i = none) ∧ CLS C 0 L0 ∧ (cT C 355 20 2 ∧ cI C 355 0 = 2 ∧ cI C 355 1 = 2) ∧ cR C 1 7 = none ∧ cI C 1 8 = 0 ∧ cI C 1 9 = -1 ∧ cI C 1 10 = 0 ∧ cI C 1 11 = -1
theorem TB.g {C C' : cS} (h : TB C) (k : gfr C C') : TB C' := by
  obtain ⟨h1, h2, h3, h4, h5, ⟨t1, t2, t3, t4⟩, ⟨f1, f2⟩, h8, ⟨p1, p2, p3⟩, q1, q2, q3, q4, q5⟩ := h
  have b := p1.2.1
  have lo : ∀ a i, a < 356 → cI C' a i = cI C a i ∧ cJ C' a i = cJ C a i ∧ cR C' a i = cR C a i := fun a i q => k.2 a i (by omega)
  exact ⟨h1.le k.1, h2.g (by omega) k, h3.g k, h4.g k, h5.x k.1 (fun a i _ _ => (lo a i (by omega)).2.2), ⟨t1.le k.1, by rw [(lo 2 0 (by omega)).2.2]; exact t2, t3.le k.1, by rw [(lo 2 1 (by omega)).1]; exact t4⟩, ⟨f1.le k.1, fun i => by rw [(lo 4 i (by omega)).2.2]; exact f2 i⟩, h8.x k.1 (fun a i _ _ => ⟨(lo a i (by omega)).1, (lo a i (by omega)).2.2⟩), ⟨p1.le k.1, by rw [(lo 355 0 (by omega)).1]; exact p2, by rw [(lo 355 1 (by omega)).1]; exact p3⟩, by rw [(lo 1 7 (by omega)).2.2]; exact q1, by rw [(lo 1 8 (by omega)).1]; exact q2, by rw [(lo 1 9 (by omega)).1]; exact q3, by rw [(lo 1 10 (by omega)).1]; exact q4, by rw [(lo 1 11 (by omega)).1]; exact q5⟩
/-- the first state of both sides -/
def A0 : xA := ((fun _ => none, 0), (fun _ => none, fun _ => none, fun _ => 0, fun _ => 0), (none, false, -1, fun _ => 0, fun _ => 0), (0, L0, 2, 2, 0, -1))
theorem A0_ok : AI A0 := by
  refine ⟨⟨by decide, fun i _ => rfl, fun i c z => (by cases z)⟩, ⟨fun i pt kk y n z => (by cases z), fun i _ => rfl, fun i _ b z => (by cases z), fun i _ z => (by cases z)⟩, ⟨fun b z => (by cases z), fun z => (by cases z)⟩, L0_ok, by decide, by decide, by decide, by decide⟩
theorem TB.ci {C : cS} (h : TB C) (h4 : 400 ≤ C.1) : CI C A0 := by
  obtain ⟨h1, h2, h3, h4', h5, ⟨t1, t2, t3, t4⟩, ⟨f1, f2⟩, h8, ⟨p1, p2, p3⟩, q1, q2, q3, q4, q5⟩ := h
  refine ⟨⟨fun _ => 0, 0, ⟨h1, h2 0 (by decide), h2 1 (by decide), h2 2 (by decide), h2 3 (by decide), h2 4 (by decide), h3, h4', h5, ⟨t1, t2, t3, t4, fun i hi => absurd hi (Nat.not_lt_zero _)⟩, h4⟩, ⟨f1, fun i _ => f2 i⟩, ⟨f1, fun i _ b z => (by cases z)⟩, h2 5 (by decide), h2 6 (by decide), h8, p1, ⟨p2, p3⟩, q1, fun b z => (by cases z)⟩, q2, q3, q4, q5, fun z => (by cases z)⟩
section INK
variable {c : cX} {d : Nat} {C : cS} {K : Option Value → cS → Prop}
theorem i_top (e : C.1 = 1) (k : ∀ C', C'.1 = 356 → C'.2.1 = C.2.1 + 3359 → TB C' → gfr C C' → cle (cnw C 9 12) C' → K none C') : cM c (d + 4) eX9_init (.ref C.1 :: []) (cnw C 9 12) K := by
  have T1 : cT (cnw C 9 12) 1 9 12 := by
    have := cT_nw0 (C := C) (t := 9) (n := 12) (by omega)
    rwa [e] at this
  have x0 : (cnw C 9 12).1 = 2 := congrArg (· + 1) e
  have w0 : (cnw C 9 12).2.1 = C.2.1 + 12 := rfl
  have G0 : gfr C (cnw C 9 12) := gfr.nw C 9 12
  have kk : ∀ C', C'.1 = 356 → C'.2.1 = C.2.1 + 3359 → TB C' → gfr C C' → K none C' := fun C' a1 a2 a3 a4 => k C' a1 a2 a3 a4 (cle_cnw a4.1 (by rw [e]; exact a3.1))
  rw [e]
  generalize cnw C 9 12 = X0 at T1 x0 w0 G0 ⊢
  refine w_X9_init 1 T1 (i_text (d := d + 2) (by omega) fun C3 a1 a2 a3 a4 a5 a6 a7 a8 => ⟨rfl, a8, ?_⟩)
  rw [x0] at a1 a3 a4 a5 a6 ⊢
  have y1 : (csr (cnw (csr C3 1 0 (some 2)) 26 3) 1 1 (some (csr C3 1 0 (some 2)).1)).1 = 5 := by show C3.1 + 1 = 5; omega
  have w1 : (csr (cnw (csr C3 1 0 (some 2)) 26 3) 1 1 (some (csr C3 1 0 (some 2)).1)).2.1 = C.2.1 + 77 := by show C3.2.1 + 3 = _; omega
  have o1 : O1 (csr (cnw (csr C3 1 0 (some 2)) 26 3) 1 1 (some (csr C3 1 0 (some 2)).1)) 2 := O1.w (O1.g (O1.w (C := C3) (n := 0) (fun j hj => absurd hj (Nat.not_lt_zero _)) rfl) (by show 1 < C3.1; omega) (gfr.nw _ 26 3)) (by show C3.1 = 4; omega)
  have m1 : g1 C3 (csr (cnw (csr C3 1 0 (some 2)) 26 3) 1 1 (some (csr C3 1 0 (some 2)).1)) := ((g1.r C3 0 (some 2)).trans (gfr.nw _ 26 3).g1).trans (g1.r _ 1 _)
  have F1 : cT (csr (cnw (csr C3 1 0 (some 2)) 26 3) 1 1 (some (csr C3 1 0 (some 2)).1)) 4 26 3 := by
    have z := cT_nw0 (C := csr C3 1 0 (some 2)) (t := 26) (n := 3) (by show 0 < C3.1; omega)
    rw [show (csr C3 1 0 (some 2)).1 = 4 from a1] at z ⊢
    exact z
  have F2 : ∀ i, cR (csr (cnw (csr C3 1 0 (some 2)) 26 3) 1 1 (some (csr C3 1 0 (some 2)).1)) 4 i = none := fun i => by
    have z := cR_nw (csr C3 1 0 (some 2)) 26 3 i
    rw [show (csr C3 1 0 (some 2)).1 = 4 from a1] at z ⊢
    exact (cR_csr_ne _ _ (by omega)).trans z
  have G1 : gfr C (csr (cnw (csr C3 1 0 (some 2)) 26 3) 1 1 (some (csr C3 1 0 (some 2)).1)) := ((((G0.trans a7).sr (by omega) _ _).trans (gfr.nw _ 26 3)).sr (by omega) _ _)
  generalize csr (cnw (csr C3 1 0 (some 2)) 26 3) 1 1 (some (csr C3 1 0 (some 2)).1) = D1 at y1 w1 o1 m1 F1 F2 G1 ⊢
  refine i_chk (d := d) y1 fun C15 b1 b2 b3 b4 b5 => ⟨rfl, b5, ?_⟩
  rw [y1]
  have o2 : O1 (csr C15 1 2 (some 5)) 3 := O1.w (o1.g (by omega) b4) rfl
  refine i_view (C := csr C15 1 2 (some 5)) (d := d + 2) (by show 0 < C15.1; omega) fun C27 c1 c2 c3 c4 c5 => ⟨rfl, c5, ?_⟩
  have c1' : C27.1 = C15.1 + 2 := c1
  have c2' : C27.2.1 = C15.2.1 + 19 := c2
  have c3' : VA C27 C15.1 := c3
  have o3 : O1 (csr C27 1 3 (some (csr C15 1 2 (some 5)).1)) 4 := O1.w (o2.g (by show 1 < C15.1; omega) c4) (show C15.1 = 346 from b1)
  rw [show (csr C15 1 2 (some 5)).1 = 346 from b1] at o3 ⊢
  refine i_view (C := csr C27 1 3 (some 346)) (d := d + 2) (by show 0 < C27.1; omega) fun C41 d1 d2 d3 d4 d5 => ⟨rfl, d5, ?_⟩
  have d1' : C41.1 = C27.1 + 2 := d1
  have d2' : C41.2.1 = C27.2.1 + 19 := d2
  have d3' : VA C41 C27.1 := d3
  have o4 : O1 (csr C41 1 4 (some (csr C27 1 3 (some 346)).1)) 5 := O1.w (o3.g (by show 1 < C27.1; omega) d4) (show C27.1 = 348 by omega)
  rw [show (csr C27 1 3 (some 346)).1 = 348 by show C27.1 = 348; omega] at o4 ⊢
  refine i_cells (C := csr C41 1 4 (some 348)) (d := d + 2) (by show C41.1 = 350; omega) fun C57 e1 e2 e3 e4 e5 => ⟨rfl, e5, ?_⟩
  have e2' : C57.2.1 = C41.2.1 + 262 := e2
  have o5 : O1 (csr C57 1 5 (some (csr C41 1 4 (some 348)).1)) 6 := O1.w (o4.g (by show 1 < C41.1; omega) e4) (show C41.1 = 350 by omega)
  rw [show (csr C41 1 4 (some 348)).1 = 350 by show C41.1 = 350; omega] at o5 ⊢
  rw [show (csr C57 1 5 (some 350)).1 = 355 from e1]
  have gY : gfr C (csr C57 1 5 (some 350)) := (((((((G1.trans b4).sr (by omega) _ _).trans c4).sr (by omega) _ _).trans d4).sr (by omega) _ _).trans e4).sr (by omega) _ _
  have s4 : g1 C41 (csr C57 1 5 (some 350)) := ((g1.r C41 4 (some 348)).trans e4.g1).trans (g1.r _ _ _)
  have s3 : g1 C27 (csr C57 1 5 (some 350)) := ((g1.r C27 3 (some 346)).trans d4.g1).trans s4
  have s2 : g1 C15 (csr C57 1 5 (some 350)) := ((g1.r C15 2 (some 5)).trans c4.g1).trans s3
  have s1 : g1 D1 (csr C57 1 5 (some 350)) := b4.g1.trans s2
  have s0 : g1 C3 (csr C57 1 5 (some 350)) := m1.trans s1
  have s5 : g1 C57 (csr C57 1 5 (some 350)) := g1.r _ _ _
  have y5 : (csr C57 1 5 (some 350)).1 = 355 := e1
  have w5 : (csr C57 1 5 (some 350)).2.1 = C57.2.1 := rfl
  generalize csr C57 1 5 (some 350) = Y at o5 gY s0 s1 s2 s3 s4 s5 y5 w5 ⊢
  have P1 : cT (cnw Y 20 2) 355 20 2 := by
    have z := cT_nw0 (C := Y) (t := 20) (n := 2) (by omega)
    rwa [y5] at z
  have oZ : O1 (cnw Y 20 2) 6 := o5.g (by omega) (gfr.nw _ _ _)
  have gZ := gY.trans (gfr.nw Y 20 2)
  have hz : g1 Y (cnw Y 20 2) := (gfr.nw Y 20 2).g1
  have yZ : (cnw Y 20 2).1 = 356 := congrArg (· + 1) y5
  have wZ : (cnw Y 20 2).2.1 = Y.2.1 + 2 := rfl
  generalize cnw Y 20 2 = Z at P1 oZ gZ hz yZ wZ ⊢
  have eQ : csi (csi (csi (csi (csr (csr (csi (csi Z 355 0 2) 355 1 2) 1 6 (some 355)) 1 7 none) 1 8 0) 1 9 (-1)) 1 10 0) 1 11 (-1) = csr (csi (csi (csi (csi (csr (csi (csi Z 355 0 2) 355 1 2) 1 6 (some 355)) 1 8 0) 1 9 (-1)) 1 10 0) 1 11 (-1)) 1 7 none := rfl
  have oX : O1 (csr (csi (csi (csi (csi (csr (csi (csi Z 355 0 2) 355 1 2) 1 6 (some 355)) 1 8 0) 1 9 (-1)) 1 10 0) 1 11 (-1)) 1 7 none) 7 := fun j hj => (cR_csr_ne _ _ (by omega)).trans ((O1.w (C := Z) (n := 6) (v := 355) oZ rfl) j hj)
  have hx : ∀ a i, a < 355 → a ≠ 1 → cI (csr (csi (csi (csi (csi (csr (csi (csi Z 355 0 2) 355 1 2) 1 6 (some 355)) 1 8 0) 1 9 (-1)) 1 10 0) 1 11 (-1)) 1 7 none) a i = cI Y a i ∧ cJ (csr (csi (csi (csi (csi (csr (csi (csi Z 355 0 2) 355 1 2) 1 6 (some 355)) 1 8 0) 1 9 (-1)) 1 10 0) 1 11 (-1)) 1 7 none) a i = cJ Y a i ∧ cR (csr (csi (csi (csi (csi (csr (csi (csi Z 355 0 2) 355 1 2) 1 6 (some 355)) 1 8 0) 1 9 (-1)) 1 10 0) 1 11 (-1)) 1 7 none) a i = cR Y a i := fun a i q z => by
    obtain ⟨z1, z2, z3⟩ := hz.2 a i (by omega) z
    exact ⟨(cI_csi_ne _ _ (by omega)).trans ((cI_csi_ne _ _ (by omega)).trans ((cI_csi_ne _ _ (by omega)).trans ((cI_csi_ne _ _ (by omega)).trans ((cI_csi_ne _ _ (by omega)).trans ((cI_csi_ne _ _ (by omega)).trans z1))))), z2, (cR_csr_ne _ _ (by omega)).trans ((cR_csr_ne _ _ (by omega)).trans z3)⟩
  have leX : cle Z (csr (csi (csi (csi (csi (csr (csi (csi Z 355 0 2) 355 1 2) 1 6 (some 355)) 1 8 0) 1 9 (-1)) 1 10 0) 1 11 (-1)) 1 7 none) := cle_same rfl rfl
  have leY : cle Y (csr (csi (csi (csi (csi (csr (csi (csi Z 355 0 2) 355 1 2) 1 6 (some 355)) 1 8 0) 1 9 (-1)) 1 10 0) 1 11 (-1)) 1 7 none) := hz.1.trans leX
  have i8 : cI (csr (csi (csi (csi (csi (csr (csi (csi Z 355 0 2) 355 1 2) 1 6 (some 355)) 1 8 0) 1 9 (-1)) 1 10 0) 1 11 (-1)) 1 7 none) 1 8 = 0 := (cI_csi_ne _ _ (by omega)).trans ((cI_csi_ne _ _ (by omega)).trans ((cI_csi_ne _ _ (by omega)).trans (cI_csi _ _ _ _)))
  have i9 : cI (csr (csi (csi (csi (csi (csr (csi (csi Z 355 0 2) 355 1 2) 1 6 (some 355)) 1 8 0) 1 9 (-1)) 1 10 0) 1 11 (-1)) 1 7 none) 1 9 = -1 := (cI_csi_ne _ _ (by omega)).trans ((cI_csi_ne _ _ (by omega)).trans (cI_csi _ _ _ _))
  have i10 : cI (csr (csi (csi (csi (csi (csr (csi (csi Z 355 0 2) 355 1 2) 1 6 (some 355)) 1 8 0) 1 9 (-1)) 1 10 0) 1 11 (-1)) 1 7 none) 1 10 = 0 := (cI_csi_ne _ _ (by omega)).trans (cI_csi _ _ _ _)
  have i11 : cI (csr (csi (csi (csi (csi (csr (csi (csi Z 355 0 2) 355 1 2) 1 6 (some 355)) 1 8 0) 1 9 (-1)) 1 10 0) 1 11 (-1)) 1 7 none) 1 11 = -1 := cI_csi _ _ _ _
  have p0 : cI (csr (csi (csi (csi (csi (csr (csi (csi Z 355 0 2) 355 1 2) 1 6 (some 355)) 1 8 0) 1 9 (-1)) 1 10 0) 1 11 (-1)) 1 7 none) 355 0 = 2 := (cI_csi_ne _ _ (by omega)).trans ((cI_csi_ne _ _ (by omega)).trans ((cI_csi_ne _ _ (by omega)).trans ((cI_csi_ne _ _ (by omega)).trans ((cI_csi_ne _ _ (by omega)).trans (cI_csi _ _ _ _)))))
  have p1 : cI (csr (csi (csi (csi (csi (csr (csi (csi Z 355 0 2) 355 1 2) 1 6 (some 355)) 1 8 0) 1 9 (-1)) 1 10 0) 1 11 (-1)) 1 7 none) 355 1 = 2 := (cI_csi_ne _ _ (by omega)).trans ((cI_csi_ne _ _ (by omega)).trans ((cI_csi_ne _ _ (by omega)).trans ((cI_csi_ne _ _ (by omega)).trans (cI_csi _ _ _ _))))
  have r7 : cR (csr (csi (csi (csi (csi (csr (csi (csi Z 355 0 2) 355 1 2) 1 6 (some 355)) 1 8 0) 1 9 (-1)) 1 10 0) 1 11 (-1)) 1 7 none) 1 7 = none := cR_csr _ _ _ _
  have gX : gfr C (csr (csi (csi (csi (csi (csr (csi (csi Z 355 0 2) 355 1 2) 1 6 (some 355)) 1 8 0) 1 9 (-1)) 1 10 0) 1 11 (-1)) 1 7 none) := (((((((gZ.si (by omega) _ _).si (by omega) _ _).sr (by omega) _ _).si (by omega) _ _).si (by omega) _ _).si (by omega) _ _).si (by omega) _ _).sr (by omega) _ _
  have xX : (csr (csi (csi (csi (csi (csr (csi (csi Z 355 0 2) 355 1 2) 1 6 (some 355)) 1 8 0) 1 9 (-1)) 1 10 0) 1 11 (-1)) 1 7 none).1 = 356 := yZ
  have wX : (csr (csi (csi (csi (csi (csr (csi (csi Z 355 0 2) 355 1 2) 1 6 (some 355)) 1 8 0) 1 9 (-1)) 1 10 0) 1 11 (-1)) 1 7 none).2.1 = Z.2.1 := rfl
  rw [eQ]
  generalize csr (csi (csi (csi (csi (csr (csi (csi Z 355 0 2) 355 1 2) 1 6 (some 355)) 1 8 0) 1 9 (-1)) 1 10 0) 1 11 (-1)) 1 7 none = X at oX hx leX leY i8 i9 i10 i11 p0 p1 r7 gX xX wX ⊢
  have tx : ∀ a i, a < C3.1 → a ≠ 1 → cI X a i = cI C3 a i ∧ cJ X a i = cJ C3 a i ∧ cR X a i = cR C3 a i := fun a i q z => by
    obtain ⟨z1, z2, z3⟩ := s0.2 a i q z
    obtain ⟨u1, u2, u3⟩ := hx a i (by omega) z
    exact ⟨u1.trans z1, u2.trans z2, u3.trans z3⟩
  refine kk X xX (by omega) ⟨?_, oX, ?_, ?_, ?_, ⟨(a3.le s0.1).le leY, (tx 2 0 (by omega) (by omega)).2.2.trans a4, (a5.le s0.1).le leY, (tx 2 1 (by omega) (by omega)).1.trans a6⟩, ⟨(F1.le s1.1).le leY, fun i => (hx 4 i (by omega) (by omega)).2.2.trans ((s1.2 4 i (by omega) (by omega)).2.2.trans (F2 i))⟩, ?_, ⟨P1.le leX, p0, p1⟩, r7, i8, i9, i10, i11⟩ gX
  · exact ((T1.le a7.1).le s0.1).le leY
  · have v : VA C27 346 := by rw [← b1]; exact c3'
    exact v.w (s3.1.trans leY) ((hx 346 0 (by omega) (by omega)).2.2.trans (s3.2 346 0 (by omega) (by omega)).2.2)
  · have v : VA C41 348 := by rw [show (348 : Nat) = C27.1 by omega]; exact d3'
    exact v.w (s4.1.trans leY) ((hx 348 0 (by omega) (by omega)).2.2.trans (s4.2 348 0 (by omega) (by omega)).2.2)
  · exact b3.x (s2.1.trans leY) (fun a i q1 q2 => (hx a i (by omega) (by omega)).2.2.trans (s2.2 a i (by omega) (by omega)).2.2)
  · exact e3.x (s5.1.trans leY) (fun a i q1 q2 => ⟨(hx a i (by omega) (by omega)).1.trans (s5.2 a i (by omega) (by omega)).1, (hx a i (by omega) (by omega)).2.2.trans (s5.2 a i (by omega) (by omega)).2.2⟩)
end INK
