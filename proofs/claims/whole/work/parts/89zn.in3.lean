/-! A new object of the class. -/
def tg (k : Nat) : Nat := [2, 4, 5, 346, 348, 350, 355].getD k 0
def O1 (C : cS) (n : Nat) : Prop := ∀ k, k < n → cR C 1 k = some (tg k)
theorem O1.w {C : cS} {n v : Nat} (h : O1 C n) (hv : v = tg n) : O1 (csr C 1 n (some v)) (n + 1) := fun k hk => by
  by_cases e : k = n
  · rw [e, ← hv]; exact cR_csr _ _ _ _
  · exact (cR_csr_ne _ _ (by omega)).trans (h k (by omega))
theorem O1.g {C C' : cS} {n : Nat} (h : O1 C n) (q : 1 < C.1) (k : gfr C C') : O1 C' n := fun j hj => (k.2 1 j q).2.2.trans (h j hj)
/-- all but the cell 1 stands -/
def g1 (C C' : cS) : Prop := cle C C' ∧ ∀ a i, a < C.1 → a ≠ 1 → cI C' a i = cI C a i ∧ cJ C' a i = cJ C a i ∧ cR C' a i = cR C a i
theorem gfr.g1 {C C' : cS} (h : gfr C C') : g1 C C' := ⟨h.1, fun a i q _ => h.2 a i q⟩
theorem g1.trans {A B C : cS} (h : g1 A B) (k : g1 B C) : g1 A C := ⟨h.1.trans k.1, fun a i q z => by
  obtain ⟨h1, h2, h3⟩ := h.2 a i q z
  obtain ⟨k1, k2, k3⟩ := k.2 a i (Nat.lt_of_lt_of_le q h.1.1) z
  exact ⟨k1.trans h1, k2.trans h2, k3.trans h3⟩⟩
theorem g1.r (C : cS) (i : Nat) (v : Option Nat) : g1 C (csr C 1 i v) := ⟨cle_same rfl rfl, fun a j q z => ⟨rfl, rfl, cR_csr_ne _ _ (by omega)⟩⟩
theorem g1.i (C : cS) (i : Nat) (v : Int32) : g1 C (csi C 1 i v) := ⟨cle_same rfl rfl, fun a j q z => ⟨cI_csi_ne _ _ (by omega), rfl, rfl⟩⟩
theorem CHK.x2 {C C' : cS} (h : CHK C) (le : cle C C') (e : ∀ a i, 5 ≤ a → a < 346 → cR C' a i = cR C a i) : CHK C' := by
  obtain ⟨u1, u2, u3, u4, u5, u6, u7, u8, u9, u10, u11, v1, v2⟩ := h
  exact ⟨u1.le le, by rw [e 5 _ (by omega) (by omega)]; exact u2, by rw [e 5 _ (by omega) (by omega)]; exact u3, by rw [e 5 _ (by omega) (by omega)]; exact u4, by rw [e 5 _ (by omega) (by omega)]; exact u5, by rw [e 5 _ (by omega) (by omega)]; exact u6, u7.le le, u8.le le, u9.le le, u10.le le, u11.w le (e 10 0 (by omega) (by omega)), fun i hi => ⟨by rw [e 6 _ (by omega) (by omega)]; exact (v1 i hi).1, (v1 i hi).2.w le (fun a j q1 q2 => e a j (by omega) (by omega))⟩, fun s hs => ⟨by rw [e 7 _ (by omega) (by omega)]; exact (v2 s hs).1, (v2 s hs).2.w le (e _ 0 (by omega) (by omega))⟩⟩
theorem CLS.x2 {C C' : cS} {kept : Nat} {L : cL} (h : CLS C kept L) (le : cle C C') (e : ∀ a i, 350 ≤ a → a < 355 → cI C' a i = cI C a i ∧ cR C' a i = cR C a i) : CLS C' kept L := by
  obtain ⟨u1, u2, u3, u4, u5, u6, u7, u8, u9, u10, u11, v⟩ := h
  exact ⟨u1.le le, by rw [(e 350 _ (by omega) (by omega)).2]; exact u2, by rw [(e 350 _ (by omega) (by omega)).2]; exact u3, by rw [(e 350 _ (by omega) (by omega)).2]; exact u4, by rw [(e 350 _ (by omega) (by omega)).2]; exact u5, u6.le le, u7.le le, u8.le le, u9.le le, by rw [(e 350 _ (by omega) (by omega)).1]; exact u10, by rw [(e 350 _ (by omega) (by omega)).1]; exact u11, fun i hi => by
    rw [(e 351 _ (by omega) (by omega)).1, (e 352 _ (by omega) (by omega)).1, (e 353 _ (by omega) (by omega)).1, (e 354 _ (by omega) (by omega)).1]
    exact v i hi⟩
/-- what stands behind a new object -/
def TB (C : cS) : Prop := cT C 1 9 12 ∧ O1 C 7 ∧ VA C 346 ∧ VA C 348 ∧ CHK C ∧ (cT C 2 7 2 ∧ cR C 2 0 = some 3 ∧ cT C 3 23 60 ∧ cI C 2 1 = 0) ∧ (cT C 4 26 3 ∧ ∀ i, cR C 4 i = none) ∧ CLS C 0 L0 ∧ (cT C 355 20 2 ∧ cI C 355 0 = 2 ∧ cI C 355 1 = 2) ∧ cR C 1 7 = none ∧ cI C 1 8 = 0 ∧ cI C 1 9 = -1 ∧ cI C 1 10 = 0 ∧ cI C 1 11 = -1
theorem TB.g {C C' : cS} (h : TB C) (k : gfr C C') : TB C' := by
  obtain ⟨h1, h2, h3, h4, h5, ⟨t1, t2, t3, t4⟩, ⟨f1, f2⟩, h8, ⟨p1, p2, p3⟩, q1, q2, q3, q4, q5⟩ := h
  have b := p1.2.1
  have lo : ∀ a i, a < 356 → cI C' a i = cI C a i ∧ cJ C' a i = cJ C a i ∧ cR C' a i = cR C a i := fun a i q => k.2 a i (by omega)
  exact ⟨h1.le k.1, h2.g (by omega) k, h3.g k, h4.g k, h5.x2 k.1 (fun a i _ _ => (lo a i (by omega)).2.2), ⟨t1.le k.1, by rw [(lo 2 0 (by omega)).2.2]; exact t2, t3.le k.1, by rw [(lo 2 1 (by omega)).1]; exact t4⟩, ⟨f1.le k.1, fun i => by rw [(lo 4 i (by omega)).2.2]; exact f2 i⟩, h8.x2 k.1 (fun a i _ _ => ⟨(lo a i (by omega)).1, (lo a i (by omega)).2.2⟩), ⟨p1.le k.1, by rw [(lo 355 0 (by omega)).1]; exact p2, by rw [(lo 355 1 (by omega)).1]; exact p3⟩, by rw [(lo 1 7 (by omega)).2.2]; exact q1, by rw [(lo 1 8 (by omega)).1]; exact q2, by rw [(lo 1 9 (by omega)).1]; exact q3, by rw [(lo 1 10 (by omega)).1]; exact q4, by rw [(lo 1 11 (by omega)).1]; exact q5⟩
/-- the first state of both sides -/
def A0 : xA := ((fun _ => none, 0), (fun _ => none, fun _ => none, fun _ => 0, fun _ => 0), (none, false, -1, fun _ => 0, fun _ => 0), (0, L0, 2, 2, 0, -1))
theorem A0_ok : AI A0 := by
  refine ⟨⟨by decide, fun i _ => rfl, fun i c z => (by cases z)⟩, ⟨fun i pt kk y n z => (by cases z), fun i _ => rfl, fun i _ b z => (by cases z), fun i _ z => (by cases z)⟩, ⟨fun b z => (by cases z), fun z => (by cases z)⟩, L0_ok, by decide, by decide, by decide, by decide⟩
theorem TB.ci {C : cS} (h : TB C) (h4 : 400 ≤ C.1) : CI C A0 := by
  obtain ⟨h1, h2, h3, h4', h5, ⟨t1, t2, t3, t4⟩, ⟨f1, f2⟩, h8, ⟨p1, p2, p3⟩, q1, q2, q3, q4, q5⟩ := h
  refine ⟨⟨fun _ => 0, 0, ⟨h1, h2 0 (by decide), h2 1 (by decide), h2 2 (by decide), h2 3 (by decide), h2 4 (by decide), h3, h4', h5, ⟨t1, t2, t3, t4, fun i hi => absurd hi (Nat.not_lt_zero _)⟩, h4⟩, ⟨f1, fun i _ => f2 i⟩, ⟨f1, fun i _ b z => (by cases z)⟩, h2 5 (by decide), h2 6 (by decide), h8, p1, ⟨p2, p3⟩, q1, fun b z => (by cases z)⟩, q2, q3, q4, q5, fun z => (by cases z)⟩
section INK
variable {c : cX} {d : Nat} {C : cS} {K : Option Value → cS → Prop}
def stA (C3 : cS) (p : Nat) : cS := csr (cnw (csr C3 1 0 (some p)) 26 3) 1 1 (some (csr C3 1 0 (some p)).1)
theorem stA_f {C3 : cS} {p : Nat} (e : C3.1 = 4) (hp : p = 2) : (stA C3 p).1 = 5 ∧ (stA C3 p).2.1 = C3.2.1 + 3 ∧ O1 (stA C3 p) 2 ∧ g1 C3 (stA C3 p) ∧ cT (stA C3 p) 4 26 3 ∧ (∀ i, cR (stA C3 p) 4 i = none) ∧ ∀ C : cS, C.1 ≤ 1 → gfr C C3 → gfr C (stA C3 p) := by
  have o0 : O1 (csr C3 1 0 (some p)) 1 := O1.w (C := C3) (n := 0) (fun j hj => absurd hj (Nat.not_lt_zero _)) hp
  have m0 : g1 C3 (csr C3 1 0 (some p)) := g1.r C3 0 (some p)
  have e0 : (csr C3 1 0 (some p)).1 = 4 := e
  have w0 : (csr C3 1 0 (some p)).2.1 = C3.2.1 := rfl
  have G0 : ∀ C : cS, C.1 ≤ 1 → gfr C C3 → gfr C (csr C3 1 0 (some p)) := fun C q h => h.sr q _ _
  unfold stA
  generalize csr C3 1 0 (some p) = E at o0 m0 e0 w0 G0 ⊢
  have T := cT_nw0 (C := E) (t := 26) (n := 3) (by omega)
  have R := cR_nw E 26 3
  rw [e0] at T R
  refine ⟨?_, ?_, O1.w (O1.g o0 (by omega) (gfr.nw _ 26 3)) e0, (m0.trans (gfr.nw _ 26 3).g1).trans (g1.r _ 1 _), T.le (cle_same rfl rfl), fun i => (cR_csr_ne _ _ (by omega)).trans (R i), fun C q h => ((G0 C q h).trans (gfr.nw _ 26 3)).sr q _ _⟩
  · show E.1 + 1 = 5
    omega
  · show E.2.1 + 3 = _
    omega
def finX (Y : cS) : cS := csi (csi (csi (csi (csr (csr (csi (csi (cnw Y 20 2) Y.1 0 2) Y.1 1 2) 1 6 (some Y.1)) 1 7 none) 1 8 0) 1 9 (-1)) 1 10 0) 1 11 (-1)
theorem finX_f {Y : cS} (e : Y.1 = 355) (o : O1 Y 6) : (finX Y).1 = 356 ∧ (finX Y).2.1 = Y.2.1 + 2 ∧ O1 (finX Y) 7 ∧ g1 Y (finX Y) ∧ (cT (finX Y) 355 20 2 ∧ cI (finX Y) 355 0 = 2 ∧ cI (finX Y) 355 1 = 2) ∧ (cR (finX Y) 1 7 = none ∧ cI (finX Y) 1 8 = 0 ∧ cI (finX Y) 1 9 = -1 ∧ cI (finX Y) 1 10 = 0 ∧ cI (finX Y) 1 11 = -1) ∧ ∀ C : cS, C.1 ≤ 1 → gfr C Y → gfr C (finX Y) := by
  have T := cT_nw0 (C := Y) (t := 20) (n := 2) (by omega)
  have oZ : O1 (cnw Y 20 2) 6 := o.g (by omega) (gfr.nw _ _ _)
  have hz : g1 Y (cnw Y 20 2) := (gfr.nw Y 20 2).g1
  have yZ : (cnw Y 20 2).1 = 356 := congrArg (· + 1) e
  have wZ : (cnw Y 20 2).2.1 = Y.2.1 + 2 := rfl
  have gZ : ∀ C : cS, C.1 ≤ 1 → gfr C Y → gfr C (cnw Y 20 2) := fun C _ h => h.trans (gfr.nw Y 20 2)
  unfold finX
  rw [e] at T ⊢
  generalize cnw Y 20 2 = Z at T oZ hz yZ wZ gZ ⊢
  -- the array's two
  have p0 : cI (csi (csi Z 355 0 2) 355 1 2) 355 0 = 2 := by rw [cI_csi_ne _ _ (by omega), cI_csi]
  have p1 : cI (csi (csi Z 355 0 2) 355 1 2) 355 1 = 2 := cI_csi _ _ _ _
  have oU : O1 (csi (csi Z 355 0 2) 355 1 2) 6 := oZ
  have hu : ∀ a i, a < Y.1 → a ≠ 1 → cI (csi (csi Z 355 0 2) 355 1 2) a i = cI Y a i ∧ cJ (csi (csi Z 355 0 2) 355 1 2) a i = cJ Y a i ∧ cR (csi (csi Z 355 0 2) 355 1 2) a i = cR Y a i := fun a i q z => by
    obtain ⟨z1, z2, z3⟩ := hz.2 a i q z
    exact ⟨by rw [cI_csi_ne _ _ (by omega), cI_csi_ne _ _ (by omega)]; exact z1, z2, z3⟩
  have leU : cle Z (csi (csi Z 355 0 2) 355 1 2) := cle_same rfl rfl
  have yU : (csi (csi Z 355 0 2) 355 1 2).1 = 356 := yZ
  have wU : (csi (csi Z 355 0 2) 355 1 2).2.1 = Y.2.1 + 2 := wZ
  have gU : ∀ C : cS, C.1 ≤ 1 → gfr C Y → gfr C (csi (csi Z 355 0 2) 355 1 2) := fun C q h => ((gZ C q h).si (by omega) _ _).si (by omega) _ _
  have TU := T.le leU
  have kU : g1 Y (csi (csi Z 355 0 2) 355 1 2) := ⟨hz.1.trans leU, hu⟩
  generalize csi (csi Z 355 0 2) 355 1 2 = U at p0 p1 oU leU yU wU gU TU kU ⊢
  -- its two references
  have oV : O1 (csr (csr U 1 6 (some 355)) 1 7 none) 7 := fun j hj => (cR_csr_ne _ _ (by omega)).trans ((O1.w (n := 6) (v := 355) oU rfl) j hj)
  have r7 : cR (csr (csr U 1 6 (some 355)) 1 7 none) 1 7 = none := cR_csr _ _ _ _
  have kV : g1 Y (csr (csr U 1 6 (some 355)) 1 7 none) := (kU.trans (g1.r _ _ _)).trans (g1.r _ _ _)
  have gV : ∀ C : cS, C.1 ≤ 1 → gfr C Y → gfr C (csr (csr U 1 6 (some 355)) 1 7 none) := fun C q h => ((gU C q h).sr q _ _).sr q _ _
  have TV : cT (csr (csr U 1 6 (some 355)) 1 7 none) 355 20 2 := TU.le (cle_same rfl rfl)
  have pV0 : cI (csr (csr U 1 6 (some 355)) 1 7 none) 355 0 = 2 := p0
  have pV1 : cI (csr (csr U 1 6 (some 355)) 1 7 none) 355 1 = 2 := p1
  have yV : (csr (csr U 1 6 (some 355)) 1 7 none).1 = 356 := yU
  have wV : (csr (csr U 1 6 (some 355)) 1 7 none).2.1 = Y.2.1 + 2 := wU
  generalize csr (csr U 1 6 (some 355)) 1 7 none = V at oV r7 kV gV TV pV0 pV1 yV wV ⊢
  refine ⟨yV, wV, oV, (((kV.trans (g1.i _ _ _)).trans (g1.i _ _ _)).trans (g1.i _ _ _)).trans (g1.i _ _ _), ⟨TV.le (cle_same rfl rfl), ?_, ?_⟩, ⟨r7, ?_, ?_, ?_, cI_csi _ _ _ _⟩, fun C q h => ((((gV C q h).si q _ _).si q _ _).si q _ _).si q _ _⟩
  · rw [cI_csi_ne _ _ (by omega), cI_csi_ne _ _ (by omega), cI_csi_ne _ _ (by omega), cI_csi_ne _ _ (by omega)]; exact pV0
  · rw [cI_csi_ne _ _ (by omega), cI_csi_ne _ _ (by omega), cI_csi_ne _ _ (by omega), cI_csi_ne _ _ (by omega)]; exact pV1
  · rw [cI_csi_ne _ _ (by omega), cI_csi_ne _ _ (by omega), cI_csi_ne _ _ (by omega), cI_csi]
  · rw [cI_csi_ne _ _ (by omega), cI_csi_ne _ _ (by omega), cI_csi]
  · rw [cI_csi_ne _ _ (by omega), cI_csi]
theorem top_fin {C C3 D1 C15 C27 C41 C57 Y : cS} (hC : C.1 ≤ 1) (x3 : C3.1 = 4) (x1 : D1.1 = 5) (x15 : C15.1 = 346) (x27 : C27.1 = 348) (x41 : C41.1 = 350) (x57 : C57.1 = 355) (y : Y.1 = 355) (o : O1 Y 6) (g : gfr C Y) (s0 : g1 C3 Y) (s1 : g1 D1 Y) (s2 : g1 C15 Y) (s3 : g1 C27 Y) (s4 : g1 C41 Y) (s5 : g1 C57 Y) (T1 : cT C3 1 9 12) (a3 : cT C3 2 7 2) (a4 : cR C3 2 0 = some 3) (a5 : cT C3 3 23 60) (a6 : cI C3 2 1 = 0) (F1 : cT D1 4 26 3) (F2 : ∀ i, cR D1 4 i = none) (ck : CHK C15) (v1 : VA C27 346) (v2 : VA C41 348) (cl : CLS C57 0 L0) : TB (finX Y) ∧ gfr C (finX Y) ∧ (finX Y).1 = 356 ∧ (finX Y).2.1 = Y.2.1 + 2 := by
  obtain ⟨f1, f2, f3, f4, f5, ⟨f6, f7, f8, f9, f10⟩, f11⟩ := finX_f y o
  have t0 := s0.trans f4
  have t1 := s1.trans f4
  have t2 := s2.trans f4
  have t3 := s3.trans f4
  have t4 := s4.trans f4
  have t5 := s5.trans f4
  exact ⟨⟨T1.le t0.1, f3, v1.w t3.1 (t3.2 346 0 (by omega) (by omega)).2.2, v2.w t4.1 (t4.2 348 0 (by omega) (by omega)).2.2, ck.x2 t2.1 (fun a i q1 q2 => (t2.2 a i (by omega) (by omega)).2.2), ⟨a3.le t0.1, (t0.2 2 0 (by omega) (by omega)).2.2.trans a4, a5.le t0.1, (t0.2 2 1 (by omega) (by omega)).1.trans a6⟩, ⟨F1.le t1.1, fun i => (t1.2 4 i (by omega) (by omega)).2.2.trans (F2 i)⟩, cl.x2 t5.1 (fun a i q1 q2 => ⟨(t5.2 a i (by omega) (by omega)).1, (t5.2 a i (by omega) (by omega)).2.2⟩), f5, f6, f7, f8, f9, f10⟩, f11 C hC g, f1, f2⟩
theorem i_top (e : C.1 = 1) (k : ∀ C', C'.1 = 356 → C'.2.1 = C.2.1 + 3359 → TB C' → gfr C C' → cle (cnw C 9 12) C' → K none C') : cM c (d + 4) eX9_init (.ref C.1 :: []) (cnw C 9 12) K := by
  have T1 : cT (cnw C 9 12) 1 9 12 := by
    have := cT_nw0 (C := C) (t := 9) (n := 12) (by omega)
    rwa [e] at this
  have x0 : (cnw C 9 12).1 = 2 := congrArg (· + 1) e
  have w0 : (cnw C 9 12).2.1 = C.2.1 + 12 := rfl
  have G0 : gfr C (cnw C 9 12) := gfr.nw C 9 12
  have kk : ∀ C', C'.1 = 356 → C'.2.1 = C.2.1 + 3359 → TB C' → gfr C C' → K none C' := fun C' a1 a2 a3 a4 => k C' a1 a2 a3 a4 (cle_cnw a4.1 (by rw [e]; exact a3.1))
  clear k
  rw [e]
  generalize cnw C 9 12 = X0 at T1 x0 w0 G0 ⊢
  refine w_X9_init 1 T1 (i_text (d := d + 2) (by omega) fun C3 a1 a2 a3 a4 a5 a6 a7 a8 => ⟨rfl, a8, ?_⟩)
  have x3 : C3.1 = 4 := by omega
  have T3 := T1.le a7.1
  obtain ⟨y1, w1, o1, m1, F1, F2, G1⟩ := stA_f x3 x0
  have G1' := G1 C (by omega) (G0.trans a7)
  refine i_chk (C := stA C3 X0.1) (d := d) y1 fun C15 b1 b2 b3 b4 b5 => ⟨rfl, b5, ?_⟩
  have o2 : O1 (csr C15 1 2 (some (stA C3 X0.1).1)) 3 := O1.w (o1.g (by omega) b4) y1
  refine i_view (C := csr C15 1 2 (some (stA C3 X0.1).1)) (d := d + 2) (by show 0 < C15.1; omega) fun C27 c1 c2 c3 c4 c5 => ⟨rfl, c5, ?_⟩
  have c1' : C27.1 = C15.1 + 2 := c1
  have c2' : C27.2.1 = C15.2.1 + 19 := c2
  have c3' : VA C27 C15.1 := c3
  have o3 : O1 (csr C27 1 3 (some (csr C15 1 2 (some (stA C3 X0.1).1)).1)) 4 := O1.w (o2.g (by show 1 < C15.1; omega) c4) b1
  refine i_view (C := csr C27 1 3 (some (csr C15 1 2 (some (stA C3 X0.1).1)).1)) (d := d + 2) (by show 0 < C27.1; omega) fun C41 d1 d2 d3 d4 d5 => ⟨rfl, d5, ?_⟩
  have d1' : C41.1 = C27.1 + 2 := d1
  have d2' : C41.2.1 = C27.2.1 + 19 := d2
  have d3' : VA C41 C27.1 := d3
  have x27 : C27.1 = 348 := by omega
  have x41 : C41.1 = 350 := by omega
  have o4 : O1 (csr C41 1 4 (some (csr C27 1 3 (some (csr C15 1 2 (some (stA C3 X0.1).1)).1)).1)) 5 := O1.w (o3.g (by show 1 < C27.1; omega) d4) x27
  refine i_cells (C := csr C41 1 4 (some (csr C27 1 3 (some (csr C15 1 2 (some (stA C3 X0.1).1)).1)).1)) (d := d + 2) x41 fun C57 e1 e2 e3 e4 e5 => ⟨rfl, e5, ?_⟩
  have e2' : C57.2.1 = C41.2.1 + 262 := e2
  have s4 := (((g1.r C41 4 (some (csr C27 1 3 (some (csr C15 1 2 (some (stA C3 X0.1).1)).1)).1)).trans e4.g1).trans (g1.r C57 5 (some (csr C41 1 4 (some (csr C27 1 3 (some (csr C15 1 2 (some (stA C3 X0.1).1)).1)).1)).1)))
  have s3 := ((g1.r C27 3 (some (csr C15 1 2 (some (stA C3 X0.1).1)).1)).trans d4.g1).trans s4
  have s2 := ((g1.r C15 2 (some (stA C3 X0.1).1)).trans c4.g1).trans s3
  have s1 := b4.g1.trans s2
  have s0 := m1.trans s1
  have gY := (((((((G1'.trans b4).sr (a := 1) (by omega) 2 (some (stA C3 X0.1).1)).trans c4).sr (a := 1) (by omega) 3 (some (csr C15 1 2 (some (stA C3 X0.1).1)).1)).trans d4).sr (a := 1) (by omega) 4 (some (csr C27 1 3 (some (csr C15 1 2 (some (stA C3 X0.1).1)).1)).1)).trans e4).sr (a := 1) (by omega) 5 (some (csr C41 1 4 (some (csr C27 1 3 (some (csr C15 1 2 (some (stA C3 X0.1).1)).1)).1)).1)
  have o5 := O1.w (v := (csr C41 1 4 (some (csr C27 1 3 (some (csr C15 1 2 (some (stA C3 X0.1).1)).1)).1)).1) (o4.g (show 1 < C41.1 by omega) e4) x41
  have v1 : VA C27 346 := by rw [← b1]; exact c3'
  have v2 : VA C41 348 := by rw [← x27]; exact d3'
  rw [x0] at a3 a4 a5 a6
  obtain ⟨z1, z2, z3, z4⟩ := top_fin (C := C) (Y := csr C57 1 5 (some (csr C41 1 4 (some (csr C27 1 3 (some (csr C15 1 2 (some (stA C3 X0.1).1)).1)).1)).1)) (by omega) x3 y1 b1 x27 x41 e1 e1 o5 gY s0 s1 s2 s3 s4 (g1.r C57 5 _) T3 a3 a4 a5 a6 F1 F2 b3 v1 v2 e3
  have z4' : (finX (csr C57 1 5 (some (csr C41 1 4 (some (csr C27 1 3 (some (csr C15 1 2 (some (stA C3 X0.1).1)).1)).1)).1))).2.1 = C57.2.1 + 2 := z4
  have z5 : C57.2.1 + 2 = C.2.1 + 3359 := by omega
  exact kk _ z3 (z4'.trans z5) z1 z2
end INK
