/-! The class's other small methods on the state of both sides. -/
theorem CLS.cut {C B : cS} {m : xM} {kept' : Nat} (h : CLS C m.1 m.2.1) (a : AM m) (n : nfr C B) (h4 : cI B 350 4 = nI kept') (h5 : cI B 350 5 = nI (13 + m.1)) (e : ∀ a i, 351 ≤ a → a ≤ 354 → cI B a i = cI C a i) : CLS B kept' (cutL m) := by
  obtain ⟨c1, c2, c3, c4, c5, c6, c7, c8, c9, c10, c11, c12⟩ := h
  refine ⟨c1.le n.le, by rw [n.2.2.2.1]; exact c2, by rw [n.2.2.2.1]; exact c3, by rw [n.2.2.2.1]; exact c4, by rw [n.2.2.2.1]; exact c5, c6.le n.le, c7.le n.le, c8.le n.le, c9.le n.le, h4, h5, fun i hi => ?_⟩
  have a2 := a.2.1
  have hi' : i < 13 + m.1 := hi
  rw [e 351 i (by omega) (by omega), e 352 i (by omega) (by omega), e 353 i (by omega) (by omega), e 354 i (by omega) (by omega)]
  exact c12 i (by omega)
section CXB
variable {c : cX} {d : Nat} {C : cS} {K : Option Value → cS → Prop} {X : String → cS → Prop} {A : xA}
theorem k_isKept (k : CI C A) (a : AI A) {x : Int32} (h1 : isN (13 + A.2.2.2.1) x → K (some (.int 1)) C) (h0 : ¬ isN (13 + A.2.2.2.1) x → K (some (.int 0)) C) : cM c d eX0_isKept [.ref 350, .int x] C K := by
  obtain ⟨nbf, nbh, o⟩ := k.1
  have cl := o.2.2.2.2.2.1
  have a3 := a.2.2.2.2.2.1
  have e := isN_iff (n := 13 + A.2.2.2.1) (x := x) (by omega)
  refine w_X0_isKept 350 x ⟨fun z => h0 fun q => (e.mp q).1 z, fun z => ⟨cl.1, ?_⟩⟩
  rw [cl.2.2.2.2.2.2.2.2.2.1, show (13 : Int32) + nI A.2.2.2.1 = nI (13 + A.2.2.2.1) from nI_add 13 _]
  exact ⟨fun y => h0 fun q => absurd y (i_le_lt.mpr (e.mp q).2), fun y => h1 (e.mpr ⟨z, i_le_lt.mp y⟩)⟩
/-- before a cell is kept: the value of the latest run is gone, and what it made -/
theorem k_pre (k : CI C A) (a : AI A) : nfr C (csi (csi (csi C 1 11 (-1)) 350 5 (nI (13 + A.2.2.2.1))) 350 4 (nI (A.2.2.2.1 + 1))) ∧ CLS (csi (csi (csi C 1 11 (-1)) 350 5 (nI (13 + A.2.2.2.1))) 350 4 (nI (A.2.2.2.1 + 1))) (A.2.2.2.1 + 1) (cutL A.2.2.2) ∧ cI (csi (csi (csi C 1 11 (-1)) 350 5 (nI (13 + A.2.2.2.1))) 350 4 (nI (A.2.2.2.1 + 1))) 1 11 = -1 ∧ ∀ b i, b ≠ 350 → ¬ (b = 1 ∧ i = 11) → cI (csi (csi (csi C 1 11 (-1)) 350 5 (nI (13 + A.2.2.2.1))) 350 4 (nI (A.2.2.2.1 + 1))) b i = cI C b i := by
  obtain ⟨nbf, nbh, o⟩ := k.1
  have n : nfr C (csi (csi (csi C 1 11 (-1)) 350 5 (nI (13 + A.2.2.2.1))) 350 4 (nI (A.2.2.2.1 + 1))) := ((nfr_csi C _ (by decide) (by decide)).trans (nfr_csi _ _ (by decide) (by decide))).trans (nfr_csi _ _ (by decide) (by decide))
  have e : ∀ b i, b ≠ 350 → ¬ (b = 1 ∧ i = 11) → cI (csi (csi (csi C 1 11 (-1)) 350 5 (nI (13 + A.2.2.2.1))) 350 4 (nI (A.2.2.2.1 + 1))) b i = cI C b i := fun b i q1 q2 => by rw [cI_csi_ne _ _ (by omega), cI_csi_ne _ _ (by omega), cI_csi_ne _ _ (by omega)]
  refine ⟨n, o.2.2.2.2.2.1.cut a.2.2.2 n (cI_csi _ _ _ _) (by rw [cI_csi_ne _ _ (by omega), cI_csi]) (fun b i q1 q2 => e b i (by omega) (by omega)), by rw [cI_csi_ne _ _ (by omega), cI_csi_ne _ _ (by omega), cI_csi], e⟩
theorem k_post (k : CI C A) {B C' : cS} {x : cE} (n : nfr C B) (h11 : cI B 1 11 = -1) (e : ∀ b i, b ≠ 350 → ¬ (b = 1 ∧ i = 11) → cI B b i = cI C b i) (l : lfr B C') (hC : CLS C' (A.2.2.2.1 + 1) (cAdd (cutL A.2.2.2) x)) : wfr C C' ∧ CI C' (A.1, A.2.1, A.2.2.1, A.2.2.2.1 + 1, cAdd (cutL A.2.2.2) x, A.2.2.2.2.2.1, A.2.2.2.2.2.2.1, A.2.2.2.2.2.2.2.1, -1) := by
  obtain ⟨nbf, nbh, o⟩ := k.1
  have n' : nfr C C' := n.trans l.n
  have e' : ∀ b i, ¬ (350 ≤ b ∧ b ≤ 354) → ¬ (b = 1 ∧ i = 11) → cI C' b i = cI C b i := fun b i q1 q2 => by rw [l.2.2.2.2.2 b i q1, e b i (by omega) q2]
  refine ⟨n'.w, k.n (t := A.1) (m := (A.2.2.2.1 + 1, cAdd (cutL A.2.2.2) x, A.2.2.2.2.2.1, A.2.2.2.2.2.2.1, A.2.2.2.2.2.2.2.1, -1)) n' (o.1.2.2.2.2.2.2.2.2.2.1.n n' fun b i q => e' b i (by omega) (by omega)) hC ⟨by rw [e' 355 0 (by omega) (by omega)]; exact o.2.2.2.2.2.2.2.1.1, by rw [e' 355 1 (by omega) (by omega)]; exact o.2.2.2.2.2.2.2.1.2⟩ (e' 1 8 (by omega) (by omega)) (e' 1 9 (by omega) (by omega)) (by rw [e' 1 10 (by omega) (by omega)]; exact k.2.2.2.1) (by rw [l.2.2.2.2.2 1 11 (by omega)]; exact h11) (e' 346 1 (by omega) (by omega)) (e' 348 1 (by omega) (by omega))⟩
theorem k_number (k : CI C A) (a : AI A) {v : Int32} (h1 : A.2.2.2.1 = 40 → X "java/lang/IllegalStateException" C)
    (h0 : A.2.2.2.1 < 40 → ∀ C', wfr C C' → CI C' (A.1, A.2.1, A.2.2.1, A.2.2.2.1 + 1, cAdd (cutL A.2.2.2) (1, v, none, none), A.2.2.2.2.2.1, A.2.2.2.2.2.2.1, A.2.2.2.2.2.2.2.1, -1) → K (some (.int (nI (13 + A.2.2.2.1)))) C') : cG c eX9_number (d + 3) (cQx K X) 0 [some (.ref 1), some (.int v)] [] C := by
  obtain ⟨nbf, nbh, o⟩ := k.1
  have cl := o.2.2.2.2.2.1
  have a3 := a.2.2.2.2.2.1
  obtain ⟨n, hC, h11, e⟩ := k_pre k a
  have e4 : cI (csi C 1 11 (-1)) 350 4 = nI A.2.2.2.1 := by rw [cI_csi_ne _ _ (by omega)]; exact cl.2.2.2.2.2.2.2.2.2.1
  have T1 : cT (csi C 1 11 (-1)) 350 0 6 := cl.1.le (cle_same rfl rfl)
  refine w_X9_number 1 v o.1.1 ⟨350, o.2.2.2.1, cl.1, ?_⟩
  rw [cl.2.2.2.2.2.2.2.2.2.1, show nI A.2.2.2.1 < 40 ↔ A.2.2.2.1 < 40 from nI_ltI (b := 40) (by omega) (by decide)]
  refine ⟨fun q => w_X0_keepNumber 350 v ⟨T1, w_X0_dropUnkept 350 ⟨T1, rfl, cle_same rfl rfl, ?_⟩⟩, fun q => h1 (by omega)⟩
  rw [e4, show (13 : Int32) + nI A.2.2.2.1 = nI (13 + A.2.2.2.1) from nI_add 13 _, cI_csi_ne _ _ (by omega), e4, nI_1]
  have h64 : (cutL A.2.2.2).1 ≤ 64 := by show 13 + A.2.2.2.1 ≤ 64; omega
  refine c_addN hC h64 (fun z => absurd (show 13 + A.2.2.2.1 = 64 from z) (by omega)) (fun _ C' l hC' => ⟨_, rfl, l.le, _, rfl, ?_, ?_⟩)
  · exact (n.le).trans l.le |> fun w => ⟨w.1, fun b hb => w.2 b hb⟩
  · obtain ⟨w1, w2⟩ := k_post k n h11 e l hC'
    exact h0 q C' w1 w2
theorem k_pair (k : CI C A) (a : AI A) {x y : Int32} (h1 : ¬ (isN (13 + A.2.2.2.1) x ∧ isN (13 + A.2.2.2.1) y) → X "java/lang/IllegalArgumentException" C)
    (h2 : isN (13 + A.2.2.2.1) x ∧ isN (13 + A.2.2.2.1) y → A.2.2.2.1 = 40 → X "java/lang/IllegalStateException" C)
    (h0 : ∀ n m, n < 13 + A.2.2.2.1 → m < 13 + A.2.2.2.1 → x = nI n → y = nI m → A.2.2.2.1 < 40 → ∀ C', wfr C C' → CI C' (A.1, A.2.1, A.2.2.1, A.2.2.2.1 + 1, cAdd (cutL A.2.2.2) (16, 0, some n, some m), A.2.2.2.2.2.1, A.2.2.2.2.2.2.1, A.2.2.2.2.2.2.2.1, -1) → K (some (.int (nI (13 + A.2.2.2.1)))) C') : cG c eX9_pair (d + 3) (cQx K X) 0 [some (.ref 1), some (.int x), some (.int y)] [] C := by
  obtain ⟨nbf, nbh, o⟩ := k.1
  have cl := o.2.2.2.2.2.1
  have a3 := a.2.2.2.2.2.1
  obtain ⟨n, hC, h11, e⟩ := k_pre k a
  have e4 : cI (csi C 1 11 (-1)) 350 4 = nI A.2.2.2.1 := by rw [cI_csi_ne _ _ (by omega)]; exact cl.2.2.2.2.2.2.2.2.2.1
  have T1 : cT (csi C 1 11 (-1)) 350 0 6 := cl.1.le (cle_same rfl rfl)
  refine w_X9_pair 1 x y o.1.1 ⟨350, o.2.2.2.1, cl.1, k_isKept k a (fun p => ⟨_, rfl, cle.refl _, fun z => absurd z (by decide), fun _ => ⟨350, o.2.2.2.1, cl.1, k_isKept k a (fun q => ⟨_, rfl, cle.refl _, fun _ => ⟨350, o.2.2.2.1, cl.1, ?_⟩, fun z => absurd z (by decide)⟩) (fun q => ⟨_, rfl, cle.refl _, fun z => absurd rfl z, fun _ => h1 fun u => q u.2⟩)⟩⟩) (fun p => ⟨_, rfl, cle.refl _, fun _ => h1 fun u => p u.1, fun z => absurd rfl z⟩)⟩
  rw [cl.2.2.2.2.2.2.2.2.2.1, show nI A.2.2.2.1 < 40 ↔ A.2.2.2.1 < 40 from nI_ltI (b := 40) (by omega) (by decide)]
  refine ⟨fun u => ?_, fun u => h2 ⟨p, q⟩ (by omega)⟩
  obtain ⟨n1, n2, rfl⟩ := p
  obtain ⟨m1, m2, rfl⟩ := q
  refine w_X0_keepPair 350 (nI n1) (nI m1) ⟨T1, w_X0_dropUnkept 350 ⟨T1, rfl, cle_same rfl rfl, ?_⟩⟩
  rw [e4, show (13 : Int32) + nI A.2.2.2.1 = nI (13 + A.2.2.2.1) from nI_add 13 _, cI_csi_ne _ _ (by omega), e4, nI_1]
  have h64 : (cutL A.2.2.2).1 ≤ 64 := by show 13 + A.2.2.2.1 ≤ 64; omega
  refine c_addP hC h64 (fun z => absurd (show 13 + A.2.2.2.1 = 64 from z) (by omega)) (fun _ C' l hC' => ⟨_, rfl, l.le, _, rfl, ?_, ?_⟩)
  · exact (n.le).trans l.le |> fun w => ⟨w.1, fun b hb => w.2 b hb⟩
  · obtain ⟨w1, w2⟩ := k_post k n h11 e l hC'
    exact h0 n1 m1 n2 m2 rfl rfl u C' w1 w2
theorem k_input (k : CI C A) (a : AI A) {x y : Int32} (h1 : ¬ isN 2 x → X "java/lang/IndexOutOfBoundsException" C) (h2 : isN 2 x → ¬ isN (13 + A.2.2.2.1) y → X "java/lang/IllegalArgumentException" C)
    (h0 : ∀ n m, n < 2 → m < 13 + A.2.2.2.1 → x = nI n → y = nI m → ∀ C', wfr C C' → CI C' (A.1, A.2.1, A.2.2.1, A.2.2.2.1, A.2.2.2.2.1, (if n = 0 then m else A.2.2.2.2.2.1), (if n = 0 then A.2.2.2.2.2.2.1 else m), A.2.2.2.2.2.2.2) → K none C') : cG c eX9_input (d + 1) (cQx K X) 0 [some (.ref 1), some (.int x), some (.int y)] [] C := by
  obtain ⟨nbf, nbh, o⟩ := k.1
  have cl := o.2.2.2.2.2.1
  have e2 := isN_iff (n := 2) (x := x) (by decide)
  refine w_X9_input 1 x y o.1.1 ⟨fun z => h1 fun q => (e2.mp q).1 z, fun z => ⟨fun z2 => ⟨350, o.2.2.2.1, cl.1, ?_⟩, fun z2 => h1 fun q => z2 (e2.mp q).2⟩⟩
  have q2 : isN 2 x := e2.mpr ⟨z, z2⟩
  refine k_isKept k a (fun p => ⟨_, rfl, cle.refl _, fun _ => ⟨355, o.2.2.2.2.1, 2, o.2.2.2.2.2.2.1, ?_⟩, fun z => absurd z (by decide)⟩) (fun p => ⟨_, rfl, cle.refl _, fun z => absurd rfl z, fun _ => h2 q2 p⟩)
  obtain ⟨n, n1, rfl⟩ := q2
  obtain ⟨m, m1, rfl⟩ := p
  refine ⟨n, am_ix_n n1 (by decide), ?_⟩
  have nf : nfr C (csi C 355 n (nI m)) := nfr_csi C _ (by decide) (by decide)
  have e : ∀ b i, b ≠ 355 → cI (csi C 355 n (nI m)) b i = cI C b i := fun b i q => cI_csi_ne _ _ (by omega)
  have i0 := o.2.2.2.2.2.2.2.1
  refine h0 n m n1 m1 rfl rfl _ nf.w (k.n (t := A.1) (m := (A.2.2.2.1, A.2.2.2.2.1, (if n = 0 then m else A.2.2.2.2.2.1), (if n = 0 then A.2.2.2.2.2.2.1 else m), A.2.2.2.2.2.2.2)) nf (o.1.2.2.2.2.2.2.2.2.2.1.n nf fun b i q => e b i (by omega)) (cl.n nf fun b i q1 q2 => e b i (by omega)) ⟨?_, ?_⟩ (e 1 8 (by omega)) (e 1 9 (by omega)) (by rw [e 1 10 (by omega)]; exact k.2.2.2.1) (by rw [e 1 11 (by omega)]; exact k.2.2.2.2.1) (e 346 1 (by omega)) (e 348 1 (by omega)))
  · show _ = nI (if n = 0 then m else A.2.2.2.2.2.1)
    by_cases q : n = 0
    · subst q; rw [if_pos rfl]; exact cI_csi _ _ _ _
    · rw [if_neg q, cI_csi_ne _ _ (by omega)]; exact i0.1
  · show _ = nI (if n = 0 then A.2.2.2.2.2.2.1 else m)
    by_cases q : n = 0
    · rw [if_pos q, cI_csi_ne _ _ (by omega)]; exact i0.2
    · have : n = 1 := by omega
      subst this
      rw [if_neg q]; exact cI_csi _ _ _ _
theorem k_clear (k : CI C A) (a : AI A) (h : ∀ C', wfr C C' → CI C' (A.1, A.2.1, A.2.2.1, 0, (13, A.2.2.2.2.1.2), 2, 2, A.2.2.2.2.2.2.2.1, -1) → K none C') : cM c (d + 1) eX9_clear [.ref 1] C K := by
  obtain ⟨nbf, nbh, o⟩ := k.1
  have cl := o.2.2.2.2.2.1
  have nf : nfr C (csi (csi (csi (csi (csi C 350 4 0) 350 5 13) 355 0 2) 355 1 2) 1 11 (-1)) := ((((nfr_csi C _ (by decide) (by decide)).trans (nfr_csi _ _ (by decide) (by decide))).trans (nfr_csi _ _ (by decide) (by decide))).trans (nfr_csi _ _ (by decide) (by decide))).trans (nfr_csi _ _ (by decide) (by decide))
  have e : ∀ b i, b ≠ 355 → b ≠ 350 → ¬ (b = 1 ∧ i = 11) → cI (csi (csi (csi (csi (csi C 350 4 0) 350 5 13) 355 0 2) 355 1 2) 1 11 (-1)) b i = cI C b i := fun b i q1 q2 q3 => by rw [cI_csi_ne _ _ (by omega), cI_csi_ne _ _ (by omega), cI_csi_ne _ _ (by omega), cI_csi_ne _ _ (by omega), cI_csi_ne _ _ (by omega)]
  refine w_X9_clear 1 ⟨o.1.1, 350, o.2.2.2.1, cl.1, w_X0_dropAll 350 ⟨cl.1, rfl, cle_same rfl rfl, 355, o.2.2.2.2.1, 2, o.2.2.2.2.2.2.1.le (cle_same rfl rfl), 0, am_ix_n (j := 0) (by decide) (by decide), 1, am_ix_n (j := 1) (by decide) (by decide), h _ nf.w ?_⟩⟩
  refine k.n (t := A.1) (m := (0, (13, A.2.2.2.2.1.2), 2, 2, A.2.2.2.2.2.2.2.1, -1)) nf (o.1.2.2.2.2.2.2.2.2.2.1.n nf fun b i q => e b i (by omega) (by omega) (by omega)) ?_ ⟨by rw [cI_csi_ne _ _ (by omega), cI_csi_ne _ _ (by omega)]; exact cI_csi _ _ _ _, by rw [cI_csi_ne _ _ (by omega)]; exact cI_csi _ _ _ _⟩ (e 1 8 (by omega) (by omega) (by omega)) (e 1 9 (by omega) (by omega) (by omega)) (by rw [e 1 10 (by omega) (by omega) (by omega)]; exact k.2.2.2.1) (cI_csi _ _ _ _) (e 346 1 (by omega) (by omega) (by omega)) (e 348 1 (by omega) (by omega) (by omega))
  obtain ⟨c1, c2, c3, c4, c5, c6, c7, c8, c9, c10, c11, c12⟩ := cl
  refine ⟨c1.le nf.le, by rw [nf.2.2.2.1]; exact c2, by rw [nf.2.2.2.1]; exact c3, by rw [nf.2.2.2.1]; exact c4, by rw [nf.2.2.2.1]; exact c5, c6.le nf.le, c7.le nf.le, c8.le nf.le, c9.le nf.le, ?_, ?_, fun i hi => ?_⟩
  · rw [cI_csi_ne _ _ (by omega), cI_csi_ne _ _ (by omega), cI_csi_ne _ _ (by omega), cI_csi_ne _ _ (by omega)]; exact cI_csi _ _ _ _
  · rw [cI_csi_ne _ _ (by omega), cI_csi_ne _ _ (by omega), cI_csi_ne _ _ (by omega)]; exact cI_csi _ _ _ _
  · have hi' : i < 13 := hi
    have := a.2.2.2.1.1
    rw [e 351 i (by omega) (by omega) (by omega), e 352 i (by omega) (by omega) (by omega), e 353 i (by omega) (by omega) (by omega), e 354 i (by omega) (by omega) (by omega)]
    exact c12 i (by omega)
theorem k_cell (k : CI C A) (a : AI A) {x y : Int32} (h1 : ¬ isN A.2.2.2.2.1.1 x → X "java/lang/IndexOutOfBoundsException" C) (h2 : isN A.2.2.2.2.1.1 x → ¬ isN 4 y → X "java/lang/IllegalArgumentException" C)
    (h0 : ∀ n w, n < A.2.2.2.2.1.1 → w < 4 → x = nI n → y = nI w → K (some (.int (cPart (A.2.2.2.2.1.2 n) w))) C) : cG c eX9_cell (d + 1) (cQx K X) 0 [some (.ref 1), some (.int x), some (.int y)] [] C := by
  obtain ⟨nbf, nbh, o⟩ := k.1
  have cl := o.2.2.2.2.2.1
  have hL := a.2.2.2.1
  have h64 := hL.2.1
  have e := isN_iff (n := A.2.2.2.2.1.1) (x := x) (by omega)
  have e4 := isN_iff (n := 4) (x := y) (by decide)
  have l3 : y ≤ 3 ↔ y < nI 4 := by
    rw [Int32.le_iff_toInt_le, Int32.lt_iff_toInt_lt, nI_toInt (by decide)]
    show y.toInt ≤ 3 ↔ _
    omega
  refine w_X9_cell 1 x y o.1.1 ⟨fun z => h1 fun q => (e.mp q).1 z, fun z => ⟨350, o.2.2.2.1, cl.1, ?_⟩⟩
  rw [cl.2.2.2.2.2.2.2.2.2.2.1]
  refine ⟨fun z2 => ⟨fun z3 => h2 (e.mpr ⟨z, z2⟩) fun q => (e4.mp q).1 z3, fun z3 => ⟨fun z4 => ?_, fun z4 => h2 (e.mpr ⟨z, z2⟩) fun q => z4 (l3.mpr (e4.mp q).2)⟩⟩, fun z2 => h1 fun q => z2 (e.mp q).2⟩
  obtain ⟨n, n1, rfl⟩ := e.mpr ⟨z, z2⟩
  obtain ⟨w, w1, rfl⟩ := e4.mpr ⟨z3, l3.mp z4⟩
  have go := h0 n w n1 w1 rfl rfl
  unfold cPart at go
  have hw : w = 0 ∨ w = 1 ∨ w = 2 ∨ w = 3 := by omega
  rcases hw with rfl | rfl | rfl | rfl
  · exact c_part0 cl hL n1 ⟨_, rfl, cle.refl _, go⟩
  · exact c_part1 cl hL n1 ⟨_, rfl, cle.refl _, go⟩
  · exact c_part2 cl hL n1 ⟨_, rfl, cle.refl _, go⟩
  · exact c_part3 cl hL n1 ⟨_, rfl, cle.refl _, go⟩
end CXB
