/-! The class's run on the state of both sides. -/
section CXD
variable {c : cX} {D : Nat} {C : cS} {K : Option Value → cS → Prop} {X : String → cS → Prop} {A : xA}
theorem k_run (k : CI C A) (a : AI A) {x : Int32} (h1 : A.2.2.1.1 = none → X "java/util/NoSuchElementException" C) (h2 : A.2.2.1.1.isSome = true → ¬ isN 1001 x → X "java/lang/IllegalArgumentException" C)
    (h3 : ∀ b n, A.2.2.1.1 = some b → n ≤ 1000 → x = nI n → ∀ st e, evA A.2.1.2.1 n b A.2.2.2.2.2.1 A.2.2.2.2.2.2.1 (cutL A.2.2.2) = (st, .inl e) → ∀ C', wfr C C' → CI C' (A.1, A.2.1, A.2.2.1, A.2.2.2.1, st.2, A.2.2.2.2.2.1, A.2.2.2.2.2.2.1, nI st.1, -1) → K (some (.int (nI e))) C')
    (h4 : ∀ b n, A.2.2.1.1 = some b → n ≤ 1000 → x = nI n → ∀ st v, evA A.2.1.2.1 n b A.2.2.2.2.2.1 A.2.2.2.2.2.2.1 (cutL A.2.2.2) = (st, .inr v) → ∀ C', wfr C C' → CI C' (A.1, A.2.1, A.2.2.1, A.2.2.2.1, st.2, A.2.2.2.2.2.1, A.2.2.2.2.2.2.1, nI st.1, nI v) → K (some (.int 1)) C') :
    cG c eX9_run (D + 60 + 1) (cQx K X) 0 [some (.ref 1), some (.int x), none] [] C := by
  obtain ⟨⟨nbf, nbh, o⟩, k1, k2, k3, k4, k5⟩ := k
  have o7 := o.2.2.2.2.2.2.2.2.1
  have cl := o.2.2.2.2.2.1
  have h400 : 400 ≤ C.1 := o.1.2.2.2.2.2.2.2.2.2.2
  have e := isN_iff (n := 1001) (x := x) (by decide)
  have l : x ≤ 1000 ↔ x < nI 1001 := by
    rw [Int32.le_iff_toInt_le, Int32.lt_iff_toInt_lt, nI_toInt (by decide)]
    show x.toInt ≤ 1000 ↔ _
    omega
  refine w_X9_run 1 x o.1.1 ?_
  cases hh : A.2.2.1.1 with
  | none =>
    rw [hh] at o7
    refine ⟨fun _ => h1 hh, fun a2 z => ?_⟩
    rw [o7] at z; cases z
  | some b =>
    have hs : A.2.2.1.1.isSome = true := by rw [hh]; rfl
    rw [hh] at o7
    have o7' : cR C 1 7 = some (nbh + b.2) := o7
    obtain ⟨N, Nl⟩ := o.2.2.2.2.2.2.2.2.2 b hh
    refine ⟨fun z => ?_, fun a2 _ => ⟨fun z => h2 hs fun u => (e.mp u).1 z, fun z => ⟨fun z2 => ⟨350, o.2.2.2.1, cl.1, w_X0_dropUnkept 350 ⟨cl.1, rfl, cle_same rfl rfl, ?_⟩⟩, fun z2 => h2 hs fun u => z2 (l.mpr (e.mp u).2)⟩⟩⟩
    · rw [o7'] at z; cases z
    · obtain ⟨n, n1, rfl⟩ := e.mpr ⟨z, l.mp z2⟩
      rw [cl.2.2.2.2.2.2.2.2.2.1, show (13 : Int32) + nI A.2.2.2.1 = nI (13 + A.2.2.2.1) from nI_add 13 _]
      have nf : nfr C (csi C 350 5 (nI (13 + A.2.2.2.1))) := nfr_csi C _ (by decide) (by decide)
      have f0 : ∀ b i, b ≠ 350 → cI (csi C 350 5 (nI (13 + A.2.2.2.1))) b i = cI C b i := fun b i q => cI_csi_ne _ _ (by omega)
      have cB : CLS (csi C 350 5 (nI (13 + A.2.2.2.1))) A.2.2.2.1 (cutL A.2.2.2) := cl.cut a.2.2.2 nf (by rw [cI_csi_ne _ _ (by omega)]; exact cl.2.2.2.2.2.2.2.2.2.1) (cI_csi _ _ _ _) (fun b i q1 q2 => f0 b i (by omega))
      generalize csi C 350 5 (nI (13 + A.2.2.2.1)) = B at nf f0 cB ⊢
      have B1 : B.1 = C.1 := nf.1
      have hB : 0 < B.1 := by omega
      have r5 : cR (cnw B 4 6) 1 5 = some 350 := by
        show (if 1 = B.1 then none else cR B 1 5) = _
        rw [if_neg (by omega), nf.2.2.2.1]; exact o.2.2.2.1
      have r1 : cR (cnw B 4 6) 1 1 = some 4 := by
        show (if 1 = B.1 then none else cR B 1 1) = _
        rw [if_neg (by omega), nf.2.2.2.1]; exact o.1.2.2.1
      rw [r5, r1]
      refine w_X4_init B.1 (some 350) (some 4) (nI n) (cT_nw0 hB) ?_
      obtain ⟨G, g0, g1, g2, g3, g4, g5, g6, g7, g8, g9, g10, g11, g12⟩ := minit_spec B (nI n) hB
      rw [← g0]
      have gl : ∀ b, b < B.1 → (∀ i, cI G b i = cI B b i) ∧ (∀ i, cJ G b i = cJ B b i) ∧ ∀ i, cR G b i = cR B b i := fun b hb => g1.2 b hb
      have cle1 : cle C G := nf.le.trans g1.1
      have cG : CLS G A.2.2.2.1 (cutL A.2.2.2) := cB.c g1.1 (fun i => (gl 350 (by omega)).2.2 i) (fun b i q1 q2 => (gl b (by omega)).1 i)
      have hf1 : hfr C G := ⟨cle1, fun b i q1 q2 => ⟨((gl b (by omega)).1 i).trans (f0 b i (by omega)), ((gl b (by omega)).2.1 i).trans (nf.2.2.2.2.1 b i), ((gl b (by omega)).2.2 i).trans (nf.2.2.2.1 b i)⟩⟩
      refine ⟨rfl, cle_cnw g1.1 g4, 355, by rw [(gl 1 (by omega)).2.2, nf.2.2.2.1]; exact o.2.2.2.2.1, 2, o.2.2.2.2.2.2.1.le cle1, 0, am_ix_n (j := 0) (by decide) (by decide), 1, am_ix_n (j := 1) (by decide) (by decide), ?_⟩
      rw [show cR G 1 7 = some (nbh + b.2) by rw [(gl 1 (by omega)).2.2, nf.2.2.2.1]; exact o7', show cI G 355 0 = nI A.2.2.2.2.2.1 by rw [(gl 355 (by omega)).1, f0 355 0 (by omega)]; exact o.2.2.2.2.2.2.2.1.1, show cI G 355 1 = nI A.2.2.2.2.2.2.1 by rw [(gl 355 (by omega)).1, f0 355 1 (by omega)]; exact o.2.2.2.2.2.2.2.1.2]
      obtain ⟨⟨sh, hw⟩, hwn, htx, hnp⟩ := a.2.2.1.1 b hh
      have cu : clO (cutL A.2.2.2) := clO.cut a.2.2.2
      obtain ⟨a1, a2', a3, a4, a5⟩ := a.2.2.2
      have fin : ∀ C' (st : Nat × cL) (zv sv : Int32), mfr B.1 0 0 17 G C' → EVS C' B.1 A.2.2.2.1 st → wfr C (csi (csi C' 1 11 zv) 1 10 sv) ∧ CI (csi (csi C' 1 11 zv) 1 10 sv) (A.1, A.2.1, A.2.2.1, A.2.2.2.1, st.2, A.2.2.2.2.2.1, A.2.2.2.2.2.2.1, sv, zv) := by
        intro C' st zv sv m v
        have le : cle C C' := cle1.trans m.le
        have le' : cle C (csi (csi C' 1 11 zv) 1 10 sv) := le.trans (cle_same rfl rfl)
        have uI : ∀ b i, b < C.1 → ¬ (350 ≤ b ∧ b ≤ 354) → ¬ (b = 1 ∧ (i = 10 ∨ i = 11)) → cI (csi (csi C' 1 11 zv) 1 10 sv) b i = cI C b i := fun b i q1 q2 q3 => by rw [cI_csi_ne _ _ (by omega), cI_csi_ne _ _ (by omega), m.2.2.2.2.2 b i q2 (by omega) (by omega) (by omega), (gl b (by omega)).1, f0 b i (by omega)]
        have uJ : ∀ b i, b < C.1 → cJ (csi (csi C' 1 11 zv) 1 10 sv) b i = cJ C b i := fun b i q1 => by
          show cJ C' b i = _
          rw [m.2.2.2.2.1, (gl b (by omega)).2.1, nf.2.2.2.2.1]
        have uR : ∀ b i, b < C.1 → cR (csi (csi C' 1 11 zv) 1 10 sv) b i = cR C b i := fun b i q1 => by
          rw [cR_csi, cR_csi, m.2.2.2.1, (gl b (by omega)).2.2, nf.2.2.2.1]
        have u1 : (csi (csi C' 1 11 zv) 1 10 sv).1 = C.1 + 6 := by show C'.1 = _; rw [m.1, g2, B1]
        have u2 : (csi (csi C' 1 11 zv) 1 10 sv).2.1 = C.2.1 + 78 := by show C'.2.1 = _; rw [m.2.1, g3, nf.2.1]
        have uc : CLS (csi (csi C' 1 11 zv) 1 10 sv) A.2.2.2.1 st.2 := v.2.c (cle_same rfl rfl) (fun i => by rw [cR_csi, cR_csi]) (fun b i q1 q2 => by rw [cI_csi_ne _ _ (by omega), cI_csi_ne _ _ (by omega)])
        have u10 : cI (csi (csi C' 1 11 zv) 1 10 sv) 1 10 = sv := cI_csi _ _ _ _
        have u11 : cI (csi (csi C' 1 11 zv) 1 10 sv) 1 11 = zv := by rw [cI_csi_ne _ _ (by omega)]; exact cI_csi _ _ _ _
        generalize csi (csi C' 1 11 zv) 1 10 sv = E at le' uI uJ uR u1 u2 uc u10 u11 ⊢
        have sf : sfr C E := ⟨le', fun b i q _ _ _ _ => uR b i (by omega)⟩
        have hf : hfr C E := ⟨le', fun b i q1 q2 => ⟨uI b i q2 (by omega) (by omega), uJ b i q2, uR b i q2⟩⟩
        have hT : TXT E A.1.1 A.1.2 := by
          obtain ⟨t1, t2, t3, t4, t5⟩ := o.1.2.2.2.2.2.2.2.2.2.1
          refine ⟨t1.le le', by rw [uR 2 0 (by omega)]; exact t2, t3.le le', by rw [uI 2 1 (by omega) (by omega) (by omega)]; exact t4, fun i hi => ?_⟩
          obtain ⟨y, y1, y2⟩ := t5 i hi
          exact ⟨y, y1, by rw [uI 3 i (by omega) (by omega) (by omega)]; exact y2⟩
        refine ⟨⟨le', by omega, by omega, fun b i q => ⟨uI b i (by omega) (by omega) (by omega), uJ b i (by omega), uR b i (by omega)⟩⟩, ⟨nbf, nbh, o.s sf hf hT (fun i _ => uR 4 i (by omega)) uc ⟨by rw [uI 355 0 (by omega) (by omega) (by omega)]; exact o.2.2.2.2.2.2.2.1.1, by rw [uI 355 1 (by omega) (by omega) (by omega)]; exact o.2.2.2.2.2.2.2.1.2⟩ (uR 1 7 (by omega))⟩, by rw [uI 1 8 (by omega) (by omega) (by omega)]; exact k1, by rw [uI 1 9 (by omega) (by omega) (by omega)]; exact k2, u10, u11, fun q => ?_⟩
        rw [gvn_eq (uI 346 1 (by omega) (by omega) (by omega)) (fun i => uJ 347 i (by omega)), gvn_eq (uI 348 1 (by omega) (by omega) (by omega)) (fun i => uJ 349 i (by omega))]
        exact k5 q
      refine c_evA (bf := A.2.1.2.1) (nbf := nbf) (L := cutL A.2.2.2) (lim := n) (nb := nbh) (b := b) (kept := A.2.2.2.1) a.2.1.2.2.1 (by omega) (by omega) hw htx cu (show _ < 13 + A.2.2.2.1 from a4) (show _ < 13 + A.2.2.2.1 from a5) ⟨g4, g5, g6, g7, g8, g9, g10⟩ (o.2.2.1.h hf1 (fun i _ => by rw [(gl 4 (by omega)).2.2, nf.2.2.2.1]) o.2.1.ge (by omega)) (N.h hf1) (by omega) g11 g12 cG (fun st e' he C' m v h5 => ⟨_, rfl, m.le, ?_⟩) (fun st v' he C' m v h5 => ⟨_, rfl, m.le, ?_⟩)
      · rw [h5, v.1]
        obtain ⟨w1, w2⟩ := fin C' st (-1) (nI st.1) m v
        exact h3 b n hh (by omega) rfl st e' he _ w1 w2
      · rw [h5, v.1]
        obtain ⟨w1, w2⟩ := fin C' st (nI v') (nI st.1) m v
        exact h4 b n hh (by omega) rfl st v' he _ w1 w2
end CXD
