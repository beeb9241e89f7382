/-! define: a definition read, examined and kept. -/
theorem cJ_csj (C : cS) (a i : Nat) (v : Int64) : cJ (csj C a i v) a i = v := by simp [csj, cJ]
theorem cJ_csj_ne (C : cS) {a i b j : Nat} (v : Int64) (h : ¬ (b = a ∧ j = i)) : cJ (csj C a i v) b j = cJ C b j := by
  show (if j = i then (if b = a then v else C.2.2.2.2.1 b i) else C.2.2.2.2.1 b j) = C.2.2.2.2.1 b j
  by_cases e : j = i
  · rw [if_pos e, if_neg (fun z => h ⟨z, e⟩), e]
  · rw [if_neg e]
theorem gf_o {A B : cS} {t : Nat} (k : ofr A B) (ht : t + 5 ≤ A.1) : gf B t = gf A t := by
  unfold gf
  rw [(k.2 t (by omega)).1, (k.2 t (by omega)).1, gvn_eq ((k.2 (t + 1) (by omega)).1 1) (fun i => (k.2 (t + 2) (by omega)).2.1 i), gvn_eq ((k.2 (t + 3) (by omega)).1 1) (fun i => (k.2 (t + 4) (by omega)).2.1 i)]
theorem ofr.trans {A B C : cS} (h : ofr A B) (k : dfr A.1 B C) : ofr A C := dfr.trans (rd := A.1) h k
section DFN
variable {D d : Nat} {c : cX} {C : cS} {K : Option Value → cS → Prop} {X : String → cS → Prop} {len : Nat} {ch : Nat → Option Nat} {fx : fnT}
/-- a new function -/
theorem c_finit {B : cS} {n : Nat} {root : Option Nat} {ty : Int32} {g : gF} (hF : FA B (12 + 5 * n)) (hB : 400 ≤ B.1) (hn : n < 60) (hg : gf B (12 + 5 * n) = toF g)
    (hK : ∀ C', ofr B C' → C'.1 = B.1 + 1 → C'.2.1 = B.2.1 + 5 → cT C' B.1 3 5 → cR C' B.1 0 = root → cI C' B.1 1 = ty → cI C' B.1 2 = nI g.1 → cJ C' B.1 3 = g.2.2.1.2 0 → cJ C' B.1 4 = g.2.2.2.2 0 → K none C') :
    cM c (d + 1) eX3_init [.ref B.1, va_rf root, .int ty, va_rf (some (12 + 5 * n))] (cnw B 3 5) K := by
  have hT0 : cT (cnw B 3 5) B.1 3 5 := cT_nw hF.1
  obtain ⟨C1, e1, b1, b2, b3, b4, b5, b6, b7⟩ := cnw_spec B 3 5
  rw [← e1] at hT0 ⊢
  have o1 : ofr B C1 := ⟨b3, fun a ha => ⟨fun i => b5 a i (by omega), fun i => b6 a i (by omega), fun i => b7 a i (by omega)⟩⟩
  have fa1 : FA C1 (12 + 5 * n) := hF.t o1.t (by omega) (by omega)
  have g1 : gf C1 (12 + 5 * n) = toF g := (gf_o o1 (by omega)).trans hg
  refine w_X3_init B.1 root ty (some (12 + 5 * n)) ⟨hT0, 12 + 5 * n, rfl, fa1.1, 12 + 5 * n + 1, fa1.2.1, fa1.2.2.2.1.1, ?_⟩
  rw [show cI C1 (12 + 5 * n) 0 = nI g.1 from congrArg (fun x => x.1) g1]
  have w1 : dfr B.1 C1 (csi (csi (csr C1 B.1 0 root) B.1 1 ty) B.1 2 (nI g.1)) := ⟨cle_same rfl rfl, fun a ha => ⟨fun i => by rw [cI_csi_ne _ _ (by omega), cI_csi_ne _ _ (by omega), cI_csr], fun _ => rfl, fun i => by rw [cR_csi, cR_csi, cR_csr_ne _ _ (by omega)]⟩⟩
  have w2 : cR (csi (csi (csr C1 B.1 0 root) B.1 1 ty) B.1 2 (nI g.1)) B.1 0 = root := by rw [cR_csi, cR_csi, cR_csr]
  have w3 : cI (csi (csi (csr C1 B.1 0 root) B.1 1 ty) B.1 2 (nI g.1)) B.1 1 = ty := by rw [cI_csi_ne _ _ (by omega), cI_csi]
  have w4 : cI (csi (csi (csr C1 B.1 0 root) B.1 1 ty) B.1 2 (nI g.1)) B.1 2 = nI g.1 := cI_csi _ _ _ _
  have w5 : (csi (csi (csr C1 B.1 0 root) B.1 1 ty) B.1 2 (nI g.1)).1 = C1.1 ∧ (csi (csi (csr C1 B.1 0 root) B.1 1 ty) B.1 2 (nI g.1)).2.1 = C1.2.1 := ⟨rfl, rfl⟩
  generalize csi (csi (csr C1 B.1 0 root) B.1 1 ty) B.1 2 (nI g.1) = C2 at w1 w2 w3 w4 w5 ⊢
  have o2 : ofr B C2 := o1.trans w1
  have fa2 : FA C2 (12 + 5 * n) := hF.t o2.t (by omega) (by omega)
  have g2 : gf C2 (12 + 5 * n) = toF g := (gf_o o2 (by omega)).trans hg
  have gy : gvn C2 (12 + 5 * n + 1) = g.2.2.1 := congrArg (fun x => x.2.2.1) g2
  refine r_word (s := 0) fa2.2.2.2.1 (by decide) ⟨_, rfl, cle.refl _, 12 + 5 * n + 3, fa2.2.2.1, fa2.2.2.2.2.1, ?_⟩
  rw [gy]
  have x1 : dfr B.1 C2 (csj C2 B.1 3 (g.2.2.1.2 0)) := ⟨cle_same rfl rfl, fun a ha => ⟨fun _ => rfl, fun i => cJ_csj_ne _ _ (by omega), fun _ => rfl⟩⟩
  have o3 : ofr B (csj C2 B.1 3 (g.2.2.1.2 0)) := o2.trans x1
  have fa3 : FA (csj C2 B.1 3 (g.2.2.1.2 0)) (12 + 5 * n) := fa2
  have gn : gvn (csj C2 B.1 3 (g.2.2.1.2 0)) (12 + 5 * n + 3) = g.2.2.2 := congrArg (fun x => x.2.2.2) ((gf_o o3 (by omega)).trans hg)
  refine r_word (s := 0) fa3.2.2.2.2 (by decide) ⟨_, rfl, cle.refl _, ?_⟩
  rw [gn]
  have x2 : dfr B.1 (csj C2 B.1 3 (g.2.2.1.2 0)) (csj (csj C2 B.1 3 (g.2.2.1.2 0)) B.1 4 (g.2.2.2.2 0)) := ⟨cle_same rfl rfl, fun a ha => ⟨fun _ => rfl, fun i => cJ_csj_ne _ _ (by omega), fun _ => rfl⟩⟩
  refine hK _ (o3.trans x2) (by show C2.1 = _; rw [w5.1, b1]) (by show C2.2.1 = _; rw [w5.2, b2]) (hT0.le (w1.1.trans (x1.1.trans x2.1))) w2 w3 w4 ?_ (cJ_csj _ _ _ _)
  rw [cJ_csj_ne _ _ (by omega), cJ_csj]
theorem pDef_ok {fd : Nat → Bool} {i ty x : Nat} {s : pS} (h : pDef ch fd = .inr (i, ty, x, s)) : i < 3 ∧ fd i = false ∧ ty < 32 ∧ 2 ≤ x ∧ x < 8 ∧ pEnd ch (pPart ch fd 6 (up sm0 x (some 0)) (3, 2, 0, T0)) = .inr s := by
  unfold pDef at h
  cases e : fnI (ch 0) with
  | none => rw [e] at h; cases h
  | some j =>
    rw [e] at h
    simp only at h
    have hj : j < 3 := by
      cases ex : ch 0 with
      | none => rw [ex] at e; cases e
      | some y =>
        rw [ex] at e
        have e' : (if 71 ≤ y ∧ y ≤ 73 then some (y - 71) else none) = some j := e
        split at e'
        case isTrue z => cases e'; omega
        case isFalse z => cases e'
    by_cases q : fd j = true
    · rw [if_pos q] at h; cases h
    · rw [if_neg q] at h
      cases e2 : fNm sm0 (ch 1) with
      | none => rw [e2] at h; cases h
      | some y =>
        rw [e2] at h
        simp only at h
        have hy := fNm_lt e2
        have hy2 : 2 ≤ y := by
          cases ex : ch 1 with
          | none => rw [ex] at e2; cases e2
          | some z =>
            rw [ex] at e2
            have e' : (if 99 ≤ z ∧ z < 105 ∧ sm0 (z - 97) = none then some (z - 97) else none) = some y := e2
            split at e'
            case isTrue w => cases e'; omega
            case isFalse w => cases e'
        by_cases q2 : tyO (ch 2) = 0
        · rw [if_pos q2] at h; cases h
        · rw [if_neg q2] at h
          have ht : tyO (ch 2) < 32 := by
            unfold tyO
            (repeat' split) <;> omega
          cases e3 : pEnd ch (pPart ch fd 6 (up sm0 y (some 0)) (3, 2, 0, T0)) with
          | inl z => rw [e3] at h; cases h
          | inr z =>
            rw [e3] at h
            cases h
            exact ⟨hj, by simpa using q, ht, hy2, hy.1, e3⟩
/-- what define finds of the expression that was read -/
def ckD (fx : fnT) (ty : Nat) (s : pS) : Nat ⊕ gF := ck fx s.2.2.2 7 (s.2.2.1 - 1) (vRes vAll 0 ty) (fun i => i * 7) (fun _ => none)
theorem c_define (hO : TOP C ch len) (hc : chO ch len) (hX : FXs C fx)
    (h1 : ∀ e, pDef ch (fdO fx) = .inl e → ∀ C', tfr C.1 C C' → C'.1 ≤ C.1 + 200 → C'.2.1 ≤ C.2.1 + 1000 → obf C' = ((obf C).1, (obf C).2.1, nI e, (obf C).2.2.2) → X "java/lang/IllegalArgumentException" C')
    (h2 : ∀ i ty x s e, pDef ch (fdO fx) = .inr (i, ty, x, s) → ckD fx ty s = .inl e → ∀ C', tfr C.1 C C' → C'.1 ≤ C.1 + 200 → C'.2.1 ≤ C.2.1 + 1000 → obf C' = ((obf C).1, (obf C).2.1, nI e, (obf C).2.2.2) → X "java/lang/UnsupportedOperationException" C')
    (h3 : ∀ i ty x s g, pDef ch (fdO fx) = .inr (i, ty, x, s) → ckD fx ty s = .inr g → gok g → ∀ C' fa, tfr C.1 C C' → C'.1 ≤ C.1 + 200 → C'.2.1 ≤ C.2.1 + 1000 → ND C' (C.1 + 2) s.2.2.2 (s.2.2.1 - 1) → C.1 ≤ fa → cT C' fa 3 5 → cR C' fa 0 = some (C.1 + 2 + (s.2.2.1 - 1)) → cI C' fa 1 = nI ty → cI C' fa 2 = nI g.1 → cJ C' fa 3 = g.2.2.1.2 0 → cJ C' fa 4 = g.2.2.2.2 0 → obf C' = ((obf C).1, (obf C).2.1, -1, (obf C).2.2.2) → K (some (.int (nI g.1))) (csr C' 4 i (some fa))) :
    cG c eX9_define (D + 28) (cQx K X) 0 [some (.ref 1), none, none, none] [] C := by
  have hO0 := hO
  obtain ⟨o1, o2, o3, o4, o5, o6, o7, o8, o9, o10, o11⟩ := hO
  have hF : FD C (fdO fx) := hX.fd
  obtain ⟨C1, e1, b1, b2, b3, b4, b5, b6, b7⟩ := cnw_spec C 6 8
  refine w_X9_define 1 o1 ?_
  have q0 : cR (cnw C 6 8) 1 0 = some 2 := by rw [← e1, b7 1 0 (by omega)]; exact o2
  have q1 : cR (cnw C 6 8) 1 1 = some 4 := by rw [← e1, b7 1 1 (by omega)]; exact o3
  rw [q0, q1]
  refine c_rinit o10 hF o11 fun C3 f3 r3 => ⟨rfl, cle_cnw f3.1 r3.1, ?_⟩
  have f3' : dfr C.1 C C3 := f3
  have wf : ∀ (C8 : cS) (v : Int32), obf (csi C8 1 9 v) = ((obf C8).1, (obf C8).2.1, v, (obf C8).2.2.2) := fun C8 v => by
    have e8 : cI (csi C8 1 9 v) 1 8 = cI C8 1 8 := cI_csi_ne _ _ (by omega)
    have e10 : cI (csi C8 1 9 v) 1 10 = cI C8 1 10 := cI_csi_ne _ _ (by omega)
    have e11 : cI (csi C8 1 9 v) 1 11 = cI C8 1 11 := cI_csi_ne _ _ (by omega)
    have e9 : cI (csi C8 1 9 v) 1 9 = v := cI_csi _ _ _ _
    have v1 : gvn (csi C8 1 9 v) 346 = gvn C8 346 := gvn_eq (cI_csi_ne _ _ (by omega)) (fun _ => rfl)
    have v2 : gvn (csi C8 1 9 v) 348 = gvn C8 348 := gvn_eq (cI_csi_ne _ _ (by omega)) (fun _ => rfl)
    unfold obf
    rw [e8, e9, e10, e11, v1, v2]
    rfl
  refine c_readD (D := D + 2) hc o11 r3 (fun e he C8 d8 g2 hn => ⟨none, rfl, d8.1, fun _ => ?_, fun a z => (by cases z)⟩) (fun i ty x s hs he2 C8 p8 i6 i7 r8 => ⟨_, rfl, p8.1, fun z => (by cases z), fun a14 z => ?_⟩)
  · obtain ⟨n, g4, g5, g6⟩ := hn
    have d8' := f3'.trans d8
    have ob := obf_d d8' o11
    rw [g2]
    refine h1 e he _ (d8'.t.trans (tfr_csi1 _ _ (by decide) _)) (show C8.1 ≤ _ by omega) (show C8.2.1 ≤ _ by omega) ?_
    rw [wf, ob]
  · injection z with z
    obtain ⟨k1, k2, k3, k4, k5, k6⟩ := pDef_ok hs
    obtain ⟨w1, w2, w3⟩ := pRead_wt hc (smD_sc x) he2
    have d8 := f3'.trans p8
    have t8 : tfr C.1 C C8 := d8.t
    have ob := obf_d d8 o11
    have hO8 := hO0.t t8 o11
    have l1 := r8.2.2.2.2.2.2.2.2.1
    have l2 := r8.2.2.2.2.2.2.2.2.2.1
    have c8 : C.1 ≤ C8.1 := t8.1.1
    refine ⟨5, hO8.2.2.2.1, hO8.2.2.2.2.2.2.2.2.1.1, ?_⟩
    rw [hO8.2.2.1, i7]
    have hX8 : FXs C8 fx := hX.t t8 (Nat.le_refl _) o11
    have N8 : ND C8 (C.1 + 2) s.2.2.2 (s.2.2.1 - 1) := ⟨by omega, fun m hm => r8.2.2.2.2.2.2.2.2.2.2.2.1 m (by omega)⟩
    refine c_all (D := D) (k := 7) (ft := ty) w1 sc0 hO8.2.2.2.2.2.2.2.2.1 hX8 N8.2 N8.1 k3 (by decide) (fun e he C17 a17 f17 => ⟨none, rfl, a17.le, fun _ => ?_, fun a z => (by cases z)⟩) (fun g hg C17 a17 f17 ok => ⟨_, rfl, a17.le, fun z => (by cases z), fun a25 z => ?_⟩)
    · have t17 := a17.t C8.1
      have hO17 := hO8.t t17 (by omega)
      have T17 : tfr C.1 C C17 := t8.trans (t17.mono c8)
      have ob17 := (obf_a a17).trans ob
      have a1 := a17.1
      have a2 := a17.2.1
      refine ⟨5, hO17.2.2.2.1, hO17.2.2.2.2.2.2.2.2.1.1, ?_⟩
      rw [f17]
      refine h2 i ty x s e hs he _ (T17.trans (tfr_csi1 _ _ (by decide) _)) (show C17.1 ≤ _ by omega) (show C17.2.1 ≤ _ by omega) ?_
      rw [wf, ob17]
    · injection z with z
      subst z
      have t17 := a17.t C8.1
      have hO17 := hO8.t t17 (by omega)
      have n17 := N8.t t17 (Nat.le_refl _)
      have T17 : tfr C.1 C C17 := t8.trans (t17.mono c8)
      have ob17 := (obf_a a17).trans ob
      have a1 := a17.1
      have a2 := a17.2.1
      have i6' : cI C17 C.1 6 = nI i := by rw [a17.2.2.2.2.1 C.1 6 (by omega) (by omega) (by omega)]; exact i6
      have i7' : cI C17 C.1 7 = nI ty := by rw [a17.2.2.2.2.1 C.1 7 (by omega) (by omega) (by omega)]; exact i7
      rw [i6']
      have s1 : tfr C17.1 C17 (csi C17 1 9 (-1)) := tfr_csi1 _ _ (by decide) _
      have s2 : obf (csi C17 1 9 (-1)) = ((obf C).1, (obf C).2.1, -1, (obf C).2.2.2) := by rw [wf, ob17]
      have s3 : gf (csi C17 1 9 (-1)) (12 + 5 * (s.2.2.1 - 1)) = toF g := by
        rw [← f17]
        unfold gf
        rw [cI_csi_ne _ _ (by omega), cI_csi_ne _ _ (by omega)]
        refine congrArg (Prod.mk _) (congrArg (Prod.mk _) (congr (congrArg Prod.mk ?_) ?_))
        · exact gvn_eq (cI_csi_ne _ _ (by omega)) (fun _ => rfl)
        · exact gvn_eq (cI_csi_ne _ _ (by omega)) (fun _ => rfl)
      have s4 : cI (csi C17 1 9 (-1)) C.1 7 = nI ty := by rw [cI_csi_ne _ _ (by omega)]; exact i7'
      have s5 : (csi C17 1 9 (-1)).1 = C17.1 ∧ (csi C17 1 9 (-1)).2.1 = C17.2.1 := ⟨rfl, rfl⟩
      generalize csi C17 1 9 (-1) = C18 at s1 s2 s3 s4 s5 ⊢
      have hO18 := hO17.t s1 (by omega)
      have n18 := n17.t s1 (Nat.le_refl _)
      have T18 : tfr C.1 C C18 := T17.trans (s1.mono T17.1.1)
      have x1 : cI (cnw C18 3 5) C.1 7 = nI ty := by
        obtain ⟨E1, y1, -, -, -, -, y5, -, -⟩ := cnw_spec C18 3 5
        rw [← y1, y5 C.1 7 (by omega)]
        exact s4
      rw [x1]
      have fa : FA C18 (12 + 5 * (s.2.2.1 - 1)) := (hO18.2.2.2.2.2.2.2.2.1.2.2.2.2.2.2.2.2.2.2.2.1 _ (by omega)).2
      refine c_finit fa (by omega) (by omega) s3 fun C33 f33 m1 m2 m3 m4 m5 m6 m7 m8 => ⟨rfl, cle_cnw f33.1 m3, ?_⟩
      have t33 : tfr C18.1 C18 C33 := f33.t
      have hO33 := hO18.t t33 (by omega)
      have n33 := n18.t t33 (Nat.le_refl _)
      have T33 : tfr C.1 C C33 := T18.trans (t33.mono T18.1.1)
      have ob33 : obf C33 = obf C18 := obf_d f33 (by omega)
      have fa33 := (hO33.2.2.2.2.2.2.2.2.1.2.2.2.2.2.2.2.2.2.2.2.1 (s.2.2.1 - 1) (by omega)).2
      have g33 := (gf_o f33 (t := 12 + 5 * (s.2.2.1 - 1)) (by omega)).trans s3
      have hX33 := hX.t T33 (Nat.le_refl _) o11
      have i3 : ¬ (3 : Int32) ≤ nI i := fun h => by
        have h2 := Int32.le_iff_toInt_le.mp h
        rw [nI_toInt (by omega)] at h2
        have h3 : ((3 : Int32).toInt) = 3 := by decide
        omega
      refine w_X9_keepFunction 1 (nI i) (some C18.1) ⟨fun h => absurd h (nI_pos (by omega)), fun _ => ⟨fun h => absurd h i3, fun _ => ⟨hO33.1, 4, hO33.2.2.1, 3, hX33.1, i, am_ix_n (by omega) (by decide), fun b hb => (by cases hb; exact m3), rfl, cle_same rfl rfl, fa33.1, ?_⟩⟩⟩
      have g0 : cI (csr C33 4 i (some C18.1)) (12 + 5 * (s.2.2.1 - 1)) 0 = nI g.1 := congrArg (fun x => x.1) g33
      rw [g0]
      exact h3 i ty x s g hs hg ok C33 C18.1 T33 (by omega) (by omega) n33 (by omega) m3 m4 m5 m6 m7 m8 (ob33.trans s2)
end DFN
