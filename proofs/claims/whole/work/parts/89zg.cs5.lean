/-! The class's check and define on the state of both sides. -/
theorem obf_ex {C : cS} {r : Option Nat} {i8 i9 i10 i11 : Int32} {y n : vT} (h : obf C = (r, i8, i9, i10, i11, y, n)) : cR C 1 7 = r ∧ cI C 1 8 = i8 ∧ cI C 1 9 = i9 ∧ cI C 1 10 = i10 ∧ cI C 1 11 = i11 ∧ gvn C 346 = y ∧ gvn C 348 = n :=
  ⟨congrArg (fun q => q.1) h, congrArg (fun q => q.2.1) h, congrArg (fun q => q.2.2.1) h, congrArg (fun q => q.2.2.2.1) h, congrArg (fun q => q.2.2.2.2.1) h, congrArg (fun q => q.2.2.2.2.2.1) h, congrArg (fun q => q.2.2.2.2.2.2) h⟩
section CXE
variable {c : cX} {D : Nat} {C : cS} {K : Option Value → cS → Prop} {X : String → cS → Prop} {A : xA}
theorem CI.f {C C' : cS} {A : xA} (k : CI C A) (t : tfr C.1 C C') {v : Int32} (h : obf C' = ((obf C).1, (obf C).2.1, v, (obf C).2.2.2)) : CI C' (A.1, A.2.1, (A.2.2.1.1, A.2.2.1.2.1, v, A.2.2.1.2.2.2), A.2.2.2) := by
  obtain ⟨⟨nbf, nbh, o⟩, k1, k2, k3, k4, k5⟩ := k
  obtain ⟨p1, p2, p3, p4, p5, p6, p7⟩ := obf_ex (show obf C' = (cR C 1 7, cI C 1 8, v, cI C 1 10, cI C 1 11, gvn C 346, gvn C 348) from h)
  have h400 : 400 ≤ C.1 := o.1.2.2.2.2.2.2.2.2.2.2
  refine ⟨⟨nbf, nbh, o.t t (by rw [p1]; exact o.2.2.2.2.2.2.2.2.1) (fun b hb => ?_)⟩, by rw [p2]; exact k1, p3, by rw [p4]; exact k3, by rw [p5]; exact k4, fun q => by rw [p6, p7]; exact k5 q⟩
  obtain ⟨N, Nl⟩ := o.2.2.2.2.2.2.2.2.2 b hb
  exact ⟨N.t t (Nat.le_refl _), Nat.lt_of_lt_of_le Nl t.1.1⟩
theorem CI.h {C C' : cS} {A : xA} (k : CI C A) (t : tfr C.1 C C') {b : (Nat → nd) × Nat} {z : Bool} {v : Int32} {y n : vT} {vy vn : Nat → Int32} (N : ND C' (C.1 + 2) b.1 b.2) (h : obf C' = (some (C.1 + 2 + b.2), (if z = true then 1 else 0), v, (obf C).2.2.2.1, (obf C).2.2.2.2.1, y, n)) (hv : z = true → ∀ p, p < 14 → cAns y p = vy p ∧ cAns n p = vn p) : CI C' (A.1, A.2.1, (some b, z, v, vy, vn), A.2.2.2) := by
  obtain ⟨⟨nbf, nbh, o⟩, k1, k2, k3, k4, k5⟩ := k
  obtain ⟨p1, p2, p3, p4, p5, p6, p7⟩ := obf_ex (show obf C' = (some (C.1 + 2 + b.2), (if z = true then 1 else 0), v, cI C 1 10, cI C 1 11, y, n) from h)
  refine ⟨⟨nbf, C.1 + 2, o.t t p1 (fun b' hb => ?_)⟩, p2, p3, by rw [p4]; exact k3, by rw [p5]; exact k4, fun q => by rw [p6, p7]; exact hv q⟩
  cases hb
  exact ⟨N, (N.2 b.2 (Nat.le_refl _)).1.2.1⟩
theorem k_chk (k : CI C A) (a : AI A)
    (h1 : ∀ e, pExpr A.1.1 (fdO A.2.1.1) = .inl e → ∀ C', wfr C C' → CI C' (A.1, A.2.1, (A.2.2.1.1, A.2.2.1.2.1, nI e, A.2.2.1.2.2.2), A.2.2.2) → X "java/lang/IllegalArgumentException" C')
    (h2 : ∀ s e, pExpr A.1.1 (fdO A.2.1.1) = .inr s → ckE A.2.1.1 s = .inl e → ∀ C', wfr C C' → CI C' (A.1, A.2.1, (some (s.2.2.2, s.2.2.1 - 1), false, nI e, A.2.2.1.2.2.2), A.2.2.2) → X "java/lang/UnsupportedOperationException" C')
    (h3 : ∀ s g, pExpr A.1.1 (fdO A.2.1.1) = .inr s → ckE A.2.1.1 s = .inr g → ∀ C', wfr C C' → CI C' (A.1, A.2.1, (some (s.2.2.2, s.2.2.1 - 1), true, -1, cAns g.2.2.1, cAns g.2.2.2), A.2.2.2) → K (some (.int (nI g.1))) C') :
    cG c eX9_check (D + 28) (cQx K X) 0 [some (.ref 1), none, none, none] [] C := by
  have k0 := k
  obtain ⟨⟨nbf, nbh, o⟩, k1, k2, k3, k4, k5⟩ := k
  have h400 : 400 ≤ C.1 := o.1.2.2.2.2.2.2.2.2.2.2
  refine c_check o.1 a.1 o.2.1 (fun e he C' t s1 s2 ob => ?_) (fun s e he hn C' t s1 s2 N ob => ?_) (fun s g he hn _ C' t s1 s2 N ob => ?_)
  · exact h1 e he C' (t.wf h400 s1 s2) (k0.f t ob)
  · exact h2 s e he hn C' (t.wf h400 s1 s2) (k0.h (b := (s.2.2.2, s.2.2.1 - 1)) (z := false) t N ob (fun z => (by cases z)))
  · exact h3 s g he hn C' (t.wf h400 s1 s2) (k0.h (b := (s.2.2.2, s.2.2.1 - 1)) (z := true) t N ob (fun _ p _ => ⟨rfl, rfl⟩))
theorem k_def (k : CI C A) (a : AI A)
    (h1 : ∀ e, pDef A.1.1 (fdO A.2.1.1) = .inl e → ∀ C', wfr C C' → CI C' (A.1, A.2.1, (A.2.2.1.1, A.2.2.1.2.1, nI e, A.2.2.1.2.2.2), A.2.2.2) → X "java/lang/IllegalArgumentException" C')
    (h2 : ∀ j ty x s e, pDef A.1.1 (fdO A.2.1.1) = .inr (j, ty, x, s) → ckD A.2.1.1 ty s = .inl e → ∀ C', wfr C C' → CI C' (A.1, A.2.1, (A.2.2.1.1, A.2.2.1.2.1, nI e, A.2.2.1.2.2.2), A.2.2.2) → X "java/lang/UnsupportedOperationException" C')
    (h3 : ∀ j ty x s g, pDef A.1.1 (fdO A.2.1.1) = .inr (j, ty, x, s) → ckD A.2.1.1 ty s = .inr g → g.1 < 32 → ∀ C', wfr C C' → CI C' (A.1, fAdd A.2.1 j ty x s g, (A.2.2.1.1, A.2.2.1.2.1, -1, A.2.2.1.2.2.2), A.2.2.2) → K (some (.int (nI g.1))) C') :
    cG c eX9_define (D + 28) (cQx K X) 0 [some (.ref 1), none, none, none] [] C := by
  have k0 := k
  obtain ⟨⟨nbf, nbh, o⟩, k1, k2, k3, k4, k5⟩ := k
  have h400 : 400 ≤ C.1 := o.1.2.2.2.2.2.2.2.2.2.2
  refine c_define o.1 a.1 o.2.1 (fun e he C' t s1 s2 ob => ?_) (fun j ty x s e he hn C' t s1 s2 ob => ?_) (fun j ty x s g he hn hg C' fa t s1 s2 N hfa fT f0 f1 f2 f3 f4 ob => ?_)
  · exact h1 e he C' (t.wf h400 s1 s2) (k0.f t ob)
  · exact h2 j ty x s e he hn C' (t.wf h400 s1 s2) (k0.f t ob)
  · obtain ⟨d1, d2, d3, d4, d5, d6⟩ := pDef_ok he
    obtain ⟨⟨nbf', nbh', o'⟩, q1, q2, q3, q4, q5⟩ := k0.f t ob
    have le : cle C' (csr C' 4 j (some fa)) := cle_same rfl rfl
    have uR : ∀ b i, ¬ (b = 4 ∧ i = j) → cR (csr C' 4 j (some fa)) b i = cR C' b i := fun b i q => cR_csr_ne _ _ q
    have u4 : cR (csr C' 4 j (some fa)) 4 j = some fa := cR_csr _ _ _ _
    have uI : ∀ b i, cI (csr C' 4 j (some fa)) b i = cI C' b i := fun _ _ => rfl
    have uJ : ∀ b i, cJ (csr C' 4 j (some fa)) b i = cJ C' b i := fun _ _ => rfl
    have u1 : (csr C' 4 j (some fa)).1 = C'.1 := rfl
    have u2 : (csr C' 4 j (some fa)).2.1 = C'.2.1 := rfl
    have w := t.wf h400 s1 s2
    generalize csr C' 4 j (some fa) = E at le uR u4 uI uJ u1 u2 ⊢
    have sf : sfr C' E := ⟨le, fun b i _ _ _ _ q => uR b i (by omega)⟩
    have hf : hfr C' E := ⟨le, fun b i q1 q2 => ⟨uI b i, uJ b i, uR b i (by omega)⟩⟩
    have hT : TXT E A.1.1 A.1.2 := by
      obtain ⟨t1, t2, t3, t4, t5⟩ := o'.1.2.2.2.2.2.2.2.2.2.1
      refine ⟨t1.le le, by rw [uR 2 0 (by omega)]; exact t2, t3.le le, by rw [uI]; exact t4, fun i hi => ?_⟩
      obtain ⟨y, y1, y2⟩ := t5 i hi
      exact ⟨y, y1, by rw [uI]; exact y2⟩
    have fa4 : 400 ≤ fa := by omega
    have NE : ND E (C.1 + 2) s.2.2.2 (s.2.2.1 - 1) := N.h hf
    have fxh : ∀ i, i ≠ j → i < 3 → cR E 4 i = cR C' 4 i := fun i q _ => uR 4 i (by omega)
    refine h3 j ty x s g he hn hg.1 E ⟨w.1.trans le, by rw [u1]; exact w.2.1, by rw [u2]; exact w.2.2.1, fun b i q => ⟨by rw [uI]; exact (w.2.2.2 b i q).1, by rw [uJ]; exact (w.2.2.2 b i q).2.1, by rw [uR b i (by omega)]; exact (w.2.2.2 b i q).2.2⟩⟩ ⟨⟨up nbf' j (C.1 + 2), nbh', o'.1.s sf hT, ⟨o'.2.1.1.le le, fun i hi => ?_⟩, ⟨o'.2.1.1.le le, fun i hi b hb => ?_⟩, ?_, ?_, ?_, o'.2.2.2.2.2.2.1.le le, ⟨?_, ?_⟩, ?_, fun b hb => ?_⟩, ?_, ?_, ?_, ?_, fun z => ?_⟩
    · show match up A.2.1.1 j (some (ty, g.1, g.2.2.1.2 0, g.2.2.2.2 0)) i with
        | none => cR E 4 i = none
        | some (pt, k, y, n) => pt < 32 ∧ k < 32 ∧ ∃ fa, 400 ≤ fa ∧ cR E 4 i = some fa ∧ cT E fa 3 5 ∧ cI E fa 1 = nI pt ∧ cI E fa 2 = nI k ∧ cJ E fa 3 = y ∧ cJ E fa 4 = n
      by_cases q : i = j
      · subst q
        rw [up_same]
        exact ⟨d3, hg.1, fa, fa4, u4, fT.le le, by rw [uI]; exact f1, by rw [uI]; exact f2, by rw [uJ]; exact f3, by rw [uJ]; exact f4⟩
      · rw [up_ne _ _ q]
        have h3' := o'.2.1.2 i hi
        cases ex : A.2.1.1 i with
        | none =>
          rw [ex] at h3'
          show cR E 4 i = none
          rw [fxh i q hi]
          exact h3'
        | some zz =>
          obtain ⟨pt, kk, y, n⟩ := zz
          rw [ex] at h3'
          obtain ⟨p1, p2, fa', p3, p4, p5, p6, p7, p8, p9⟩ := h3'
          exact ⟨p1, p2, fa', p3, by rw [fxh i q hi]; exact p4, p5.le le, by rw [uI]; exact p6, by rw [uI]; exact p7, by rw [uJ]; exact p8, by rw [uJ]; exact p9⟩
    · have hb' : up A.2.1.2.1 j (some (s.2.2.2, s.2.2.1 - 1)) i = some b := hb
      by_cases q : i = j
      · subst q
        rw [up_same] at hb'
        cases hb'
        rw [up_same]
        exact ⟨fa, u4, fT.le le, by rw [uR fa 0 (by omega)]; exact f0, NE, (NE.2 _ (Nat.le_refl _)).1.2.1⟩
      · rw [up_ne _ _ q] at hb'
        rw [up_ne _ _ q]
        obtain ⟨fa', g1, g2, g3, g4, g5⟩ := o'.2.2.1.2 i hi b hb'
        have := o'.2.1.ge i fa' hi g1
        exact ⟨fa', by rw [fxh i q hi]; exact g1, g2.le le, by rw [uR fa' 0 (by omega)]; exact g3, g4.h hf, by rw [u1]; exact g5⟩
    · rw [uR 1 5 (by omega)]; exact o'.2.2.2.1
    · rw [uR 1 6 (by omega)]; exact o'.2.2.2.2.1
    · exact o'.2.2.2.2.2.1.c le (fun i => uR 350 i (by omega)) (fun b i _ _ => uI b i)
    · rw [uI]; exact o'.2.2.2.2.2.2.2.1.1
    · rw [uI]; exact o'.2.2.2.2.2.2.2.1.2
    · rw [uR 1 7 (by omega)]; exact o'.2.2.2.2.2.2.2.2.1
    · obtain ⟨N1, N2⟩ := o'.2.2.2.2.2.2.2.2.2 b hb
      exact ⟨N1.h hf, by rw [u1]; exact N2⟩
    · rw [uI]; exact q1
    · rw [uI]; exact q2
    · rw [uI]; exact q3
    · rw [uI]; exact q4
    · rw [gvn_eq (uI 346 1) (fun i => uJ 347 i), gvn_eq (uI 348 1) (fun i => uJ 349 i)]
      exact q5 z
end CXE
