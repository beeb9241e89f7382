/-! The class's forget, view and run on the state of both sides. -/
section CXC
variable {c : cX} {d D : Nat} {C : cS} {K : Option Value → cS → Prop} {X : String → cS → Prop} {A : xA}
theorem k_forget (k : CI C A) (h : ∀ C', wfr C C' → CI C' (A.1, (fun _ => none, fun _ => none, A.2.1.2.2), (none, false, A.2.2.1.2.2), A.2.2.2) → K none C') : cM c d eX9_forget [.ref 1] C K := by
  obtain ⟨⟨nbf, nbh, o⟩, k1, k2, k3, k4, k5⟩ := k
  refine w_X9_forget 1 ?_
  have key : ∀ n m, m + n = 3 → ∀ C', C'.1 = C.1 → C'.2.1 = C.2.1 → C'.2.2.1 = C.2.2.1 → (∀ a i, cI C' a i = cI C a i) → (∀ a i, cJ C' a i = cJ C a i) → (∀ a i, a ≠ 4 → cR C' a i = cR C a i) → (∀ i, i < m → cR C' 4 i = none) → cG c eX9_forget d (cQ K) 2 [some (.ref 1), some (.int (nI m))] [] C' := by
    intro n
    induction n with
    | zero =>
      intro m hm C' e1 e2 e3 eI eJ eR e4
      have : m = 3 := by omega
      subst this
      have le : cle C C' := cle_same e1 e3
      refine w_X9_forget_2 1 (nI 3) ⟨fun _ => ⟨o.1.1.le le, ?_⟩, fun z => absurd (by decide) z⟩
      have fI : ∀ a i, ¬ (a = 1 ∧ i = 8) → cI (csi (csr C' 1 7 none) 1 8 0) a i = cI C a i := fun a i q => by rw [cI_csi_ne _ _ q, cI_csr, eI]
      have fJ : ∀ a i, cJ (csi (csr C' 1 7 none) 1 8 0) a i = cJ C a i := fun a i => eJ a i
      have fR : ∀ a i, a ≠ 4 → ¬ (a = 1 ∧ i = 7) → cR (csi (csr C' 1 7 none) 1 8 0) a i = cR C a i := fun a i q1 q2 => by rw [cR_csi, cR_csr_ne _ _ q2, eR a i q1]
      have f7 : cR (csi (csr C' 1 7 none) 1 8 0) 1 7 = none := by rw [cR_csi, cR_csr]
      have f8 : cI (csi (csr C' 1 7 none) 1 8 0) 1 8 = 0 := cI_csi _ _ _ _
      have f4 : ∀ i, i < 3 → cR (csi (csr C' 1 7 none) 1 8 0) 4 i = none := fun i hi => by rw [cR_csi, cR_csr_ne _ _ (by omega)]; exact e4 i hi
      have le' : cle C (csi (csr C' 1 7 none) 1 8 0) := cle_same e1 e3
      have s1 : (csi (csr C' 1 7 none) 1 8 0).1 = C.1 := e1
      have s2 : (csi (csr C' 1 7 none) 1 8 0).2.1 = C.2.1 := e2
      generalize csi (csr C' 1 7 none) 1 8 0 = B at fI fJ fR f7 f8 f4 le' s1 s2 ⊢
      have sf : sfr C B := ⟨le', fun a i _ _ _ q3 q4 => fR a i q4 q3⟩
      have T := o.1.2.2.2.2.2.2.2.2.2.1
      have hT : TXT B A.1.1 A.1.2 := by
        obtain ⟨t1, t2, t3, t4, t5⟩ := T
        refine ⟨t1.le le', by rw [fR 2 0 (by omega) (by omega)]; exact t2, t3.le le', by rw [fI 2 1 (by omega)]; exact t4, fun i hi => ?_⟩
        obtain ⟨y, y1, y2⟩ := t5 i hi
        exact ⟨y, y1, by rw [fI 3 i (by omega)]; exact y2⟩
      refine h B ⟨le', by rw [s1]; omega, by rw [s2]; omega, fun a i q => ⟨fI a i (by omega), fJ a i, fR a i (by omega) (by omega)⟩⟩ ⟨⟨nbf, nbh, o.1.s sf hT, ⟨o.2.1.1.le le', fun i hi => f4 i hi⟩, ⟨o.2.1.1.le le', fun i hi b hb => (by cases hb)⟩, ?_, ?_, ?_, o.2.2.2.2.2.2.1.le le', ⟨?_, ?_⟩, f7, fun b hb => (by cases hb)⟩, f8, ?_, ?_, ?_, fun z => (by cases z)⟩
      · rw [fR 1 5 (by omega) (by omega)]; exact o.2.2.2.1
      · rw [fR 1 6 (by omega) (by omega)]; exact o.2.2.2.2.1
      · exact o.2.2.2.2.2.1.c le' (fun i => fR 350 i (by omega) (by omega)) (fun a i q1 q2 => fI a i (by omega))
      · rw [fI 355 0 (by omega)]; exact o.2.2.2.2.2.2.2.1.1
      · rw [fI 355 1 (by omega)]; exact o.2.2.2.2.2.2.2.1.2
      · rw [fI 1 9 (by omega)]; exact k2
      · rw [fI 1 10 (by omega)]; exact k3
      · rw [fI 1 11 (by omega)]; exact k4
    | succ n ih =>
      intro m hm C' e1 e2 e3 eI eJ eR e4
      have le : cle C C' := cle_same e1 e3
      refine w_X9_forget_2 1 (nI m) ⟨fun z => ?_, fun _ => ⟨o.1.1.le le, 4, by rw [eR 1 1 (by omega)]; exact o.1.2.2.1, 3, o.2.1.1.le le, m, am_ix_n (by omega) (by decide), ?_⟩⟩
      · have := (nI_leI (a := 3) (by decide) (by omega)).mp z
        omega
      · rw [nI_1]
        refine ih (m + 1) (by omega) _ e1 e2 e3 eI eJ (fun a i q => by rw [cR_csr_ne _ _ (by omega)]; exact eR a i q) (fun i hi => ?_)
        by_cases q : i = m
        · subst q; exact cR_csr _ _ _ _
        · rw [cR_csr_ne _ _ (by omega)]; exact e4 i (by omega)
  exact key 3 0 (by omega) C rfl rfl rfl (fun _ _ => rfl) (fun _ _ => rfl) (fun _ _ _ => rfl) (fun i hi => absurd hi (Nat.not_lt_zero _))
theorem k_view (k : CI C A) (a : AI A) {q x y : Int32} (h1 : A.2.2.1.2.1 = false → X "java/util/NoSuchElementException" C) (h2 : A.2.2.1.2.1 = true → ¬ (isN 2 x ∧ isN 7 y) → X "java/lang/IndexOutOfBoundsException" C)
    (h0 : A.2.2.1.2.1 = true → ∀ n m, n < 2 → m < 7 → x = nI n → y = nI m → K (some (.int (if q = 0 then A.2.2.1.2.2.2.2 (7 * n + m) else A.2.2.1.2.2.2.1 (7 * n + m)))) C) : cG c eX9_view (d + 2) (cQx K X) 0 [some (.ref 1), some (.int q), some (.int x), some (.int y), none] [] C := by
  obtain ⟨⟨nbf, nbh, o⟩, k1, k2, k3, k4, k5⟩ := k
  have o7 := o.2.2.2.2.2.2.2.2.1
  have e2 := isN_iff (n := 2) (x := x) (by decide)
  have e7 := isN_iff (n := 7) (x := y) (by decide)
  refine w_X9_view 1 q x y o.1.1 ?_
  cases ha : A.2.2.1.2.1 with
  | false =>
    rw [ha] at k1
    exact ⟨fun _ => h1 ha, fun a2 _ => ⟨fun z => absurd k1 z, fun _ => h1 ha⟩⟩
  | true =>
    rw [ha] at k1
    have hs := a.2.2.1.2 ha
    obtain ⟨b, hb⟩ := Option.isSome_iff_exists.mp hs
    rw [hb] at o7
    have n1 : ¬ cI C 1 8 = 0 := by rw [k1]; decide
    refine ⟨fun z => ?_, fun a2 _ => ⟨fun _ => ⟨fun z => h2 ha fun u => (e2.mp u.1).1 z, fun z => ⟨fun z2 => h2 ha fun u => absurd z2 (i_le_lt.mpr (e2.mp u.1).2), fun z2 => ⟨fun z3 => h2 ha fun u => (e7.mp u.2).1 z3, fun z3 => ⟨fun z4 => ?_, fun z4 => h2 ha fun u => z4 (e7.mp u.2).2⟩⟩⟩⟩, fun z => absurd z n1⟩⟩
    · rw [o7] at z; cases z
    · obtain ⟨n, n3, rfl⟩ := e2.mpr ⟨z, i_le_lt.mp z2⟩
      obtain ⟨m, m3, rfl⟩ := e7.mpr ⟨z3, z4⟩
      have go := h0 ha n m n3 m3 rfl rfl
      obtain ⟨w4, w5⟩ := k5 ha (7 * n + m) (by omega)
      have ep : nI n * (7 : Int32) + nI m = nI (7 * n + m) := by rw [show nI n * (7 : Int32) = nI (n * 7) from pk_mul n 7, nI_add, Nat.mul_comm n 7]
      unfold cAns at w4 w5
      refine ⟨fun q0 => ?_, fun q0 => ?_⟩
      · rw [if_pos q0, ← w5] at go
        rw [o.1.2.2.2.2.2.1]
        refine w_X9_view_64 _ _ (some 348) ⟨348, rfl, o.1.2.2.2.2.2.2.2.1.1, fun z5 => ?_, fun z5 => ?_⟩
        · rw [if_neg (fun u => u z5)] at go
          rw [ep]
          exact r_says o.1.2.2.2.2.2.2.2.1 (by omega) ⟨_, rfl, cle.refl _, go⟩
        · rw [if_pos (show (gvn C 348).1 ≠ 0 from z5)] at go
          exact go
      · rw [if_neg q0, ← w4] at go
        rw [o.1.2.2.2.2.1]
        refine w_X9_view_64 _ _ (some 346) ⟨346, rfl, o.1.2.2.2.2.2.2.1.1, fun z5 => ?_, fun z5 => ?_⟩
        · rw [if_neg (fun u => u z5)] at go
          rw [ep]
          exact r_says o.1.2.2.2.2.2.2.1 (by omega) ⟨_, rfl, cle.refl _, go⟩
        · rw [if_pos (show (gvn C 346).1 ≠ 0 from z5)] at go
          exact go
end CXC
