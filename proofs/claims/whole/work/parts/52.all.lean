/-! examineAll. -/
/-- what a whole check may change -/
def afr (C C' : cS) : Prop := C'.1 = C.1 ∧ C'.2.1 = C.2.1 ∧ C'.2.2.1 = C.2.2.1 ∧ (∀ a i, ¬ (a = 9 ∧ i < 17) → ¬ (a = 5 ∧ i = 5) → cR C' a i = cR C a i) ∧
  (∀ a i, ¬ (10 ≤ a ∧ a < 346) → ¬ (a = 8 ∧ i < 17) → ¬ (a = 5 ∧ i = 6) → cI C' a i = cI C a i) ∧ ∀ a i, ¬ (10 ≤ a ∧ a < 346) → cJ C' a i = cJ C a i
theorem afr.trans {A B C : cS} (h : afr A B) (k : afr B C) : afr A C :=
  ⟨k.1.trans h.1, k.2.1.trans h.2.1, k.2.2.1.trans h.2.2.1, fun a i q1 q2 => (k.2.2.2.1 a i q1 q2).trans (h.2.2.2.1 a i q1 q2), fun a i q1 q2 q3 => (k.2.2.2.2.1 a i q1 q2 q3).trans (h.2.2.2.2.1 a i q1 q2 q3), fun a i q => (k.2.2.2.2.2 a i q).trans (h.2.2.2.2.2 a i q)⟩
theorem afr.le {A B : cS} (h : afr A B) : cle A B := cle_same h.1 h.2.2.1
theorem afr.T {A B : cS} (h : afr A B) {a t n : Nat} (hT : cT A a t n) : cT B a t n := hT.le h.le
theorem afr.of {lo hi sl sh : Nat} {A B : cS} (h : xfr lo hi sl sh A B) (h1 : hi ≤ 60) (h2 : sh ≤ 17) : afr A B :=
  ⟨h.1, h.2.1, h.2.2.1, fun a i q1 q2 => h.2.2.2.1 a i (by omega), fun a i q1 q2 q3 => h.2.2.2.2.1 a i (by omega) (by omega) (by omega) q3, fun a i q => h.2.2.2.2.2 a i (by omega) (by omega)⟩
theorem VA.a {A B : cS} {t : Nat} (h : VA A t) (k : afr A B) (ht : t ≠ 9 ∧ t ≠ 5) : VA B t := ⟨k.T h.1, by rw [k.2.2.2.1 t 0 (by omega) (by omega)]; exact h.2.1, k.T h.2.2⟩
theorem FA.a {A B : cS} {t : Nat} (h : FA A t) (k : afr A B) (ht : 12 ≤ t) : FA B t := ⟨k.T h.1, by rw [k.2.2.2.1 t 2 (by omega) (by omega)]; exact h.2.1, by rw [k.2.2.2.1 t 3 (by omega) (by omega)]; exact h.2.2.1, h.2.2.2.1.a k (by omega), h.2.2.2.2.a k (by omega)⟩
theorem CHK.a {A B : cS} (h : CHK A) (k : afr A B) : CHK B := by
  obtain ⟨h1, h2, h3, h4, h5, h6, h7, h8, h9, h10, h11, h12, h13⟩ := h
  refine ⟨k.T h1, ?_, ?_, ?_, ?_, ?_, k.T h7, k.T h8, k.T h9, k.T h10, h11.a k (by omega), fun i hi => ⟨?_, (h12 i hi).2.a k (by omega)⟩, fun s hs => ⟨?_, (h13 s hs).2.a k (by omega)⟩⟩
  · rw [k.2.2.2.1 5 0 (by omega) (by omega)]; exact h2
  · rw [k.2.2.2.1 5 1 (by omega) (by omega)]; exact h3
  · rw [k.2.2.2.1 5 2 (by omega) (by omega)]; exact h4
  · rw [k.2.2.2.1 5 3 (by omega) (by omega)]; exact h5
  · rw [k.2.2.2.1 5 4 (by omega) (by omega)]; exact h6
  · rw [k.2.2.2.1 6 i (by omega) (by omega)]; exact (h12 i hi).1
  · rw [k.2.2.2.1 7 s (by omega) (by omega)]; exact (h13 s hs).1
theorem nAt.a {A B : cS} {nb n : Nat} {T : Nat → nd} (h : nAt A nb T n) (k : afr A B) (hb : 400 ≤ nb) : nAt B nb T n := by
  obtain ⟨h1, h2, h3, h4, h5, h6⟩ := h
  have ki : ∀ i, cI B (nb + n) i = cI A (nb + n) i := fun i => k.2.2.2.2.1 (nb + n) i (by omega) (by omega) (by omega)
  exact ⟨k.T h1, by rw [ki]; exact h2, by rw [ki]; exact h3, by rw [ki]; exact h4, by rw [ki]; exact h5, fun i hi => by rw [k.2.2.2.1 (nb + n) (4 + i) (by omega) (by omega)]; exact h6 i hi⟩
/-- the functions stand in the cell 4, whoever knows it -/
def FXs (C : cS) (fx : fnT) : Prop := cT C 4 26 3 ∧ ∀ i, i < 3 → match fx i with
  | none => cR C 4 i = none
  | some (pt, k, y, n) => pt < 32 ∧ k < 32 ∧ ∃ fa, 400 ≤ fa ∧ cR C 4 i = some fa ∧ cT C fa 3 5 ∧ cI C fa 1 = nI pt ∧ cI C fa 2 = nI k ∧ cJ C fa 3 = y ∧ cJ C fa 4 = n
theorem FXs.a {fx : fnT} {A B : cS} (h : FXs A fx) (k : afr A B) : FXs B fx := by
  refine ⟨k.T h.1, fun i hi => ?_⟩
  have h3 := h.2 i hi
  cases e : fx i with
  | none =>
    rw [e] at h3
    show cR B 4 i = none
    rw [k.2.2.2.1 4 i (by omega) (by omega)]
    exact h3
  | some z =>
    obtain ⟨pt, kk, y, n⟩ := z
    rw [e] at h3
    obtain ⟨p1, p2, fa, p3, p4, p5, p6, p7, p8, p9⟩ := h3
    exact ⟨p1, p2, fa, p3, by rw [k.2.2.2.1 4 i (by omega) (by omega)]; exact p4, k.T p5, by rw [k.2.2.2.2.1 fa 1 (by omega) (by omega) (by omega)]; exact p6, by rw [k.2.2.2.2.1 fa 2 (by omega) (by omega) (by omega)]; exact p7, by rw [k.2.2.2.2.2 fa 3 (by omega)]; exact p8, by rw [k.2.2.2.2.2 fa 4 (by omega)]; exact p9⟩
section EXA
variable {D : Nat} {c : cX} {fx : fnT} {T : Nat → nd} {nb k : Nat} {C : cS} {K : Option Value → cS → Prop} {n sh : Nat} {sc : List Nat}
/-- examineAll: a finding for the root, or a fault's place -/
theorem c_all {ft : Nat} (hw : wt T k n 0 2 sh sc) (hsc : ∀ s, s ∈ sc → s < 2) (hC : CHK C) (hX : FXs C fx) (hN : ∀ m, m ≤ n → nAt C nb T m) (hb : 400 ≤ nb) (hft : ft < 32) (hk : k ≤ 41)
    (h1 : ∀ e, ck fx T k n (vRes vAll 0 ft) (fun i => i * 7) (fun _ => none) = .inl e → ∀ C', afr C C' → cI C' 5 6 = nI e → K (some (va_rf none)) C')
    (h2 : ∀ g, ck fx T k n (vRes vAll 0 ft) (fun i => i * 7) (fun _ => none) = .inr g → ∀ C', afr C C' → gf C' (12 + 5 * n) = toF g → gok g → K (some (va_rf (some (12 + 5 * n)))) C') :
    cM c (D + 3 * k + 6) eX1_examineAll [.ref 5, .ref (nb + n), .int (nI ft), .ref 4] C K := by
  obtain ⟨w1, w2, w3, w4, w5⟩ := wt_lt hw
  have a0 : afr C (csi (csr C 5 5 (some 4)) 5 6 (-1)) := by
    refine ⟨rfl, rfl, rfl, fun a i q1 q2 => ?_, fun a i q1 q2 q3 => ?_, fun a i q => rfl⟩
    · show cR (csr C 5 5 (some 4)) a i = _
      exact cR_csr_ne _ _ q2
    · rw [cI_csi_ne _ _ q3]; rfl
  have r0 : cR (csi (csr C 5 5 (some 4)) 5 6 (-1)) 5 5 = some 4 := cR_csr C 5 5 (some 4)
  refine w_X1_examineAll 5 (some (nb + n)) (nI ft) (some 4) ⟨hC.1, 10, hC.2.2.2.2.2.1, hC.2.2.2.2.2.2.2.2.2.2.1.1, ?_⟩
  generalize csi (csr C 5 5 (some 4)) 5 6 (-1) = C1 at a0 r0 ⊢
  have hC1 := hC.a a0
  refine r_any hC1.2.2.2.2.2.2.2.2.2.2.1 fun C2 k2 e2 => ⟨rfl, k2.le, 10, by rw [k2.2.2.2.1]; exact hC1.2.2.2.2.2.1, k2.T hC1.2.2.2.2.2.2.2.2.2.2.1.1, ?_⟩
  refine r_restrict (p := 0) (k := ft) (hC1.2.2.2.2.2.2.2.2.2.2.1.v k2) (by decide) hft fun C3 k3 e3 => ⟨rfl, k3.le, ?_⟩
  have k23 := k2.trans k3
  have a3 : afr C1 C3 := ⟨k23.1, k23.2.1, k23.2.2.1, fun a i _ _ => by rw [k23.2.2.2.1], fun a i q1 _ _ => by rw [(k23.2.2.2.2 a (by rintro (q | q) <;> omega)).1], fun a i q1 => by rw [(k23.2.2.2.2 a (by rintro (q | q) <;> omega)).2]⟩
  have g3 : gvn C3 10 = vRes vAll 0 ft := by rw [e3, e2]
  have r3 : cR C3 5 5 = some 4 := by rw [k23.2.2.2.1]; exact r0
  have i17 : ∀ i : Nat, i < 17 → ¬ (17 : Int32) ≤ nI i := fun i hi h => by
    have h2 := Int32.le_iff_toInt_le.mp h
    rw [nI_toInt (by omega)] at h2
    have h3 : ((17 : Int32).toInt) = 17 := by decide
    omega
  have key : ∀ m i : Nat, i + m = 17 → ∀ C4, afr C C4 → gvn C4 10 = vRes vAll 0 ft → cR C4 5 5 = some 4 → (∀ j, j < i → cI C4 8 j = nI (j * 7) ∧ cR C4 9 j = none) → cG c eX1_examineAll (D + 3 * k + 5 + 1) (cQ K) 29 [some (.ref 5), some (va_rf (some (nb + n))), none, none, some (.int (nI i))] [] C4 := by
    intro m
    induction m with
    | zero =>
      intro i hi C4 a4 g4 r4 hj
      have : i = 17 := by omega
      subst this
      have hC4 := hC.a a4
      have hX4 := hX.a a4
      refine w_X1_examineAll_29 5 (some (nb + n)) (nI 17) ⟨fun _ => ⟨hC4.1, ?_⟩, fun h => absurd (by decide) h⟩
      rw [hC4.2.2.2.2.2.1]
      have hB : exB C4 fx T nb 0 n 2 sc (fun i => i * 7) (fun _ => none) := by
        refine ⟨hC4, ⟨hX4.1, r4, hX4.2⟩, fun m _ q => (hN m q).a a4 hb, hb, fun s hs => ?_⟩
        have q := hsc s hs
        exact ⟨q, show s * 7 < 119 by omega, (hj s (by omega)).1, (hj s (by omega)).2⟩
      refine ex_kid (ex_ok D c fx T nb k) hw hB (Nat.le_refl _) ⟨hC4.2.2.2.2.2.2.2.2.2.2.1, by rw [g4]; exact rB_res rB0, Or.inl rfl⟩ (dp := 0) (by omega) (fun e he C5 x5 f5 => ⟨none, rfl, x5.le, ?_⟩) (fun g hg C5 x5 f5 o => ⟨some (12 + 5 * n), rfl, x5.le, ?_⟩)
      · rw [g4] at he
        exact h1 e he C5 (a4.trans (afr.of x5 (by omega) w4)) f5
      · rw [g4] at hg
        exact h2 g hg C5 (a4.trans (afr.of x5 (by omega) w4)) f5 o
    | succ m ihm =>
      intro i hi C4 a4 g4 r4 hj
      have hC4 := hC.a a4
      refine w_X1_examineAll_29 5 (some (nb + n)) (nI i) ⟨fun h => absurd h (i17 i (by omega)), fun _ => ⟨hC4.1, 8, hC4.2.2.2.1, 17, hC4.2.2.2.2.2.2.2.2.1, i, am_ix_n (by omega) (by decide), 9, hC4.2.2.2.2.1, 17, hC4.2.2.2.2.2.2.2.2.2.1, i, am_ix_n (by omega) (by decide), ?_⟩⟩
      rw [nI_1, show nI i * 7 = nI (i * 7) from pk_mul i 7]
      refine ihm (i + 1) (by omega) _ (a4.trans ⟨rfl, rfl, rfl, fun a j q1 q2 => ?_, fun a j q1 q2 q3 => ?_, fun a j q => rfl⟩) ?_ ?_ (fun j hj' => ⟨?_, ?_⟩)
      · rw [cR_csr_ne _ _ (by omega)]; rfl
      · show cI (csi C4 8 i _) a j = _
        rw [cI_csi_ne _ _ (by omega)]
      · rw [← g4]
        unfold gvn
        refine Prod.ext ?_ rfl
        show cI (csi C4 8 i _) 10 1 = _
        rw [cI_csi_ne _ _ (by omega)]
      · rw [cR_csr_ne _ _ (by omega)]; exact r4
      · show cI (csi C4 8 i _) 8 j = _
        by_cases q : j = i
        · subst q; exact cI_csi _ _ _ _
        · rw [cI_csi_ne _ _ (by omega)]; exact (hj j (by omega)).1
      · by_cases q : j = i
        · subst q; exact cR_csr _ _ _ _
        · rw [cR_csr_ne _ _ (by omega)]; exact (hj j (by omega)).2
  exact key 17 0 rfl C3 (a0.trans a3) g3 r3 (fun j hj => absurd hj (by omega))
end EXA
