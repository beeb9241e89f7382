/-! The class's reader: a new one; definitions. -/
theorem cJ_csi (C : cS) (a i : Nat) (v : Int32) (b j : Nat) : cJ (csi C a i v) b j = cJ C b j := rfl
theorem eight_spec (C : cS) (n : Nat) (v : Int32) : ∃ C3, C3 = csi (csi (csi (csi (csi (csi (csi (csi C n 0 v) n 1 v) n 2 v) n 3 v) n 4 v) n 5 v) n 6 v) n 7 v ∧ C3.1 = C.1 ∧ C3.2.1 = C.2.1 ∧ C3.2.2.1 = C.2.2.1 ∧ (∀ a i, a ≠ n → cI C3 a i = cI C a i) ∧ (∀ a i, cJ C3 a i = cJ C a i) ∧ (∀ a i, cR C3 a i = cR C a i) ∧ ∀ i, i < 8 → cI C3 n i = v := by
  refine ⟨_, rfl, rfl, rfl, rfl, fun a i ha => ?_, fun a i => rfl, fun a i => rfl, fun i hi => ?_⟩
  · have q : ∀ j, ¬ (a = n ∧ i = j) := fun j z => ha z.1
    rw [cI_csi_ne _ _ (q _), cI_csi_ne _ _ (q _), cI_csi_ne _ _ (q _), cI_csi_ne _ _ (q _), cI_csi_ne _ _ (q _), cI_csi_ne _ _ (q _), cI_csi_ne _ _ (q _), cI_csi_ne _ _ (q _)]
  · by_cases q7 : i = 7
    · subst q7; rw [cI_csi]
    · rw [cI_csi_ne _ _ (fun z => q7 z.2)]
      by_cases q6 : i = 6
      · subst q6; rw [cI_csi]
      · rw [cI_csi_ne _ _ (fun z => q6 z.2)]
        by_cases q5 : i = 5
        · subst q5; rw [cI_csi]
        · rw [cI_csi_ne _ _ (fun z => q5 z.2)]
          by_cases q4 : i = 4
          · subst q4; rw [cI_csi]
          · rw [cI_csi_ne _ _ (fun z => q4 z.2)]
            by_cases q3 : i = 3
            · subst q3; rw [cI_csi]
            · rw [cI_csi_ne _ _ (fun z => q3 z.2)]
              by_cases q2 : i = 2
              · subst q2; rw [cI_csi]
              · rw [cI_csi_ne _ _ (fun z => q2 z.2)]
                by_cases q1 : i = 1
                · subst q1; rw [cI_csi]
                · rw [cI_csi_ne _ _ (fun z => q1 z.2)]
                  have q0 : i = 0 := by omega
                  subst q0
                  rw [cI_csi]
theorem five_spec (C : cS) (t n : Nat) : ∃ C3, C3 = csi (csi (csi (csi (csi (csr C t 2 (some n)) t 3 2) t 4 0) t 5 0) t 6 (-1)) t 7 0 ∧ C3.1 = C.1 ∧ C3.2.1 = C.2.1 ∧ C3.2.2.1 = C.2.2.1 ∧ (∀ a i, a ≠ t → cI C3 a i = cI C a i) ∧ (∀ a i, cJ C3 a i = cJ C a i) ∧ (∀ a i, ¬ (a = t ∧ i = 2) → cR C3 a i = cR C a i) ∧ cR C3 t 2 = some n ∧ cI C3 t 3 = 2 ∧ cI C3 t 4 = 0 ∧ cI C3 t 5 = 0 := by
  refine ⟨_, rfl, rfl, rfl, rfl, fun a i ha => ?_, fun a i => rfl, fun a i ha => ?_, ?_, ?_, ?_, ?_⟩
  · have q : ∀ j, ¬ (a = t ∧ i = j) := fun j z => ha z.1
    rw [cI_csi_ne _ _ (q _), cI_csi_ne _ _ (q _), cI_csi_ne _ _ (q _), cI_csi_ne _ _ (q _), cI_csi_ne _ _ (q _), cI_csr]
  · rw [cR_csi, cR_csi, cR_csi, cR_csi, cR_csi, cR_csr_ne _ _ ha]
  · rw [cR_csi, cR_csi, cR_csi, cR_csi, cR_csi, cR_csr]
  · rw [cI_csi_ne _ _ (fun z => absurd z.2 (by decide)), cI_csi_ne _ _ (fun z => absurd z.2 (by decide)), cI_csi_ne _ _ (fun z => absurd z.2 (by decide)), cI_csi_ne _ _ (fun z => absurd z.2 (by decide)), cI_csi]
  · rw [cI_csi_ne _ _ (fun z => absurd z.2 (by decide)), cI_csi_ne _ _ (fun z => absurd z.2 (by decide)), cI_csi_ne _ _ (fun z => absurd z.2 (by decide)), cI_csi]
  · rw [cI_csi_ne _ _ (fun z => absurd z.2 (by decide)), cI_csi_ne _ _ (fun z => absurd z.2 (by decide)), cI_csi]
/-- what a new cell leaves -/
theorem cnw_spec (C : cS) (t n : Nat) : ∃ C1, C1 = cnw C t n ∧ C1.1 = C.1 + 1 ∧ C1.2.1 = C.2.1 + n ∧ cle C C1 ∧ C1.2.2.1 C.1 = (t, n) ∧ (∀ a i, a ≠ C.1 → cI C1 a i = cI C a i) ∧ (∀ a i, a ≠ C.1 → cJ C1 a i = cJ C a i) ∧ ∀ a i, a ≠ C.1 → cR C1 a i = cR C a i :=
  ⟨_, rfl, rfl, rfl, cle_nw C t n, if_pos rfl, fun _ _ h => if_neg h, fun _ _ h => if_neg h, fun _ _ h => if_neg h⟩
/-- everything older stands -/
def ofr (C C' : cS) : Prop := cle C C' ∧ ∀ a, a < C.1 → (∀ i, cI C' a i = cI C a i) ∧ (∀ i, cJ C' a i = cJ C a i) ∧ ∀ i, cR C' a i = cR C a i
theorem TXT.o {A B : cS} {ch : Nat → Option Nat} {len : Nat} (h : TXT A ch len) (k : ofr A B) (hr : 400 ≤ A.1) : TXT B ch len := by
  obtain ⟨h1, h2, h3, h4, h5⟩ := h
  refine ⟨h1.le k.1, by rw [(k.2 2 (by omega)).2.2]; exact h2, h3.le k.1, by rw [(k.2 2 (by omega)).1]; exact h4, fun i hi => ?_⟩
  obtain ⟨c, e1, e2⟩ := h5 i hi
  exact ⟨c, e1, by rw [(k.2 3 (by omega)).1]; exact e2⟩
theorem FD.o {A B : cS} {fd : Nat → Bool} (h : FD A fd) (k : ofr A B) (hr : 400 ≤ A.1) : FD B fd := ⟨h.1.le k.1, fun i hi => by rw [(k.2 4 (by omega)).2.2]; exact h.2 i hi⟩
section RDW
variable {D : Nat} {c : cX} {d : Nat} {C : cS} {K : Option Value → cS → Prop} {rd w0 len : Nat} {ch : Nat → Option Nat} {fd : Nat → Bool} {sm : Nat → Option Nat} {s : pS}
/-- a new reader -/
theorem c_rinit (hT : TXT C ch len) (hF : FD C fd) (hC : 400 ≤ C.1) (hK : ∀ C', ofr C C' → RD C' C.1 (C.2.1 + 16) ch len fd sm0 (0, 2, 0, T0) → K none C') : cM c (d + 1) eX6_init [.ref C.1, .ref 2, .ref 4] (cnw C 6 8) K := by
  have hT0 : cT (cnw C 6 8) C.1 6 8 := cT_nw hT.1
  refine w_X6_init C.1 (some 2) (some 4) hT0 ?_
  obtain ⟨C1, e1, a1, a2, a3, a4, a5, a6, a7⟩ := cnw_spec C 6 8
  rw [← e1] at hT0 ⊢
  have b1 : (csr (csr C1 C.1 0 (some 2)) C.1 1 (some 4)).1 = C.1 + 1 := a1
  rw [b1]
  have f1 : cR (csr (csr C1 C.1 0 (some 2)) C.1 1 (some 4)) C.1 0 = some 2 := by rw [cR_csr_ne _ _ (fun z => absurd z.2 (by decide)), cR_csr]
  have f2 : cR (csr (csr C1 C.1 0 (some 2)) C.1 1 (some 4)) C.1 1 = some 4 := by rw [cR_csr]
  have f3 : ∀ a i, a ≠ C.1 → cR (csr (csr C1 C.1 0 (some 2)) C.1 1 (some 4)) a i = cR C a i := fun a i h => by rw [cR_csr_ne _ _ (fun z => h z.1), cR_csr_ne _ _ (fun z => h z.1)]; exact a7 a i h
  have f4 : ∀ a i, a ≠ C.1 → cI (csr (csr C1 C.1 0 (some 2)) C.1 1 (some 4)) a i = cI C a i := fun a i h => a5 a i h
  have f5 : ∀ a i, a ≠ C.1 → cJ (csr (csr C1 C.1 0 (some 2)) C.1 1 (some 4)) a i = cJ C a i := fun a i h => a6 a i h
  have f6 : cle C (csr (csr C1 C.1 0 (some 2)) C.1 1 (some 4)) := a3.trans (cle_same rfl rfl)
  have f7 : cT (csr (csr C1 C.1 0 (some 2)) C.1 1 (some 4)) C.1 6 8 := hT0
  have f8 : (csr (csr C1 C.1 0 (some 2)) C.1 1 (some 4)).2.1 = C.2.1 + 8 := a2
  generalize csr (csr C1 C.1 0 (some 2)) C.1 1 (some 4) = C2 at b1 f1 f2 f3 f4 f5 f6 f7 f8 ⊢
  have g0 : cT (cnw C2 20 8) C2.1 20 8 := cT_nw f7
  obtain ⟨C3, e3, g1, g2, g3, g4, g5, g6, g7⟩ := cnw_spec C2 20 8
  rw [← e3] at g0 ⊢
  rw [b1] at g0 g1 g4 g5 g6 g7
  obtain ⟨C4, e4, h1, h2, h3, h4, h5, h6, h7⟩ := eight_spec C3 (C.1 + 1) (-1)
  rw [← e4]
  obtain ⟨C5, e5, i1, i2, i3, i4, i5, i6, i7, i8, i9, i10⟩ := five_spec C4 C.1 (C.1 + 1)
  rw [← e5]
  have c34 : cle C3 C4 := cle_same h1 h3
  have c45 : cle C4 C5 := cle_same i1 i3
  have c25 : cle C2 C5 := g3.trans (c34.trans c45)
  have cl : cle C C5 := f6.trans c25
  have oI : ∀ a i, a ≠ C.1 → a ≠ C.1 + 1 → cI C5 a i = cI C a i := fun a i q1 q2 => by rw [i4 a i q1, h4 a i q2, g5 a i q2, f4 a i q1]
  have oJ : ∀ a i, a ≠ C.1 → a ≠ C.1 + 1 → cJ C5 a i = cJ C a i := fun a i q1 q2 => by rw [i5, h5, g6 a i q2, f5 a i q1]
  have oR : ∀ a i, a ≠ C.1 → a ≠ C.1 + 1 → cR C5 a i = cR C a i := fun a i q1 q2 => by rw [i6 a i (fun z => q1 z.1), h6, g7 a i q2, f3 a i q1]
  have of' : ofr C C5 := ⟨cl, fun a ha => ⟨fun i => oI a i (by omega) (by omega), fun i => oJ a i (by omega) (by omega), fun i => oR a i (by omega) (by omega)⟩⟩
  refine hK C5 of' ⟨f7.le c25, ?_, ?_, i7, g0.le (c34.trans c45), i8, i9, i10, ?_, ?_, fun i hi => ?_, fun m hm => absurd hm (Nat.not_lt_zero _), ?_, ?_⟩
  · rw [i6 _ _ (fun z => absurd z.2 (by decide)), h6, g7 _ _ (by omega)]; exact f1
  · rw [i6 _ _ (fun z => absurd z.2 (by decide)), h6, g7 _ _ (by omega)]; exact f2
  · rw [i1, h1, g1]; rfl
  · rw [i2, h2, g2, f8]; rfl
  · rw [i4 _ _ (by omega), h7 i hi]; rfl
  · exact hT.o of' hC
  · exact hF.o of' hC
/-- the types of a parameter -/
def tyO (x : Option Nat) : Nat := match x with
  | none => 0
  | some y => if y = 42 then 31 else if y = 98 then 6 else if y = 108 then 24 else if y = 110 then 1 else if y = 112 then 16 else 0
theorem c_type {x : Option Nat} (hx : ∀ y, x = some y → y < 65536) (hK : K (some (.int (nI (tyO x)))) C) : cM c d eX6_typeOf [.int (rfI x)] C K := by
  have hx' : ∀ y, x = some y → y < 2 ^ 31 := fun y e => by have := hx y e; omega
  have e : ∀ b : Nat, b < 2 ^ 31 → (rfI x = nI b ↔ x = some b) := fun b hb => rf_eq hx' b hb
  have e42 : rfI x = 42 ↔ x = some 42 := e 42 (by decide)
  have e98 : rfI x = 98 ↔ x = some 98 := e 98 (by decide)
  have e108 : rfI x = 108 ↔ x = some 108 := e 108 (by decide)
  have e110 : rfI x = 110 ↔ x = some 110 := e 110 (by decide)
  have e112 : rfI x = 112 ↔ x = some 112 := e 112 (by decide)
  refine w_X6_typeOf (rfI x) ?_
  rw [e42, e98, e108, e110, e112]
  refine ⟨fun q => ?_, fun q => ?_, fun q => ?_, fun q => ?_, fun q => ?_, fun q => ?_⟩
  · subst q; exact hK
  · subst q; exact hK
  · subst q; exact hK
  · subst q; exact hK
  · subst q; exact hK
  · have z : tyO x = 0 := by
      cases x with
      | none => rfl
      | some y =>
        simp only [Option.some.injEq] at q
        show (if _ then _ else _) = 0
        rw [if_neg (by omega), if_neg (by omega), if_neg (by omega), if_neg (by omega), if_neg (by omega)]
    rw [z] at hK
    exact hK
end RDW
