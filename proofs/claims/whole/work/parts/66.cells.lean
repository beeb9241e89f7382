/-! The cells. -/
/-- kind, number, halves -/
abbrev cE : Type := Nat × Int32 × Option Nat × Option Nat
abbrev cL : Type := Nat × (Nat → cE)
def cAdd (L : cL) (x : cE) : cL := (L.1 + 1, up L.2 L.1 x)
def clO (L : cL) : Prop := 13 ≤ L.1 ∧ L.1 ≤ 64 ∧ ∀ i, i < L.1 → ((L.2 i).1 = 1 ∨ (L.2 i).1 = 2 ∨ (L.2 i).1 = 4 ∨ (L.2 i).1 = 8 ∨ (L.2 i).1 = 16) ∧ ((L.2 i).1 = 4 ↔ i = 1) ∧ (∀ a, (L.2 i).2.2.1 = some a → a < i) ∧ (∀ a, (L.2 i).2.2.2 = some a → a < i) ∧ ((L.2 i).1 = 16 → (L.2 i).2.2.1.isSome ∧ (L.2 i).2.2.2.isSome)
theorem clO.add {L : cL} {x : cE} (h : clO L) (hL : L.1 < 64) (hx : (x.1 = 1 ∧ x.2.2.1 = none ∧ x.2.2.2 = none) ∨ (x.1 = 16 ∧ ∃ a b, a < L.1 ∧ b < L.1 ∧ x.2.2.1 = some a ∧ x.2.2.2 = some b)) : clO (cAdd L x) := by
  have h13 := h.1
  refine ⟨by show 13 ≤ L.1 + 1; omega, by show L.1 + 1 ≤ 64; omega, fun i hi => ?_⟩
  have hi' : i < L.1 + 1 := hi
  by_cases e : i = L.1
  · subst e
    have ex : (cAdd L x).2 L.1 = x := up_same _ _ _
    rw [ex]
    rcases hx with ⟨h1, h2, h3⟩ | ⟨h1, a, b, h2, h3, h4, h5⟩
    · rw [h1, h2, h3]
      exact ⟨Or.inl rfl, ⟨fun z => absurd z (by decide), fun z => by omega⟩, fun a z => (by cases z), fun a z => (by cases z), fun z => absurd z (by decide)⟩
    · rw [h1, h4, h5]
      exact ⟨Or.inr (Or.inr (Or.inr (Or.inr rfl))), ⟨fun z => absurd z (by decide), fun z => by omega⟩, fun a z => (by cases z; exact h2), fun a z => (by cases z; exact h3), fun _ => ⟨rfl, rfl⟩⟩
  · have ex : (cAdd L x).2 i = L.2 i := up_ne _ _ e
    rw [ex]
    exact h.2.2 i (by omega)
theorem clO.k {L : cL} {i : Nat} (h : clO L) (hi : i < L.1) : (L.2 i).1 < 32 := by
  rcases (h.2.2 i hi).1 with e | e | e | e | e <;> omega
/-- the cells stand at 350 -/
def CLS (C : cS) (kept : Nat) (L : cL) : Prop := cT C 350 0 6 ∧ cR C 350 0 = some 351 ∧ cR C 350 1 = some 352 ∧ cR C 350 2 = some 353 ∧ cR C 350 3 = some 354 ∧ cT C 351 20 64 ∧ cT C 352 20 64 ∧ cT C 353 20 64 ∧ cT C 354 20 64 ∧ cI C 350 4 = nI kept ∧ cI C 350 5 = nI L.1 ∧
  ∀ i, i < L.1 → cI C 351 i = nI (L.2 i).1 ∧ cI C 352 i = (L.2 i).2.1 ∧ cI C 353 i = rfI (L.2 i).2.2.1 ∧ cI C 354 i = rfI (L.2 i).2.2.2
/-- everything stands but the cells -/
def lfr (C C' : cS) : Prop := C'.1 = C.1 ∧ C'.2.1 = C.2.1 ∧ C'.2.2.1 = C.2.2.1 ∧ (∀ a i, cR C' a i = cR C a i) ∧ (∀ a i, cJ C' a i = cJ C a i) ∧ ∀ a i, ¬ (350 ≤ a ∧ a ≤ 354) → cI C' a i = cI C a i
theorem lfr.refl (C : cS) : lfr C C := ⟨rfl, rfl, rfl, fun _ _ => rfl, fun _ _ => rfl, fun _ _ _ => rfl⟩
theorem lfr.trans {A B C : cS} (h : lfr A B) (k : lfr B C) : lfr A C := ⟨k.1.trans h.1, k.2.1.trans h.2.1, k.2.2.1.trans h.2.2.1, fun a i => (k.2.2.2.1 a i).trans (h.2.2.2.1 a i), fun a i => (k.2.2.2.2.1 a i).trans (h.2.2.2.2.1 a i), fun a i q => (k.2.2.2.2.2 a i q).trans (h.2.2.2.2.2 a i q)⟩
theorem lfr.le {A B : cS} (h : lfr A B) : cle A B := cle_same h.1 h.2.2.1
section CEL
variable {c : cX} {d : Nat} {C : cS} {K : Option Value → cS → Prop} {kept : Nat} {L : cL}
theorem c_isOf {v q : Nat} (h : CLS C kept L) (ho : clO L) (hv : v < L.1) (hq : q < 32) (hK : K (some (.int (if (L.2 v).1 &&& q = 0 then 0 else 1))) C) : cM c d eX0_isOf [.ref 350, .int (nI v), .int (nI q)] C K := by
  have h64 := ho.2.1
  refine w_X0_isOf 350 (nI v) (nI q) ⟨fun z => absurd z (nI_pos (by omega)), fun _ => ⟨h.1, ?_⟩⟩
  rw [h.2.2.2.2.2.2.2.2.2.2.1]
  refine ⟨fun z => absurd ((nI_leI (by omega) (by omega)).mp z) (by omega), fun _ => ⟨fun z => absurd ((nI_leI (a := 64) (by omega) (by omega)).mp z) (by omega), fun _ => ⟨351, h.2.1, 64, h.2.2.2.2.2.1, v, am_ix_n (by omega) (by decide), ?_⟩⟩⟩
  rw [(h.2.2.2.2.2.2.2.2.2.2.2 v hv).1, k_a0 _ (ho.k hv) q hq]
  refine ⟨fun z => ?_, fun z => ?_⟩
  · rw [if_pos z] at hK; exact hK
  · rw [if_neg z] at hK; exact hK
theorem c_part1 {v : Nat} (h : CLS C kept L) (ho : clO L) (hv : v < L.1) (hK : K (some (.int (L.2 v).2.1)) C) : cM c d eX0_part [.ref 350, .int (nI v), .int 1] C K := by
  have h64 := ho.2.1
  refine w_X0_part 350 (nI v) 1 ⟨fun z => absurd z (nI_pos (by omega)), fun _ => ⟨h.1, ?_⟩⟩
  rw [h.2.2.2.2.2.2.2.2.2.2.1]
  refine ⟨fun z => absurd ((nI_leI (by omega) (by omega)).mp z) (by omega), fun _ => ⟨fun _ => ⟨fun _ => ⟨fun z => absurd rfl z, fun _ => ⟨352, h.2.2.1, 64, h.2.2.2.2.2.2.1, v, am_ix_n (by omega) (by decide), ?_⟩⟩, fun z => absurd z (by decide)⟩, fun z => absurd ((nI_ltI (b := 64) (by omega) (by omega)).mpr (by omega)) z⟩⟩
  rw [(h.2.2.2.2.2.2.2.2.2.2.2 v hv).2.1]
  exact hK
theorem c_part2 {v : Nat} (h : CLS C kept L) (ho : clO L) (hv : v < L.1) (hK : K (some (.int (rfI (L.2 v).2.2.1))) C) : cM c d eX0_part [.ref 350, .int (nI v), .int 2] C K := by
  have h64 := ho.2.1
  refine w_X0_part 350 (nI v) 2 ⟨fun z => absurd z (nI_pos (by omega)), fun _ => ⟨h.1, ?_⟩⟩
  rw [h.2.2.2.2.2.2.2.2.2.2.1]
  refine ⟨fun z => absurd ((nI_leI (by omega) (by omega)).mp z) (by omega), fun _ => ⟨fun _ => ⟨fun _ => ⟨fun _ => ⟨fun z => absurd rfl z, fun _ => ⟨353, h.2.2.2.1, 64, h.2.2.2.2.2.2.2.1, v, am_ix_n (by omega) (by decide), ?_⟩⟩, fun z => absurd z (by decide)⟩, fun z => absurd z (by decide)⟩, fun z => absurd ((nI_ltI (b := 64) (by omega) (by omega)).mpr (by omega)) z⟩⟩
  rw [(h.2.2.2.2.2.2.2.2.2.2.2 v hv).2.2.1]
  exact hK
theorem c_part3 {v : Nat} (h : CLS C kept L) (ho : clO L) (hv : v < L.1) (hK : K (some (.int (rfI (L.2 v).2.2.2))) C) : cM c d eX0_part [.ref 350, .int (nI v), .int 3] C K := by
  have h64 := ho.2.1
  refine w_X0_part 350 (nI v) 3 ⟨fun z => absurd z (nI_pos (by omega)), fun _ => ⟨h.1, ?_⟩⟩
  rw [h.2.2.2.2.2.2.2.2.2.2.1]
  refine ⟨fun z => absurd ((nI_leI (by omega) (by omega)).mp z) (by omega), fun _ => ⟨fun _ => ⟨fun _ => ⟨fun _ => ⟨fun _ => ⟨354, h.2.2.2.2.1, 64, h.2.2.2.2.2.2.2.2.1, v, am_ix_n (by omega) (by decide), ?_⟩, fun z => absurd z (by decide)⟩, fun z => absurd z (by decide)⟩, fun z => absurd z (by decide)⟩, fun z => absurd ((nI_ltI (b := 64) (by omega) (by omega)).mpr (by omega)) z⟩⟩
  rw [(h.2.2.2.2.2.2.2.2.2.2.2 v hv).2.2.2]
  exact hK
theorem c_part0 {v : Nat} (h : CLS C kept L) (ho : clO L) (hv : v < L.1) (hK : K (some (.int (nI (L.2 v).1))) C) : cM c d eX0_part [.ref 350, .int (nI v), .int 0] C K := by
  have h64 := ho.2.1
  refine w_X0_part 350 (nI v) 0 ⟨fun z => absurd z (nI_pos (by omega)), fun _ => ⟨h.1, ?_⟩⟩
  rw [h.2.2.2.2.2.2.2.2.2.2.1]
  refine ⟨fun z => absurd ((nI_leI (by omega) (by omega)).mp z) (by omega), fun _ => ⟨fun _ => ⟨fun z => absurd rfl z, fun _ => ⟨351, h.2.1, 64, h.2.2.2.2.2.1, v, am_ix_n (by omega) (by decide), ?_⟩⟩, fun z => absurd ((nI_ltI (b := 64) (by omega) (by omega)).mpr (by omega)) z⟩⟩
  rw [(h.2.2.2.2.2.2.2.2.2.2.2 v hv).1]
  exact hK
theorem add_spec (C : cS) (n : Nat) (a b e f g : Int32) : ∃ C3, C3 = csi (csi (csi (csi (csi C 351 n a) 352 n b) 353 n e) 354 n f) 350 5 g ∧ lfr C C3 ∧ cI C3 350 4 = cI C 350 4 ∧ cI C3 350 5 = g ∧ cI C3 351 n = a ∧ cI C3 352 n = b ∧ cI C3 353 n = e ∧ cI C3 354 n = f ∧ ∀ t i, 351 ≤ t → i ≠ n → cI C3 t i = cI C t i := by
  refine ⟨_, rfl, ⟨rfl, rfl, rfl, fun _ _ => rfl, fun _ _ => rfl, fun t i q => ?_⟩, ?_, cI_csi _ _ _ _, ?_, ?_, ?_, ?_, fun t i ht hi => ?_⟩
  · rw [cI_csi_ne _ _ (by omega), cI_csi_ne _ _ (by omega), cI_csi_ne _ _ (by omega), cI_csi_ne _ _ (by omega), cI_csi_ne _ _ (by omega)]
  · rw [cI_csi_ne _ _ (by omega), cI_csi_ne _ _ (by omega), cI_csi_ne _ _ (by omega), cI_csi_ne _ _ (by omega), cI_csi_ne _ _ (by omega)]
  · rw [cI_csi_ne _ _ (by omega), cI_csi_ne _ _ (by omega), cI_csi_ne _ _ (by omega), cI_csi_ne _ _ (by omega), cI_csi]
  · rw [cI_csi_ne _ _ (by omega), cI_csi_ne _ _ (by omega), cI_csi_ne _ _ (by omega), cI_csi]
  · rw [cI_csi_ne _ _ (by omega), cI_csi_ne _ _ (by omega), cI_csi]
  · rw [cI_csi_ne _ _ (by omega), cI_csi]
  · rw [cI_csi_ne _ _ (by omega), cI_csi_ne _ _ (by omega), cI_csi_ne _ _ (by omega), cI_csi_ne _ _ (by omega), cI_csi_ne _ _ (by omega)]
theorem c_add {k : Nat} {v : Int32} {a b : Option Nat} (h : CLS C kept L) (h64 : L.1 ≤ 64) (hf : L.1 = 64 → K (some (.int (-1))) C) (hK : L.1 < 64 → ∀ C', lfr C C' → CLS C' kept (cAdd L (k, v, a, b)) → K (some (.int (nI L.1))) C') : cM c d eX0_add [.ref 350, .int (nI k), .int v, .int (rfI a), .int (rfI b)] C K := by
  have e5 := h.2.2.2.2.2.2.2.2.2.2.1
  refine w_X0_add 350 (nI k) v (rfI a) (rfI b) ⟨h.1, ?_⟩
  rw [e5]
  refine ⟨fun z => absurd z (nI_pos (by omega)), fun _ => ⟨fun z => ?_, fun z => ?_⟩⟩
  · have hl : L.1 < 64 := (nI_ltI (b := 64) (by omega) (by omega)).mp z
    have e0 : cI (csi (csi (csi (csi C 351 L.1 (nI k)) 352 L.1 v) 353 L.1 (rfI a)) 354 L.1 (rfI b)) 350 5 = nI L.1 := by rw [cI_csi_ne _ _ (by omega), cI_csi_ne _ _ (by omega), cI_csi_ne _ _ (by omega), cI_csi_ne _ _ (by omega)]; exact e5
    refine ⟨351, h.2.1, 64, h.2.2.2.2.2.1, L.1, am_ix_n hl (by decide), 352, h.2.2.1, 64, h.2.2.2.2.2.2.1, L.1, am_ix_n hl (by decide), 353, h.2.2.2.1, 64, h.2.2.2.2.2.2.2.1, L.1, am_ix_n hl (by decide), 354, h.2.2.2.2.1, 64, h.2.2.2.2.2.2.2.2.1, L.1, am_ix_n hl (by decide), ?_⟩
    rw [e0]
    obtain ⟨C3, e3, g1, g2, g3, g4, g5, g6, g7, g8⟩ := add_spec C L.1 (nI k) v (rfI a) (rfI b) (nI L.1 + 1)
    rw [← e3]
    refine hK hl C3 g1 ⟨h.1.le g1.le, by rw [g1.2.2.2.1]; exact h.2.1, by rw [g1.2.2.2.1]; exact h.2.2.1, by rw [g1.2.2.2.1]; exact h.2.2.2.1, by rw [g1.2.2.2.1]; exact h.2.2.2.2.1, h.2.2.2.2.2.1.le g1.le, h.2.2.2.2.2.2.1.le g1.le, h.2.2.2.2.2.2.2.1.le g1.le, h.2.2.2.2.2.2.2.2.1.le g1.le, by rw [g2]; exact h.2.2.2.2.2.2.2.2.2.1, by rw [g3, nI_1]; rfl, fun i hi => ?_⟩
    by_cases q : i = L.1
    · subst q
      rw [show (cAdd L (k, v, a, b)).2 L.1 = (k, v, a, b) from up_same _ _ _]
      exact ⟨g4, g5, g6, g7⟩
    · rw [show (cAdd L (k, v, a, b)).2 i = L.2 i from up_ne _ _ q]
      have hi' : i < L.1 + 1 := hi
      rw [g8 351 i (by decide) q, g8 352 i (by decide) q, g8 353 i (by decide) q, g8 354 i (by decide) q]
      exact h.2.2.2.2.2.2.2.2.2.2.2 i (by omega)
  · have hl : ¬ L.1 < 64 := fun w => z ((nI_ltI (b := 64) (by omega) (by omega)).mpr w)
    exact hf (by omega)
theorem c_addN {v : Int32} (h : CLS C kept L) (h64 : L.1 ≤ 64) (hf : L.1 = 64 → K (some (.int (-1))) C) (hK : L.1 < 64 → ∀ C', lfr C C' → CLS C' kept (cAdd L (1, v, none, none)) → K (some (.int (nI L.1))) C') : cM c (d + 1) eX0_addNumber [.ref 350, .int v] C K := by
  refine w_X0_addNumber 350 v ⟨h.1, ?_⟩
  exact c_add (k := 1) (a := none) (b := none) h h64 (fun z => ⟨_, rfl, cle.refl _, hf z⟩) (fun z C' k hC => ⟨_, rfl, k.le, hK z C' k hC⟩)
theorem c_addP {a b : Nat} (h : CLS C kept L) (h64 : L.1 ≤ 64) (hf : L.1 = 64 → K (some (.int (-1))) C) (hK : L.1 < 64 → ∀ C', lfr C C' → CLS C' kept (cAdd L (16, 0, some a, some b)) → K (some (.int (nI L.1))) C') : cM c (d + 1) eX0_addPair [.ref 350, .int (nI a), .int (nI b)] C K := by
  refine w_X0_addPair 350 (nI a) (nI b) ⟨h.1, ?_⟩
  exact c_add (k := 16) (a := some a) (b := some b) h h64 (fun z => ⟨_, rfl, cle.refl _, hf z⟩) (fun z C' k hC => ⟨_, rfl, k.le, hK z C' k hC⟩)
end CEL
