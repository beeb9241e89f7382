/-! The class's reader: where its things stand, its small methods. -/
def TXT (C : cS) (ch : Nat → Option Nat) (len : Nat) : Prop := cT C 2 7 2 ∧ cR C 2 0 = some 3 ∧ cT C 3 23 60 ∧ cI C 2 1 = nI len ∧ ∀ i, i < len → ∃ c, ch i = some c ∧ cI C 3 i = nI c
def FD (C : cS) (fd : Nat → Bool) : Prop := cT C 4 26 3 ∧ ∀ i, i < 3 → (cR C 4 i).isSome = fd i
/-- everything below rd stands, and what the reader at rd keeps of a definition -/
def pfr (rd : Nat) (C C' : cS) : Prop := cle C C' ∧ (∀ a, a < rd → (∀ i, cI C' a i = cI C a i) ∧ (∀ i, cJ C' a i = cJ C a i) ∧ ∀ i, cR C' a i = cR C a i) ∧ ∀ i, 6 ≤ i → cI C' rd i = cI C rd i
theorem pfr.refl (rd : Nat) (C : cS) : pfr rd C C := ⟨cle.refl _, fun _ _ => ⟨fun _ => rfl, fun _ => rfl, fun _ => rfl⟩, fun _ _ => rfl⟩
theorem pfr.trans {rd : Nat} {A B C : cS} (h : pfr rd A B) (k : pfr rd B C) : pfr rd A C := ⟨h.1.trans k.1, fun a ha => ⟨fun i => ((k.2.1 a ha).1 i).trans ((h.2.1 a ha).1 i), fun i => ((k.2.1 a ha).2.1 i).trans ((h.2.1 a ha).2.1 i), fun i => ((k.2.1 a ha).2.2 i).trans ((h.2.1 a ha).2.2 i)⟩, fun i hi => (k.2.2 i hi).trans (h.2.2 i hi)⟩
theorem pfr_csi (rd : Nat) (C : cS) (a i : Nat) (v : Int32) (h : rd < a) : pfr rd C (csi C a i v) := ⟨cle_same rfl rfl, fun b hb => ⟨fun j => cI_csi_ne _ _ (by omega), fun _ => rfl, fun _ => rfl⟩, fun j hj => cI_csi_ne _ _ (by omega)⟩
theorem TXT.p {rd : Nat} {A B : cS} {ch : Nat → Option Nat} {len : Nat} (h : TXT A ch len) (k : pfr rd A B) (hr : 400 ≤ rd) : TXT B ch len := by
  obtain ⟨h1, h2, h3, h4, h5⟩ := h
  refine ⟨h1.le k.1, by rw [(k.2.1 2 (by omega)).2.2]; exact h2, h3.le k.1, by rw [(k.2.1 2 (by omega)).1]; exact h4, fun i hi => ?_⟩
  obtain ⟨c, e1, e2⟩ := h5 i hi
  exact ⟨c, e1, by rw [(k.2.1 3 (by omega)).1]; exact e2⟩
theorem FD.p {rd : Nat} {A B : cS} {fd : Nat → Bool} (h : FD A fd) (k : pfr rd A B) (hr : 400 ≤ rd) : FD B fd := ⟨h.1.le k.1, fun i hi => by rw [(k.2.1 4 (by omega)).2.2]; exact h.2 i hi⟩
/-- a reader at rd -/
def RD (C : cS) (rd w0 : Nat) (ch : Nat → Option Nat) (len : Nat) (fd : Nat → Bool) (sm : Nat → Option Nat) (s : pS) : Prop :=
  cT C rd 6 8 ∧ cR C rd 0 = some 2 ∧ cR C rd 1 = some 4 ∧ cR C rd 2 = some (rd + 1) ∧ cT C (rd + 1) 20 8 ∧ cI C rd 3 = nI s.2.1 ∧ cI C rd 4 = nI s.2.2.1 ∧ cI C rd 5 = nI s.1 ∧ C.1 = rd + 2 + s.2.2.1 ∧ C.2.1 = w0 + 7 * s.2.2.1 ∧ (∀ i, i < 8 → cI C (rd + 1) i = rfI (sm i)) ∧ (∀ m, m < s.2.2.1 → nAt C (rd + 2) s.2.2.2 m) ∧ TXT C ch len ∧ FD C fd
def smO (sm : Nat → Option Nat) : Prop := ∀ i t, sm i = some t → t < 17
section RDS
variable {D : Nat} {c : cX} {d : Nat} {C : cS} {K : Option Value → cS → Prop} {rd w0 len : Nat} {ch : Nat → Option Nat} {fd : Nat → Bool} {sm : Nat → Option Nat} {s : pS}
theorem c_peekAt {p : Nat} (hT : TXT C ch len) (hc : chO ch len) (hp : p < 200) (hK : K (some (.int (rfI (ch p)))) C) : cM c d eX7_characterAt [.ref 2, .int (nI p)] C K := by
  have hl := hc.1
  refine w_X7_characterAt 2 (nI p) ⟨fun h => absurd h (nI_pos (by omega)), fun _ => ⟨hT.1, ?_⟩⟩
  rw [hT.2.2.2.1]
  have cmp : nI len ≤ nI p ↔ len ≤ p := by
    rw [Int32.le_iff_toInt_le, nI_toInt (by omega), nI_toInt (by omega)]
    omega
  rw [cmp]
  refine ⟨fun h => ?_, fun h => ⟨3, hT.2.1, 60, hT.2.2.1, p, am_ix_n (by omega) (by decide), ?_⟩⟩
  · rw [hc.2.1 p h] at hK; exact hK
  · obtain ⟨x, e1, e2⟩ := hT.2.2.2.2 p (by omega)
    rw [e2]
    rw [e1] at hK
    exact hK
theorem c_peek (h : RD C rd w0 ch len fd sm s) (hc : chO ch len) (hp : s.1 < 200) (hK : K (some (.int (rfI (ch s.1)))) C) : cM c (d + 1) eX6_peek [.ref rd] C K := by
  refine w_X6_peek rd ⟨h.1, 2, h.2.1, h.2.2.2.2.2.2.2.2.2.2.2.2.1.1, ?_⟩
  rw [h.2.2.2.2.2.2.2.1]
  exact c_peekAt h.2.2.2.2.2.2.2.2.2.2.2.2.1 hc hp ⟨_, rfl, cle.refl _, hK⟩
theorem rf_lt {o : Option Nat} (h : ∀ x, o = some x → x < 2 ^ 31) (b : Nat) (hb : b < 2 ^ 31) : rfI o < nI b ↔ ∀ x, o = some x → x < b := by
  cases o with
  | none =>
    refine ⟨fun _ x hx => (by cases hx), fun _ => ?_⟩
    show (-1 : Int32) < nI b
    rw [Int32.lt_iff_toInt_lt, nI_toInt hb]
    have : ((-1 : Int32).toInt) = -1 := by decide
    omega
  | some x =>
    have hx := h x rfl
    refine ⟨fun q y hy => ?_, fun q => ?_⟩
    · cases hy; exact (nI_ltI hx hb).mp q
    · exact (nI_ltI hx hb).mpr (q x rfl)
theorem rf_eq {o : Option Nat} (h : ∀ x, o = some x → x < 2 ^ 31) (b : Nat) (hb : b < 2 ^ 31) : rfI o = nI b ↔ o = some b := by
  cases o with
  | none =>
    refine ⟨fun q => ?_, fun q => by cases q⟩
    have h2 := nI_pos hb
    rw [← show (-1 : Int32) = nI b from q] at h2
    exact absurd (by decide) h2
  | some x =>
    have hx := h x rfl
    refine ⟨fun q => ?_, fun q => ?_⟩
    · rw [(nI_eq hx hb).mp q]
    · cases q; rfl
theorem c_slotOf (h : RD C rd w0 ch len fd sm s) {x : Option Nat} (hx : ∀ y, x = some y → y < 65536) (hK : K (some (.int (rfI (x.bind (sOf sm))))) C) : cM c d eX6_slotOf [.ref rd, .int (rfI x)] C K := by
  have l1 : rfI x < 97 ↔ ∀ y, x = some y → y < 97 := rf_lt (fun y e => by have := hx y e; omega) 97 (by decide)
  have l2 : rfI x < 105 ↔ ∀ y, x = some y → y < 105 := rf_lt (fun y e => by have := hx y e; omega) 105 (by decide)
  have l3 : (105 : Int32) ≤ rfI x ↔ ¬ rfI x < 105 := by rw [Int32.le_iff_toInt_le, Int32.lt_iff_toInt_lt]; omega
  refine w_X6_slotOf rd (rfI x) ⟨fun q => ?_, fun q => ⟨fun q2 => ?_, fun q2 => ?_⟩⟩
  · have e : x.bind (sOf sm) = none := by
      cases x with
      | none => rfl
      | some y => show sOf sm y = none; unfold sOf; rw [if_neg (by have := l1.mp q y rfl; omega)]
    rw [e] at hK; exact hK
  · have e : x.bind (sOf sm) = none := by
      cases x with
      | none => rfl
      | some y =>
        show sOf sm y = none
        unfold sOf
        rw [if_neg]
        intro z
        exact l3.mp q2 (l2.mpr fun y' h' => by cases h'; exact z.2)
    rw [e] at hK; exact hK
  · cases x with
    | none => exact absurd (l1.mpr fun y hy => by cases hy) q
    | some y =>
      have y1 : 97 ≤ y := by
        refine Nat.le_of_not_lt fun z => q (l1.mpr fun y' h' => ?_)
        cases h'; exact z
      have y2 : y < 105 := by
        refine Decidable.byContradiction fun z => q2 (l3.mpr fun w => z (l2.mp w y rfl))
      have e1 : rfI (some y) - 97 = nI (y - 97) := pk_sub (a := y) (b := 97) y1
      rw [e1]
      refine ⟨h.1, rd + 1, h.2.2.2.1, 8, h.2.2.2.2.1, y - 97, am_ix_n (by omega) (by decide), ?_⟩
      rw [h.2.2.2.2.2.2.2.2.2.2.1 (y - 97) (by omega)]
      have e : (some y).bind (sOf sm) = sm (y - 97) := by show sOf sm y = _; unfold sOf; rw [if_pos ⟨y1, y2⟩]
      rw [e] at hK
      exact hK
theorem c_isK {x : Option Nat} (hx : ∀ y, x = some y → y < 65536) (h1 : (∃ y, x = some y ∧ isK y) → K (some (.int 1)) C) (h0 : (∀ y, x = some y → ¬ isK y) → K (some (.int 0)) C) : cM c d eX6_isConstant [.int (rfI x)] C K := by
  have hx' : ∀ y, x = some y → y < 2 ^ 31 := fun y e => by have := hx y e; omega
  have l1 : rfI x < 48 ↔ ∀ y, x = some y → y < 48 := rf_lt hx' 48 (by decide)
  have l2 : rfI x < 58 ↔ ∀ y, x = some y → y < 58 := rf_lt hx' 58 (by decide)
  have l3 : rfI x ≤ (57 : Int32) ↔ rfI x < 58 := by
    rw [Int32.le_iff_toInt_le, Int32.lt_iff_toInt_lt]
    have a : ((57 : Int32).toInt) = 57 := by decide
    have b : ((58 : Int32).toInt) = 58 := by decide
    omega
  have e35 : rfI x = 35 ↔ x = some 35 := rf_eq hx' 35 (by decide)
  have e126 : rfI x = 126 ↔ x = some 126 := rf_eq hx' 126 (by decide)
  have e46 : rfI x = 46 ↔ x = some 46 := rf_eq hx' 46 (by decide)
  have tail : (∀ y, x = some y → ¬ (48 ≤ y ∧ y ≤ 57)) → cG c eX6_isConstant d (cQ K) 12 [some (.int (rfI x))] [] C := by
    intro hn
    refine w_X6_isConstant_12 (rfI x) ⟨fun q => h1 ⟨35, e35.mp q, by unfold isK; omega⟩, fun q => ⟨fun q2 => h1 ⟨126, e126.mp q2, by unfold isK; omega⟩, fun q2 => ⟨fun q3 => h0 fun y hy => ?_, fun q3 => h1 ⟨46, e46.mp q3, by unfold isK; omega⟩⟩⟩⟩
    have z1 := hn y hy
    have z2 : y ≠ 35 := fun z => q (e35.mpr (by rw [hy, z]))
    have z3 : y ≠ 126 := fun z => q2 (e126.mpr (by rw [hy, z]))
    have z4 : y ≠ 46 := fun z => q3 (e46.mpr (by rw [hy, z]))
    unfold isK
    omega
  refine w_X6_isConstant (rfI x) ⟨fun q => tail fun y hy => by have := l1.mp q y hy; omega, fun q => ⟨fun q2 => h1 ?_, fun q2 => tail fun y hy => ?_⟩⟩
  · cases x with
    | none => exact absurd (l1.mpr fun y hy => by cases hy) q
    | some y =>
      refine ⟨y, rfl, Or.inl ⟨?_, ?_⟩⟩
      · refine Nat.le_of_not_lt fun z => q (l1.mpr fun y' h' => ?_)
        cases h'; exact z
      · have := l2.mp (l3.mp q2) y rfl; omega
  · intro z
    exact q2 (l3.mpr (l2.mpr fun y' h' => by rw [hy] at h'; cases h'; omega))
end RDS
