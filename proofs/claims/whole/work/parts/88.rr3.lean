/-! Slots against characters; the reference's reader: one part. -/
def rSl (r : (Nat → Option Nat) → pS → Nat ⊕ pS) : Prop := ∀ sm s s', r sm s = .inr s' → 4 * s'.2.1 + s.1 + 1 ≤ 4 * s.2.1 + s'.1
theorem pLeaf_sl (ch : Nat → Option Nat) : rSl (pLeaf ch) := by
  intro sm s s' h
  unfold pLeaf at h
  cases e : ch s.1 with
  | none => rw [e] at h; cases h
  | some c =>
    rw [e] at h
    simp only at h
    cases e2 : sOf sm c with
    | some t =>
      rw [e2] at h
      injection h with h
      subst h
      show 4 * s.2.1 + s.1 + 1 ≤ 4 * s.2.1 + (s.1 + 1)
      omega
    | none =>
      rw [e2] at h
      simp only at h
      by_cases q : isK c
      · rw [if_pos q] at h
        injection h with h
        subst h
        show 4 * s.2.1 + s.1 + 1 ≤ 4 * s.2.1 + (s.1 + 1)
        omega
      · rw [if_neg q] at h; cases h
theorem pPart_sl (ch : Nat → Option Nat) (fd : Nat → Bool) : ∀ b, rSl (pPart ch fd b)
  | 0 => by
    intro sm s s' h
    unfold pPart at h
    by_cases q : ch s.1 = some 40
    · rw [if_pos q] at h; cases h
    · rw [if_neg q] at h; exact pLeaf_sl ch sm s s' h
  | b + 1 => by
    intro sm s s' h
    have ih := pPart_sl ch fd b
    unfold pPart at h
    by_cases q : ch s.1 = some 40
    · rw [if_pos q] at h
      unfold pBr at h
      by_cases q0 : nPt fd sm (ch (s.1 + 1)) = 0
      · rw [if_pos q0] at h; cases h
      · rw [if_neg q0] at h
        have key : ∀ s1 : pS, pClose ch (.inr s1) = .inr s' → s' = (s1.1 + 1, s1.2) := by
          intro s1 h1
          unfold pClose at h1
          simp only at h1
          by_cases q1 : ch s1.1 = some 41
          · rw [if_pos q1] at h1
            injection h1 with h1
            exact h1.symm
          · rw [if_neg q1] at h1; cases h1
        by_cases q58 : ch (s.1 + 1) = some 58
        · rw [if_pos q58] at h
          cases e1 : pBind ch (pPart ch fd b) sm s.1 (s.1 + 2, s.2) with
          | inl e => rw [e1] at h; cases h
          | inr s9 =>
            rw [e1] at h
            have k9 := key s9 h
            subst k9
            unfold pBind at e1
            cases e0 : fNm sm (ch (s.1 + 2)) with
            | none => rw [e0] at e1; cases e1
            | some x =>
              rw [e0] at e1
              simp only at e1
              cases e2 : pPart ch fd b sm (s.1 + 2 + 1, s.2) with
              | inl e => rw [e2] at e1; cases e1
              | inr s1 =>
                rw [e2] at e1
                simp only at e1
                have i1 := ih _ _ _ e2
                have i1 : 4 * s1.2.1 + (s.1 + 2 + 1) + 1 ≤ 4 * s.2.1 + s1.1 := i1
                by_cases k17 : 17 ≤ s1.2.1
                · rw [if_pos k17] at e1; cases e1
                · rw [if_neg k17] at e1
                  cases e3 : pPart ch fd b (up sm x (some s1.2.1)) (s1.1, s1.2.1 + 1, s1.2.2) with
                  | inl e => rw [e3] at e1; cases e1
                  | inr s2 =>
                    rw [e3] at e1
                    injection e1 with e1
                    subst e1
                    have i2 := ih _ _ _ e3
                    have i2 : 4 * s2.2.1 + s1.1 + 1 ≤ 4 * (s1.2.1 + 1) + s2.1 := i2
                    show 4 * s2.2.1 + s.1 + 1 ≤ 4 * s.2.1 + (s2.1 + 1)
                    omega
        · rw [if_neg q58] at h
          cases e1 : pOper (pPart ch fd b sm) ((ch (s.1 + 1)).getD 0) s.1 (nPt fd sm (ch (s.1 + 1))) (s.1 + 2, s.2) with
          | inl e => rw [e1] at h; cases h
          | inr s9 =>
            rw [e1] at h
            have k9 := key s9 h
            subst k9
            unfold pOper at e1
            cases e2 : pPart ch fd b sm (s.1 + 2, s.2) with
            | inl e => rw [e2] at e1; cases e1
            | inr s1 =>
              rw [e2] at e1
              simp only at e1
              have i1 : 4 * s1.2.1 + (s.1 + 2) + 1 ≤ 4 * s.2.1 + s1.1 := ih _ _ _ e2
              by_cases c2 : nPt fd sm (ch (s.1 + 1)) < 2
              · rw [if_pos c2] at e1
                injection e1 with e1
                subst e1
                show 4 * s1.2.1 + s.1 + 1 ≤ 4 * s.2.1 + (s1.1 + 1)
                omega
              · rw [if_neg c2] at e1
                cases e3 : pPart ch fd b sm s1 with
                | inl e => rw [e3] at e1; cases e1
                | inr s2 =>
                  rw [e3] at e1
                  simp only at e1
                  have i2 := ih _ _ _ e3
                  by_cases c3 : nPt fd sm (ch (s.1 + 1)) < 3
                  · rw [if_pos c3] at e1
                    injection e1 with e1
                    subst e1
                    show 4 * s2.2.1 + s.1 + 1 ≤ 4 * s.2.1 + (s2.1 + 1)
                    omega
                  · rw [if_neg c3] at e1
                    cases e4 : pPart ch fd b sm s2 with
                    | inl e => rw [e4] at e1; cases e1
                    | inr s3 =>
                      rw [e4] at e1
                      injection e1 with e1
                      subst e1
                      have i3 := ih _ _ _ e4
                      show 4 * s3.2.1 + s.1 + 1 ≤ 4 * s.2.1 + (s3.1 + 1)
                      omega
    · rw [if_neg q] at h; exact pLeaf_sl ch sm s s' h
theorem nPt_pO (fd : Nat → Bool) (sm : Nat → Option Nat) (x : Option Nat) : nPt fd sm x = if x = some 58 ∧ ¬ hasF sm = true then 0 else (pO fd x).getD 0 := by
  cases x with
  | none => rfl
  | some y =>
    unfold nPt pO
    simp only [Option.some.injEq]
    by_cases q1 : y = 33 ∨ y = 65 ∨ y = 66 ∨ y = 68 ∨ y = 69 ∨ y = 78 ∨ y = 80
    · rw [if_pos q1, if_pos q1, if_neg (by omega)]; rfl
    · rw [if_neg q1, if_neg q1]
      by_cases q58 : y = 58
      · subst q58
        by_cases h : hasF sm = true <;> simp [h]
      · rw [if_neg (show ¬ (y = 58 ∧ ¬ hasF sm = true) from fun z => q58 z.1)]
        by_cases q2 : y = 38 ∨ y = 43 ∨ y = 45 ∨ y = 60 ∨ y = 67 ∨ y = 124
        · rw [if_pos q2, if_pos (show y = 38 ∨ y = 43 ∨ y = 45 ∨ y = 58 ∨ y = 60 ∨ y = 67 ∨ y = 124 by omega)]; rfl
        · rw [if_neg q2, if_neg q58, if_neg (show ¬ (y = 38 ∨ y = 43 ∨ y = 45 ∨ y = 58 ∨ y = 60 ∨ y = 67 ∨ y = 124) by omega)]
          by_cases q3 : y = 63
          · rw [if_pos q3, if_pos q3]; rfl
          · rw [if_neg q3, if_neg q3]
            by_cases q4 : 71 ≤ y ∧ y ≤ 73 ∧ fd (y - 71) = true
            · rw [if_pos q4, if_pos q4]; rfl
            · rw [if_neg q4, if_neg q4]; rfl
/-- a reader of the reference: as many nodes more as brackets are open -/
def RRE (S : rS) (ch : Nat → Option Nat) (len : Nat) (fd : Nat → Bool) (sm : Nat → Option Nat) (s : pS) (dp : Nat) : Prop := RTX S ch len fd ∧ S.1 20 0 = nI s.1 ∧ S.1 21 0 = nI dp ∧ S.1 23 0 = 0 ∧ S.1 11 4 = nI (s.2.2.1 + dp) ∧ SCP S sm
/-- what the pure reader's state keeps to -/
def pQ (len : Nat) (sm : Nat → Option Nat) (sc : List Nat) (s : pS) (dp : Nat) : Prop := scO sm sc ∧ pPre len s ∧ s.1 ≤ len ∧ 4 * s.2.1 ≤ 8 + s.1 ∧ s.2.2.1 + dp ≤ s.1 ∧ dp ≤ 6
/-- the contract of one part, b brackets left -/
def rpC (c : rX) (D : Nat) (ch : Nat → Option Nat) (len : Nat) (fd : Nat → Bool) (b : Nat) : Prop := ∀ (K : Option Value → rS → Prop) (S : rS) (sm : Nat → Option Nat) (sc : List Nat) (s : pS) (dp : Nat), dp + b = 6 → RRE S ch len fd sm s dp → pQ len sm sc s dp →
  (∀ e, pPart ch fd b sm s = .inl e → ∀ S', rfr (s.2.2.1 + dp) dp S S' → ¬ S'.1 23 0 = 0 → S'.1 20 0 = nI e → K (some (.int (-1))) S') →
  (∀ s', pPart ch fd b sm s = .inr s' → ∀ S', rfr (s.2.2.1 + dp) dp S S' → RRE S' ch len fd sm s' dp → rTr S' s'.2.2.2 (b + 1) (256 + (s.2.2.1 + dp)) (256 + (s'.2.2.1 + dp)) (s'.2.2.1 - 1) → JC c D K S' (nI (256 + (s.2.2.1 + dp)))) →
  JR c D K S
section RRC
variable {c : rX} {D d : Nat} {S : rS} {K : Option Value → rS → Prop} {ch : Nat → Option Nat} {len : Nat} {fd : Nat → Bool} {sm : Nat → Option Nat} {sc : List Nat} {s : pS} {dp : Nat}
/-- a leaf is made -/
theorem r_leafm (ho : rOK c) {b sg wh y : Nat} {o : Option Nat} (hS : RRE S ch len fd sm s dp) (hQ : pQ len sm sc s dp) (hl : len ≤ 60) (e1 : sgn (y, s.1, 0, o, []) = sg) (e2 : wht (y, s.1, 0, o, []) = wh)
    (hG : ∀ S', rfr (s.2.2.1 + dp) dp S S' → RRE S' ch len fd sm (pMk (s.1 + 1, s.2) (y, s.1, 0, o, [])) dp → rTr S' (pMk (s.1 + 1, s.2) (y, s.1, 0, o, [])).2.2.2 (b + 1) (256 + (s.2.2.1 + dp)) (256 + (s.2.2.1 + 1 + dp)) (s.2.2.1 + 1 - 1) → JC c D K S' (nI (256 + (s.2.2.1 + dp)))) :
    rM c (D + 2) eX10_create [.ref c.2.2.1, .int (nI sg), .int (nI wh), .int (S.1 20 0)] S (fun v S5 => ∃ z6 : Int32, v = some (.int z6) ∧ (rG c eX10_readPart (D + 2 + 1) (rQ c (JK c D K)) 142 [some (.ref c.2.2.1), none, some (.int z6)] [] S5)) := by
  obtain ⟨hT, h20, h21, h23, h11, hsc⟩ := hS
  obtain ⟨q1, q2, q3, q4, q5, q6⟩ := hQ
  rw [h20]
  refine r_create ho h11 (by omega) fun S1 a1 a2 a3 a4 a5 a6 a7 => ⟨_, rfl, ?_⟩
  refine w_X10_readPart_142 ho (nI (256 + (s.2.2.1 + dp))) (w_X10_close ho _ ?_)
  have o20 : S1.1 20 0 = nI s.1 := by rw [a7 20 0 (by omega) (by omega)]; exact h20
  rw [o20, nI_1]
  have b1 : ∀ f i, ¬ (f = 11 ∧ i = 4) → ¬ (4 ≤ f ∧ f ≤ 9 ∧ i = 256 + (s.2.2.1 + dp)) → ¬ (f = 20 ∧ i = 0) → (rsi S1 20 0 (nI (s.1 + 1))).1 f i = S.1 f i := fun f i z1 z2 z3 => by rw [rsi_ne _ _ z3]; exact a7 f i z1 z2
  have b2 : ∀ f i, ¬ (f = 20 ∧ i = 0) → (rsi S1 20 0 (nI (s.1 + 1))).1 f i = S1.1 f i := fun f i z => rsi_ne _ _ z
  have b3 : (rsi S1 20 0 (nI (s.1 + 1))).1 20 0 = nI (s.1 + 1) := rsi_i _ _ _ _
  have b4 : (rsi S1 20 0 (nI (s.1 + 1))).2 = S.2 := a1
  have fr : rfr (s.2.2.1 + dp) dp S (rsi S1 20 0 (nI (s.1 + 1))) := ⟨b4, fun f i z1 z2 z3 => b1 f i z2 (by omega) (by omega), fun f i z1 z2 z3 => b1 f i (by omega) (by omega) (by omega), fun i hi => b1 24 i (by omega) (by omega) (by omega)⟩
  generalize rsi S1 20 0 (nI (s.1 + 1)) = S2 at b1 b2 b3 b4 fr ⊢
  refine hG S2 fr ⟨hT.r fr, b3, by rw [b1 21 0 (by omega) (by omega) (by omega)]; exact h21, by rw [b1 23 0 (by omega) (by omega) (by omega)]; exact h23, ?_, hsc.cong (b1 22 0 (by omega) (by omega) (by omega))⟩ ?_
  · rw [b2 11 4 (by omega), a2]
    show nI (s.2.2.1 + dp + 1) = nI (s.2.2.1 + 1 + dp)
    congr 1
    omega
  · show rTr S2 (up s.2.2.2 s.2.2.1 (y, s.1, 0, o, [])) (b + 1) (256 + (s.2.2.1 + dp)) (256 + (s.2.2.1 + 1 + dp)) (s.2.2.1 + 1 - 1)
    rw [Nat.add_sub_cancel]
    unfold rTr
    rw [up_same, e1, e2]
    have k0 := fun i hi => (a6 i hi).2 (Nat.zero_le _)
    refine ⟨by rw [b2 4 _ (by omega)]; exact a3, by rw [b2 8 _ (by omega)]; exact a4, by rw [b2 9 _ (by omega)]; exact a5, ?_, ?_, ?_, by omega⟩
    · rw [b2 5 _ (by omega)]; exact k0 0 (by decide)
    · rw [b2 6 _ (by omega)]; exact k0 1 (by decide)
    · rw [b2 7 _ (by omega)]; exact k0 2 (by decide)
/-- one part: a leaf, or a bracket -/
theorem r_part (ho : rOK c) {b : Nat} (hc : chO ch len) (hS : RRE S ch len fd sm s dp) (hQ : pQ len sm sc s dp)
    (hE : ch s.1 ≠ some 40 → ∀ e, pLeaf ch sm s = .inl e → ∀ S', rfr (s.2.2.1 + dp) dp S S' → ¬ S'.1 23 0 = 0 → S'.1 20 0 = nI e → K (some (.int (-1))) S')
    (hG : ch s.1 ≠ some 40 → ∀ s', pLeaf ch sm s = .inr s' → ∀ S', rfr (s.2.2.1 + dp) dp S S' → RRE S' ch len fd sm s' dp → rTr S' s'.2.2.2 (b + 1) (256 + (s.2.2.1 + dp)) (256 + (s'.2.2.1 + dp)) (s'.2.2.1 - 1) → JC c D K S' (nI (256 + (s.2.2.1 + dp))))
    (h6 : ch s.1 = some 40 → 6 ≤ dp → K (some (.int (-1))) (rsi S 23 0 1))
    (hB : ch s.1 = some 40 → dp < 6 → rM c (D + 2) eX10_readBracket [.ref c.2.2.1] S (fun v S3 => v = none ∧ JR c D K S3)) :
    JR c D K S := by
  have hS0 := hS
  obtain ⟨hT, h20, h21, h23, h11, hsc⟩ := hS
  have hQ0 := hQ
  obtain ⟨q1, q2, q3, q4, q5, q6⟩ := hQ
  have hl := hc.1
  have hx : ∀ y, ch s.1 = some y → y < 2 ^ 31 := fun y e => by have := hc.2.2 _ _ e; omega
  have lt : ∀ b : Nat, b < 2 ^ 31 → (rfI (ch s.1) < nI b ↔ ∀ y, ch s.1 = some y → y < b) := fun b hb => rf_lt hx b hb
  have eq : ∀ b : Nat, b < 2 ^ 31 → (rfI (ch s.1) = nI b ↔ ch s.1 = some b) := fun b hb => rf_eq hx b hb
  have l48 : rfI (ch s.1) < 48 ↔ ∀ y, ch s.1 = some y → y < 48 := lt 48 (by decide)
  have l97 : rfI (ch s.1) < 97 ↔ ∀ y, ch s.1 = some y → y < 97 := lt 97 (by decide)
  have gt : ∀ b : Nat, b < 2 ^ 30 → (nI b < rfI (ch s.1) ↔ ∃ y, ch s.1 = some y ∧ b < y) := by
    intro b hb
    cases e : ch s.1 with
    | none =>
      refine ⟨fun z => ?_, fun z => by obtain ⟨y, z, _⟩ := z; cases z⟩
      exfalso
      have z : nI b < (-1 : Int32) := z
      rw [Int32.lt_iff_toInt_lt, nI_toInt (by omega)] at z
      have : ((-1 : Int32).toInt) = -1 := by decide
      omega
    | some y =>
      have hy := hx y e
      refine ⟨fun z => ⟨y, rfl, (nI_ltI (by omega) hy).mp z⟩, fun z => ?_⟩
      obtain ⟨y', z1, z2⟩ := z
      cases z1
      exact (nI_ltI (by omega) hy).mpr z2
  have g57 : (57 : Int32) < rfI (ch s.1) ↔ ∃ y, ch s.1 = some y ∧ 57 < y := gt 57 (by decide)
  have g104 : (104 : Int32) < rfI (ch s.1) ↔ ∃ y, ch s.1 = some y ∧ 104 < y := gt 104 (by decide)
  have e35 : rfI (ch s.1) = 35 ↔ ch s.1 = some 35 := eq 35 (by decide)
  have e40 : rfI (ch s.1) = 40 ↔ ch s.1 = some 40 := eq 40 (by decide)
  have e46 : rfI (ch s.1) = 46 ↔ ch s.1 = some 46 := eq 46 (by decide)
  have e126 : rfI (ch s.1) = 126 ↔ ch s.1 = some 126 := eq 126 (by decide)
  -- nothing fits here
  have bad : ch s.1 ≠ some 40 → pLeaf ch sm s = .inl s.1 → rG c eX10_readPart (D + 2 + 1) (rQ c (JK c D K)) 114 [some (.ref c.2.2.1), some (.int (rfI (ch s.1))), none] [] S := by
    intro n40 hp
    refine w_X10_readPart_114 ho (rfI (ch s.1)) ⟨fun _ => JK.no ho (JR.wrong ho (by rw [rsi_i]; decide) ?_), fun z => absurd (e40.mp z) n40⟩
    refine hE n40 s.1 hp _ ⟨rfl, fun f i z1 z2 z3 => rsi_ne _ _ (by omega), fun f i z1 z2 z3 => rsi_ne _ _ (by omega), fun i hi => rsi_ne _ _ (by omega)⟩ (by rw [rsi_i]; decide) (by rw [rsi_ne _ _ (by omega)]; exact h20)
  have brk : ch s.1 = some 40 → rG c eX10_readPart (D + 2 + 1) (rQ c (JK c D K)) 114 [some (.ref c.2.2.1), some (.int (rfI (ch s.1))), none] [] S := by
    intro y40
    refine w_X10_readPart_114 ho (rfI (ch s.1)) ⟨fun z => absurd (e40.mpr y40) z, fun _ => ?_⟩
    rw [h21, show (6 : Int32) ≤ nI dp ↔ 6 ≤ dp from nI_leI (a := 6) (by decide) (by omega)]
    refine ⟨fun z => JK.no ho (JR.wrong ho (by rw [rsi_i]; decide) (h6 y40 z)), fun z => ?_⟩
    exact (hB y40 (by omega)).mono fun v S3 w => ⟨w.1, JK.no ho w.2⟩
  -- a leaf that fits
  have leaf : ∀ (y sg wh : Nat) (o : Option Nat), ch s.1 ≠ some 40 → pLeaf ch sm s = .inr (pMk (s.1 + 1, s.2) (y, s.1, 0, o, [])) → sgn (y, s.1, 0, o, []) = sg → wht (y, s.1, 0, o, []) = wh → rM c (D + 2) eX10_create [.ref c.2.2.1, .int (nI sg), .int (nI wh), .int (S.1 20 0)] S (fun v S5 => ∃ z6 : Int32, v = some (.int z6) ∧ (rG c eX10_readPart (D + 2 + 1) (rQ c (JK c D K)) 142 [some (.ref c.2.2.1), none, some (.int z6)] [] S5)) := by
    intro y sg wh o n40 hp e1 e2
    exact r_leafm ho (b := b) hS0 hQ0 hl e1 e2 fun S' f1 r1 t1 => hG n40 _ hp S' f1 r1 t1
  refine JR.part ho h23 (w_X10_readPart ho (r_peek ho hT hc h20 (by omega) ⟨_, rfl, ?_⟩))
  -- what the pure reader says of a constant
  have cst : ∀ y, ch s.1 = some y → isK y → pLeaf ch sm s = .inr (pMk (s.1 + 1, s.2) (y, s.1, 0, none, [])) := by
    intro y e k
    unfold pLeaf
    rw [e]
    have : sOf sm y = none := by
      unfold sOf
      unfold isK at k
      rw [if_neg (by omega)]
    simp only
    rw [this]
    simp only
    rw [if_pos k]
  have r37 : (∀ y, ch s.1 = some y → ¬ (48 ≤ y ∧ y ≤ 57)) → rG c eX10_readPart (D + 2 + 1) (rQ c (JK c D K)) 37 [some (.ref c.2.2.1), some (.int (rfI (ch s.1))), none] [] S := by
    intro nd9
    have sym : ∀ y, ch s.1 = some y → (y = 35 ∨ y = 126 ∨ y = 46) → rM c (D + 2) eX10_create [.ref c.2.2.1, .int (rfI (ch s.1)), .int 0, .int (S.1 20 0)] S (fun v S5 => ∃ z6 : Int32, v = some (.int z6) ∧ (rG c eX10_readPart (D + 2 + 1) (rQ c (JK c D K)) 142 [some (.ref c.2.2.1), none, some (.int z6)] [] S5)) := by
      intro y e hy
      have hk : isK y := by unfold isK; omega
      have := leaf y y 0 none (by rw [e]; intro w; cases w; omega) (cst y e hk) (by unfold sgn; rw [if_pos rfl]; simp only; rw [if_neg (by omega)]) (by unfold wht; rw [if_pos rfl]; simp only; rw [if_neg (by omega)])
      rw [e]
      exact this
    refine w_X10_readPart_37 ho (rfI (ch s.1)) ⟨fun z => sym 35 (e35.mp z) (by omega), fun n35 => ⟨fun z => sym 126 (e126.mp z) (by omega), fun n126 => ⟨fun n46 => ⟨fun z => ?_, fun z => ⟨fun z2 => ?_, fun z2 => ?_⟩⟩, fun z => sym 46 (e46.mp z) (by omega)⟩⟩⟩
    · -- below the letters
      by_cases y40 : ch s.1 = some 40
      · exact brk y40
      · refine bad y40 ?_
        have l := l97.mp z
        unfold pLeaf
        cases e : ch s.1 with
        | none => rfl
        | some y =>
          have := l y e
          have nk : ¬ isK y := fun k => by
            unfold isK at k
            have := nd9 y e
            rcases k with k | k | k | k
            · omega
            · exact n35 (e35.mpr (by rw [e, k]))
            · exact n126 (e126.mpr (by rw [e, k]))
            · exact n46 (e46.mpr (by rw [e, k]))
          simp only
          rw [show sOf sm y = none by unfold sOf; rw [if_neg (by omega)]]
          simp only
          rw [if_neg nk]
    · obtain ⟨y, e, hy⟩ := g104.mp z2
      by_cases y40 : ch s.1 = some 40
      · exact brk y40
      · refine bad y40 ?_
        unfold pLeaf
        rw [e]
        have nk : ¬ isK y := fun k => by
          unfold isK at k
          have := nd9 y e
          rcases k with k | k | k | k
          · omega
          · exact n35 (e35.mpr (by rw [e, k]))
          · exact n126 (e126.mpr (by rw [e, k]))
          · exact n46 (e46.mpr (by rw [e, k]))
        simp only
        rw [show sOf sm y = none by unfold sOf; rw [if_neg (by omega)]]
        simp only
        rw [if_neg nk]
    · cases e : ch s.1 with
      | none => exact absurd (l97.mpr (fun y hy => by rw [e] at hy; cases hy)) z
      | some y =>
        have hy97 : 97 ≤ y := by
          refine Nat.le_of_not_lt fun w => z (l97.mpr fun y' h' => ?_)
          rw [e] at h'; cases h'; exact w
        have hy104 : y ≤ 104 := by
          refine Nat.le_of_not_lt fun w => z2 (g104.mpr ⟨y, e, w⟩)
        have n40 : ch s.1 ≠ some 40 := by rw [e]; intro w; cases w; omega
        have es : rfI (some y) - 97 = nI (y - 97) := pk_sub (a := y) (b := 97) (by omega)
        rw [es, hsc.get (x := y - 97) (by omega)]
        refine ⟨fun w => ?_, fun w => ?_⟩
        · rw [← e]
          refine bad n40 ?_
          unfold pLeaf
          rw [e]
          have so : sOf sm y = none := by
            unfold sOf
            rw [if_pos (by omega)]
            cases h : sm (y - 97) with
            | none => rfl
            | some t => rw [h] at w; exact absurd rfl w
          simp only
          rw [so]
          simp only
          rw [if_neg (by unfold isK; omega)]
        · obtain ⟨t, ht⟩ := Option.isSome_iff_exists.mp w
          refine leaf y 97 (y - 97) (some t) n40 ?_ (by unfold sgn; rw [if_pos rfl]) (by unfold wht; rw [if_pos rfl])
          unfold pLeaf
          rw [e]
          have so : sOf sm y = some t := by
            unfold sOf
            rw [if_pos (by omega)]
            exact ht
          simp only
          rw [so]
  refine ⟨fun z => r37 (fun y e w => ?_), fun z => ⟨fun z2 => r37 (fun y e w => ?_), fun z2 => ?_⟩⟩
  · have := l48.mp z y e
    omega
  · obtain ⟨y', e', h'⟩ := g57.mp z2
    rw [e] at e'
    cases e'
    omega
  · cases e : ch s.1 with
    | none => exact absurd (l48.mpr (fun y hy => by rw [e] at hy; cases hy)) z
    | some y =>
      have hy48 : 48 ≤ y := by
        refine Nat.le_of_not_lt fun w => z (l48.mpr fun y' h' => ?_)
        rw [e] at h'; cases h'; exact w
      have hy57 : y ≤ 57 := by
        refine Nat.le_of_not_lt fun w => z2 (g57.mpr ⟨y, e, w⟩)
      have n40 : ch s.1 ≠ some 40 := by rw [e]; intro w; cases w; omega
      have es : rfI (some y) - 48 = nI (y - 48) := pk_sub (a := y) (b := 48) (by omega)
      rw [es]
      exact leaf y 48 (y - 48) none n40 (cst y e (by unfold isK; omega)) (by unfold sgn; rw [if_pos rfl]; simp only; rw [if_pos ⟨hy48, hy57⟩]) (by unfold wht; rw [if_pos rfl]; simp only; rw [if_pos ⟨hy48, hy57⟩])
end RRC
