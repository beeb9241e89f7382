/-! The reference's reader: a bracket is begun; by the brackets left. -/
theorem SCP.iso {S : rS} {sm sm' : Nat → Option Nat} (h : SCP S sm) (e : ∀ x, x < 8 → (sm' x).isSome = (sm x).isSome) : SCP S sm' := by
  obtain ⟨mk, h1, h2, h3⟩ := h
  exact ⟨mk, h1, h2, fun x hx => by rw [h3 x hx, e x hx]⟩
theorem pO58 (fd : Nat → Bool) : pO fd (some 58) = some 2 := by unfold pO; simp
theorem nPt_lt {fd : Nat → Bool} {sm : Nat → Option Nat} {op p : Nat} (h : pO fd (some op) = some p) (h58 : op ≠ 58) : nPt fd sm (some op) = p ∧ 1 ≤ p ∧ p ≤ 3 := by
  have e := nPt_pO fd sm (some op)
  rw [h, if_neg (fun z => h58 (Option.some.inj z.1))] at e
  refine ⟨e, ?_⟩
  unfold pO at h
  simp only at h
  (repeat' split at h) <;> first | (cases h; done) | (injection h with h; omega)
section RRE2
variable {c : rX} {D d : Nat} {S : rS} {K : Option Value → rS → Prop} {ch : Nat → Option Nat} {len : Nat} {fd : Nat → Bool} {sm : Nat → Option Nat} {sc : List Nat} {s : pS} {dp : Nat}
/-- the node of a bracket -/
theorem r_open2 (ho : rOK c) {op w a : Nat} (hS : RRE S ch len fd sm s dp) (hd : dp < 6) (hk : s.2.2.1 + dp < 64)
    (hG : ∀ S', rfr (s.2.2.1 + dp) dp S S' → BK S' ch len fd sm s dp (256 + (s.2.2.1 + dp)) op w a 0 → JR c D K S') :
    rG c eX10_readBracket (D + 1 + 1) (rQ c (fun v S3 => v = none ∧ JR c D K S3)) 125 [some (.ref c.2.2.1), some (.int (nI a)), some (.int (nI op)), some (.int (nI w)), none] [] S := by
  obtain ⟨hT, h20, h21, h23, h11, hsc⟩ := hS
  refine w_X10_readBracket_125 ho (nI a) (nI op) (nI w) (r_create ho h11 hk fun S1 a1 a2 a3 a4 a5 a6 a7 => ⟨_, rfl, dp, by rw [h21]; exact am_ix_n (by omega) (by decide), rfl, ?_⟩)
  have o21 : S1.1 21 0 = nI dp := by rw [a7 21 0 (by omega) (by omega)]; exact h21
  rw [o21, nI_1]
  have b1 : ∀ f i, ¬ (f = 24 ∧ i = dp) → ¬ (f = 21 ∧ i = 0) → (rsi (rsi S1 24 dp (nI (256 + (s.2.2.1 + dp)))) 21 0 (nI (dp + 1))).1 f i = S1.1 f i := fun f i z1 z2 => by rw [rsi_ne _ _ z2, rsi_ne _ _ z1]
  have b2 : (rsi (rsi S1 24 dp (nI (256 + (s.2.2.1 + dp)))) 21 0 (nI (dp + 1))).1 24 dp = nI (256 + (s.2.2.1 + dp)) := by rw [rsi_ne _ _ (by omega), rsi_i]
  have b3 : (rsi (rsi S1 24 dp (nI (256 + (s.2.2.1 + dp)))) 21 0 (nI (dp + 1))).1 21 0 = nI (dp + 1) := rsi_i _ _ _ _
  have b4 : (rsi (rsi S1 24 dp (nI (256 + (s.2.2.1 + dp)))) 21 0 (nI (dp + 1))).2 = S.2 := a1
  generalize rsi (rsi S1 24 dp (nI (256 + (s.2.2.1 + dp)))) 21 0 (nI (dp + 1)) = S2 at b1 b2 b3 b4 ⊢
  have fr : rfr (s.2.2.1 + dp) dp S S2 := ⟨b4, fun f i z1 z2 z3 => by rw [b1 f i (by omega) (by omega)]; exact a7 f i z2 (by omega), fun f i z1 z2 z3 => by rw [b1 f i (by omega) (by omega)]; exact a7 f i (by omega) (by omega), fun i hi => by rw [b1 24 i (by omega) (by omega)]; exact a7 24 i (by omega) (by omega)⟩
  refine hG S2 fr ⟨⟨hT.r fr, ?_, b3, ?_, ?_, hsc.cong ?_⟩, b2, ?_, ?_, ?_, a6.cong fun i hi => b1 (5 + i) _ (by omega) (by omega)⟩
  · rw [b1 20 0 (by omega) (by omega), a7 20 0 (by omega) (by omega)]; exact h20
  · rw [b1 23 0 (by omega) (by omega), a7 23 0 (by omega) (by omega)]; exact h23
  · rw [b1 11 4 (by omega) (by omega), a2]
    congr 1
  · rw [b1 22 0 (by omega) (by omega), a7 22 0 (by omega) (by omega)]
  · rw [b1 4 _ (by omega) (by omega)]; exact a3
  · rw [b1 8 _ (by omega) (by omega)]; exact a4
  · rw [b1 9 _ (by omega) (by omega)]; exact a5
/-- a bracket is begun -/
theorem r_open (ho : rOK c) (hc : chO ch len) (hS : RRE S ch len fd sm s dp) (hQ : pQ len sm sc s dp) (hd : dp < 6)
    (hw1 : nPt fd sm (ch (s.1 + 1)) = 0 → ∀ S', rfr (s.2.2.1 + dp) dp S S' → ¬ S'.1 23 0 = 0 → S'.1 20 0 = nI (s.1 + 1) → K (some (.int (-1))) S')
    (hw2 : ch (s.1 + 1) = some 58 → nPt fd sm (ch (s.1 + 1)) ≠ 0 → fNm sm (ch (s.1 + 2)) = none → ∀ S', rfr (s.2.2.1 + dp) dp S S' → ¬ S'.1 23 0 = 0 → S'.1 20 0 = nI (s.1 + 2) → K (some (.int (-1))) S')
    (h1 : ∀ op p, ch (s.1 + 1) = some op → op ≠ 58 → pO fd (some op) = some p → ∀ S', rfr (s.2.2.1 + dp) dp S S' → BK S' ch len fd sm (s.1 + 2, s.2) dp (256 + (s.2.2.1 + dp)) op 0 s.1 0 → JR c D K S')
    (h2 : ∀ x, ch (s.1 + 1) = some 58 → nPt fd sm (ch (s.1 + 1)) ≠ 0 → fNm sm (ch (s.1 + 2)) = some x → ∀ S', rfr (s.2.2.1 + dp) dp S S' → BK S' ch len fd sm (s.1 + 3, s.2) dp (256 + (s.2.2.1 + dp)) 58 x s.1 0 → JR c D K S') :
    rM c (D + 2) eX10_readBracket [.ref c.2.2.1] S (fun v S3 => v = none ∧ JR c D K S3) := by
  obtain ⟨hT, h20, h21, h23, h11, hsc⟩ := hS
  obtain ⟨q1, q2, q3, q4, q5, q6⟩ := hQ
  have hl := hc.1
  have np := nPt_pO fd sm (ch (s.1 + 1))
  have hx : ∀ j y, ch j = some y → y < 65536 := fun j y e => hc.2.2 _ _ e
  refine w_X10_readBracket ho ?_
  rw [h20, nI_1]
  have at1 : ∀ (S : rS) (p : Nat), rfr (s.2.2.1 + dp) dp S (rsi S 20 0 (nI p)) := fun S p => ⟨rfl, fun f i z1 z2 z3 => rsi_ne _ _ (by omega), fun f i z1 z2 z3 => rsi_ne _ _ (by omega), fun i hi => rsi_ne _ _ (by omega)⟩
  have RRE1 : ∀ (A : rS) (p n : Nat) (t : pS), RRE A ch len fd sm t dp → t.2.2.1 = s.2.2.1 → RRE (rsi A 20 0 (nI p)) ch len fd sm (p, s.2) dp := by
    intro A p n t hA ht
    obtain ⟨a1, a2, a3, a4, a5, a6⟩ := hA
    refine ⟨a1.r (at1 A p), rsi_i _ _ _ _, by rw [rsi_ne _ _ (by omega)]; exact a3, by rw [rsi_ne _ _ (by omega)]; exact a4, ?_, a6.cong (rsi_ne _ _ (by omega))⟩
    rw [rsi_ne _ _ (by omega), a5, ht]
  have R1 : RRE (rsi S 20 0 (nI (s.1 + 1))) ch len fd sm (s.1 + 1, s.2) dp := RRE1 S (s.1 + 1) 0 s ⟨hT, h20, h21, h23, h11, hsc⟩ rfl
  have F1 := at1 S (s.1 + 1)
  generalize rsi S 20 0 (nI (s.1 + 1)) = S1 at R1 F1 ⊢
  have wr : ∀ (A : rS) (p : Nat), A.1 20 0 = nI p → rfr (s.2.2.1 + dp) dp S A → (∀ S', rfr (s.2.2.1 + dp) dp S S' → ¬ S'.1 23 0 = 0 → S'.1 20 0 = nI p → K (some (.int (-1))) S') → JR c D K (rsi A 23 0 1) := by
    intro A p hA fA hk
    refine JR.wrong ho (by rw [rsi_i]; decide) (hk _ (fA.trans ⟨rfl, fun f i z1 z2 z3 => rsi_ne _ _ (by omega), fun f i z1 z2 z3 => rsi_ne _ _ (by omega), fun i hi => rsi_ne _ _ (by omega)⟩) (by rw [rsi_i]; decide) (by rw [rsi_ne _ _ (by omega)]; exact hA))
  refine r_peek ho R1.1 hc R1.2.1 (show s.1 + 1 < 200 by omega) ⟨_, rfl, r_partsOf ho R1.1 (hx _) ⟨_, rfl, fun z => ?_, fun z => ?_⟩⟩
  · have hp : pO fd (ch (s.1 + 1)) = none := by
      cases e : pO fd (ch (s.1 + 1)) with
      | none => rfl
      | some p =>
        rw [e] at z
        have p3 : p ≤ 3 := by
          cases ec : ch (s.1 + 1) with
          | none => rw [ec] at e; cases e
          | some y =>
            rw [ec] at e
            unfold pO at e
            simp only at e
            (repeat' split at e) <;> first | (cases e; done) | (injection e with e; omega)
        exact absurd z (nI_neg1 (v := p) (by omega))
    rw [hp] at np
    refine ⟨rfl, wr S1 (s.1 + 1) R1.2.1 F1 (hw1 ?_)⟩
    rw [np]
    split <;> rfl
  · cases ec : ch (s.1 + 1) with
    | none =>
      rw [ec] at z
      exact absurd rfl z
    | some op =>
      cases ep : pO fd (some op) with
      | none => rw [ec, ep] at z; exact absurd rfl z
      | some p =>
        have hop := hx _ _ ec
        have e58 : rfI (some op) = 58 ↔ op = 58 := nI_is (b := 58) (by omega) (by decide)
        rw [e58]
        have R2 : RRE (rsi S1 20 0 (nI (s.1 + 2))) ch len fd sm (s.1 + 2, s.2) dp := RRE1 S1 (s.1 + 2) 0 _ R1 rfl
        have F2 := at1 S1 (s.1 + 2)
        have o20 : S1.1 20 0 = nI (s.1 + 1) := R1.2.1
        refine ⟨fun n58 => ?_, fun y58 => ?_⟩
        · refine w_X10_readBracket_55 ho (nI s.1) (rfI (some op)) ⟨fun _ => ?_, fun w => absurd (e58.mp w) n58⟩
          rw [o20, nI_1]
          refine r_open2 ho (w := 0) R2 hd (show s.2.2.1 + dp < 64 by omega) fun S' f' b' => h1 op p ec n58 ep S' (F1.trans (F2.trans f')) b'
        · subst y58
          rw [R1.2.2.2.2.2.full]
          refine ⟨fun hF => ?_, fun hF => ?_⟩
          · have hF : hasF sm = true := by
              by_cases w : hasF sm = true
              · exact w
              · exact absurd w hF
            have npn : nPt fd sm (ch (s.1 + 1)) ≠ 0 := by
              rw [np, ec, if_neg (fun w => w.2 hF), pO58]
              exact (by decide : (2 : Nat) ≠ 0)
            refine w_X10_readBracket_55 ho (nI s.1) (rfI (some 58)) ⟨fun w => absurd rfl w, fun _ => ?_⟩
            rw [o20, nI_1]
            generalize rsi S1 20 0 (nI (s.1 + 2)) = S2 at R2 F2 ⊢
            refine r_peek ho R2.1 hc R2.2.1 (show s.1 + 2 < 200 by omega) ⟨_, rfl, w_X10_isLocal ho _ ?_⟩
            have hxy : ∀ y, ch (s.1 + 2) = some y → y < 2 ^ 31 := fun y e => by have := hx _ _ e; omega
            have l99 : rfI (ch (s.1 + 2)) < 99 ↔ ∀ y, ch (s.1 + 2) = some y → y < 99 := rf_lt hxy 99 (by decide)
            have bad : fNm sm (ch (s.1 + 2)) = none → JR c D K (rsi S2 23 0 1) := fun hn => wr S2 (s.1 + 2) R2.2.1 (F1.trans F2) (hw2 ec npn hn)
            refine ⟨fun w => ⟨_, rfl, fun _ => ⟨rfl, bad ?_⟩, fun w2 => absurd rfl w2⟩, fun w => ⟨fun w2 => ⟨_, rfl, fun _ => ⟨rfl, bad ?_⟩, fun w3 => absurd rfl w3⟩, fun w2 => ⟨_, rfl, fun w3 => absurd w3 (by decide), fun _ => ?_⟩⟩⟩
            · cases ey : ch (s.1 + 2) with
              | none => rfl
              | some y =>
                have := l99.mp w y ey
                show (if _ then _ else _) = none
                rw [if_neg (by omega)]
            · cases ey : ch (s.1 + 2) with
              | none => rfl
              | some y =>
                rw [ey] at w2
                have := (nI_ltI (a := 104) (b := y) (by decide) (by have := hx _ _ ey; omega)).mp w2
                show (if _ then _ else _) = none
                rw [if_neg (by omega)]
            · cases ey : ch (s.1 + 2) with
              | none =>
                exact absurd (l99.mpr (fun y hy => by rw [ey] at hy; cases hy)) w
              | some y =>
                have hy := hx _ _ ey
                have y99 : 99 ≤ y := by
                  refine Nat.le_of_not_lt fun u => w (l99.mpr fun y' h' => ?_)
                  rw [ey] at h'; cases h'; exact u
                have y104 : y ≤ 104 := by
                  refine Nat.le_of_not_lt fun u => w2 ?_
                  rw [ey]
                  exact (nI_ltI (a := 104) (b := y) (by decide) (by omega)).mpr u
                have es : rfI (some y) - 97 = nI (y - 97) := pk_sub (a := y) (b := 97) (by omega)
                rw [es, R2.2.2.2.2.2.get (x := y - 97) (by omega)]
                refine ⟨fun u => ?_, fun u => ⟨rfl, bad ?_⟩⟩
                · have hsm : sm (y - 97) = none := by
                    cases e : sm (y - 97) with
                    | none => rfl
                    | some t => rw [e] at u; exact absurd rfl u
                  have fn : fNm sm (ch (s.1 + 2)) = some (y - 97) := by
                    rw [ey]
                    show (if _ then _ else _) = _
                    rw [if_pos ⟨y99, by omega, hsm⟩]
                  have R3 : RRE (rsi S2 20 0 (nI (s.1 + 3))) ch len fd sm (s.1 + 3, s.2) dp := RRE1 S2 (s.1 + 3) 0 _ R2 rfl
                  have F3 := at1 S2 (s.1 + 3)
                  rw [show S2.1 20 0 = nI (s.1 + 2) from R2.2.1, nI_1]
                  exact r_open2 ho (op := 58) R3 hd (show s.2.2.1 + dp < 64 by omega) fun S' f' b' => h2 _ ec npn fn S' (F1.trans (F2.trans (F3.trans f'))) b'
                · rw [ey]
                  show (if _ then _ else _) = none
                  rw [if_neg (fun v => by rw [v.2.2] at u; cases u)]
          · refine ⟨rfl, wr S1 (s.1 + 1) R1.2.1 F1 (hw1 ?_)⟩
            rw [np, ec, if_pos ⟨rfl, hF⟩]
end RRE2
