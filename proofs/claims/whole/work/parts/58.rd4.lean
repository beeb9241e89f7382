/-! The class's reader: bindings, brackets, the induction. -/
section RDU
variable {D : Nat} {c : cX} {d : Nat} {C : cS} {K : Option Value → cS → Prop} {rd w0 len : Nat} {ch : Nat → Option Nat} {fd : Nat → Bool} {sm : Nat → Option Nat} {s : pS}
theorem fNm_lt {x : Option Nat} {i : Nat} (h : fNm sm x = some i) : i < 8 ∧ sm i = none := by
  cases x with
  | none => cases h
  | some y =>
    have h' : (if 99 ≤ y ∧ y < 105 ∧ sm (y - 97) = none then some (y - 97) else none) = some i := h
    split at h'
    case isTrue q => cases h'; exact ⟨by omega, q.2.2⟩
    case isFalse q => cases h'
theorem c_bindR {b st : Nat} (hc : chO ch len) (hr : 400 ≤ rd) (ih : rdC D c ch len fd rd w0 b) (h : RD C rd w0 ch len fd sm s) (hp : pPre len s) (hl : s.1 ≤ len + 1) (hs : smO sm)
    (hE : ∀ e, pBind ch (pPart ch fd b) sm st s = .inl e → ∀ C', rdF rd w0 C C' e → K (some (va_rf none)) C')
    (hG : ∀ s', pBind ch (pPart ch fd b) sm st s = .inr s' → s'.2.2.1 ≤ 61 → s'.1 ≤ len → ∀ C', pfr rd C C' → RD C' rd w0 ch len fd sm s' → K (some (va_rf (some (rd + 2 + (s'.2.2.1 - 1))))) C') :
    cM c (D + 3 * b + 6) eX6_readBinding [.ref rd, .int (nI st), .int (nI (6 - b))] C K := by
  have hl60 := hc.1
  have hp1 := hp.1
  have hx : ∀ y, ch s.1 = some y → y < 65536 := fun y e => hc.2.2 _ _ e
  unfold pBind at hE hG
  refine w_X6_readBinding rd (nI st) (nI (6 - b)) ⟨h.1, c_peek h hc (by omega) ⟨_, rfl, cle.refl _, c_free h hs hx ⟨_, rfl, cle.refl _, fun q => ?_, fun q => ?_⟩⟩⟩
  · cases e0 : fNm sm (ch s.1) with
    | none => rw [e0] at q; exact absurd rfl q
    | some x =>
      obtain ⟨x8, xn⟩ := fNm_lt e0
      rw [e0] at hE hG
      simp only at hE hG
      have hlt : s.1 < len := by
        cases e : ch s.1 with
        | none => rw [e] at e0; cases e0
        | some y => exact hc.lt e
      obtain ⟨a1, a2⟩ := h.adv hr
      have hp' : pPre len (s.1 + 1, s.2) := ⟨show s.2.2.1 ≤ s.1 + 1 by omega, hp.2⟩
      refine ih _ _ sm (s.1 + 1, s.2) a1 hp' (show s.1 + 1 ≤ len by omega) hs (fun e he C1 f1 => ⟨none, rfl, f1.1.1, fun _ => hE e (by rw [he]) C1 (f1.of a2), fun z hz => by cases hz⟩) (fun s1 he1 C1 p1 h1 => ⟨some (rd + 2 + (s1.2.2.1 - 1)), rfl, p1.1, fun hz => (by cases hz), fun z hz => ?_⟩)
      obtain ⟨n1, n2, n3⟩ := pPart_nx hc hs hp' he1
      have n1a := n1.1
      have n1b := n1.2
      rw [he1] at hE hG
      simp only at hE hG
      have lt17 : cI C1 rd 3 < 17 ↔ s1.2.1 < 17 := by rw [h1.2.2.2.2.2.1]; exact nI_ltI (by omega) (by decide)
      rw [lt17]
      refine ⟨fun q17 => ⟨rd + 1, h1.2.2.2.1, 8, h1.2.2.2.2.1, x, am_ix_n x8 (by decide), ?_⟩, fun q17 => ?_⟩
      · rw [if_neg (by omega)] at hE hG
        rw [h1.2.2.2.2.2.1, nI_1]
        have hm : RD (csi (csi C1 rd 3 (nI (s1.2.1 + 1))) (rd + 1) x (nI s1.2.1)) rd w0 ch len fd (up sm x (some s1.2.1)) (s1.1, s1.2.1 + 1, s1.2.2) ∧ pfr rd C1 (csi (csi C1 rd 3 (nI (s1.2.1 + 1))) (rd + 1) x (nI s1.2.1)) := by
          refine h1.mod hr rfl rfl rfl (fun _ _ => rfl) (fun _ _ => rfl) (fun a i q1 q2 => ?_) (fun i hi => by rw [cI_csi_ne _ _ (by omega), cI_csi_ne _ _ (by omega)]) ?_ ?_ ?_ rfl (fun i hi => ?_)
          · rw [cI_csi_ne _ _ (by omega), cI_csi_ne _ _ (by omega)]
          · rw [cI_csi_ne _ _ (by omega), cI_csi]
          · rw [cI_csi_ne _ _ (by omega), cI_csi_ne _ _ (by omega)]; exact h1.2.2.2.2.2.2.1
          · rw [cI_csi_ne _ _ (by omega), cI_csi_ne _ _ (by omega)]; exact h1.2.2.2.2.2.2.2.1
          · by_cases z : i = x
            · subst z
              rw [cI_csi, up_same]
              rfl
            · rw [cI_csi_ne _ _ (by omega), cI_csi_ne _ _ (by omega), up_ne _ _ z]
              exact h1.2.2.2.2.2.2.2.2.2.2.1 i hi
        obtain ⟨m1, m2⟩ := hm
        have hs2 : smO (up sm x (some s1.2.1)) := by
          intro i t e
          by_cases z : i = x
          · subst z
            rw [up_same] at e
            cases e
            omega
          · rw [up_ne _ _ z] at e
            exact hs i t e
        have hp2 : pPre len (s1.1, s1.2.1 + 1, s1.2.2) := ⟨n1a, show s1.2.1 + 1 ≤ 17 by omega⟩
        have back : ∀ (C2 : cS) (s2 : pS), RD C2 rd w0 ch len fd (up sm x (some s1.2.1)) s2 → RD (csi C2 (rd + 1) x (-1)) rd w0 ch len fd sm s2 ∧ pfr rd C2 (csi C2 (rd + 1) x (-1)) := by
          intro C2 s2 h2
          refine h2.mod hr rfl rfl rfl (fun _ _ => rfl) (fun _ _ => rfl) (fun a i q1 q2 => cI_csi_ne _ _ (by omega)) (fun i hi => cI_csi_ne _ _ (by omega)) ?_ ?_ ?_ rfl (fun i hi => ?_)
          · rw [cI_csi_ne _ _ (by omega)]; exact h2.2.2.2.2.2.1
          · rw [cI_csi_ne _ _ (by omega)]; exact h2.2.2.2.2.2.2.1
          · rw [cI_csi_ne _ _ (by omega)]; exact h2.2.2.2.2.2.2.2.1
          · by_cases z : i = x
            · subst z
              rw [cI_csi, xn]
              rfl
            · have y := h2.2.2.2.2.2.2.2.2.2.2.1 i hi
              rw [up_ne _ _ z] at y
              rw [cI_csi_ne _ _ (by omega)]
              exact y
        refine ih _ _ _ (s1.1, s1.2.1 + 1, s1.2.2) m1 hp2 n2 hs2 (fun e he C2 f2 => ⟨none, rfl, f2.1.1, rd + 1, ?_, 8, ?_, x, am_ix_n x8 (by decide), fun _ => hE e (by rw [he]) _ ?_, fun z hz => by cases hz⟩) (fun s2 he2 C2 p2 h2 => ⟨some (rd + 2 + (s2.2.2.1 - 1)), rfl, p2.1, rd + 1, h2.2.2.2.1, 8, h2.2.2.2.2.1, x, am_ix_n x8 (by decide), fun hz => (by cases hz), fun z hz => ?_⟩)
        · exact f2.2.2.1
        · exact m1.2.2.2.2.1.le f2.1.1
        · exact ⟨(a2.trans p1).trans (m2.trans (f2.1.trans (pfr_csi rd C2 (rd + 1) x (-1) (by omega)))), by rw [cI_csi_ne _ _ (by omega)]; exact f2.2.1, f2.2.2⟩
        · obtain ⟨l1, l2, l3⟩ := pPart_nx hc hs2 hp2 he2
          have l1a := l1.1
          rw [he2] at hG
          simp only at hG
          obtain ⟨b1, b2⟩ := back C2 s2 h2
          refine c_new b1 hr 58 st (some s1.2.1) [s1.2.2.1 - 1, s2.2.2.1 - 1] (by simp) fun C3 p3 h3 => ⟨_, rfl, p3.1, hG _ rfl (show s2.2.2.1 + 1 ≤ 61 by omega) l2 C3 ?_ h3⟩
          exact (a2.trans p1).trans (m2.trans (p2.trans (b2.trans p3)))
      · rw [if_pos (by omega)] at hE
        exact hE _ rfl C1 ((h1.fail (by omega)).of (a2.trans p1))
  · cases e0 : fNm sm (ch s.1) with
    | none =>
      rw [e0] at hE
      exact hE s.1 rfl C (h.fail (by omega))
    | some x =>
      obtain ⟨x8, xn⟩ := fNm_lt e0
      rw [e0] at q
      have := (rfI_inj (r := some x) (fun p' h' => by cases h'; omega)).mp q
      cases this
theorem c_br {b : Nat} (hb : b < 6) (hc : chO ch len) (hr : 400 ≤ rd) (ih : rdC D c ch len fd rd w0 b) (h : RD C rd w0 ch len fd sm s) (hp : pPre len s) (hl : s.1 < len) (hs : smO sm)
    (hE : ∀ e, pBr ch fd (pPart ch fd b) sm s = .inl e → ∀ C', rdF rd w0 C C' e → K (some (va_rf none)) C')
    (hG : ∀ s', pBr ch fd (pPart ch fd b) sm s = .inr s' → ∀ C', pfr rd C C' → RD C' rd w0 ch len fd sm s' → K (some (va_rf (some (rd + 2 + (s'.2.2.1 - 1))))) C') :
    cM c (D + 3 * b + 7) eX6_readBracket [.ref rd, .int (nI (6 - b))] C K := by
  have hl60 := hc.1
  have hp1 := hp.1
  obtain ⟨a1, a2⟩ := h.adv hr
  have hx : ∀ y, ch (s.1 + 1) = some y → y < 65536 := fun y e => hc.2.2 _ _ e
  have e58 : rfI (ch (s.1 + 1)) = 58 ↔ ch (s.1 + 1) = some 58 := rf_eq (fun y e => by have := hx y e; omega) 58 (by decide)
  have n4 : nPt fd sm (ch (s.1 + 1)) < 4 := by
    unfold nPt
    (repeat' split) <;> omega
  have n0 : nI (nPt fd sm (ch (s.1 + 1))) = 0 ↔ nPt fd sm (ch (s.1 + 1)) = 0 := nI_eq (by omega) (by decide)
  unfold pBr at hE hG
  refine w_X6_readBracket rd (nI (6 - b)) ⟨h.1, c_peek a1 hc (show s.1 + 1 < 200 by omega) ⟨_, rfl, cle.refl _, c_parts a1 hs hx ⟨_, rfl, cle.refl _, ?_⟩⟩⟩
  show (¬ nI (nPt fd sm (ch (s.1 + 1))) = 0 → _) ∧ _
  rw [n0, h.2.2.2.2.2.2.2.1]
  have ecI : cI (csi C rd 5 (nI s.1 + 1)) rd 5 + 1 = cI (csi C rd 5 (cI C rd 5 + 1)) rd 5 + 1 := by rw [h.2.2.2.2.2.2.2.1]
  rw [h.2.2.2.2.2.2.2.1] at a1 a2
  obtain ⟨b1, b2⟩ := a1.adv hr
  have close : ∀ (C1 : cS) (s1 : pS) (x : Nat ⊕ pS), pfr rd C C1 → RD C1 rd w0 ch len fd sm s1 → s1.2.2.1 ≤ 61 → s1.1 ≤ len → x = .inr s1 → (∀ e, pClose ch x = .inl e → ∀ C', rdF rd w0 C C' e → K (some (va_rf none)) C') → (∀ s', pClose ch x = .inr s' → ∀ C', pfr rd C C' → RD C' rd w0 ch len fd sm s' → K (some (va_rf (some (rd + 2 + (s'.2.2.1 - 1))))) C') → cG c eX6_readBracket (D + 3 * b + 6 + 1) (cQ K) 68 [some (.ref rd), none, none, none, none, none] [va_rf (some (rd + 2 + (s1.2.2.1 - 1)))] C1 := by
    intro C1 s1 x p1 h1 u1 u2 ex kE kG
    subst ex
    unfold pClose at kE kG
    simp only at kE kG
    have e41 : rfI (ch s1.1) = 41 ↔ ch s1.1 = some 41 := rf_eq (fun y e => by have := hc.2.2 _ _ e; omega) 41 (by decide)
    refine w_X6_readBracket_68 rd _ ⟨fun hz => (by cases hz), fun z hz => ⟨h1.1, c_peek h1 hc (by omega) ⟨_, rfl, cle.refl _, fun q => ?_, fun q => ?_⟩⟩⟩
    · obtain ⟨c1, c2⟩ := h1.adv hr
      rw [if_pos (e41.mp q)] at kG
      exact kG _ rfl _ (p1.trans c2) c1
    · rw [if_neg (fun z => q (e41.mpr z))] at kE
      exact kE _ rfl C1 ((h1.fail (by omega)).of p1)
  have hp2 : pPre len (s.1 + 1 + 1, s.2) := ⟨show s.2.2.1 ≤ s.1 + 1 + 1 by omega, hp.2⟩
  refine ⟨fun q => ?_, fun q => ?_⟩
  · rw [if_neg q] at hE hG
    have hlt : s.1 + 1 < len := by
      cases e : ch (s.1 + 1) with
      | none => rw [e] at q; exact absurd rfl q
      | some y => exact hc.lt e
    refine ⟨fun q58 => ?_, fun q58 => ?_⟩
    · have q58' : ¬ ch (s.1 + 1) = some 58 := fun z => q58 (e58.mpr z)
      rw [if_neg q58'] at hE hG
      have eo : rfI (ch (s.1 + 1)) = nI ((ch (s.1 + 1)).getD 0) := by
        cases e : ch (s.1 + 1) with
        | none => rw [e] at q; exact absurd rfl q
        | some y => rfl
      show cM c (D + 3 * b + 6) eX6_readOperation [.ref rd, .int (rfI (ch (s.1 + 1))), .int (nI (nPt fd sm (ch (s.1 + 1)))), .int (nI s.1), .int (nI (6 - b))] _ _
      rw [eo]
      refine c_oper (s := (s.1 + 1 + 1, s.2)) hc hr ih b1 hp2 (show s.1 + 1 + 1 ≤ len by omega) hs n4 (fun e he C1 f1 => ⟨none, rfl, f1.1.1, ?_⟩) (fun s1 he u1 u2 C1 p1 h1 => ⟨_, rfl, p1.1, close C1 s1 _ (a2.trans (b2.trans p1)) h1 u1 u2 he hE hG⟩)
      exact w_X6_readBracket_68 rd none ⟨fun _ => hE e (by unfold pClose; rw [he]) C1 (f1.of (a2.trans b2)), fun z hz => by cases hz⟩
    · have q58' : ch (s.1 + 1) = some 58 := e58.mp q58
      rw [if_pos q58'] at hE hG
      refine c_bindR (s := (s.1 + 1 + 1, s.2)) hc hr ih b1 hp2 (show s.1 + 1 + 1 ≤ len + 1 by omega) hs (fun e he C1 f1 => ⟨none, rfl, f1.1.1, ?_⟩) (fun s1 he u1 u2 C1 p1 h1 => ⟨_, rfl, p1.1, close C1 s1 _ (a2.trans (b2.trans p1)) h1 u1 u2 he hE hG⟩)
      exact w_X6_readBracket_68 rd none ⟨fun _ => hE e (by unfold pClose; rw [he]) C1 (f1.of (a2.trans b2)), fun z hz => by cases hz⟩
  · rw [if_pos q] at hE
    exact hE _ rfl _ ((a1.fail (show s.2.2.1 ≤ 100 by omega)).of a2)
/-- readPart reads what the function reads -/
theorem rd_ok (D : Nat) (c : cX) {ch : Nat → Option Nat} {len : Nat} (fd : Nat → Bool) {rd : Nat} (w0 : Nat) (hc : chO ch len) (hr : 400 ≤ rd) : ∀ b, b ≤ 6 → rdC D c ch len fd rd w0 b
  | 0, _ => by
    intro C K sm s h hp hl hs hE hG
    have hl60 := hc.1
    have hp1 := hp.1
    unfold pPart at hE hG
    by_cases q : ch s.1 = some 40
    · rw [if_pos q] at hE
      refine w_X6_readPart rd (nI 6) ⟨h.1, c_peek h hc (by omega) ⟨_, rfl, cle.refl _, fun z => ?_, fun _ => ⟨fun _ => hE _ rfl C (h.fail (by omega)), fun z => absurd (by decide) z⟩⟩⟩
      rw [q] at z
      exact absurd rfl z
    · rw [if_neg q] at hE hG
      exact c_leaf (D := D) (b := 0) hc hr h hp hl hs _ q hE hG
  | b + 1, hb => by
    intro C K sm s h hp hl hs hE hG
    have hl60 := hc.1
    have hp1 := hp.1
    unfold pPart at hE hG
    by_cases q : ch s.1 = some 40
    · rw [if_pos q] at hE hG
      have n6 : ¬ (6 : Int32) ≤ nI (6 - (b + 1)) := by
        rw [Int32.le_iff_toInt_le, nI_toInt (by omega)]
        have a : ((6 : Int32).toInt) = 6 := by decide
        omega
      refine w_X6_readPart rd (nI (6 - (b + 1))) ⟨h.1, c_peek h hc (by omega) ⟨_, rfl, cle.refl _, fun z => ?_, fun _ => ⟨fun z => absurd z n6, fun _ => ?_⟩⟩⟩
      · rw [q] at z
        exact absurd rfl z
      · rw [nI_1, show 6 - (b + 1) + 1 = 6 - b by omega]
        exact c_br (by omega) hc hr (rd_ok D c fd w0 hc hr b (by omega)) h hp (hc.lt q) hs (fun e he C' f => ⟨none, rfl, f.1.1, hE e he C' f⟩) (fun s' he C' p h' => ⟨_, rfl, p.1, hG s' he C' p h'⟩)
    · rw [if_neg q] at hE hG
      exact c_leaf (D := D) (b := b + 1) hc hr h hp hl hs _ q hE hG
end RDU
