/-! The class's reader: one expression, by the brackets left. -/
/-- reading failed at e -/
def rdF (rd w0 : Nat) (C C' : cS) (e : Nat) : Prop := pfr rd C C' ∧ cI C' rd 5 = nI e ∧ cR C' rd 2 = some (rd + 1) ∧ ∃ n, n ≤ 100 ∧ C'.1 = rd + 2 + n ∧ C'.2.1 = w0 + 7 * n
theorem rdF.of {rd w0 : Nat} {A B C : cS} {e : Nat} (h : rdF rd w0 B C e) (k : pfr rd A B) : rdF rd w0 A C e := ⟨k.trans h.1, h.2⟩
section RDT
variable {D : Nat} {c : cX} {d : Nat} {C : cS} {K : Option Value → cS → Prop} {rd w0 len : Nat} {ch : Nat → Option Nat} {fd : Nat → Bool} {sm : Nat → Option Nat} {s : pS}
theorem RD.mod {C' : cS} {sm' : Nat → Option Nat} {s' : pS} (h : RD C rd w0 ch len fd sm s) (hr : 400 ≤ rd) (e1 : C'.1 = C.1) (e2 : C'.2.1 = C.2.1) (e3 : C'.2.2.1 = C.2.2.1) (e4 : ∀ a i, cR C' a i = cR C a i) (e5 : ∀ a i, cJ C' a i = cJ C a i) (e6 : ∀ a i, a ≠ rd → a ≠ rd + 1 → cI C' a i = cI C a i) (e7 : ∀ i, 6 ≤ i → cI C' rd i = cI C rd i)
    (i3 : cI C' rd 3 = nI s'.2.1) (i4 : cI C' rd 4 = nI s'.2.2.1) (i5 : cI C' rd 5 = nI s'.1) (es : s'.2.2 = s.2.2) (im : ∀ i, i < 8 → cI C' (rd + 1) i = rfI (sm' i)) : RD C' rd w0 ch len fd sm' s' ∧ pfr rd C C' := by
  obtain ⟨h1, h2, h3, h4, h5, h6, h7, h8, h9, h10, h11, h12, h13, h14⟩ := h
  have cl : cle C C' := cle_same e1 e3
  have pf : pfr rd C C' := ⟨cl, fun a ha => ⟨fun i => e6 a i (by omega) (by omega), fun i => e5 a i, fun i => e4 a i⟩, e7⟩
  refine ⟨⟨h1.le cl, by rw [e4]; exact h2, by rw [e4]; exact h3, by rw [e4]; exact h4, h5.le cl, i3, i4, i5, by rw [e1, h9, es], by rw [e2, h10, es], im, fun m hm => ?_, h13.p pf hr, h14.p pf hr⟩, pf⟩
  rw [es] at hm ⊢
  obtain ⟨z1, z2, z3, z4, z5, z6⟩ := h12 m hm
  exact ⟨z1.le cl, by rw [e6 _ _ (by omega) (by omega)]; exact z2, by rw [e6 _ _ (by omega) (by omega)]; exact z3, by rw [e6 _ _ (by omega) (by omega)]; exact z4, by rw [e6 _ _ (by omega) (by omega)]; exact z5, fun i hi => by rw [e4]; exact z6 i hi⟩
/-- one character on -/
theorem RD.adv (h : RD C rd w0 ch len fd sm s) (hr : 400 ≤ rd) : RD (csi C rd 5 (cI C rd 5 + 1)) rd w0 ch len fd sm (s.1 + 1, s.2) ∧ pfr rd C (csi C rd 5 (cI C rd 5 + 1)) := by
  refine h.mod hr rfl rfl rfl (fun _ _ => rfl) (fun _ _ => rfl) (fun a i q1 q2 => cI_csi_ne _ _ (by omega)) (fun i hi => cI_csi_ne _ _ (by omega)) ?_ ?_ ?_ rfl (fun i hi => ?_)
  · rw [cI_csi_ne _ _ (by omega)]; exact h.2.2.2.2.2.1
  · rw [cI_csi_ne _ _ (by omega)]; exact h.2.2.2.2.2.2.1
  · rw [cI_csi, h.2.2.2.2.2.2.2.1, nI_1]
  · rw [cI_csi_ne _ _ (by omega)]; exact h.2.2.2.2.2.2.2.2.2.2.1 i hi
theorem RD.fail (h : RD C rd w0 ch len fd sm s) (hn : s.2.2.1 ≤ 100) : rdF rd w0 C C s.1 := ⟨pfr.refl _ _, h.2.2.2.2.2.2.2.1, h.2.2.2.1, s.2.2.1, hn, h.2.2.2.2.2.2.2.2.1, h.2.2.2.2.2.2.2.2.2.1⟩
/-- the contract of readPart with b brackets left -/
def rdC (D : Nat) (c : cX) (ch : Nat → Option Nat) (len : Nat) (fd : Nat → Bool) (rd w0 b : Nat) : Prop := ∀ (C : cS) (K : Option Value → cS → Prop) (sm : Nat → Option Nat) (s : pS), RD C rd w0 ch len fd sm s → pPre len s → s.1 ≤ len → smO sm →
  (∀ e, pPart ch fd b sm s = .inl e → ∀ C', rdF rd w0 C C' e → K (some (va_rf none)) C') →
  (∀ s', pPart ch fd b sm s = .inr s' → ∀ C', pfr rd C C' → RD C' rd w0 ch len fd sm s' → K (some (va_rf (some (rd + 2 + (s'.2.2.1 - 1))))) C') →
  cM c (D + 3 * b + 5) eX6_readPart [.ref rd, .int (nI (6 - b))] C K
theorem smO.sc (h : smO sm) : scO sm (List.range 17) := fun i t e => List.mem_range.mpr (h i t e)
theorem pPart_nx {b : Nat} {s' : pS} (hc : chO ch len) (hs : smO sm) (hp : pPre len s) (h : pPart ch fd b sm s = .inr s') : pPre len s' ∧ s'.1 ≤ len ∧ s.2.2.1 < s'.2.2.1 := by
  have q := pPart_ok fd hc b sm (List.range 17) s s' hs.sc hp h
  have q4 := q.2.2.2.1
  have p1 := hp.1
  exact ⟨⟨by omega, q.2.2.2.2.2.1⟩, q.2.1, q.2.2.1⟩
theorem c_leaf {b : Nat} (hc : chO ch len) (hr : 400 ≤ rd) (h : RD C rd w0 ch len fd sm s) (hp : pPre len s) (hl : s.1 ≤ len) (hs : smO sm) (p0 : Int32) (h40 : ¬ ch s.1 = some 40)
    (hE : ∀ e, pLeaf ch sm s = .inl e → ∀ C', rdF rd w0 C C' e → K (some (va_rf none)) C')
    (hG : ∀ s', pLeaf ch sm s = .inr s' → ∀ C', pfr rd C C' → RD C' rd w0 ch len fd sm s' → K (some (va_rf (some (rd + 2 + (s'.2.2.1 - 1))))) C') :
    cM c (D + 3 * b + 5) eX6_readPart [.ref rd, .int p0] C K := by
  have hl60 := hc.1
  have hp1 := hp.1
  have hx : ∀ y, ch s.1 = some y → y < 65536 := fun y e => hc.2.2 _ _ e
  have e40 : rfI (ch s.1) = 40 ↔ ch s.1 = some 40 := rf_eq (fun y e => by have := hx y e; omega) 40 (by decide)
  have make : ∀ y, ch s.1 = some y → ∀ o : Option Nat, pLeaf ch sm s = .inr (pMk (s.1 + 1, s.2) (y, s.1, 0, o, [])) → cG c eX6_readPart (D + 3 * b + 4 + 1) (cQ K) 49 [some (.ref rd), none, some (.int (rfI (ch s.1))), some (.int (rfI o))] [] C := by
    intro y hy o ho
    obtain ⟨a1, a2⟩ := h.adv hr
    refine w_X6_readPart_49 rd (rfI (ch s.1)) (rfI o) ⟨h.1, ?_⟩
    rw [show cI C rd 5 + 1 - 1 = nI s.1 by rw [h.2.2.2.2.2.2.2.1]; simp, hy]
    exact c_new a1 hr y s.1 o [] (by decide) fun C' pf h' => ⟨_, rfl, pf.1, hG _ ho C' (a2.trans pf) h'⟩
  refine w_X6_readPart rd p0 ⟨h.1, c_peek h hc (by omega) ⟨_, rfl, cle.refl _, fun _ => c_slotOf h hx ⟨_, rfl, cle.refl _, fun q => ?_, fun q => ?_⟩, fun q => absurd (e40.mp q) h40⟩⟩
  · cases hy : ch s.1 with
    | none => rw [hy] at q; exact absurd rfl q
    | some y =>
      rw [hy] at q
      cases ho : sOf sm y with
      | none => exact absurd (show rfI (sOf sm y) = -1 by rw [ho]; rfl) q
      | some t =>
        have z := make y hy (some t) (by unfold pLeaf; rw [hy]; simp only; rw [ho])
        rw [hy] at z
        show cG c eX6_readPart (D + 3 * b + 4 + 1) (cQ K) 49 [some (.ref rd), none, some (.int (rfI (some y))), some (.int (rfI (sOf sm y)))] [] C
        rw [ho]
        exact z
  · refine c_isK hx (fun ⟨y, hy, hk⟩ => ⟨1, rfl, cle.refl _, fun _ => ?_, fun z => absurd z (by decide)⟩) (fun hk => ⟨0, rfl, cle.refl _, fun z => absurd rfl z, fun _ => ?_⟩)
    · have so : sOf sm y = none := by
        rw [hy] at q
        have q' : rfI (sOf sm y) = -1 := q
        refine (rfI_inj fun p hp => ?_).mp q'
        unfold sOf at hp
        split at hp
        · have := hs _ _ hp; omega
        · cases hp
      have z := make y hy none (by unfold pLeaf; rw [hy]; simp only; rw [so]; simp only; rw [if_pos hk])
      rw [hy]
      show cG c eX6_readPart (D + 3 * b + 4 + 1) (cQ K) 49 [some (.ref rd), none, some (.int (rfI (some y))), some (.int (rfI (sOf sm y)))] [] C
      rw [so]
      rw [hy] at z
      exact z
    · refine hE s.1 ?_ C (h.fail (by omega))
      unfold pLeaf
      cases hy : ch s.1 with
      | none => rfl
      | some y =>
        rw [hy] at q
        have q' : rfI (sOf sm y) = -1 := q
        have so : sOf sm y = none := by
          refine (rfI_inj fun p hp => ?_).mp q'
          unfold sOf at hp
          split at hp
          · have := hs _ _ hp; omega
          · cases hp
        simp only
        rw [so]
        simp only
        rw [if_neg (hk y hy)]
theorem c_oper {b op st k : Nat} (hc : chO ch len) (hr : 400 ≤ rd) (ih : rdC D c ch len fd rd w0 b) (h : RD C rd w0 ch len fd sm s) (hp : pPre len s) (hl : s.1 ≤ len) (hs : smO sm) (hk : k < 4)
    (hE : ∀ e, pOper (pPart ch fd b sm) op st k s = .inl e → ∀ C', rdF rd w0 C C' e → K (some (va_rf none)) C')
    (hG : ∀ s', pOper (pPart ch fd b sm) op st k s = .inr s' → s'.2.2.1 ≤ 61 → s'.1 ≤ len → ∀ C', pfr rd C C' → RD C' rd w0 ch len fd sm s' → K (some (va_rf (some (rd + 2 + (s'.2.2.1 - 1))))) C') :
    cM c (D + 3 * b + 6) eX6_readOperation [.ref rd, .int (nI op), .int (nI k), .int (nI st), .int (nI (6 - b))] C K := by
  have hl60 := hc.1
  have k2 : nI k < 2 ↔ k < 2 := nI_ltI (by omega) (by decide)
  have k3 : nI k < 3 ↔ k < 3 := nI_ltI (by omega) (by decide)
  unfold pOper at hE hG
  refine w_X6_readOperation rd (nI op) (nI k) (nI st) (nI (6 - b)) ⟨h.1, ?_⟩
  refine ih C _ sm s h hp hl hs (fun e he C1 f1 => ⟨none, rfl, f1.1.1, fun _ => hE e (by rw [he]) C1 f1, fun z hz => by cases hz⟩) (fun s1 he1 C1 p1 h1 => ⟨some (rd + 2 + (s1.2.2.1 - 1)), rfl, p1.1, fun hz => (by cases hz), fun z hz => ?_⟩)
  obtain ⟨n1, n2, n3⟩ := pPart_nx hc hs hp he1
  have n1a := n1.1
  rw [he1] at hE hG
  simp only at hE hG
  rw [k2]
  refine ⟨fun q => ⟨fun _ => ?_, fun z => absurd q z⟩, fun q => ?_⟩
  · rw [if_pos q] at hG
    refine w_X6_readOperation_44 rd _ _ _ _ _ _ ⟨fun _ => ⟨fun _ => ?_, fun z => absurd (k3.mpr (by omega)) z⟩, fun z => absurd (k3.mpr (by omega)) z⟩
    refine w_X6_readOperation_73 rd _ _ _ _ _ ⟨h1.1, ?_⟩
    exact c_new h1 hr op st none [s1.2.2.1 - 1] (by simp) fun C2 p2 h2 => ⟨_, rfl, p2.1, hG _ rfl (show s1.2.2.1 + 1 ≤ 61 by omega) n2 C2 (p1.trans p2) h2⟩
  · rw [if_neg q] at hE hG
    refine ih C1 _ sm s1 h1 n1 n2 hs (fun e he C2 f2 => ⟨none, rfl, f2.1.1, fun _ => ⟨fun z => absurd z q, fun _ => hE e (by rw [he]) C2 (f2.of p1)⟩, fun z hz => by cases hz⟩) (fun s2 he2 C2 p2 h2 => ⟨some (rd + 2 + (s2.2.2.1 - 1)), rfl, p2.1, fun hz => (by cases hz), fun z2 hz2 => ?_⟩)
    obtain ⟨m1, m2, m3⟩ := pPart_nx hc hs n1 he2
    have m1a := m1.1
    rw [he2] at hE hG
    simp only at hE hG
    refine w_X6_readOperation_44 rd _ _ _ _ _ _ ?_
    rw [k3]
    refine ⟨fun q3 => ⟨fun _ => ?_, fun z => absurd q3 z⟩, fun q3 => ⟨h2.1, ?_⟩⟩
    · rw [if_pos q3] at hG
      refine w_X6_readOperation_73 rd _ _ _ _ _ ⟨h2.1, ?_⟩
      exact c_new h2 hr op st none [s1.2.2.1 - 1, s2.2.2.1 - 1] (by simp) fun C3 p3 h3 => ⟨_, rfl, p3.1, hG _ rfl (show s2.2.2.1 + 1 ≤ 61 by omega) m2 C3 ((p1.trans p2).trans p3) h3⟩
    · rw [if_neg q3] at hE hG
      refine ih C2 _ sm s2 h2 m1 m2 hs (fun e he C3 f3 => ⟨none, rfl, f3.1.1, fun _ => ⟨fun z => absurd z q3, fun _ => hE e (by rw [he]) C3 (f3.of (p1.trans p2))⟩, fun z hz => by cases hz⟩) (fun s3 he3 C3 p3 h3 => ⟨some (rd + 2 + (s3.2.2.1 - 1)), rfl, p3.1, fun hz => (by cases hz), fun z3 hz3 => ?_⟩)
      obtain ⟨l1, l2, l3⟩ := pPart_nx hc hs m1 he3
      have l1a := l1.1
      rw [he3] at hG
      simp only at hG
      refine w_X6_readOperation_73 rd _ _ _ _ _ ⟨h3.1, ?_⟩
      exact c_new h3 hr op st none [s1.2.2.1 - 1, s2.2.2.1 - 1, s3.2.2.1 - 1] (by simp) fun C4 p4 h4 => ⟨_, rfl, p4.1, hG _ rfl (show s3.2.2.1 + 1 ≤ 61 by omega) l2 C4 (((p1.trans p2).trans p3).trans p4) h4⟩
end RDT
