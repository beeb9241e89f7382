/-! The class's reader: its constructor, a whole expression. -/
def pEnd (ch : Nat → Option Nat) (x : Nat ⊕ pS) : Nat ⊕ pS := match x with
  | .inl e => .inl e
  | .inr s => if ch s.1 = none then .inr s else .inl s.1
def sm0 : Nat → Option Nat := fun _ => none
def smE : Nat → Option Nat := fun i => if i = 0 then some 0 else if i = 1 then some 1 else none
def T0 : Nat → nd := fun _ => (0, 0, 0, none, [])
def pExpr (ch : Nat → Option Nat) (fd : Nat → Bool) : Nat ⊕ pS := pEnd ch (pPart ch fd 6 smE (0, 2, 0, T0))
section RDV
variable {D : Nat} {c : cX} {d : Nat} {C : cS} {K : Option Value → cS → Prop} {rd w0 len : Nat} {ch : Nat → Option Nat} {fd : Nat → Bool} {sm : Nat → Option Nat} {s : pS}
theorem c_toEnd (hc : chO ch len) (hr : 400 ≤ rd) (h : RD C rd w0 ch len fd sm s) (hp : pPre len s) (hl : s.1 ≤ len) (hs : smO sm)
    (hE : ∀ e, pEnd ch (pPart ch fd 6 sm s) = .inl e → ∀ C', rdF rd w0 C C' e → K (some (va_rf none)) C')
    (hG : ∀ s', pEnd ch (pPart ch fd 6 sm s) = .inr s' → pPart ch fd 6 sm s = .inr s' → ∀ C', pfr rd C C' → RD C' rd w0 ch len fd sm s' → K (some (va_rf (some (rd + 2 + (s'.2.2.1 - 1))))) C') :
    cM c (D + 24) eX6_readToEnd [.ref rd] C K := by
  have hl60 := hc.1
  refine w_X6_readToEnd rd ⟨h.1, ?_⟩
  refine rd_ok D c fd w0 hc hr 6 (by decide) C _ sm s h hp hl hs (fun e he C1 f1 => ⟨none, rfl, f1.1.1, fun _ => hE e (by rw [he]; rfl) C1 f1, fun z hz => by cases hz⟩) (fun s1 he1 C1 p1 h1 => ⟨some (rd + 2 + (s1.2.2.1 - 1)), rfl, p1.1, fun hz => (by cases hz), fun z hz => ?_⟩)
  obtain ⟨n1, n2, n3⟩ := pPart_nx hc hs hp he1
  have n1a := n1.1
  have hx : rfI (ch s1.1) = -1 ↔ ch s1.1 = none := rfI_inj fun y e => by have := hc.2.2 _ _ e; omega
  refine c_peek h1 hc (by omega) ⟨_, rfl, cle.refl _, fun q => ?_, fun q => ?_⟩
  · refine hE s1.1 ?_ C1 ((h1.fail (by omega)).of p1)
    unfold pEnd
    rw [he1]
    simp only
    rw [if_neg (fun z => q (hx.mpr z))]
  · refine hG s1 ?_ he1 C1 p1 h1
    unfold pEnd
    rw [he1]
    simp only
    rw [if_pos (hx.mp q)]
theorem smE_O : smO smE := by
  intro i t e
  unfold smE at e
  split at e
  · cases e; decide
  · split at e
    · cases e; decide
    · cases e
/-- a whole expression -/
theorem c_readE (hc : chO ch len) (hr : 400 ≤ rd) (h : RD C rd w0 ch len fd sm0 (0, 2, 0, T0))
    (hE : ∀ e, pExpr ch fd = .inl e → ∀ C', rdF rd w0 C C' e → K (some (va_rf none)) C')
    (hG : ∀ s', pExpr ch fd = .inr s' → pPart ch fd 6 smE (0, 2, 0, T0) = .inr s' → ∀ C', pfr rd C C' → RD C' rd w0 ch len fd smE s' → K (some (va_rf (some (rd + 2 + (s'.2.2.1 - 1))))) C') :
    cM c (D + 25) eX6_readExpression [.ref rd] C K := by
  have hm : RD (csi (csi C (rd + 1) 0 0) (rd + 1) 1 1) rd w0 ch len fd smE (0, 2, 0, T0) ∧ pfr rd C (csi (csi C (rd + 1) 0 0) (rd + 1) 1 1) := by
    refine h.mod hr rfl rfl rfl (fun _ _ => rfl) (fun _ _ => rfl) (fun a i q1 q2 => ?_) (fun i hi => by rw [cI_csi_ne _ _ (by omega), cI_csi_ne _ _ (by omega)]) ?_ ?_ ?_ rfl (fun i hi => ?_)
    · rw [cI_csi_ne _ _ (by omega), cI_csi_ne _ _ (by omega)]
    · rw [cI_csi_ne _ _ (by omega), cI_csi_ne _ _ (by omega)]; exact h.2.2.2.2.2.1
    · rw [cI_csi_ne _ _ (by omega), cI_csi_ne _ _ (by omega)]; exact h.2.2.2.2.2.2.1
    · rw [cI_csi_ne _ _ (by omega), cI_csi_ne _ _ (by omega)]; exact h.2.2.2.2.2.2.2.1
    · by_cases z1 : i = 1
      · subst z1; rw [cI_csi]; rfl
      · rw [cI_csi_ne _ _ (by omega)]
        by_cases z0 : i = 0
        · subst z0; rw [cI_csi]; rfl
        · rw [cI_csi_ne _ _ (by omega)]
          have y := h.2.2.2.2.2.2.2.2.2.2.1 i hi
          rw [y]
          show rfI none = rfI (smE i)
          unfold smE
          rw [if_neg z0, if_neg z1]
  obtain ⟨m1, m2⟩ := hm
  refine w_X6_readExpression rd ⟨h.1, rd + 1, h.2.2.2.1, 8, h.2.2.2.2.1, 0, am_ix_n (j := 0) (by decide) (by decide), 1, am_ix_n (j := 1) (by decide) (by decide), ?_⟩
  exact c_toEnd hc hr m1 ⟨Nat.le_refl _, show (2 : Nat) ≤ 17 by decide⟩ (Nat.zero_le _) smE_O (fun e he C1 f1 => ⟨none, rfl, f1.1.1, hE e he C1 (f1.of m2)⟩) (fun s1 he he2 C1 p1 h1 => ⟨_, rfl, p1.1, hG s1 he he2 C1 (m2.trans p1) h1⟩)
end RDV
