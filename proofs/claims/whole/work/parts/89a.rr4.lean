/-! The reference's reader: brackets. -/
/-- a bracket with j parts so far -/
def BK (S : rS) (ch : Nat → Option Nat) (len : Nat) (fd : Nat → Bool) (sm : Nat → Option Nat) (s : pS) (dp r op w st j : Nat) : Prop := RRE S ch len fd sm s (dp + 1) ∧ S.1 24 dp = nI r ∧ S.1 4 r = nI op ∧ S.1 8 r = nI w ∧ S.1 9 r = nI st ∧ kst S r j
theorem pQ.step {len b dp : Nat} {ch : Nat → Option Nat} {fd : Nat → Bool} {sm : Nat → Option Nat} {sc : List Nat} {s s' : pS} (h : pQ len sm sc s dp) (hc : chO ch len) (e : pPart ch fd b sm s = .inr s') : pQ len sm sc s' dp ∧ pOk b len sc s s' ∧ s.2.2.1 < s'.2.2.1 := by
  obtain ⟨q1, q2, q3, q4, q5, q6⟩ := h
  have o := pPart_ok fd hc b sm sc s s' q1 q2 e
  have l := pPart_sl ch fd b sm s s' e
  obtain ⟨o1, o2, o3, o4, o5, o6, o7, o8⟩ := o
  have p1 := q2.1
  exact ⟨⟨q1, ⟨by omega, o6⟩, o2, by omega, by omega, q6⟩, ⟨o1, o2, o3, o4, o5, o6, o7, o8⟩, o3⟩
theorem kst.cong {S S' : rS} {r j : Nat} (h : kst S r j) (e : ∀ i, i < 3 → S'.1 (5 + i) r = S.1 (5 + i) r) : kst S' r j := fun i hi => by rw [e i hi]; exact h i hi
section RRD2
variable {c : rX} {D d : Nat} {S : rS} {K : Option Value → rS → Prop} {ch : Nat → Option Nat} {len : Nat} {fd : Nat → Bool} {sm : Nat → Option Nat} {sc : List Nat} {s : pS} {dp : Nat}
/-- one more part of a bracket: it fails, more are wanted, or the bracket ends -/
theorem r_next (ho : rOK c) {b k0 op w st j p : Nat} {sm1 : Nat → Option Nat} (hc : chO ch len) (ih : rpC c D ch len fd b) (hb : dp + 1 + b = 6) (hj : j ≤ 2) (hk : k0 + 1 ≤ s.2.2.1 + (dp + 1)) (hB : BK S ch len fd sm s dp (256 + k0) op w st j) (hQ : pQ len sm sc s (dp + 1)) (hop : op < 65536) (hw : w < 8) (hp : pO fd (some op) = some p)
    (hn : op = 58 ∧ j = 0 → sm w = none ∧ ∃ o, o.isSome = true ∧ sm1 = up sm w o) (hn' : ¬ (op = 58 ∧ j = 0) → sm1 = sm)
    (hE : ∀ e, pPart ch fd b sm s = .inl e → ∀ S', rfr k0 dp S S' → ¬ S'.1 23 0 = 0 → S'.1 20 0 = nI e → K (some (.int (-1))) S')
    (h1 : ∀ s1, pPart ch fd b sm s = .inr s1 → j + 1 < p → ∀ S', rfr k0 dp S S' → BK S' ch len fd sm1 s1 dp (256 + k0) op w st (j + 1) → S'.1 (5 + j) (256 + k0) = nI (256 + (s.2.2.1 + (dp + 1))) → rTr S' s1.2.2.2 (b + 1) (256 + (s.2.2.1 + (dp + 1))) (256 + (s1.2.2.1 + (dp + 1))) (s1.2.2.1 - 1) → (∀ f i, 4 ≤ f → f ≤ 9 → 256 + k0 ≤ i → i < 256 + (s.2.2.1 + (dp + 1)) → ¬ (f = 5 + j ∧ i = 256 + k0) → S'.1 f i = S.1 f i) → JR c D K S')
    (h2 : ∀ s1, pPart ch fd b sm s = .inr s1 → p ≤ j + 1 → ¬ ch s1.1 = some 41 → ∀ S', rfr k0 dp S S' → ¬ S'.1 23 0 = 0 → S'.1 20 0 = nI s1.1 → K (some (.int (-1))) S')
    (h3 : ∀ s1, pPart ch fd b sm s = .inr s1 → p ≤ j + 1 → ch s1.1 = some 41 → ∀ S', rfr k0 dp S S' → RTX S' ch len fd → S'.1 20 0 = nI (s1.1 + 1) → S'.1 21 0 = nI dp → S'.1 23 0 = 0 → S'.1 11 4 = nI (s1.2.2.1 + (dp + 1)) → (op = 58 → SCP S' (up sm1 w none)) → (¬ op = 58 → SCP S' sm) → S'.1 4 (256 + k0) = nI op → S'.1 8 (256 + k0) = nI w → S'.1 9 (256 + k0) = nI st → kst S' (256 + k0) (j + 1) → S'.1 (5 + j) (256 + k0) = nI (256 + (s.2.2.1 + (dp + 1))) → rTr S' s1.2.2.2 (b + 1) (256 + (s.2.2.1 + (dp + 1))) (256 + (s1.2.2.1 + (dp + 1))) (s1.2.2.1 - 1) → (∀ f i, 4 ≤ f → f ≤ 9 → 256 + k0 ≤ i → i < 256 + (s.2.2.1 + (dp + 1)) → ¬ (f = 5 + j ∧ i = 256 + k0) → S'.1 f i = S.1 f i) → JC c D K S' (nI (256 + k0))) :
    JR c D K S := by
  obtain ⟨hR, h24, h4, h8, h9, hs⟩ := hB
  have hl := hc.1
  have hq5 := hQ.2.2.2.2.1
  have hq3 := hQ.2.2.1
  refine ih K S sm sc s (dp + 1) hb hR hQ (fun e he S1 f1 w1 a1 => hE e he S1 (f1.mono (by omega) (by omega)) w1 a1) (fun s1 he S1 f1 R1 t1 => ?_)
  obtain ⟨Q1, o1, lt1⟩ := hQ.step hc he
  have hq5' := Q1.2.2.2.2.1
  have hq3' := Q1.2.2.1
  have nd : ∀ f, 4 ≤ f → f ≤ 9 → S1.1 f (256 + k0) = S.1 f (256 + k0) := fun f z1 z2 => f1.2.2.1 f _ (by omega) z1 z2
  have e24 : S1.1 24 dp = nI (256 + k0) := by rw [f1.2.2.2 dp (by omega)]; exact h24
  have e4 : S1.1 4 (256 + k0) = nI op := by rw [nd 4 (by omega) (by omega)]; exact h4
  have e8 : S1.1 8 (256 + k0) = nI w := by rw [nd 8 (by omega) (by omega)]; exact h8
  have e9 : S1.1 9 (256 + k0) = nI st := by rw [nd 9 (by omega) (by omega)]; exact h9
  have eks : kst S1 (256 + k0) j := hs.cong fun i hi => nd (5 + i) (by omega) (by omega)
  have fA : rfr k0 dp S S1 := f1.mono (by omega) (by omega)
  refine JC.step ho (dp := dp) (a := s1.1) R1.1 hc R1.2.1 (by omega) R1.2.2.1 (by omega) R1.2.2.2.1 e24 (by omega) (by omega) hj eks e4 hop e8 hp (fun hlt S2 g1 g2 g3 g4 g5 g6 => ?_) (fun hle hne S2 g1 g4 g5 => ?_) (fun hle heq S2 g1 g2 g3 g4 g5 g6 g7 => ?_)
  · -- more parts
    have fB : rfr k0 dp S1 S2 := ⟨g1, fun f i z1 z2 z3 => g4 f i (by omega) (by omega), fun f i z1 z2 z3 => g4 f i (by omega) (by omega), fun i hi => g4 24 i (by omega) (by omega)⟩
    have sc1 : SCP S2 sm1 := by
      by_cases z : op = 58 ∧ j = 0
      · obtain ⟨n1, o, n2, n3⟩ := hn z
        rw [n3]
        exact R1.2.2.2.2.2.set hw n2 (g5 ⟨z.2, z.1⟩)
      · rw [hn' z]
        exact R1.2.2.2.2.2.cong (g6 (fun y => z ⟨y.2, y.1⟩))
    refine h1 s1 he hlt S2 (fA.trans fB) ⟨⟨R1.1.r fB, ?_, ?_, ?_, ?_, sc1⟩, ?_, ?_, ?_, ?_, g3⟩ g2 (rTr_cong t1 fun f i z1 z2 z3 z4 => g4 f i (by omega) (by omega)) (fun f i z1 z2 z3 z4 z5 => ?_)
    · rw [g4 20 0 (by omega) (by omega)]; exact R1.2.1
    · rw [g4 21 0 (by omega) (by omega)]; exact R1.2.2.1
    · rw [g4 23 0 (by omega) (by omega)]; exact R1.2.2.2.1
    · rw [g4 11 4 (by omega) (by omega)]; exact R1.2.2.2.2.1
    · rw [g4 24 dp (by omega) (by omega)]; exact e24
    · rw [g4 4 _ (by omega) (by omega)]; exact e4
    · rw [g4 8 _ (by omega) (by omega)]; exact e8
    · rw [g4 9 _ (by omega) (by omega)]; exact e9
    · rw [g4 f i z5 (by omega)]; exact f1.2.2.1 f i z4 z1 z2
  · -- no closing bracket
    have fB : rfr k0 dp S1 S2 := ⟨g1, fun f i z1 z2 z3 => g4 f i (by omega) (by omega) (by omega), fun f i z1 z2 z3 => g4 f i (by omega) (by omega) (by omega), fun i hi => g4 24 i (by omega) (by omega) (by omega)⟩
    exact h2 s1 he hle hne S2 (fA.trans fB) (by rw [g5]; decide) (by rw [g4 20 0 (by omega) (by omega) (by omega)]; exact R1.2.1)
  · -- the bracket ends
    have fB : rfr k0 dp S1 S2 := ⟨g1, fun f i z1 z2 z3 => g4 f i (by omega) (by omega) (by omega) (by omega), fun f i z1 z2 z3 => g4 f i (by omega) (by omega) (by omega) (by omega), fun i hi => g4 24 i (by omega) (by omega) (by omega) (by omega)⟩
    obtain ⟨v1, c1, c2, c3, c4⟩ := g7
    refine h3 s1 he hle heq S2 (fA.trans fB) (R1.1.r fB) g5 g6 ?_ ?_ (fun z => ?_) (fun z => ?_) ?_ ?_ ?_ g3 g2 (rTr_cong t1 fun f i z1 z2 z3 z4 => g4 f i (by omega) (by omega) (by omega) (by omega)) (fun f i z1 z2 z3 z4 z5 => ?_)
    · rw [g4 23 0 (by omega) (by omega) (by omega) (by omega)]; exact R1.2.2.2.1
    · rw [g4 11 4 (by omega) (by omega) (by omega) (by omega)]; exact R1.2.2.2.2.1
    · -- a binding ends
      have sc1 : SCP (rsi S2 22 0 v1) sm1 := by
        by_cases y : op = 58 ∧ j = 0
        · obtain ⟨n1, o, n2, n3⟩ := hn y
          rw [n3]
          exact R1.2.2.2.2.2.set hw n2 (by rw [rsi_i]; exact c1 ⟨y.2, y.1⟩)
        · rw [hn' y]
          exact R1.2.2.2.2.2.cong (by rw [rsi_i]; exact c2 (fun y' => y ⟨y'.2, y'.1⟩))
      exact sc1.clr hw (by rw [rsi_i]; exact c3 z)
    · refine R1.2.2.2.2.2.cong ?_
      rw [c4 z]
      exact c2 (fun y => z y.2)
    · rw [g4 4 _ (by omega) (by omega) (by omega) (by omega)]; exact e4
    · rw [g4 8 _ (by omega) (by omega) (by omega) (by omega)]; exact e8
    · rw [g4 9 _ (by omega) (by omega) (by omega) (by omega)]; exact e9
    · rw [g4 f i z5 (by omega) (by omega) (by omega)]; exact f1.2.2.1 f i z4 z1 z2
end RRD2
