/-! Reading keeps its word: bindings, brackets, by the brackets left. -/
theorem pBind_ok {ch : Nat → Option Nat} {len b st : Nat} {sm : Nat → Option Nat} {sc : List Nat} {r : (Nat → Option Nat) → pS → Nat ⊕ pS} {s s' : pS} (hr : rOk ch len b r) (hl : len ≤ 60) (hs : scO sm sc) (hp : pPre len s) (hst : st + 1 < s.1) (h : pBind ch r sm st s = .inr s') (hlt : s'.1 < len) :
    s.1 < s'.1 ∧ s.2.2.1 < s'.2.2.1 ∧ s'.2.2.1 + s.1 ≤ s.2.2.1 + s'.1 + 1 ∧ s.2.1 ≤ s'.2.1 ∧ s'.2.1 ≤ 17 ∧ (∀ m, m < s.2.2.1 → s'.2.2.2 m = s.2.2.2 m) ∧ wt s'.2.2.2 (b + 2) (s'.2.2.1 - 1) s.2.2.1 s.2.1 s'.2.1 sc := by
  unfold pBind at h
  cases e0 : fNm sm (ch s.1) with
  | none => rw [e0] at h; cases h
  | some x =>
    rw [e0] at h
    simp only at h
    cases e1 : r sm (s.1 + 1, s.2) with
    | inl e => rw [e1] at h; cases h
    | inr s1 =>
      rw [e1] at h
      simp only at h
      have hp0 : pPre len (s.1 + 1, s.2) := ⟨Nat.le_succ_of_le hp.1, hp.2⟩
      have hq := hr sm sc _ s1 hs hp0 e1
      have a1 : s.1 + 1 < s1.1 := hq.1
      have a3 : s.2.2.1 < s1.2.2.1 := hq.2.2.1
      have a4 : s1.2.2.1 + (s.1 + 1) ≤ s.2.2.1 + s1.1 := hq.2.2.2.1
      have a5 : s.2.1 ≤ s1.2.1 := hq.2.2.2.2.1
      have a6 : s1.2.1 ≤ 17 := hq.2.2.2.2.2.1
      have a7 : ∀ m, m < s.2.2.1 → s1.2.2.2 m = s.2.2.2 m := hq.2.2.2.2.2.2.1
      have a8 : wt s1.2.2.2 (b + 1) (s1.2.2.1 - 1) s.2.2.1 s.2.1 s1.2.1 sc := hq.2.2.2.2.2.2.2
      by_cases k17 : 17 ≤ s1.2.1
      · rw [if_pos k17] at h; cases h
      · rw [if_neg k17] at h
        cases e2 : r (up sm x (some s1.2.1)) (s1.1, s1.2.1 + 1, s1.2.2) with
        | inl e => rw [e2] at h; cases h
        | inr s2 =>
          rw [e2] at h
          simp only at h
          injection h with h
          subst h
          have hpa := hp.1
          have hp1 : pPre len (s1.1, s1.2.1 + 1, s1.2.2) := ⟨show s1.2.2.1 ≤ s1.1 by omega, show s1.2.1 + 1 ≤ 17 by omega⟩
          have hs1 : scO (up sm x (some s1.2.1)) (s1.2.1 :: sc) := by
            intro i t ht
            by_cases q : i = x
            · subst q
              rw [up_same] at ht
              cases ht
              exact List.mem_cons_self ..
            · rw [up_ne _ _ q] at ht
              exact List.mem_cons_of_mem _ (hs i t ht)
          have hq2 := hr _ (s1.2.1 :: sc) _ s2 hs1 hp1 e2
          have b1 : s1.1 < s2.1 := hq2.1
          have b3 : s1.2.2.1 < s2.2.2.1 := hq2.2.2.1
          have b4 : s2.2.2.1 + s1.1 ≤ s1.2.2.1 + s2.1 := hq2.2.2.2.1
          have b5 : s1.2.1 + 1 ≤ s2.2.1 := hq2.2.2.2.2.1
          have b6 : s2.2.1 ≤ 17 := hq2.2.2.2.2.2.1
          have b7 : ∀ m, m < s1.2.2.1 → s2.2.2.2 m = s1.2.2.2 m := hq2.2.2.2.2.2.2.1
          have b8 : wt s2.2.2.2 (b + 1) (s2.2.2.1 - 1) s1.2.2.1 (s1.2.1 + 1) s2.2.1 (s1.2.1 :: sc) := hq2.2.2.2.2.2.2.2
          have hlt' : s2.1 < len := hlt
          refine ⟨show s.1 < s2.1 by omega, show s.2.2.1 < s2.2.2.1 + 1 by omega, show s2.2.2.1 + 1 + s.1 ≤ s.2.2.1 + s2.1 + 1 by omega, show s.2.1 ≤ s2.2.1 by omega, b6, fun m hm => ((up_ne _ _ (show m ≠ s2.2.2.1 by omega)).trans (b7 m (by omega))).trans (a7 m hm), ?_⟩
          show wt (up s2.2.2.2 s2.2.2.1 _) (b + 1 + 1) (s2.2.2.1 + 1 - 1) s.2.2.1 s.2.1 s2.2.1 sc
          rw [Nat.add_sub_cancel]
          refine ⟨by omega, by omega, by omega, b6, ?_, ?_, ?_⟩
          · rw [up_same]; show (58 : Nat) < 65536; decide
          · rw [up_same]; show st < 100; omega
          · rw [up_same]
            refine ⟨by omega, by omega, Or.inr ⟨rfl, s1.2.1, rfl, wt_cong a8 fun m p q => ?_, ?_⟩⟩
            · exact (up_ne _ _ (by omega)).trans (b7 m (by omega))
            · rw [show s1.2.2.1 - 1 + 1 = s1.2.2.1 by omega]
              exact wt_cong b8 fun m p q => up_ne _ _ (by omega)
theorem nPt_op {fd : Nat → Bool} {sm : Nat → Option Nat} {c : Nat} (h : nPt fd sm (some c) ≠ 0) (h58 : c ≠ 58) :
    (nPt fd sm (some c) < 2 ∧ c ∈ [78, 66, 69, 80, 33, 65, 68, 71, 72, 73]) ∨ (nPt fd sm (some c) = 2 ∧ c ∈ [67, 43, 45, 60, 38, 124]) ∨ (nPt fd sm (some c) = 3 ∧ c = 63) := by
  simp only [List.mem_cons, List.not_mem_nil, or_false]
  unfold nPt at h ⊢
  simp only at h ⊢
  by_cases q1 : c = 33 ∨ c = 65 ∨ c = 66 ∨ c = 68 ∨ c = 69 ∨ c = 78 ∨ c = 80
  · rw [if_pos q1]; omega
  · rw [if_neg q1] at h ⊢
    by_cases q2 : c = 38 ∨ c = 43 ∨ c = 45 ∨ c = 60 ∨ c = 67 ∨ c = 124
    · rw [if_pos q2]; omega
    · rw [if_neg q2, if_neg h58] at h ⊢
      by_cases q3 : c = 63
      · rw [if_pos q3]; omega
      · rw [if_neg q3] at h ⊢
        by_cases q4 : 71 ≤ c ∧ c ≤ 73 ∧ fd (c - 71) = true
        · rw [if_pos q4]; have := q4.1; have := q4.2.1; omega
        · rw [if_neg q4] at h; exact absurd rfl h
theorem pBr_ok {ch : Nat → Option Nat} {len b : Nat} {fd : Nat → Bool} {sm : Nat → Option Nat} {sc : List Nat} {r : (Nat → Option Nat) → pS → Nat ⊕ pS} {s s' : pS} (hc : chO ch len) (hr : rOk ch len b r) (hs : scO sm sc) (hp : pPre len s) (h : pBr ch fd r sm s = .inr s') : pOk (b + 1) len sc s s' := by
  unfold pBr at h
  by_cases q0 : nPt fd sm (ch (s.1 + 1)) = 0
  · rw [if_pos q0] at h; cases h
  · rw [if_neg q0] at h
    cases e0 : ch (s.1 + 1) with
    | none => rw [e0] at q0; exact absurd rfl q0
    | some c =>
      rw [e0] at h q0
      have hp0 : pPre len (s.1 + 2, s.2) := ⟨Nat.le_trans hp.1 (by omega), hp.2⟩
      have key : ∀ s1 : pS, pClose ch (.inr s1) = .inr s' → (s1.1 < len → s.1 + 2 < s1.1 ∧ s.2.2.1 < s1.2.2.1 ∧ s1.2.2.1 + (s.1 + 2) ≤ s.2.2.1 + s1.1 + 1 ∧ s.2.1 ≤ s1.2.1 ∧ s1.2.1 ≤ 17 ∧ (∀ m, m < s.2.2.1 → s1.2.2.2 m = s.2.2.2 m) ∧ wt s1.2.2.2 (b + 2) (s1.2.2.1 - 1) s.2.2.1 s.2.1 s1.2.1 sc) → pOk (b + 1) len sc s s' := by
        intro s1 h1 h2
        unfold pClose at h1
        simp only at h1
        by_cases q1 : ch s1.1 = some 41
        · rw [if_pos q1] at h1
          injection h1 with h1
          subst h1
          have l1 := hc.lt q1
          obtain ⟨a1, a2, a3, a4, a5, a6, a7⟩ := h2 l1
          exact ⟨show s.1 < s1.1 + 1 by omega, l1, a2, show s1.2.2.1 + s.1 ≤ s.2.2.1 + (s1.1 + 1) by omega, a4, a5, a6, a7⟩
        · rw [if_neg q1] at h1; cases h1
      by_cases q58 : c = 58
      · rw [if_pos (by rw [q58])] at h
        cases e1 : pBind ch r sm s.1 (s.1 + 2, s.2) with
        | inl e => rw [e1] at h; cases h
        | inr s1 =>
          rw [e1] at h
          exact key s1 h fun hlt => pBind_ok hr hc.1 hs hp0 (Nat.lt_succ_self _) e1 hlt
      · rw [if_neg (fun z => q58 (Option.some.inj z))] at h
        cases e1 : pOper (r sm) ((some c).getD 0) s.1 (nPt fd sm (some c)) (s.1 + 2, s.2) with
        | inl e => rw [e1] at h; cases h
        | inr s1 =>
          rw [e1] at h
          exact key s1 h fun hlt => pOper_ok hr hc.1 hs hp0 (Nat.lt_succ_self _) (hc.2.2 _ _ e0) (nPt_op q0 q58) e1 hlt
theorem pPart_ok {ch : Nat → Option Nat} {len : Nat} (fd : Nat → Bool) (hc : chO ch len) : ∀ b, rOk ch len b (pPart ch fd b)
  | 0 => by
    intro sm sc s s' hs hp h
    unfold pPart at h
    by_cases q : ch s.1 = some 40
    · rw [if_pos q] at h; cases h
    · rw [if_neg q] at h
      exact pLeaf_ok hc hs hp h
  | b + 1 => by
    intro sm sc s s' hs hp h
    unfold pPart at h
    by_cases q : ch s.1 = some 40
    · rw [if_pos q] at h
      exact pBr_ok hc (pPart_ok fd hc b) hs hp h
    · rw [if_neg q] at h
      exact pLeaf_ok hc hs hp h
