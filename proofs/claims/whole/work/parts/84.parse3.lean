/-! What reading gives: names and slots agree, calls are of functions that are there. -/
theorem wn_cong {T T' : Nat → nd} : ∀ {k n lo sl sh : Nat} {sc : List Nat} {sm : Nat → Option Nat}, wt T k n lo sl sh sc → wn T k n sm → (∀ m, m ≤ n → T' m = T m) → wn T' k n sm
  | 0, _, _, _, _, _, _, w, _, _ => absurd w id
  | k + 1, n, lo, sl, sh, sc, sm, w, h, e => by
    have en := e n (Nat.le_refl _)
    by_cases ne : (T n).2.2.2.2 = []
    · unfold wn at h ⊢
      rw [en]
      rw [ne] at h ⊢
      exact h
    · obtain ⟨m, m1, m2, m3, m4, m5⟩ := wt_inv w ne
      unfold wn at h ⊢
      rw [en]
      rcases m5 with ⟨_, b1⟩ | ⟨a, b1, b2, b3⟩ | ⟨a, b1, b2, b3, b4, b5, b6⟩ | ⟨a, b1, b2, b3, m', b4, b5, b6, b7⟩
      · rw [b1] at h ⊢
        exact wn_cong m2 h fun q hq => e q (by omega)
      · rw [b1] at h ⊢
        refine ⟨wn_cong m2 h.1 fun q hq => e q (by omega), ?_⟩
        rcases h.2 with z | z
        · exact Or.inl ⟨z.1, wn_cong b3 z.2 fun q hq => e q (by omega)⟩
        · rw [z.1] at a; exact absurd a (by decide)
      · rw [b1] at h ⊢
        refine ⟨wn_cong m2 h.1 fun q hq => e q (by omega), ?_⟩
        rcases h.2 with z | z
        · exact absurd a z.1
        · exact Or.inr ⟨z.1, z.2.1, z.2.2.1, wn_cong b6 z.2.2.2 fun q hq => e q (by omega)⟩
      · rw [b1] at h ⊢
        exact ⟨wn_cong m2 h.1 fun q hq => e q (by omega), wn_cong b6 h.2.1 fun q hq => e q (by omega), wn_cong b7 h.2.2 fun q hq => e q (by omega)⟩
/-- what holds of each node that was read -/
def nP (fd : Nat → Bool) (x : nd) : Prop := (x.2.2.2.2 = [] → x.2.2.2.1 = none → isK x.1) ∧ (71 ≤ x.1 → x.1 ≤ 73 → fd (x.1 - 71) = true) ∧ (x.2.2.2.2 = [] → ∀ t, x.2.2.2.1 = some t → 97 ≤ x.1 ∧ x.1 < 105) ∧ (x.1 = 58 → 2 ≤ x.2.2.1 ∧ x.2.2.1 < 8)
def rNm (_ : Nat → Option Nat) (fd : Nat → Bool) (len b : Nat) (r : (Nat → Option Nat) → pS → Nat ⊕ pS) : Prop := ∀ sm sc s s', scO sm sc → pPre len s → r sm s = .inr s' → wn s'.2.2.2 (b + 1) (s'.2.2.1 - 1) sm ∧ ((∀ m, m < s.2.2.1 → nP fd (s.2.2.2 m)) → ∀ m, m < s'.2.2.1 → nP fd (s'.2.2.2 m))
theorem nP_mk {fd : Nat → Bool} {s : pS} {x : nd} (h : ∀ m, m < s.2.2.1 → nP fd (s.2.2.2 m)) (hx : nP fd x) : ∀ m, m < (pMk s x).2.2.1 → nP fd ((pMk s x).2.2.2 m) := by
  intro m hm
  have hm' : m < s.2.2.1 + 1 := hm
  show nP fd (up s.2.2.2 s.2.2.1 x m)
  by_cases e : m = s.2.2.1
  · subst e; rw [up_same]; exact hx
  · rw [up_ne _ _ e]; exact h m (by omega)
theorem wn_leaf {T : Nat → nd} {k n : Nat} {sm : Nat → Option Nat} (h1 : (T n).2.2.2.2 = []) (h2 : ∀ s, (T n).2.2.2.1 = some s → sm ((T n).1 - 97) = some s) : wn T (k + 1) n sm := by
  unfold wn
  rw [h1]
  exact h2
theorem pLeaf_nm {ch : Nat → Option Nat} {fd : Nat → Bool} {len b : Nat} : rNm ch fd len b (pLeaf ch) := by
  intro sm sc s s' hs hp h
  unfold pLeaf at h
  cases e : ch s.1 with
  | none => rw [e] at h; cases h
  | some c =>
    rw [e] at h
    simp only at h
    cases e2 : sOf sm c with
    | some t =>
      rw [e2] at h
      injection h with h
      subst h
      unfold sOf at e2
      have hc : 97 ≤ c ∧ c < 105 := by
        by_cases q : 97 ≤ c ∧ c < 105
        · exact q
        · rw [if_neg q] at e2; cases e2
      rw [if_pos hc] at e2
      refine ⟨?_, fun hA => nP_mk (s := (s.1 + 1, s.2)) hA ⟨fun _ z => (by cases z), fun z1 z2 => ?_, fun _ t' _ => hc, fun z => ?_⟩⟩
      · show wn (up s.2.2.2 s.2.2.1 _) (b + 1) (s.2.2.1 + 1 - 1) sm
        rw [Nat.add_sub_cancel]
        refine wn_leaf ?_ ?_
        · rw [up_same]
        · rw [up_same]
          intro s9 hs9
          injection hs9 with hs9
          subst hs9
          exact e2
      · have z2 : c ≤ 73 := z2
        omega
      · have z : c = 58 := z
        omega
    | none =>
      rw [e2] at h
      simp only at h
      by_cases q : isK c
      · rw [if_pos q] at h
        injection h with h
        subst h
        have q' := q
        unfold isK at q'
        refine ⟨?_, fun hA => nP_mk (s := (s.1 + 1, s.2)) hA ⟨fun _ _ => q, fun z1 z2 => ?_, fun _ t' z => (by cases z), fun z => ?_⟩⟩
        · show wn (up s.2.2.2 s.2.2.1 _) (b + 1) (s.2.2.1 + 1 - 1) sm
          rw [Nat.add_sub_cancel]
          refine wn_leaf ?_ ?_
          · rw [up_same]
          · rw [up_same]
            intro s9 hs9
            cases hs9
        · have z1 : 71 ≤ c := z1
          have z2 : c ≤ 73 := z2
          omega
        · have z : c = 58 := z
          omega
      · rw [if_neg q] at h; cases h
theorem pOper_nm {ch : Nat → Option Nat} {fd : Nat → Bool} {len b op st k : Nat} {r : (Nat → Option Nat) → pS → Nat ⊕ pS} (hr : rOk ch len b r) (hn : rNm ch fd len b r) {sm : Nat → Option Nat} {sc : List Nat} {s s' : pS} (hs : scO sm sc) (hp : pPre len s) (h58 : op ≠ 58) (hfd : 71 ≤ op → op ≤ 73 → fd (op - 71) = true) (h : pOper (r sm) op st k s = .inr s') :
    wn s'.2.2.2 (b + 2) (s'.2.2.1 - 1) sm ∧ ((∀ m, m < s.2.2.1 → nP fd (s.2.2.2 m)) → ∀ m, m < s'.2.2.1 → nP fd (s'.2.2.2 m)) := by
  unfold pOper at h
  have np : ∀ l : List Nat, l ≠ [] → nP fd (op, st, 0, none, l) := fun l hl => ⟨fun z => absurd z hl, hfd, fun z => absurd z hl, fun z => absurd z h58⟩
  cases e1 : r sm s with
  | inl e => rw [e1] at h; cases h
  | inr s1 =>
    rw [e1] at h
    simp only at h
    have q1 := hr sm sc s s1 hs hp e1
    have w1 := hn sm sc s s1 hs hp e1
    have a3 : s.2.2.1 < s1.2.2.1 := q1.2.2.1
    have hp1 : pPre len s1 := ⟨by have := q1.2.2.2.1; have := hp.1; omega, q1.2.2.2.2.2.1⟩
    by_cases c2 : k < 2
    · rw [if_pos c2] at h
      injection h with h
      subst h
      refine ⟨?_, fun hA => nP_mk (w1.2 hA) (np _ (by simp))⟩
      show wn (up s1.2.2.2 s1.2.2.1 _) (b + 1 + 1) (s1.2.2.1 + 1 - 1) sm
      rw [Nat.add_sub_cancel]
      unfold wn
      rw [up_same]
      exact wn_cong q1.2.2.2.2.2.2.2 w1.1 fun m hm => up_ne _ _ (by omega)
    · rw [if_neg c2] at h
      cases e2 : r sm s1 with
      | inl e => rw [e2] at h; cases h
      | inr s2 =>
        rw [e2] at h
        simp only at h
        have q2 := hr sm sc s1 s2 hs hp1 e2
        have w2 := hn sm sc s1 s2 hs hp1 e2
        have b3 : s1.2.2.1 < s2.2.2.1 := q2.2.2.1
        have b7 : ∀ m, m < s1.2.2.1 → s2.2.2.2 m = s1.2.2.2 m := q2.2.2.2.2.2.2.1
        have hp2 : pPre len s2 := ⟨by have := q2.2.2.2.1; have := hp1.1; omega, q2.2.2.2.2.2.1⟩
        by_cases c3 : k < 3
        · rw [if_pos c3] at h
          injection h with h
          subst h
          refine ⟨?_, fun hA => nP_mk (w2.2 (w1.2 hA)) (np _ (by simp))⟩
          show wn (up s2.2.2.2 s2.2.2.1 _) (b + 1 + 1) (s2.2.2.1 + 1 - 1) sm
          rw [Nat.add_sub_cancel]
          unfold wn
          rw [up_same]
          refine ⟨wn_cong q1.2.2.2.2.2.2.2 w1.1 fun m hm => ?_, Or.inl ⟨h58, wn_cong q2.2.2.2.2.2.2.2 w2.1 fun m hm => up_ne _ _ (by omega)⟩⟩
          rw [up_ne _ _ (by omega)]
          exact b7 m (by omega)
        · rw [if_neg c3] at h
          cases e3 : r sm s2 with
          | inl e => rw [e3] at h; cases h
          | inr s3 =>
            rw [e3] at h
            simp only at h
            injection h with h
            subst h
            have q3 := hr sm sc s2 s3 hs hp2 e3
            have w3 := hn sm sc s2 s3 hs hp2 e3
            have d3 : s2.2.2.1 < s3.2.2.1 := q3.2.2.1
            have d7 : ∀ m, m < s2.2.2.1 → s3.2.2.2 m = s2.2.2.2 m := q3.2.2.2.2.2.2.1
            refine ⟨?_, fun hA => nP_mk (w3.2 (w2.2 (w1.2 hA))) (np _ (by simp))⟩
            show wn (up s3.2.2.2 s3.2.2.1 _) (b + 1 + 1) (s3.2.2.1 + 1 - 1) sm
            rw [Nat.add_sub_cancel]
            unfold wn
            rw [up_same]
            refine ⟨wn_cong q1.2.2.2.2.2.2.2 w1.1 fun m hm => ?_, wn_cong q2.2.2.2.2.2.2.2 w2.1 fun m hm => ?_, wn_cong q3.2.2.2.2.2.2.2 w3.1 fun m hm => up_ne _ _ (by omega)⟩
            · rw [up_ne _ _ (by omega), d7 m (by omega)]
              exact b7 m (by omega)
            · rw [up_ne _ _ (by omega)]
              exact d7 m (by omega)
theorem pBind_nm {ch : Nat → Option Nat} {fd : Nat → Bool} {len b st : Nat} {r : (Nat → Option Nat) → pS → Nat ⊕ pS} (hr : rOk ch len b r) (hn : rNm ch fd len b r) {sm : Nat → Option Nat} {sc : List Nat} {s s' : pS} (hs : scO sm sc) (hp : pPre len s) (h : pBind ch r sm st s = .inr s') :
    wn s'.2.2.2 (b + 2) (s'.2.2.1 - 1) sm ∧ ((∀ m, m < s.2.2.1 → nP fd (s.2.2.2 m)) → ∀ m, m < s'.2.2.1 → nP fd (s'.2.2.2 m)) := by
  unfold pBind at h
  cases e0 : fNm sm (ch s.1) with
  | none => rw [e0] at h; cases h
  | some x =>
    rw [e0] at h
    simp only at h
    have hx : 2 ≤ x ∧ x < 8 ∧ sm x = none := by
      cases ec : ch s.1 with
      | none => rw [ec] at e0; cases e0
      | some c =>
        rw [ec] at e0
        have e0' : (if 99 ≤ c ∧ c < 105 ∧ sm (c - 97) = none then some (c - 97) else none) = some x := e0
        split at e0'
        case isTrue q => cases e0'; exact ⟨by omega, by omega, q.2.2⟩
        case isFalse q => cases e0'
    cases e1 : r sm (s.1 + 1, s.2) with
    | inl e => rw [e1] at h; cases h
    | inr s1 =>
      rw [e1] at h
      simp only at h
      have hp0 : pPre len (s.1 + 1, s.2) := ⟨Nat.le_succ_of_le hp.1, hp.2⟩
      have q1 := hr sm sc _ s1 hs hp0 e1
      have w1 := hn sm sc _ s1 hs hp0 e1
      have a3 : s.2.2.1 < s1.2.2.1 := q1.2.2.1
      have a4 : s1.2.2.1 + (s.1 + 1) ≤ s.2.2.1 + s1.1 := q1.2.2.2.1
      by_cases k17 : 17 ≤ s1.2.1
      · rw [if_pos k17] at h; cases h
      · rw [if_neg k17] at h
        cases e2 : r (up sm x (some s1.2.1)) (s1.1, s1.2.1 + 1, s1.2.2) with
        | inl e => rw [e2] at h; cases h
        | inr s2 =>
          rw [e2] at h
          simp only at h
          injection h with h
          subst h
          have hpa := hp.1
          have hp1 : pPre len (s1.1, s1.2.1 + 1, s1.2.2) := ⟨show s1.2.2.1 ≤ s1.1 by omega, show s1.2.1 + 1 ≤ 17 by omega⟩
          have hs1 : scO (up sm x (some s1.2.1)) (s1.2.1 :: sc) := by
            intro i t ht
            by_cases q : i = x
            · subst q
              rw [up_same] at ht
              cases ht
              exact List.mem_cons_self ..
            · rw [up_ne _ _ q] at ht
              exact List.mem_cons_of_mem _ (hs i t ht)
          have q2 := hr _ (s1.2.1 :: sc) _ s2 hs1 hp1 e2
          have w2 := hn _ (s1.2.1 :: sc) _ s2 hs1 hp1 e2
          have b3 : s1.2.2.1 < s2.2.2.1 := q2.2.2.1
          have b7 : ∀ m, m < s1.2.2.1 → s2.2.2.2 m = s1.2.2.2 m := q2.2.2.2.2.2.2.1
          refine ⟨?_, fun hA => nP_mk (w2.2 (w1.2 hA)) ⟨fun z => (by cases z), fun z1 z2 => (by have z1 : 71 ≤ 58 := z1; omega), fun z => (by cases z), fun _ => ⟨hx.1, hx.2.1⟩⟩⟩
          show wn (up s2.2.2.2 s2.2.2.1 _) (b + 1 + 1) (s2.2.2.1 + 1 - 1) sm
          rw [Nat.add_sub_cancel]
          unfold wn
          rw [up_same]
          refine ⟨wn_cong q1.2.2.2.2.2.2.2 w1.1 fun m hm => ?_, Or.inr ⟨rfl, hx.2.1, hx.2.2, wn_cong q2.2.2.2.2.2.2.2 w2.1 fun m hm => up_ne _ _ (by omega)⟩⟩
          rw [up_ne _ _ (by omega)]
          exact b7 m (by omega)
theorem nPt_fd {fd : Nat → Bool} {sm : Nat → Option Nat} {c : Nat} (h : nPt fd sm (some c) ≠ 0) : 71 ≤ c → c ≤ 73 → fd (c - 71) = true := by
  intro h1 h2
  unfold nPt at h
  simp only at h
  rw [if_neg (by omega), if_neg (by omega), if_neg (by omega), if_neg (by omega)] at h
  by_cases q : 71 ≤ c ∧ c ≤ 73 ∧ fd (c - 71) = true
  · exact q.2.2
  · rw [if_neg q] at h; exact absurd rfl h
theorem pBr_nm {ch : Nat → Option Nat} {fd : Nat → Bool} {len b : Nat} {r : (Nat → Option Nat) → pS → Nat ⊕ pS} (hc : chO ch len) (hr : rOk ch len b r) (hn : rNm ch fd len b r) {sm : Nat → Option Nat} {sc : List Nat} {s s' : pS} (hs : scO sm sc) (hp : pPre len s) (h : pBr ch fd r sm s = .inr s') :
    wn s'.2.2.2 (b + 2) (s'.2.2.1 - 1) sm ∧ ((∀ m, m < s.2.2.1 → nP fd (s.2.2.2 m)) → ∀ m, m < s'.2.2.1 → nP fd (s'.2.2.2 m)) := by
  unfold pBr at h
  by_cases q0 : nPt fd sm (ch (s.1 + 1)) = 0
  · rw [if_pos q0] at h; cases h
  · rw [if_neg q0] at h
    cases e0 : ch (s.1 + 1) with
    | none => rw [e0] at q0; exact absurd rfl q0
    | some c =>
      rw [e0] at h q0
      have hp0 : pPre len (s.1 + 2, s.2) := ⟨Nat.le_trans hp.1 (by omega), hp.2⟩
      have key : ∀ s1 : pS, pClose ch (.inr s1) = .inr s' → s' = (s1.1 + 1, s1.2) := by
        intro s1 h1
        unfold pClose at h1
        simp only at h1
        by_cases q1 : ch s1.1 = some 41
        · rw [if_pos q1] at h1
          injection h1 with h1
          exact h1.symm
        · rw [if_neg q1] at h1; cases h1
      by_cases q58 : c = 58
      · rw [if_pos (by rw [q58])] at h
        cases e1 : pBind ch r sm s.1 (s.1 + 2, s.2) with
        | inl e => rw [e1] at h; cases h
        | inr s1 =>
          rw [e1] at h
          rw [key s1 h]
          have z := pBind_nm hr hn hs hp0 e1
          exact z
      · rw [if_neg (fun z => q58 (Option.some.inj z))] at h
        cases e1 : pOper (r sm) ((some c).getD 0) s.1 (nPt fd sm (some c)) (s.1 + 2, s.2) with
        | inl e => rw [e1] at h; cases h
        | inr s1 =>
          rw [e1] at h
          rw [key s1 h]
          have z := pOper_nm hr hn hs hp0 q58 (nPt_fd q0) e1
          exact z
theorem pPart_nm {ch : Nat → Option Nat} {len : Nat} (fd : Nat → Bool) (hc : chO ch len) : ∀ b, rNm ch fd len b (pPart ch fd b)
  | 0 => by
    intro sm sc s s' hs hp h
    unfold pPart at h
    by_cases q : ch s.1 = some 40
    · rw [if_pos q] at h; cases h
    · rw [if_neg q] at h
      exact pLeaf_nm sm sc s s' hs hp h
  | b + 1 => by
    intro sm sc s s' hs hp h
    unfold pPart at h
    by_cases q : ch s.1 = some 40
    · rw [if_pos q] at h
      exact pBr_nm hc (pPart_ok fd hc b) (pPart_nm fd hc b) hs hp h
    · rw [if_neg q] at h
      exact pLeaf_nm sm sc s s' hs hp h
