/-! The reader as a function. -/
/-- the place in the text, the next slot, the next index, the nodes -/
abbrev pS : Type := Nat × Nat × Nat × (Nat → nd)
def isK (c : Nat) : Prop := (48 ≤ c ∧ c ≤ 57) ∨ c = 35 ∨ c = 126 ∨ c = 46
def isKd (c : Nat) : Decidable (isK c) := inferInstanceAs (Decidable ((48 ≤ c ∧ c ≤ 57) ∨ c = 35 ∨ c = 126 ∨ c = 46))
def sOf (sm : Nat → Option Nat) (c : Nat) : Option Nat := if 97 ≤ c ∧ c < 105 then sm (c - 97) else none
def fNm (sm : Nat → Option Nat) (x : Option Nat) : Option Nat := match x with
  | none => none
  | some c => if 99 ≤ c ∧ c < 105 ∧ sm (c - 97) = none then some (c - 97) else none
def hasF (sm : Nat → Option Nat) : Bool := (List.range 6).any fun i => (sm (i + 2)).isNone
def nPt (fd : Nat → Bool) (sm : Nat → Option Nat) (x : Option Nat) : Nat := match x with
  | none => 0
  | some c => if c = 33 ∨ c = 65 ∨ c = 66 ∨ c = 68 ∨ c = 69 ∨ c = 78 ∨ c = 80 then 1 else if c = 38 ∨ c = 43 ∨ c = 45 ∨ c = 60 ∨ c = 67 ∨ c = 124 then 2 else if c = 58 then (if hasF sm = true then 2 else 0) else if c = 63 then 3 else if 71 ≤ c ∧ c ≤ 73 ∧ fd (c - 71) = true then 1 else 0
def pMk (s : pS) (x : nd) : pS := (s.1, s.2.1, s.2.2.1 + 1, up s.2.2.2 s.2.2.1 x)
def pLeaf (ch : Nat → Option Nat) (sm : Nat → Option Nat) (s : pS) : Nat ⊕ pS := match ch s.1 with
  | none => .inl s.1
  | some c => match sOf sm c with
    | some t => .inr (pMk (s.1 + 1, s.2) (c, s.1, 0, some t, []))
    | none => @ite _ (isK c) (isKd c) (.inr (pMk (s.1 + 1, s.2) (c, s.1, 0, none, []))) (.inl s.1)
def pClose (ch : Nat → Option Nat) (x : Nat ⊕ pS) : Nat ⊕ pS := match x with
  | .inl e => .inl e
  | .inr s => if ch s.1 = some 41 then .inr (s.1 + 1, s.2) else .inl s.1
def pOper (r : pS → Nat ⊕ pS) (op st k : Nat) (s : pS) : Nat ⊕ pS := match r s with
  | .inl e => .inl e
  | .inr s1 => if k < 2 then .inr (pMk s1 (op, st, 0, none, [s1.2.2.1 - 1])) else match r s1 with
    | .inl e => .inl e
    | .inr s2 => if k < 3 then .inr (pMk s2 (op, st, 0, none, [s1.2.2.1 - 1, s2.2.2.1 - 1])) else match r s2 with
      | .inl e => .inl e
      | .inr s3 => .inr (pMk s3 (op, st, 0, none, [s1.2.2.1 - 1, s2.2.2.1 - 1, s3.2.2.1 - 1]))
def pBind (ch : Nat → Option Nat) (r : (Nat → Option Nat) → pS → Nat ⊕ pS) (sm : Nat → Option Nat) (st : Nat) (s : pS) : Nat ⊕ pS := match fNm sm (ch s.1) with
  | none => .inl s.1
  | some x => match r sm (s.1 + 1, s.2) with
    | .inl e => .inl e
    | .inr s1 => if 17 ≤ s1.2.1 then .inl s1.1 else match r (up sm x (some s1.2.1)) (s1.1, s1.2.1 + 1, s1.2.2) with
      | .inl e => .inl e
      | .inr s2 => .inr (pMk s2 (58, st, x, some s1.2.1, [s1.2.2.1 - 1, s2.2.2.1 - 1]))
def pBr (ch : Nat → Option Nat) (fd : Nat → Bool) (r : (Nat → Option Nat) → pS → Nat ⊕ pS) (sm : Nat → Option Nat) (s : pS) : Nat ⊕ pS :=
  if nPt fd sm (ch (s.1 + 1)) = 0 then .inl (s.1 + 1) else pClose ch (if ch (s.1 + 1) = some 58 then pBind ch r sm s.1 (s.1 + 2, s.2) else pOper (r sm) ((ch (s.1 + 1)).getD 0) s.1 (nPt fd sm (ch (s.1 + 1))) (s.1 + 2, s.2))
/-- one expression, with b brackets left -/
def pPart (ch : Nat → Option Nat) (fd : Nat → Bool) : Nat → (Nat → Option Nat) → pS → Nat ⊕ pS
  | 0, sm, s => if ch s.1 = some 40 then .inl s.1 else pLeaf ch sm s
  | b + 1, sm, s => if ch s.1 = some 40 then pBr ch fd (pPart ch fd b) sm s else pLeaf ch sm s
theorem up_same {α : Type} (f : Nat → α) (i : Nat) (v : α) : up f i v i = v := if_pos rfl
theorem up_ne {α : Type} (f : Nat → α) {i j : Nat} (v : α) (h : j ≠ i) : up f i v j = f j := if_neg h
theorem wt_cong {T T' : Nat → nd} : ∀ {k n lo sl sh : Nat} {sc : List Nat}, wt T k n lo sl sh sc → (∀ m, lo ≤ m → m ≤ n → T' m = T m) → wt T' k n lo sl sh sc
  | 0, _, _, _, _, _, h, _ => h
  | k + 1, n, lo, sl, sh, sc, h, e => by
    obtain ⟨h1, h2, h3, h4, h5, h6, h7⟩ := h
    have en := e n h2 (Nat.le_refl _)
    refine ⟨h1, h2, h3, h4, by rw [en]; exact h5, by rw [en]; exact h6, ?_⟩
    rw [en]
    have hx : ∀ l : List Nat, (T n).2.2.2.2 = l → (match l with
      | [] => lo = n ∧ sl = sh ∧ (∀ s, (T n).2.2.2.1 = some s → s ∈ sc) ∧ ¬ (T n).1 ∈ [78, 66, 69, 80, 33, 65, 68, 67, 43, 45, 60, 63, 38, 124, 58, 71, 72, 73]
      | [a] => (T n).1 ∈ [78, 66, 69, 80, 33, 65, 68, 71, 72, 73] ∧ (T n).2.2.2.1 = none ∧ n = a + 1 ∧ wt T' k a lo sl sh sc
      | [a, b] => n = b + 1 ∧ a < b ∧ (((T n).1 ∈ [67, 43, 45, 60, 38, 124] ∧ (T n).2.2.2.1 = none ∧ ∃ m, wt T' k a lo sl m sc ∧ wt T' k b (a + 1) m sh sc) ∨ ((T n).1 = 58 ∧ ∃ s, (T n).2.2.2.1 = some s ∧ wt T' k a lo sl s sc ∧ wt T' k b (a + 1) (s + 1) sh (s :: sc)))
      | [a, b, c] => (T n).1 = 63 ∧ (T n).2.2.2.1 = none ∧ n = c + 1 ∧ a < b ∧ b < c ∧ ∃ m m2, wt T' k a lo sl m sc ∧ wt T' k b (a + 1) m m2 sc ∧ wt T' k c (b + 1) m2 sh sc
      | _ => False) := by
      intro l el
      rw [el] at h7
      rcases l with _ | ⟨a, _ | ⟨b, _ | ⟨c', _ | ⟨d', l⟩⟩⟩⟩
      · exact h7
      · exact ⟨h7.1, h7.2.1, h7.2.2.1, wt_cong h7.2.2.2 fun m p q => e m p (by have := h7.2.2.1; omega)⟩
      · obtain ⟨q1, q2, ⟨q3, q4, m, q5, q6⟩ | ⟨q3, s, q4, q5, q6⟩⟩ := h7
        · have l1 := (wt_lt q5).2.1
          exact ⟨q1, q2, Or.inl ⟨q3, q4, m, wt_cong q5 fun m p q => e m p (by omega), wt_cong q6 fun m p q => e m (by omega) (by omega)⟩⟩
        · have l1 := (wt_lt q5).2.1
          exact ⟨q1, q2, Or.inr ⟨q3, s, q4, wt_cong q5 fun m p q => e m p (by omega), wt_cong q6 fun m p q => e m (by omega) (by omega)⟩⟩
      · obtain ⟨q0, q1, q2, q3, q4, m, m2, q5, q6, q7⟩ := h7
        have l1 := (wt_lt q5).2.1
        exact ⟨q0, q1, q2, q3, q4, m, m2, wt_cong q5 fun m p q => e m p (by omega), wt_cong q6 fun m p q => e m (by omega) (by omega), wt_cong q7 fun m p q => e m (by omega) (by omega)⟩
      · exact h7
    exact hx _ rfl
/-- what a text is to the reader -/
def chO (ch : Nat → Option Nat) (len : Nat) : Prop := len ≤ 60 ∧ (∀ i, len ≤ i → ch i = none) ∧ ∀ i c, ch i = some c → c < 65536
theorem chO.lt {ch : Nat → Option Nat} {len i c : Nat} (h : chO ch len) (e : ch i = some c) : i < len := by
  by_cases q : len ≤ i
  · rw [h.2.1 i q] at e; cases e
  · omega
/-- what reading one expression gives -/
def pOk (b len : Nat) (sc : List Nat) (s s' : pS) : Prop := s.1 < s'.1 ∧ s'.1 ≤ len ∧ s.2.2.1 < s'.2.2.1 ∧ s'.2.2.1 + s.1 ≤ s.2.2.1 + s'.1 ∧ s.2.1 ≤ s'.2.1 ∧ s'.2.1 ≤ 17 ∧ (∀ m, m < s.2.2.1 → s'.2.2.2 m = s.2.2.2 m) ∧ wt s'.2.2.2 (b + 1) (s'.2.2.1 - 1) s.2.2.1 s.2.1 s'.2.1 sc
def pPre (len : Nat) (s : pS) : Prop := s.2.2.1 ≤ s.1 ∧ s.2.1 ≤ 17
def scO (sm : Nat → Option Nat) (sc : List Nat) : Prop := ∀ i t, sm i = some t → t ∈ sc
theorem pLeaf_ok {ch : Nat → Option Nat} {len b : Nat} {sm : Nat → Option Nat} {sc : List Nat} {s s' : pS} (hc : chO ch len) (hs : scO sm sc) (hp : pPre len s) (h : pLeaf ch sm s = .inr s') : pOk b len sc s s' := by
  unfold pLeaf at h
  cases e : ch s.1 with
  | none => rw [e] at h; cases h
  | some c =>
    have l1 := hc.lt e
    have l2 := hc.2.2 _ _ e
    have l3 := hc.1
    rw [e] at h
    simp only at h
    have fin : ∀ o : Option Nat, (∀ t, o = some t → t ∈ sc) → ¬ c ∈ [78, 66, 69, 80, 33, 65, 68, 67, 43, 45, 60, 63, 38, 124, 58, 71, 72, 73] → s' = pMk (s.1 + 1, s.2) (c, s.1, 0, o, []) → pOk b len sc s s' := by
      intro o ho hn hs'
      subst hs'
      refine ⟨Nat.lt_succ_self _, l1, Nat.lt_succ_self _, ?_, Nat.le_refl _, hp.2, fun m hm => up_ne _ _ (Nat.ne_of_lt hm), ?_⟩
      · show s.2.2.1 + 1 + s.1 ≤ s.2.2.1 + (s.1 + 1)
        omega
      · show wt (up s.2.2.2 s.2.2.1 _) (b + 1) (s.2.2.1 + 1 - 1) s.2.2.1 s.2.1 s.2.1 sc
        rw [Nat.add_sub_cancel]
        have hp1 := hp.1
        refine ⟨by omega, Nat.le_refl _, Nat.le_refl _, hp.2, ?_, ?_, ?_⟩
        · rw [up_same]; exact l2
        · rw [up_same]; show s.1 < 100; omega
        · rw [up_same]; exact ⟨rfl, rfl, ho, hn⟩
    cases e2 : sOf sm c with
    | some t =>
      rw [e2] at h
      injection h with h
      unfold sOf at e2
      split at e2
      case isTrue q => exact fin (some t) (fun t' ht => by cases ht; exact hs _ _ e2) (by simp only [List.mem_cons, List.not_mem_nil, or_false]; omega) h.symm
      case isFalse q => cases e2
    | none =>
      rw [e2] at h
      simp only at h
      by_cases q : isK c
      · rw [if_pos q] at h
        injection h with h
        refine fin none (fun t' ht => by cases ht) ?_ h.symm
        unfold isK at q
        simp only [List.mem_cons, List.not_mem_nil, or_false]
        omega
      · rw [if_neg q] at h; cases h
/-- reading with b brackets left keeps its word -/
def rOk (ch : Nat → Option Nat) (len b : Nat) (r : (Nat → Option Nat) → pS → Nat ⊕ pS) : Prop := ∀ sm sc s s', scO sm sc → pPre len s → r sm s = .inr s' → pOk b len sc s s'
theorem pOper_ok {ch : Nat → Option Nat} {len b op st k : Nat} {sm : Nat → Option Nat} {sc : List Nat} {r : (Nat → Option Nat) → pS → Nat ⊕ pS} {s s' : pS} (hr : rOk ch len b r) (hl : len ≤ 60) (hs : scO sm sc) (hp : pPre len s) (hst : st + 1 < s.1) (hop : op < 65536)
    (hk : (k < 2 ∧ op ∈ [78, 66, 69, 80, 33, 65, 68, 71, 72, 73]) ∨ (k = 2 ∧ op ∈ [67, 43, 45, 60, 38, 124]) ∨ (k = 3 ∧ op = 63)) (h : pOper (r sm) op st k s = .inr s') (hlt : s'.1 < len) :
    s.1 < s'.1 ∧ s.2.2.1 < s'.2.2.1 ∧ s'.2.2.1 + s.1 ≤ s.2.2.1 + s'.1 + 1 ∧ s.2.1 ≤ s'.2.1 ∧ s'.2.1 ≤ 17 ∧ (∀ m, m < s.2.2.1 → s'.2.2.2 m = s.2.2.2 m) ∧ wt s'.2.2.2 (b + 2) (s'.2.2.1 - 1) s.2.2.1 s.2.1 s'.2.1 sc := by
  unfold pOper at h
  cases e1 : r sm s with
  | inl e => rw [e1] at h; cases h
  | inr s1 =>
    rw [e1] at h
    simp only at h
    obtain ⟨a1, a2, a3, a4, a5, a6, a7, a8⟩ := hr sm sc s s1 hs hp e1
    have hp1 : pPre len s1 := ⟨by have := hp.1; omega, a6⟩
    have hpa := hp.1
    by_cases k2 : k < 2
    · rw [if_pos k2] at h
      injection h with h
      subst h
      have hlt' : s1.1 < len := hlt
      refine ⟨a1, show s.2.2.1 < s1.2.2.1 + 1 by omega, show s1.2.2.1 + 1 + s.1 ≤ s.2.2.1 + s1.1 + 1 by omega, a5, a6, fun m hm => (up_ne _ _ (show m ≠ s1.2.2.1 by omega)).trans (a7 m hm), ?_⟩
      show wt (up s1.2.2.2 s1.2.2.1 _) (b + 1 + 1) (s1.2.2.1 + 1 - 1) s.2.2.1 s.2.1 s1.2.1 sc
      rw [Nat.add_sub_cancel]
      refine ⟨by omega, by omega, a5, a6, ?_, ?_, ?_⟩
      · rw [up_same]; exact hop
      · rw [up_same]; show st < 100; omega
      · rw [up_same]
        refine ⟨?_, rfl, by omega, wt_cong a8 fun m p q => up_ne _ _ (by omega)⟩
        rcases hk with q | q | q
        · exact q.2
        · omega
        · omega
    · rw [if_neg k2] at h
      cases e2 : r sm s1 with
      | inl e => rw [e2] at h; cases h
      | inr s2 =>
        rw [e2] at h
        simp only at h
        obtain ⟨b1, b2, b3, b4, b5, b6, b7, b8⟩ := hr sm sc s1 s2 hs hp1 e2
        have hp2 : pPre len s2 := ⟨by have := hp1.1; omega, b6⟩
        by_cases k3 : k < 3
        · rw [if_pos k3] at h
          injection h with h
          subst h
          have hlt' : s2.1 < len := hlt
          refine ⟨Nat.lt_trans a1 b1, show s.2.2.1 < s2.2.2.1 + 1 by omega, show s2.2.2.1 + 1 + s.1 ≤ s.2.2.1 + s2.1 + 1 by omega, Nat.le_trans a5 b5, b6, fun m hm => ((up_ne _ _ (show m ≠ s2.2.2.1 by omega)).trans (b7 m (by omega))).trans (a7 m hm), ?_⟩
          show wt (up s2.2.2.2 s2.2.2.1 _) (b + 1 + 1) (s2.2.2.1 + 1 - 1) s.2.2.1 s.2.1 s2.2.1 sc
          rw [Nat.add_sub_cancel]
          refine ⟨by omega, by omega, by omega, b6, ?_, ?_, ?_⟩
          · rw [up_same]; exact hop
          · rw [up_same]; show st < 100; omega
          · rw [up_same]
            refine ⟨by omega, by omega, Or.inl ⟨?_, rfl, s1.2.1, wt_cong a8 fun m p q => ?_, ?_⟩⟩
            · rcases hk with q | q | q
              · omega
              · exact q.2
              · omega
            · exact (up_ne _ _ (by omega)).trans (b7 m (by omega))
            · rw [show s1.2.2.1 - 1 + 1 = s1.2.2.1 by omega]
              exact wt_cong b8 fun m p q => up_ne _ _ (by omega)
        · rw [if_neg k3] at h
          cases e3 : r sm s2 with
          | inl e => rw [e3] at h; cases h
          | inr s3 =>
            rw [e3] at h
            simp only at h
            obtain ⟨c1, c2, c3, c4, c5, c6, c7, c8⟩ := hr sm sc s2 s3 hs hp2 e3
            injection h with h
            subst h
            have hlt' : s3.1 < len := hlt
            refine ⟨Nat.lt_trans a1 (Nat.lt_trans b1 c1), show s.2.2.1 < s3.2.2.1 + 1 by omega, show s3.2.2.1 + 1 + s.1 ≤ s.2.2.1 + s3.1 + 1 by omega, Nat.le_trans a5 (Nat.le_trans b5 c5), c6, fun m hm => (((up_ne _ _ (show m ≠ s3.2.2.1 by omega)).trans (c7 m (by omega))).trans (b7 m (by omega))).trans (a7 m hm), ?_⟩
            show wt (up s3.2.2.2 s3.2.2.1 _) (b + 1 + 1) (s3.2.2.1 + 1 - 1) s.2.2.1 s.2.1 s3.2.1 sc
            rw [Nat.add_sub_cancel]
            have hp2' := hp2.1
            refine ⟨by omega, by omega, by omega, c6, ?_, ?_, ?_⟩
            · rw [up_same]; exact hop
            · rw [up_same]; show st < 100; omega
            · rw [up_same]
              refine ⟨?_, rfl, by omega, by omega, by omega, s1.2.1, s2.2.1, wt_cong a8 fun m p q => ?_, ?_, ?_⟩
              · rcases hk with q | q | q
                · omega
                · omega
                · exact q.2
              · exact ((up_ne _ _ (by omega)).trans (c7 m (by omega))).trans (b7 m (by omega))
              · rw [show s1.2.2.1 - 1 + 1 = s1.2.2.1 by omega]
                exact wt_cong b8 fun m p q => (up_ne _ _ (by omega)).trans (c7 m (by omega))
              · rw [show s2.2.2.1 - 1 + 1 = s2.2.2.1 by omega]
                exact wt_cong c8 fun m p q => up_ne _ _ (by omega)
