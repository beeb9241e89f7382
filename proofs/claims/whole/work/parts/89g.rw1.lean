/-! The reference reads a whole text, and moves it. -/
def xr (S S' : rS) : Prop := S'.2 = S.2 ∧ ∀ f i, ¬ (4 ≤ f ∧ f ≤ 9 ∧ 256 ≤ i) → ¬ (f = 10 ∧ i = 4) → ¬ (f = 11 ∧ i = 4) → ¬ (20 ≤ f ∧ f ≤ 24) → S'.1 f i = S.1 f i
theorem rfr.x {d : Nat} {A B : rS} (h : rfr 0 d A B) : xr A B := ⟨h.1, fun f i q1 q2 q3 q4 => by
  by_cases z : 4 ≤ f ∧ f ≤ 9
  · exact h.2.2.1 f i (by omega) z.1 z.2
  · exact h.2.1 f i z q3 q4⟩
theorem xr.trans {A B C : rS} (h : xr A B) (k : xr B C) : xr A C := ⟨k.1.trans h.1, fun f i q1 q2 q3 q4 => (k.2 f i q1 q2 q3 q4).trans (h.2 f i q1 q2 q3 q4)⟩
section RWA
variable {c : rX} {D d : Nat} {S : rS} {K : Option Value → rS → Prop} {ch : Nat → Option Nat} {len : Nat} {fd : Nat → Bool} {sm : Nat → Option Nat} {sc : List Nat}
theorem r_rest (ho : rOK c) {p mk : Nat} (hc : chO ch len) (hT : RTX S ch len fd) (h20 : S.1 20 0 = nI p) (hp : p ≤ len) (hs : scO sm sc) (hm : mk < 256) (hb : ∀ x, x < 8 → mk.testBit x = (sm x).isSome)
    (hE : ∀ e, pEnd ch (pPart ch fd 6 sm (p, 2, 0, T0)) = .inl e → ∀ S', xr S S' → S'.1 20 0 = nI e → K (some (.int 0)) S')
    (hG : ∀ s', pEnd ch (pPart ch fd 6 sm (p, 2, 0, T0)) = .inr s' → pPart ch fd 6 sm (p, 2, 0, T0) = .inr s' → ∀ S', xr S S' → rTr S' s'.2.2.2 7 256 (256 + s'.2.2.1) (s'.2.2.1 - 1) → S'.1 10 4 = nI 256 → S'.1 11 4 = nI s'.2.2.1 → K (some (.int 1)) S') :
    rM c (D + 5) eX10_readRest [.ref c.2.2.1, .int (nI mk)] S K := by
  have hl := hc.1
  refine w_X10_readRest ho (nI mk) (w_X10_readExpression ho ?_)
  have a1 : ∀ f i, ¬ (f = 11 ∧ i = 4) → ¬ (f = 23 ∧ i = 0) → ¬ (f = 22 ∧ i = 0) → ¬ (f = 21 ∧ i = 0) → (rsi (rsi (rsi (rsi S 11 4 0) 23 0 0) 22 0 (nI mk)) 21 0 0).1 f i = S.1 f i := fun f i q1 q2 q3 q4 => by rw [rsi_ne _ _ q4, rsi_ne _ _ q3, rsi_ne _ _ q2, rsi_ne _ _ q1]
  have a2 : (rsi (rsi (rsi (rsi S 11 4 0) 23 0 0) 22 0 (nI mk)) 21 0 0).1 11 4 = nI (0 + 0) := by rw [rsi_ne _ _ (by omega), rsi_ne _ _ (by omega), rsi_ne _ _ (by omega), rsi_i]; rfl
  have a3 : (rsi (rsi (rsi (rsi S 11 4 0) 23 0 0) 22 0 (nI mk)) 21 0 0).1 23 0 = 0 := by rw [rsi_ne _ _ (by omega), rsi_ne _ _ (by omega), rsi_i]
  have a4 : (rsi (rsi (rsi (rsi S 11 4 0) 23 0 0) 22 0 (nI mk)) 21 0 0).1 22 0 = nI mk := by rw [rsi_ne _ _ (by omega), rsi_i]
  have a5 : (rsi (rsi (rsi (rsi S 11 4 0) 23 0 0) 22 0 (nI mk)) 21 0 0).1 21 0 = nI 0 := rsi_i _ _ _ _
  have a6 : (rsi (rsi (rsi (rsi S 11 4 0) 23 0 0) 22 0 (nI mk)) 21 0 0).2 = S.2 := rfl
  generalize rsi (rsi (rsi (rsi S 11 4 0) 23 0 0) 22 0 (nI mk)) 21 0 0 = S1 at a1 a2 a3 a4 a5 a6 ⊢
  have X1 : xr S S1 := ⟨a6, fun f i q1 q2 q3 q4 => a1 f i q3 (by omega) (by omega) (by omega)⟩
  have T1 : RTX S1 ch len fd := by
    refine ⟨by rw [a1 2 0 (by omega) (by omega) (by omega) (by omega)]; exact hT.1, fun i hi => ?_, fun i hi => by rw [a1 12 i (by omega) (by omega) (by omega) (by omega)]; exact hT.2.2 i hi⟩
    obtain ⟨y, y1, y2⟩ := hT.2.1 i hi
    exact ⟨y, y1, by rw [a1 3 i (by omega) (by omega) (by omega) (by omega)]; exact y2⟩
  have wrt : ∀ (A : rS) (v : Int32), xr S A → xr S (rsi A 10 4 v) := fun A v h => h.trans ⟨rfl, fun f i q1 q2 q3 q4 => rsi_ne _ _ q2⟩
  refine rp_ok ho hc 6 _ S1 sm sc (p, 2, 0, T0) 0 rfl ⟨T1, by rw [a1 20 0 (by omega) (by omega) (by omega) (by omega)]; exact h20, a5, a3, a2, mk, hm, a4, hb⟩ ⟨hs, ⟨Nat.zero_le _, (by decide : (2 : Nat) ≤ 17)⟩, hp, show 4 * 2 ≤ 8 + p by omega, show 0 + 0 ≤ p by omega, by decide⟩ (fun e he S2 f2 w2 z2 => ⟨-1, rfl, fun _ => ?_, fun z => absurd z w2⟩) (fun s' he S2 f2 R2 t2 => ?_)
  · refine hE e (by rw [he]; rfl) _ (wrt S2 _ (X1.trans f2.x)) (by rw [rsi_ne _ _ (by omega)]; exact z2)
  · have o := pPart_ok fd hc 6 sm sc (p, 2, 0, T0) s' hs ⟨Nat.zero_le _, (by decide : (2 : Nat) ≤ 17)⟩ he
    have o2 := o.2.1
    refine JC.top ho (show 256 + (0 + 0) < 320 by decide) R2.2.2.1 R2.2.2.2.1 ⟨nI 256, rfl, fun z => absurd R2.2.2.2.1 z, fun _ => ?_⟩
    rw [R2.2.1, R2.1.1, show nI s'.1 = nI len ↔ s'.1 = len from nI_is (by omega) (by omega)]
    refine ⟨fun z => ?_, fun z => ?_⟩
    · have : ¬ ch s'.1 = none := by
        obtain ⟨y, y1, _⟩ := hT.2.1 s'.1 (by omega)
        rw [y1]; intro w; cases w
      refine hE s'.1 (by rw [he]; unfold pEnd; simp only; rw [if_neg this]) _ (wrt S2 _ (X1.trans f2.x)) (by rw [rsi_ne _ _ (by omega)]; exact R2.2.1)
    · have : ch s'.1 = none := hc.2.1 _ (by omega)
      refine hG s' (by rw [he]; unfold pEnd; simp only; rw [if_pos this]) he _ (wrt S2 _ (X1.trans f2.x)) (rTr_cong t2 fun f i q1 q2 q3 q4 => rsi_ne _ _ (by omega)) (rsi_i _ _ _ _) (by rw [rsi_ne _ _ (by omega)]; exact R2.2.2.2.2.1)
end RWA
/-- a pointer, moved -/
def mvd (x : Int32) (t : Nat) : Int32 := if x = -1 then -1 else (x - x / 64 * 64) + 64 * nI t
theorem mvd_n {q t : Nat} (hq : q < 320) : mvd (nI q) t = nI (q % 64 + 64 * t) := by
  unfold mvd
  rw [if_neg (nI_neg1 (by omega)), show nI q - nI q / 64 * 64 = nI (q % 64) from pk_rem (d := 64) (by omega) (by decide) (by decide), show (64 : Int32) * nI t = nI (64 * t) from pk_mul 64 t, nI_add]
def mvF (f : Nat) (x : Int32) (t : Nat) : Int32 := if f = 5 ∨ f = 6 ∨ f = 7 then mvd x t else x
/-- k nodes have been moved -/
def mvS (S S' : rS) (t k : Nat) : Prop := S'.2 = S.2 ∧ (∀ f i, 4 ≤ f → f ≤ 9 → i < k → S'.1 f (64 * t + i) = mvF f (S.1 f (256 + i)) t) ∧ ∀ f i, ¬ (4 ≤ f ∧ f ≤ 9 ∧ 64 * t ≤ i ∧ i < 64 * t + k) → S'.1 f i = S.1 f i
theorem rTr_mv {S S' : rS} {T : Nat → nd} {t n : Nat} (ht : t ≤ 3) (hn : n ≤ 63) (h : mvS S S' t n) : ∀ {k r hi m : Nat}, rTr S T k (256 + r) (256 + hi) m → hi ≤ n → rTr S' T k (64 * t + r) (64 * t + hi) m
  | 0, _, _, _, w, _ => absurd w id
  | k + 1, r, hi, m, w, hh => by
    have lt := rTr_lt w
    have nm : ∀ f, f = 4 ∨ f = 8 ∨ f = 9 → S'.1 f (64 * t + r) = S.1 f (256 + r) := fun f hf => by
      rw [h.2.1 f r (by omega) (by omega) (by omega)]
      unfold mvF
      rw [if_neg (by omega)]
    have ptr : ∀ f, f = 5 ∨ f = 6 ∨ f = 7 → S'.1 f (64 * t + r) = mvd (S.1 f (256 + r)) t := fun f hf => by
      rw [h.2.1 f r (by omega) (by omega) (by omega)]
      unfold mvF
      rw [if_pos hf]
    have non : ∀ f, f = 5 ∨ f = 6 ∨ f = 7 → S.1 f (256 + r) = -1 → S'.1 f (64 * t + r) = -1 := fun f hf e => by
      rw [ptr f hf, e]
      exact if_pos rfl
    have som : ∀ f q, f = 5 ∨ f = 6 ∨ f = 7 → q < 64 → S.1 f (256 + r) = nI (256 + q) → S'.1 f (64 * t + r) = nI (64 * t + q) := fun f q hf hq e => by
      rw [ptr f hf, e, mvd_n (by omega)]
      congr 1
      omega
    obtain ⟨a1, a2, a3, a4⟩ := w
    refine ⟨by rw [nm 4 (by omega)]; exact a1, by rw [nm 8 (by omega)]; exact a2, by rw [nm 9 (by omega)]; exact a3, ?_⟩
    generalize (T m).2.2.2.2 = l at a4 ⊢
    rcases l with _ | ⟨a, _ | ⟨b, _ | ⟨c', _ | ⟨d', l⟩⟩⟩⟩
    · exact ⟨non 5 (by omega) a4.1, non 6 (by omega) a4.2.1, non 7 (by omega) a4.2.2.1, by have := a4.2.2.2; omega⟩
    · have l1 := rTr_lt a4.2.2.2
      exact ⟨som 5 (r + 1) (by omega) (by omega) a4.1, non 6 (by omega) a4.2.1, non 7 (by omega) a4.2.2.1, rTr_mv ht hn h (r := r + 1) a4.2.2.2 hh⟩
    · obtain ⟨h1, b1, b2, b3, q1, q2⟩ := a4
      have l1 := rTr_lt q1
      have l2 := rTr_lt q2
      obtain ⟨g1, rfl⟩ : ∃ g, h1 = 256 + g := ⟨h1 - 256, by omega⟩
      exact ⟨64 * t + g1, som 5 (r + 1) (by omega) (by omega) b1, som 6 g1 (by omega) (by omega) b2, non 7 (by omega) b3, rTr_mv ht hn h (r := r + 1) q1 (by omega), rTr_mv ht hn h q2 hh⟩
    · obtain ⟨h1, h2, b1, b2, b3, q1, q2, q3⟩ := a4
      have l1 := rTr_lt q1
      have l2 := rTr_lt q2
      have l3 := rTr_lt q3
      obtain ⟨g1, rfl⟩ : ∃ g, h1 = 256 + g := ⟨h1 - 256, by omega⟩
      obtain ⟨g2, rfl⟩ : ∃ g, h2 = 256 + g := ⟨h2 - 256, by omega⟩
      exact ⟨64 * t + g1, 64 * t + g2, som 5 (r + 1) (by omega) (by omega) b1, som 6 g1 (by omega) (by omega) b2, som 7 g2 (by omega) (by omega) b3, rTr_mv ht hn h (r := r + 1) q1 (by omega), rTr_mv ht hn h q2 (by omega), rTr_mv ht hn h q3 hh⟩
    · exact absurd a4 id
section RWB
variable {c : rX} {D d : Nat} {S : rS} {K : Option Value → rS → Prop}
theorem r_moved (ho : rOK c) {x : Int32} {t : Nat} (hK : K (some (.int (mvd x t))) S) : rM c d eX10_moved [.int x, .int (nI t)] S K := by
  refine w_X10_moved ho x (nI t) ⟨fun z => ?_, fun z => ?_⟩
  · unfold mvd at hK; rw [if_neg z] at hK; exact hK
  · unfold mvd at hK; rw [if_pos z] at hK; exact hK
theorem r_move (ho : rOK c) {t n : Nat} (ht : t ≤ 3) (hn : n ≤ 63) (h11 : S.1 11 4 = nI n) (h10 : S.1 10 4 = nI 256)
    (hK : ∀ S1, mvS S S1 t n → K none (rsi (rsi S1 11 t (nI n)) 10 t (nI (64 * t)))) : rM c (d + 1) eX10_move [.ref c.2.2.1, .int (nI t)] S K := by
  refine w_X10_move ho (nI t) ?_
  have key : ∀ m k : Nat, k + m = n → ∀ S1, mvS S S1 t k → rG c eX10_move (d + 1) (rQ c K) 2 [some (.ref c.2.2.1), some (.int (nI t)), some (.int (nI k)), none, none] [] S1 := by
    intro m
    induction m with
    | zero =>
      intro k hk S1 h1
      have : k = n := by omega
      subst this
      have e11 : S1.1 11 4 = nI k := by rw [h1.2.2 11 4 (by omega)]; exact h11
      have e10 : S1.1 10 4 = nI 256 := by rw [h1.2.2 10 4 (by omega)]; exact h10
      have it : am_ix (nI t) t 5 := am_ix_n (by omega) (by decide)
      refine w_X10_move_2 ho (nI t) (nI k) ⟨fun _ => ⟨t, it, ?_⟩, fun z => ?_⟩
      · rw [e10, e11]
        refine r_moved ho ⟨_, rfl, t, it, ?_⟩
        rw [mvd_n (by decide), show 256 % 64 + 64 * t = 64 * t by omega]
        exact hK S1 h1
      · rw [e11] at z
        exact absurd ((nI_leI (by omega) (by omega)).mpr (Nat.le_refl _)) z
    | succ m ih =>
      intro k hk S1 h1
      have e11 : S1.1 11 4 = nI n := by rw [h1.2.2 11 4 (by omega)]; exact h11
      refine w_X10_move_2 ho (nI t) (nI k) ⟨fun z => ?_, fun _ => ?_⟩
      · rw [e11] at z
        have := (nI_leI (by omega) (by omega)).mp z
        omega
      · have is : am_ix (256 + nI k) (256 + k) 320 := by rw [show (256 : Int32) + nI k = nI (256 + k) from nI_add 256 k]; exact am_ix_n (by omega) (by decide)
        have id' : am_ix (64 * nI t + nI k) (64 * t + k) 320 := by rw [show (64 : Int32) * nI t = nI (64 * t) from pk_mul 64 t, nI_add]; exact am_ix_n (by omega) (by decide)
        have src : ∀ f, S1.1 f (256 + k) = S.1 f (256 + k) := fun f => h1.2.2 f _ (by omega)
        refine ⟨256 + k, is, 64 * t + k, id', 256 + k, is, 64 * t + k, id', 256 + k, is, 64 * t + k, id', 256 + k, is, ?_⟩
        rw [src 4, src 8, src 9, src 5]
        refine r_moved ho ⟨_, rfl, 64 * t + k, id', 256 + k, is, ?_⟩
        have e6 : (rsi (rsi (rsi S1 4 (64 * t + k) (S.1 4 (256 + k))) 8 (64 * t + k) (S.1 8 (256 + k))) 9 (64 * t + k) (S.1 9 (256 + k))).1 6 (256 + k) = S.1 6 (256 + k) := by rw [rsi_ne _ _ (by omega), rsi_ne _ _ (by omega), rsi_ne _ _ (by omega), src 6]
        rw [e6]
        refine r_moved ho ⟨_, rfl, 64 * t + k, id', 256 + k, is, ?_⟩
        have e7 : (rsi (rsi (rsi (rsi S1 4 (64 * t + k) (S.1 4 (256 + k))) 8 (64 * t + k) (S.1 8 (256 + k))) 9 (64 * t + k) (S.1 9 (256 + k))) 5 (64 * t + k) (mvd (S.1 5 (256 + k)) t)).1 7 (256 + k) = S.1 7 (256 + k) := by rw [rsi_ne _ _ (by omega), rsi_ne _ _ (by omega), rsi_ne _ _ (by omega), rsi_ne _ _ (by omega), src 7]
        rw [e7]
        refine r_moved ho ⟨_, rfl, 64 * t + k, id', ?_⟩
        rw [nI_1]
        refine ih (k + 1) (by omega) _ ⟨h1.1, fun f i q1 q2 q3 => ?_, fun f i q => ?_⟩
        · by_cases e : i = k
          · subst e
            unfold mvF
            by_cases z7 : f = 7
            · subst z7; rw [rsi_i]; rfl
            · rw [rsi_ne _ _ (by omega)]
              by_cases z6 : f = 6
              · subst z6; rw [rsi_i]; rfl
              · rw [rsi_ne _ _ (by omega)]
                by_cases z5 : f = 5
                · subst z5; rw [rsi_i]; rfl
                · rw [rsi_ne _ _ (by omega), if_neg (by omega)]
                  by_cases z9 : f = 9
                  · subst z9; rw [rsi_i]
                  · rw [rsi_ne _ _ (by omega)]
                    by_cases z8 : f = 8
                    · subst z8; rw [rsi_i]
                    · rw [rsi_ne _ _ (by omega)]
                      have z4 : f = 4 := by omega
                      subst z4; rw [rsi_i]
          · rw [rsi_ne _ _ (by omega), rsi_ne _ _ (by omega), rsi_ne _ _ (by omega), rsi_ne _ _ (by omega), rsi_ne _ _ (by omega), rsi_ne _ _ (by omega)]
            exact h1.2.1 f i q1 q2 (by omega)
        · rw [rsi_ne _ _ (by omega), rsi_ne _ _ (by omega), rsi_ne _ _ (by omega), rsi_ne _ _ (by omega), rsi_ne _ _ (by omega), rsi_ne _ _ (by omega)]
          exact h1.2.2 f i (by omega)
  exact key n 0 (by omega) S ⟨rfl, fun f i _ _ z => absurd z (by omega), fun _ _ _ => rfl⟩
end RWB
