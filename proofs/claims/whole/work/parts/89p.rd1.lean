/-! The reference: accepts, everything, check. -/
/-- what a check leaves: all but the fault, the work space, and the nodes from 192 on -/
def pst (f i : Nat) : Prop := f = 2 ∨ f = 3 ∨ (12 ≤ f ∧ f ≤ 17) ∨ (39 ≤ f ∧ f ≤ 47) ∨ (4 ≤ f ∧ f ≤ 9 ∧ i < 192) ∨ (f = 10 ∧ i < 3)
def pfx (S S' : rS) : Prop := (∀ f i, pst f i → S'.1 f i = S.1 f i)
theorem pfx.trans {A B C : rS} (h : pfx A B) (k : pfx B C) : pfx A C := fun f i p => (k f i p).trans (h f i p)
theorem xr.pf {A B : rS} (h : xr A B) : pfx A B := fun f i p => h.2 f i (by unfold pst at p; omega) (by unfold pst at p; omega) (by unfold pst at p; omega) (by unfold pst at p; omega)
theorem afq.pf {a b h : Nat} {sm : Nat → Option Nat} {A B : rS} (k : afq a b h sm A B) : pfx A B := fun f i p => k.1 f i (by unfold pst at p; omega) (by unfold pst at p; omega) (by unfold pst at p; omega) (by unfold pst at p; omega) (by unfold pst at p; omega)
theorem pfx_w (S : rS) {f i : Nat} (v : Int32) (h : ¬ pst f i) : pfx S (rsi S f i v) := fun f' i' p => rsi_ne _ _ (fun z => h (by rw [← z.1, ← z.2]; exact p))
theorem RFX.pf {A B : rS} {fx : fnT} (k : RFX A fx) (l : pfx A B) : RFX B fx := by
  intro i hi pt kk y no e
  obtain ⟨k1, k2, k3, k4, k5, k6⟩ := k i hi pt kk y no e
  exact ⟨k1, k2, by rw [l 14 i (by unfold pst; omega)]; exact k3, by rw [l 15 i (by unfold pst; omega)]; exact k4, fun n hn => by rw [l 16 _ (by unfold pst; omega)]; exact k5 n hn, fun n hn => by rw [l 17 _ (by unfold pst; omega)]; exact k6 n hn⟩
theorem RTX.pf {A B : rS} {ch : Nat → Option Nat} {len : Nat} {fd : Nat → Bool} (h : RTX A ch len fd) (l : pfx A B) : RTX B ch len fd := by
  refine ⟨by rw [l 2 0 (by unfold pst; omega)]; exact h.1, fun i hi => ?_, fun i hi => by rw [l 12 i (by unfold pst; omega)]; exact h.2.2 i hi⟩
  obtain ⟨y, y1, y2⟩ := h.2.1 i hi
  exact ⟨y, y1, by rw [l 3 i (by unfold pst; omega)]; exact y2⟩
section RDA1
variable {c : rX} {D d : Nat} {S : rS} {K : Option Value → rS → Prop} {B : Nat} {fx : fnT} {fd : Nat → Bool} {T : Nat → nd}
theorem r_acc (ho : rOK c) (h1 : hB B) (hfx : ∀ i, i < 3 → fd i = true → (fx i).isSome = true) {b m sl sh : Nat} {sc : List Nat} {sm : Nat → Option Nat} {g : nV} {nm : Nat → Nat} {ow : Nat → Option (nV × nV)} (t : rTr S T 7 (B + 0) (B + b) m) (hb : b ≤ 64) (w : wt T 7 m 0 sl sh sc) (wN : wn T 7 m sm) (np : ∀ i, i ≤ m → nP fd (T i)) (hR : REN S sm nm ow) (hX : RFX S fx) (hv : vw (wv S 56 0) g)
    (hE : ∀ e, nk fx T 7 m g nm ow = .inl e → ∀ S', afq 0 b 1 sm S S' → S'.1 1 0 = nI e → K (some (.int 0)) S')
    (hG : ∀ F, nk fx T 7 m g nm ow = .inr F → ∀ S', afq 0 b 1 sm S S' → S'.1 1 0 = S.1 1 0 → fnd S' 0 F → K (some (.int 1)) S') :
    rM c (D + 6) eX10_accepts [.ref c.2.2.1, .int (nI (B + 0)), .ref (c.2.2.1 + (39 + 1))] S K := by
  have lt := rTr_lt t
  refine w_X10_accepts ho (nI (B + 0)) (kp1 := 39) (fp1 := 56) (np1 := 5) rfl ?_
  have a1 : ∀ f i, ¬ ((f = 31 ∨ f = 25) ∧ i = 0) → (rsi (rsi S 31 0 (nI (B + 0))) 25 0 0).1 f i = S.1 f i := fun f i z => by rw [rsi_ne _ _ (by omega), rsi_ne _ _ (by omega)]
  have a2 : (rsi (rsi S 31 0 (nI (B + 0))) 25 0 0).1 31 0 = nI (B + 0) := by rw [rsi_ne _ _ (by omega), rsi_i]
  have a3 : (rsi (rsi S 31 0 (nI (B + 0))) 25 0 0).1 25 0 = nI 0 := rsi_i _ _ _ _
  have a4 : (rsi (rsi S 31 0 (nI (B + 0))) 25 0 0).2 = S.2 := rfl
  generalize rsi (rsi S 31 0 (nI (B + 0))) 25 0 0 = S1 at a1 a2 a3 a4 ⊢
  refine r_five ho h1 (by decide) ⟨_, rfl, ?_⟩
  refine v_copy ho (k1 := 39) (f1 := 56) (n1 := 5) (k2 := 17) (f2 := 26) (n2 := 320) (i := 0) (j := 5 * 0) rfl rfl (by decide) (by decide) (by decide) (by decide) (Or.inl (by decide)) ⟨rfl, ?_⟩
  have b1 : ∀ f i, ¬ ((f = 31 ∨ f = 25) ∧ i = 0) → ¬ (f = 38 ∧ i = 0) → (rsi (put S1 26 (5 * 0) 5 (wv S1 56 0)) 38 0 0).1 f i = S.1 f i := fun f i z1 z2 => by rw [rsi_ne _ _ z2]; exact a1 f i z1
  have b2 : (rsi (put S1 26 (5 * 0) 5 (wv S1 56 0)) 38 0 0).1 38 0 = 0 := rsi_i _ _ _ _
  have b3 : (rsi (put S1 26 (5 * 0) 5 (wv S1 56 0)) 38 0 0).1 31 0 = nI (B + 0) := by rw [rsi_ne _ _ (by omega)]; exact a2
  have b4 : (rsi (put S1 26 (5 * 0) 5 (wv S1 56 0)) 38 0 0).1 25 0 = nI 0 := by rw [rsi_ne _ _ (by omega)]; exact a3
  have b5 : ∀ f i, ¬ (f = 26 ∧ 0 ≤ i ∧ i < 5) → (rsi (put S1 26 (5 * 0) 5 (wv S1 56 0)) 38 0 0).2 f i = S.2 f i := fun f i z => by
    show (put S1 26 (5 * 0) 5 (wv S1 56 0)).2 f i = _
    rw [put_out _ _ (by omega), a4]
  have b6 : vw (wv (rsi (put S1 26 (5 * 0) 5 (wv S1 56 0)) 38 0 0) 26 (5 * 0)) g := hv.cong fun k hk => by
    show (put S1 26 (5 * 0) 5 (wv S1 56 0)).2 26 (5 * 0 + k) = _
    rw [put_in _ _ hk]
    show S1.2 56 (0 + k) = S.2 56 (0 + k)
    rw [a4]
  generalize rsi (put S1 26 (5 * 0) 5 (wv S1 56 0)) 38 0 0 = S2 at b1 b2 b3 b4 b5 b6 ⊢
  have f2 : afq 0 b 1 sm S S2 := ⟨fun f i _ q2 _ q4 _ => b1 f i (by omega) q4, fun f i q1 _ _ => b5 f i (by omega)⟩
  refine ac_ok (D := D) (T := T) ho h1 hfx 7 K S2 0 b m 0 sl sh 1 sc sm g nm ow (rTr_q t f2) hb w wN np (hR.q f2) (hX.q f2) b6 (by decide) (by decide) b3 b4 b2 (fun e he S' f' q1 q2 => hE e he S' (f2.trans f') q2) (fun F hF S' f' q1 q2 q3 => JA.done ho q1 (hG F hF S' (f2.trans f') (by rw [q2, b1 1 0 (by omega) (by omega)]) q3))
theorem r_everything (ho : rOK c) (hK : ∀ S', (∀ f i, ¬ ((f = 32 ∨ f = 33) ∧ i < 8) → S'.1 f i = S.1 f i) → (∀ f, f ≠ 56 → S'.2 f = S.2 f) → vw (wv S' 56 0) (fun _ => 31) → (∀ x, x < 8 → S'.1 33 x = 0 ∧ S'.1 32 x = nI (7 * x)) → K none S') : rM c d eX10_everything [.ref c.2.2.1, .ref (c.2.2.1 + (39 + 1))] S K := by
  refine w_X10_everything ho (kp0 := 39) (fp0 := 56) (np0 := 5) rfl ?_
  have key2 : ∀ m n : Nat, n + m = 8 → ∀ S1, (∀ f i, ¬ ((f = 32 ∨ f = 33) ∧ i < n) → S1.1 f i = S.1 f i) → (∀ f, f ≠ 56 → S1.2 f = S.2 f) → vw (wv S1 56 0) (fun _ => 31) → (∀ x, x < n → S1.1 33 x = 0 ∧ S1.1 32 x = nI (7 * x)) → rG c eX10_everything d (rQ c K) 21 [some (.ref c.2.2.1), none, some (.int (nI n))] [] S1 := by
    intro m
    induction m with
    | zero =>
      intro n hn S1 c1 c2 c3 c4
      have : n = 8 := by omega
      subst this
      exact w_X10_everything_21 ho (nI 8) ⟨fun _ => hK S1 c1 c2 c3 c4, fun z => absurd (by decide) z⟩
    | succ m ih =>
      intro n hn S1 c1 c2 c3 c4
      have n8 : ¬ (8 : Int32) ≤ nI n := fun z => by
        have := (nI_leI (a := 8) (b := n) (by decide) (by omega)).mp z
        omega
      have ix : am_ix (nI n) n 8 := am_ix_n (by omega) (by decide)
      refine w_X10_everything_21 ho (nI n) ⟨fun z => absurd z n8, fun _ => ⟨n, ix, n, ix, ?_⟩⟩
      rw [show (7 : Int32) * nI n = nI (7 * n) from pk_mul 7 n, nI_1]
      refine ih (n + 1) (by omega) _ (fun f i z => ?_) c2 c3 (fun x hx => ?_)
      · rw [rsi_ne _ _ (by omega), rsi_ne _ _ (by omega)]; exact c1 f i (by omega)
      · by_cases e : x = n
        · subst e
          exact ⟨by rw [rsi_ne _ _ (by omega), rsi_i], rsi_i _ _ _ _⟩
        · rw [rsi_ne _ _ (by omega), rsi_ne _ _ (by omega), rsi_ne _ _ (by omega), rsi_ne _ _ (by omega)]
          exact c4 x (by omega)
  have key : ∀ m n : Nat, n + m = 5 → rG c eX10_everything d (rQ c K) 2 [some (.ref c.2.2.1), some (.ref (c.2.2.1 + (39 + 1))), some (.int (nI n))] [] (put S 56 0 n (fun _ => 72057594037927935)) := by
    intro m
    induction m with
    | zero =>
      intro n hn
      have : n = 5 := by omega
      subst this
      refine w_X10_everything_2 ho (kp0 := 39) (fp0 := 56) (np0 := 5) rfl (nI 5) ⟨fun _ => key2 8 0 rfl _ (fun f i _ => rfl) (fun f hf => funext fun i => put_out _ _ (fun z => hf z.1)) ?_ (fun x hx => absurd hx (by omega)), fun z => absurd (by decide) z⟩
      have w0 : vw (fun _ => (72057594037927935 : Int64)) (fun _ => 31) := by
        refine ⟨fun k hk n h1 h2 => ?_, fun p hp => gk_ext (n := 31) (show 31 < 32 by decide) fun k hk => ?_⟩
        · rw [every_bit n h2, decide_eq_false (by omega)]
        · rw [every_bit p (by omega), decide_eq_true hp]
          have : ∀ k, k < 5 → true = (31 : Nat).testBit k := by decide
          exact this k hk
      exact w0.cong fun k hk => put_in S (j := 0) _ hk
    | succ m ih =>
      intro n hn
      refine w_X10_everything_2 ho (kp0 := 39) (fp0 := 56) (np0 := 5) rfl (nI n) ⟨fun z => absurd z (i5 (by omega)), fun _ => ⟨n, am_ix_n (by omega) (by decide), ?_⟩⟩
      rw [nI_1]
      have := ih (n + 1) (by omega)
      rw [← put_s, Nat.zero_add] at this
      exact this
  have := key 5 0 rfl
  rw [put_0] at this
  exact this
theorem r_failn (ho : rOK c) {n : Int32} (hK : K (some (.int 0)) (rsi S 0 0 n)) : rM c d eX10_fail [.ref c.2.2.1, .int n] S K := w_X10_fail ho n hK
end RDA1
