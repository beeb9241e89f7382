/-! The reference's checker agrees with the checker by names: by levels. -/
def acC (c : rX) (D : Nat) (fx : fnT) (fd : Nat → Bool) (T : Nat → nd) (B k : Nat) : Prop := ∀ (K : Option Value → rS → Prop) (S : rS) (a b m lo sl sh h : Nat) (sc : List Nat) (sm : Nat → Option Nat) (g : nV) (nm : Nat → Nat) (ow : Nat → Option (nV × nV)),
  rTr S T k (B + a) (B + b) m → b ≤ 64 → wt T k m lo sl sh sc → wn T k m sm → (∀ i, i ≤ m → nP fd (T i)) → REN S sm nm ow → RFX S fx → vw (wv S 26 (5 * a)) g → 1 ≤ h → h + k ≤ 79 → S.1 31 (h - 1) = nI (B + a) → S.1 25 (h - 1) = nI 0 → S.1 38 0 = 0 →
  (∀ e, nk fx T k m g nm ow = .inl e → ∀ S', afq a b h sm S S' → ¬ S'.1 38 0 = 0 → S'.1 1 0 = nI e → K (some (.int 0)) S') →
  (∀ F, nk fx T k m g nm ow = .inr F → ∀ S', afq a b h sm S S' → S'.1 38 0 = 0 → S'.1 1 0 = S.1 1 0 → fnd S' a F → JA c D K S' (h - 1)) → JA c D K S h
section RCG
variable {c : rX} {D : Nat} {fx : fnT} {fd : Nat → Bool} {T : Nat → nd} {B k : Nat} {S : rS} {K : Option Value → rS → Prop} {a b h : Nat} {sm : Nat → Option Nat}
/-- a part is begun -/
theorem ac_push (ih : acC c D fx fd T B k) {S1 : rS} {q bq mq lo sl sh s : Nat} {sc : List Nat} {sm' : Nat → Option Nat} {g : nV} {nm : Nat → Nat} {ow : Nat → Option (nV × nV)} (h1 : hB B)
    (h31 : S1.1 31 (h - 1) = nI (B + a)) (h25 : S1.1 25 (h - 1) = nI s) (h38 : S1.1 38 0 = 0) (hh : 1 ≤ h) (h79 : h + (k + 1) ≤ 79) (t : rTr S1 T k (B + q) (B + bq) mq) (hbq : bq ≤ 64) (w : wt T k mq lo sl sh sc) (wN : wn T k mq sm') (np : ∀ i, i ≤ mq → nP fd (T i)) (hR : REN S1 sm' nm ow) (hX : RFX S1 fx) (hv : vw (wv S1 26 (5 * q)) g) (hsm : ∀ x, (sm x).isSome = true → (sm' x).isSome = true) (haq : a < q) (hqb : bq ≤ b)
    (hE : ∀ e, nk fx T k mq g nm ow = .inl e → ∀ S', afq a b h sm S1 S' → ¬ S'.1 38 0 = 0 → S'.1 1 0 = nI e → K (some (.int 0)) S')
    (hG : ∀ F, nk fx T k mq g nm ow = .inr F → ∀ S', afq q bq (h + 1) sm' S1 S' → afq a b h sm S1 S' → S'.1 38 0 = 0 → S'.1 1 0 = S1.1 1 0 → fnd S' q F → S'.1 31 (h - 1) = nI (B + a) → S'.1 25 (h - 1) = nI s → JA c D K S' h) :
    JN c D K h (some (.int (nI (B + q)))) S1 := by
  have lt := rTr_lt t
  have q320 : B + q < 320 := by rcases h1 with h | h | h | h | h <;> omega
  refine ⟨_, rfl, fun _ => ?_, fun z => absurd z (nI_neg1 (by omega))⟩
  have a1 : ∀ f i, ¬ ((f = 31 ∨ f = 25) ∧ i = h) → (rsi (rsi S1 31 h (nI (B + q))) 25 h 0).1 f i = S1.1 f i := fun f i z => by rw [rsi_ne _ _ (by omega), rsi_ne _ _ (by omega)]
  have a2 : (rsi (rsi S1 31 h (nI (B + q))) 25 h 0).1 31 h = nI (B + q) := by rw [rsi_ne _ _ (by omega), rsi_i]
  have a3 : (rsi (rsi S1 31 h (nI (B + q))) 25 h 0).1 25 h = nI 0 := rsi_i _ _ _ _
  have a4 : (rsi (rsi S1 31 h (nI (B + q))) 25 h 0).2 = S1.2 := rfl
  generalize rsi (rsi S1 31 h (nI (B + q))) 25 h 0 = S2 at a1 a2 a3 a4 ⊢
  have f2 : afq q bq (h + 1) sm' S1 S2 := ⟨fun f i _ q2 _ _ _ => a1 f i (by omega), fun f i _ _ _ => by rw [a4]⟩
  have up' : ∀ {A C : rS}, afq q bq (h + 1) sm' A C → afq a b h sm A C := fun f => f.mono (by omega) hqb (by omega) hsm
  refine ih K S2 q bq mq lo sl sh (h + 1) sc sm' g nm ow (rTr_q t f2) hbq w wN np (hR.q f2) (hX.q f2) (by unfold wv; rw [a4]; exact hv) (by omega) (by omega) a2 a3 (by rw [a1 38 0 (by omega)]; exact h38) (fun e he S' f' q1 q2 => hE e he S' (up' (f2.trans f')) q1 q2) (fun F hF S' f' q1 q2 q3 => ?_)
  have FF := f2.trans f'
  refine hG F hF S' FF (up' FF) q1 (by rw [q2, a1 1 0 (by omega)]) q3 ?_ ?_
  · rw [FF.1 31 (h - 1) (by omega) (by omega) (by omega) (by omega) (by omega)]; exact h31
  · rw [FF.1 25 (h - 1) (by omega) (by omega) (by omega) (by omega) (by omega)]; exact h25
/-- all parts are done -/
theorem ac_con (ho : rOK c) (h1 : hB B) (h2 : a < 64) {s : Nat} {g : nV} (hs : s ≤ 3) (hi : s = 0 → vw (wv S 26 (5 * a)) g ∧ ¬ nImp g = true) (hh : 1 ≤ h) (h79 : h ≤ 79) (h38 : S.1 38 0 = 0) (h31 : S.1 31 (h - 1) = nI (B + a)) (h25 : S.1 25 (h - 1) = nI s) (hp : ptv S (B + a) s = -1)
    (k : ∀ S1, (∀ f i, ¬ (f = 25 ∧ i = h - 1) → S1.1 f i = S.1 f i) → S1.2 = S.2 → rM c (D + 4) eX10_conclude [.ref c.2.2.1, .int (nI (B + a))] S1 (fun v S9 => v = none ∧ JA c D K S9 (h - 1))) : JA c D K S h := by
  have old : ∀ f i, ¬ (f = 25 ∧ i = h - 1) → (rsi S 25 (h - 1) (nI (s + 1))).1 f i = S.1 f i := fun f i z => rsi_ne _ _ z
  refine JA.step ho hh h79 (by omega) h38 h31 h25 (np_end (g := g) ho h1 h2 hs (fun z => hi z) ?_ ((k _ old rfl).mono fun v S9 ⟨e, j⟩ => ⟨e, -1, rfl, fun z => absurd rfl z, fun _ => j⟩))
  unfold ptv at hp ⊢
  rw [old 5 _ (by omega), old 6 _ (by omega), old 7 _ (by omega)]
  exact hp
theorem ffr_25 {S S1 : rS} (e1 : ∀ f i, ¬ (f = 25 ∧ i = h - 1) → S1.1 f i = S.1 f i) (e2 : S1.2 = S.2) (hh : 1 ≤ h) : afq a b h sm S S1 := ⟨fun f i _ q2 _ _ _ => e1 f i (by omega), fun f i _ _ _ => by rw [e2]⟩
end RCG
