/-! The reference: define. -/
theorem m_one : ∀ x, x < 8 → (1 : Int32) <<< (nI x &&& 31) = nI (2 ^ x) ∧ 2 ^ x < 256 ∧ ∀ y, y < 8 → (2 ^ x).testBit y = decide (y = x) := by decide +kernel
/-- what a call that reads and examines leaves of the expression at hand -/
def hfx (S S' : rS) : Prop := pfx S S' ∧ S'.2 57 = S.2 57 ∧ S'.2 58 = S.2 58 ∧ (∀ f i, 4 ≤ f → f ≤ 9 → i < 256 → S'.1 f i = S.1 f i) ∧ S'.1 10 3 = S.1 10 3 ∧ S'.1 18 0 = S.1 18 0 ∧ S'.1 19 0 = S.1 19 0
theorem hfx.trans {A B C : rS} (h : hfx A B) (k : hfx B C) : hfx A C := ⟨h.1.trans k.1, k.2.1.trans h.2.1, k.2.2.1.trans h.2.2.1, fun f i q1 q2 q3 => (k.2.2.2.1 f i q1 q2 q3).trans (h.2.2.2.1 f i q1 q2 q3), k.2.2.2.2.1.trans h.2.2.2.2.1, k.2.2.2.2.2.1.trans h.2.2.2.2.2.1, k.2.2.2.2.2.2.trans h.2.2.2.2.2.2⟩
theorem hfx_w (S : rS) {f i : Nat} (v : Int32) (h : ¬ pst f i) (h1 : ¬ (4 ≤ f ∧ f ≤ 9)) (h2 : ¬ (f = 10)) (h3 : f ≠ 18) (h4 : f ≠ 19) : hfx S (rsi S f i v) := ⟨pfx_w S v h, rfl, rfl, fun f' i' q1 q2 q3 => rsi_ne _ _ (by omega), rsi_ne _ _ (by omega), rsi_ne _ _ (by omega), rsi_ne _ _ (by omega)⟩
theorem xr.hf {A B : rS} (h : xr A B) : hfx A B := ⟨h.pf, by rw [h.1], by rw [h.1], fun f i q1 q2 q3 => h.2 f i (by omega) (by omega) (by omega) (by omega), h.2 10 3 (by omega) (by omega) (by omega) (by omega), h.2 18 0 (by omega) (by omega) (by omega) (by omega), h.2 19 0 (by omega) (by omega) (by omega) (by omega)⟩
theorem afq.hf {a b h : Nat} {sm : Nat → Option Nat} {A B : rS} (k : afq a b h sm A B) : hfx A B := ⟨k.pf, funext fun i => k.2 57 i (by omega) (by omega) (by omega), funext fun i => k.2 58 i (by omega) (by omega) (by omega), fun f i q1 q2 q3 => k.1 f i (by omega) (by omega) (by omega) (by omega) (by omega), k.1 10 3 (by omega) (by omega) (by omega) (by omega) (by omega), k.1 18 0 (by omega) (by omega) (by omega) (by omega) (by omega), k.1 19 0 (by omega) (by omega) (by omega) (by omega) (by omega)⟩
/-- the function j is kept anew; all else stands -/
def dfx (j : Nat) (S S' : rS) : Prop := (∀ f i, pst f i → ¬ (12 ≤ f ∧ f ≤ 15 ∧ i = j) → ¬ ((f = 16 ∨ f = 17) ∧ 7 * j ≤ i ∧ i < 7 * j + 7) → ¬ (4 ≤ f ∧ f ≤ 9 ∧ 64 * j ≤ i ∧ i < 64 * j + 64) → ¬ (f = 10 ∧ i = j) → S'.1 f i = S.1 f i) ∧ S'.2 57 = S.2 57 ∧ S'.2 58 = S.2 58 ∧ (∀ f i, 4 ≤ f → f ≤ 9 → 192 ≤ i → i < 256 → S'.1 f i = S.1 f i) ∧ S'.1 10 3 = S.1 10 3 ∧ S'.1 18 0 = S.1 18 0 ∧ S'.1 19 0 = S.1 19 0
section RDC
variable {c : rX} {D : Nat} {S : rS} {K : Option Value → rS → Prop} {fx : fnT} {fd : Nat → Bool} {ch : Nat → Option Nat} {len : Nat}
/-- the type that is read, and what is made of it -/
theorem d_104 (ho : rOK c) (hc : chO ch len) (hT : RTX S ch len fd) {p : Nat} (h20 : S.1 20 0 = nI p) (hp : p < 100) {v1 v2 v3 : Int32} (k : rG c eX10_define (D + 1) (rQ c K) 190 [some (.ref c.2.2.1), some (.int v1), none, some (.int v3), some (.int (nI (tyO (ch p)))), none, none] [.int (if v2 = 0 ∨ tyO (ch p) = 0 then 0 else 1)] S) : rG c eX10_define (D + 1) (rQ c K) 104 [some (.ref c.2.2.1), some (.int v1), some (.int v2), some (.int v3), none, none, none] [] S := by
  have hx : ∀ y, ch p = some y → y < 2 ^ 31 := fun y e => by have := hc.2.2 _ _ e; omega
  have eq : ∀ b : Nat, b < 2 ^ 31 → (rfI (ch p) = nI b ↔ ch p = some b) := fun b hb => rf_eq hx b hb
  have e42 : rfI (ch p) = 42 ↔ ch p = some 42 := eq 42 (by decide)
  have e98 : rfI (ch p) = 98 ↔ ch p = some 98 := eq 98 (by decide)
  have e108 : rfI (ch p) = 108 ↔ ch p = some 108 := eq 108 (by decide)
  have e110 : rfI (ch p) = 110 ↔ ch p = some 110 := eq 110 (by decide)
  have e112 : rfI (ch p) = 112 ↔ ch p = some 112 := eq 112 (by decide)
  have hp' : p < 200 := by omega
  have one : ∀ t : Nat, tyO (ch p) = t → t ≠ 0 → (v2 = 0 → rG c eX10_define (D + 1) (rQ c K) 190 [some (.ref c.2.2.1), some (.int v1), none, some (.int v3), some (.int (nI t)), none, none] [.int 0] S) ∧ (¬ v2 = 0 → rG c eX10_define (D + 1) (rQ c K) 190 [some (.ref c.2.2.1), some (.int v1), none, some (.int v3), some (.int (nI t)), none, none] [.int 1] S) := by
    intro t et t0
    rw [et] at k
    refine ⟨fun z => ?_, fun z => ?_⟩
    · rw [if_pos (Or.inl z)] at k; exact k
    · rw [if_neg (fun u => by rcases u with u | u; exact z u; exact t0 u)] at k; exact k
  refine w_X10_define_104 ho v1 v2 v3 (r_peek ho hT hc h20 hp' ⟨_, rfl, fun n42 => r_peek ho hT hc h20 hp' ⟨_, rfl, fun n110 => r_peek ho hT hc h20 hp' ⟨_, rfl, fun n98 => r_peek ho hT hc h20 hp' ⟨_, rfl, fun n108 => r_peek ho hT hc h20 hp' ⟨_, rfl, fun n112 => ?_, fun y112 => one 16 (by rw [e112.mp y112]; rfl) (by decide)⟩, fun y108 => one 24 (by rw [e108.mp y108]; rfl) (by decide)⟩, fun y98 => one 6 (by rw [e98.mp y98]; rfl) (by decide)⟩, fun y110 => one 1 (by rw [e110.mp y110]; rfl) (by decide)⟩, fun y42 => one 31 (by rw [e42.mp y42]; rfl) (by decide)⟩)
  have t0 : tyO (ch p) = 0 := by
    cases e : ch p with
    | none => rfl
    | some y =>
      rw [e] at e42 e98 e108 e110 e112 n42 n98 n108 n110 n112
      simp only [Option.some.injEq] at e42 e98 e108 e110 e112
      show (if _ then _ else _) = 0
      rw [if_neg (fun u => n42 (e42.mpr u)), if_neg (fun u => n98 (e98.mpr u)), if_neg (fun u => n108 (e108.mpr u)), if_neg (fun u => n110 (e110.mpr u)), if_neg (fun u => n112 (e112.mpr u))]
  rw [t0, if_pos (Or.inr rfl)] at k
  exact ⟨fun _ => k, fun _ => k⟩
/-- nothing fits: the fault is here -/
theorem d_dead (ho : rOK c) (hc : chO ch len) (hT : RTX S ch len fd) {p : Nat} (h20 : S.1 20 0 = nI p) (hp : p < 100) {v1 v3 : Int32} (hK : ∀ S', hfx S S' → S'.1 0 0 = 1 → S'.1 1 0 = nI p → K (some (.int 0)) S') : rG c eX10_define (D + 1) (rQ c K) 104 [some (.ref c.2.2.1), some (.int v1), some (.int 0), some (.int v3), none, none, none] [] S := by
  refine d_104 ho hc hT h20 hp ?_
  rw [if_pos (Or.inl rfl)]
  refine w_X10_define_190 ho v1 v3 _ 0 ⟨fun _ => ?_, fun z => absurd rfl z⟩
  refine w_X10_define_205 ho v1 0 v3 _ ⟨fun _ => r_failn ho ⟨_, rfl, ?_⟩, fun z => absurd rfl z⟩
  refine hK _ ((hfx_w S _ (by unfold pst; omega) (by omega) (by omega) (by omega) (by omega)).trans (hfx_w _ _ (by unfold pst; omega) (by omega) (by omega) (by omega) (by omega))) (rsi_i _ _ _ _) ?_
  rw [rsi_ne _ _ (by omega), rsi_i]
  exact h20
end RDC
