/-! The reference's machine: its loop. -/
def JW (c : rX) (D : Nat) (K : Option Value → rS → Prop) (lim : Nat) (S : rS) : Prop := rG c eX10_run (D + 4 + 1) (rQ c K) 72 [some (.ref c.2.2.1), some (.int (nI lim)), some (.int 1)] [] S
def JP (c : rX) (D : Nat) (K : Option Value → rS → Prop) (lim : Nat) (S : rS) : Prop := ((S.1 49 0) ≤ 0 → (rG c eX10_run (D + 4 + 1) (rQ c K) 72 [some (.ref c.2.2.1), some (.int (nI lim)), some (.int 0)] [] S)) ∧ (¬ (S.1 49 0) ≤ 0 → ((¬ (S.1 48 0) = 0 → (rG c eX10_run (D + 4 + 1) (rQ c K) 72 [some (.ref c.2.2.1), some (.int (nI lim)), some (.int 0)] [] S)) ∧ ((S.1 48 0) = 0 → JW c D K lim S)))
section REC
variable {c : rX} {D : Nat} {S : rS} {K : Option Value → rS → Prop} {lim h : Nat}
theorem JP.w (h49 : S.1 49 0 = nI h) (hh : 1 ≤ h) (h80 : h ≤ 100) (h48 : S.1 48 0 = 0) (k : JW c D K lim S) : JP c D K lim S := by
  refine ⟨fun z => ?_, fun _ => ⟨fun z => absurd h48 z, fun _ => k⟩⟩
  rw [h49] at z
  have := (nI_leI (b := 0) (by omega) (by decide)).mp z
  omega
theorem JP.stop (ho : rOK c) {e : Nat} (h49 : S.1 49 0 = nI h) (hh : 1 ≤ h) (h80 : h ≤ 100) (h48 : S.1 48 0 = nI e) (he : 1 ≤ e) (he3 : e ≤ 3) (k : K (some (.int (nI e))) S) : JP c D K lim S := by
  have n0 : ¬ nI e ≤ 0 := fun z => by
    have := (nI_leI (b := 0) (by omega) (by decide)).mp z
    omega
  have n0' : ¬ nI e = 0 := fun z => n0 (by rw [z]; decide)
  refine ⟨fun z => ?_, fun _ => ⟨fun _ => w_X10_run_72 ho (nI lim) 0 ⟨fun _ => ⟨fun z => ?_, fun _ => ?_⟩, fun z => absurd rfl z⟩, fun z => ?_⟩⟩
  · rw [h49] at z
    have := (nI_leI (b := 0) (by omega) (by decide)).mp z
    omega
  · rw [h48] at z; exact absurd z n0
  · rw [h48]; exact k
  · rw [h48] at z; exact absurd z n0'
theorem JP.fin (ho : rOK c) (h49 : S.1 49 0 = nI 0) (h48 : S.1 48 0 = 0) (k : K (some (.int 1)) (rsi S 47 0 (S.1 50 0))) : JP c D K lim S := by
  refine ⟨fun _ => w_X10_run_72 ho (nI lim) 0 ⟨fun _ => ⟨fun _ => k, fun z => ?_⟩, fun z => absurd rfl z⟩, fun z => ?_⟩
  · rw [h48] at z; exact absurd (by decide) z
  · rw [h49] at z; exact absurd (by decide) z
theorem JW.go (ho : rOK c) {s n : Nat} (h49 : S.1 49 0 = nI h) (hh : 1 ≤ h) (h80 : h ≤ 79) (hs : s ≤ 3) (h52 : S.1 52 (h - 1) = nI s) (h46 : S.1 46 0 = nI n) (hn : n ≤ lim) (hl : lim ≤ 1000)
    (k0 : s = 0 → n = lim → K (some (.int 0)) S) (k1 : s = 0 → n < lim → rM c (D + 4) eX10_goOn [.ref c.2.2.1] (rsi S 46 0 (nI (n + 1))) (fun v S1 => v = none ∧ JP c D K lim S1)) (k2 : 1 ≤ s → rM c (D + 4) eX10_goOn [.ref c.2.2.1] S (fun v S1 => v = none ∧ JP c D K lim S1)) : JW c D K lim S := by
  have e1 : nI h - 1 = nI (h - 1) := by
    have := nI_pred (h - 1)
    rw [show h - 1 + 1 = h by omega] at this
    exact this
  refine w_X10_run_72 ho (nI lim) 1 ⟨fun z => absurd z (by decide), fun _ => ⟨h - 1, by rw [h49, e1]; exact am_ix_n (by omega) (by decide), ?_⟩⟩
  rw [h52, h46, show nI s = 0 ↔ s = 0 from nI_is (b := 0) (by omega) (by decide), show nI n = nI lim ↔ n = lim from nI_is (by omega) (by omega), nI_1]
  exact ⟨fun z => w_X10_run_110 ho (nI lim) (k2 (by omega)), fun z => ⟨fun y => w_X10_run_110 ho (nI lim) (k1 z (by omega)), fun y => k0 z y⟩⟩
/-- one step of the top frame -/
theorem g_on (ho : rOK c) {r l s : Nat} (h49 : S.1 49 0 = nI h) (hh : 1 ≤ h) (h80 : h ≤ 79) (hs : s ≤ 3) (h51 : S.1 51 (h - 1) = nI r) (h52 : S.1 52 (h - 1) = nI s) (h53 : S.1 53 (h - 1) = nI l)
    (k : ∀ S', S'.2 = S.2 → (∀ f i, ¬ ((f = 52 ∨ f = 54) ∧ i = h - 1) → S'.1 f i = S.1 f i) → S'.1 52 (h - 1) = nI (s + 1) → (s = 1 → S'.1 54 (h - 1) = S.1 50 0) → (s ≠ 1 → S'.1 54 (h - 1) = S.1 54 (h - 1)) → rG c eX10_goOn (D + 3 + 1) (rQ c K) 54 [some (.ref c.2.2.1), some (.int (nI (h - 1))), some (.int (nI r)), some (.int (nI s)), some (.int (nI l)), none] [] S') : rM c (D + 4) eX10_goOn [.ref c.2.2.1] S K := by
  have e1 : nI h - 1 = nI (h - 1) := by
    have := nI_pred (h - 1)
    rw [show h - 1 + 1 = h by omega] at this
    exact this
  have ix : am_ix (S.1 49 0 - 1) (h - 1) 80 := by rw [h49, e1]; exact am_ix_n (by omega) (by decide)
  refine w_X10_goOn ho ⟨h - 1, ix, h - 1, ix, h - 1, ix, h - 1, ix, h - 1, ix, ?_⟩
  rw [h49, e1, h51, h52, h53, nI_1, show nI s = 1 ↔ s = 1 from nI_is (b := 1) (by omega) (by decide)]
  refine ⟨fun z => k _ rfl (fun f i q => rsi_ne _ _ (by omega)) (rsi_i _ _ _ _) (fun y => absurd y z) (fun _ => rsi_ne _ _ (by omega)), fun z => ⟨h - 1, by rw [← e1, ← h49]; exact ix, k _ rfl (fun f i q => by rw [rsi_ne _ _ (by omega), rsi_ne _ _ (by omega)]) (by rw [rsi_ne _ _ (by omega), rsi_i]) (fun _ => rsi_i _ _ _ _) (fun y => absurd z y)⟩⟩
end REC
/-- the contract of an evaluation by the reference -/
def ruC (c : rX) (D : Nat) (bf : bT) (rk prm : Nat → Nat) (lim k : Nat) : Prop := ∀ (K : Option Value → rS → Prop) (S : rS) (T : Nat → nd) (hh r hi m lo sl sh h l R : Nat) (sc : List Nat) (sm : Nat → Option Nat) (ρ : Nat → Nat) (st : Nat × cL),
  rTr S T hh r hi m → hi ≤ 320 → wt T hh m lo sl sh sc → wn T hh m sm → scO sm sc → (∀ s, s ∈ sc → s < sl) → txO bf rk R T m → (∀ i, i ≤ m → ((T i).2.2.2.2 = [] → ∀ t, (T i).2.2.2.1 = some t → 97 ≤ (T i).1 ∧ (T i).1 < 105) ∧ ((T i).1 = 58 → 2 ≤ (T i).2.2.1 ∧ (T i).2.2.1 < 8)) → hh + 7 * R ≤ k → l + R ≤ 3 → h + k ≤ 79 → 1 ≤ h → clO st.2 → (∀ s, s ∈ sc → ρ s < st.2.1) → REV S l sm ρ → RBD S bf prm → RCL S st.2 → S.1 46 0 = nI st.1 → st.1 ≤ lim → S.1 48 0 = 0 → S.1 49 0 = nI h → S.1 51 (h - 1) = nI r → S.1 52 (h - 1) = nI 0 → S.1 53 (h - 1) = nI l →
  (∀ st' e, ev bf lim k T m ρ st = (st', .inl e) → ∀ S', evq h l sm S S' → RCL S' st'.2 → S'.1 46 0 = nI st'.1 → K (some (.int (nI e))) S') →
  (∀ st' v, ev bf lim k T m ρ st = (st', .inr v) → ∀ S', evq h l sm S S' → RCL S' st'.2 → S'.1 46 0 = nI st'.1 → S'.1 50 0 = nI v → S'.1 49 0 = nI (h - 1) → S'.1 48 0 = 0 → JP c D K lim S') → JW c D K lim S
section RED
variable {c : rX} {D : Nat} {bf : bT} {rk prm : Nat → Nat} {lim k : Nat} {K : Option Value → rS → Prop}
/-- a part, or a body, is begun -/
theorem ru_kid {d : Nat} (ho : rOK c) (ih : ruC c D bf rk prm lim k) {A : rS} {T : Nat → nd} {hh q hi m lo sl sh h l R : Nat} {sc : List Nat} {sm : Nat → Option Nat} {ρ : Nat → Nat} {st : Nat × cL} (h49 : A.1 49 0 = nI h) (h48 : A.1 48 0 = 0) (h46 : A.1 46 0 = nI st.1) (h78 : h + 1 + k ≤ 79) (t : rTr A T hh q hi m) (h320 : hi ≤ 320) (w : wt T hh m lo sl sh sc) (wN : wn T hh m sm) (hsc : scO sm sc) (scl : ∀ s, s ∈ sc → s < sl) (tx : txO bf rk R T m) (np : ∀ i, i ≤ m → ((T i).2.2.2.2 = [] → ∀ t, (T i).2.2.2.1 = some t → 97 ≤ (T i).1 ∧ (T i).1 < 105) ∧ ((T i).1 = 58 → 2 ≤ (T i).2.2.1 ∧ (T i).2.2.1 < 8)) (hk : hh + 7 * R ≤ k) (hl : l + R ≤ 3) (cl : clO st.2) (hρ : ∀ s, s ∈ sc → ρ s < st.2.1) (hE : REV A l sm ρ) (hB : RBD A bf prm) (hL : RCL A st.2) (hst : st.1 ≤ lim)
    (k1 : ∀ st' e, ev bf lim k T m ρ st = (st', .inl e) → ∀ S', evq (h + 1) l sm A S' → RCL S' st'.2 → S'.1 46 0 = nI st'.1 → K (some (.int (nI e))) S')
    (k2 : ∀ st' v, ev bf lim k T m ρ st = (st', .inr v) → ∀ S', evq (h + 1) l sm A S' → RCL S' st'.2 → S'.1 46 0 = nI st'.1 → S'.1 50 0 = nI v → S'.1 49 0 = nI h → S'.1 48 0 = 0 → JP c D K lim S') :
    rM c d eX10_begin [.ref c.2.2.1, .int (nI q), .int (nI l)] A (fun v S3 => v = none ∧ JP c D K lim S3) := by
  refine e_begin ho h49 (by omega) fun S1 a1 a2 a3 a4 a5 a6 => ⟨rfl, JP.w a6 (by omega) (by omega) (by rw [a2 48 0 (by omega) (by omega)]; exact h48) ?_⟩
  have f1 : evq (h + 1) l sm A S1 := ⟨a1, fun f i _ _ q3 q4 _ => a2 f i (by omega) (by omega)⟩
  refine ih K S1 T hh q hi m lo sl sh (h + 1) l R sc sm ρ st (rTr_e t f1) h320 w wN hsc scl tx np hk hl (by omega) (by omega) cl hρ (hE.q f1) (hB.q f1) (hL.q fun f i q1 q2 => a2 f i (by omega) (by omega)) (by rw [a2 46 0 (by omega) (by omega)]; exact h46) hst (by rw [a2 48 0 (by omega) (by omega)]; exact h48) a6 a3 a4 a5 (fun st' e g S' f' => k1 st' e g S' (f1.trans f')) (fun st' v g S' f' => k2 st' v g S' (f1.trans f'))
end RED
