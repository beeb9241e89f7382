/-! The reference's checker: conclude, enter, the next part. -/
/-- what the checker knows of the names in scope -/
def REN (S : rS) (sm : Nat → Option Nat) (nm : Nat → Nat) (ow : Nat → Option (nV × nV)) : Prop := ∀ x, (sm x).isSome = true → x < 8 ∧ S.1 32 x = nI (nm x) ∧ nm x < 56 ∧ ((ow x = none ∧ S.1 33 x = 0) ∨ ∃ Y N, ow x = some (Y, N) ∧ S.1 33 x = 1 ∧ vw (wv S 34 (5 * x)) Y ∧ vw (wv S 35 (5 * x)) N)
/-- the functions as the reference keeps them -/
def RFX (S : rS) (fx : fnT) : Prop := ∀ i, i < 3 → ∀ pt kk y no, fx i = some (pt, kk, y, no) → pt < 32 ∧ kk < 32 ∧ S.1 14 i = nI pt ∧ S.1 15 i = nI kk ∧ (∀ k, k < 7 → S.1 16 (7 * i + k) = nI (kd y k)) ∧ ∀ k, k < 7 → S.1 17 (7 * i + k) = nI (kd no k)
/-- a check of the nodes a .. b - 1, begun at height h, may change -/
def afq (a b h : Nat) (sm : Nat → Option Nat) (S S' : rS) : Prop :=
  (∀ f i, ¬ ((f = 29 ∨ f = 30) ∧ a ≤ i ∧ i < b) → ¬ ((f = 31 ∨ f = 25) ∧ h ≤ i + 1) → ¬ ((f = 32 ∨ f = 33) ∧ (sm i).isSome = false) → ¬ (f = 38 ∧ i = 0) → ¬ (f = 1 ∧ i = 0) → S'.1 f i = S.1 f i) ∧
  ∀ f i, ¬ ((f = 26 ∨ f = 27 ∨ f = 28) ∧ 5 * a ≤ i ∧ i < 5 * b) → ¬ (f = 36 ∨ f = 37) → ¬ ((f = 34 ∨ f = 35) ∧ (sm (i / 5)).isSome = false) → S'.2 f i = S.2 f i
theorem afq.refl (a b h : Nat) (sm : Nat → Option Nat) (S : rS) : afq a b h sm S S := ⟨fun _ _ _ _ _ _ _ => rfl, fun _ _ _ _ _ => rfl⟩
theorem afq.trans {a b h : Nat} {sm : Nat → Option Nat} {A B C : rS} (k : afq a b h sm A B) (l : afq a b h sm B C) : afq a b h sm A C := ⟨fun f i q1 q2 q3 q4 q5 => (l.1 f i q1 q2 q3 q4 q5).trans (k.1 f i q1 q2 q3 q4 q5), fun f i q1 q2 q3 => (l.2 f i q1 q2 q3).trans (k.2 f i q1 q2 q3)⟩
theorem afq.mono {a b h a' b' h' : Nat} {sm sm' : Nat → Option Nat} {A B : rS} (k : afq a b h sm A B) (h1 : a' ≤ a) (h2 : b ≤ b') (h3 : h' ≤ h) (h4 : ∀ x, (sm' x).isSome = true → (sm x).isSome = true) : afq a' b' h' sm' A B := by
  have h5 : ∀ x, ¬ (sm' x).isSome = false → ¬ (sm x).isSome = false := fun x q => by
    have : (sm' x).isSome = true := by
      cases e : (sm' x).isSome with
      | true => rfl
      | false => exact absurd e q
    rw [h4 x this]; decide
  exact ⟨fun f i q1 q2 q3 q4 q5 => k.1 f i (by omega) (by omega) (fun z => q3 ⟨z.1, by
    cases e : (sm' i).isSome with
    | false => rfl
    | true => exact absurd z.2 (h5 i (by rw [e]; decide))⟩) q4 q5, fun f i q1 q2 q3 => k.2 f i (by omega) q2 (fun z => q3 ⟨z.1, by
    cases e : (sm' (i / 5)).isSome with
    | false => rfl
    | true => exact absurd z.2 (h5 (i / 5) (by rw [e]; decide))⟩)⟩
theorem ffr.q {a b h : Nat} {sm : Nat → Option Nat} {A B : rS} (k : ffr a A B) (hb : a < b) : afq a b h sm A B := ⟨fun f i q1 _ _ _ _ => k.1 f i (by omega), fun f i q1 q2 _ => k.2 f i (by omega) q2⟩
theorem REN.q {a b h : Nat} {sm : Nat → Option Nat} {nm : Nat → Nat} {ow : Nat → Option (nV × nV)} {A B : rS} (k : REN A sm nm ow) (l : afq a b h sm A B) : REN B sm nm ow := by
  intro x hx
  have nx : ¬ (sm x).isSome = false := by rw [hx]; decide
  obtain ⟨k1, k2, k3, k4⟩ := k x hx
  refine ⟨k1, by rw [l.1 32 x (by omega) (by omega) (fun z => nx z.2) (by omega) (by omega)]; exact k2, k3, ?_⟩
  rw [l.1 33 x (by omega) (by omega) (fun z => nx z.2) (by omega) (by omega)]
  rcases k4 with k4 | ⟨Y, N, e1, e2, e3, e4⟩
  · exact Or.inl k4
  · exact Or.inr ⟨Y, N, e1, e2, e3.cong fun n hn => l.2 34 (5 * x + n) (by omega) (by omega) (fun z => nx (by rw [← z.2]; congr 2; omega)), e4.cong fun n hn => l.2 35 (5 * x + n) (by omega) (by omega) (fun z => nx (by rw [← z.2]; congr 2; omega))⟩
theorem RFX.q {a b h : Nat} {sm : Nat → Option Nat} {fx : fnT} {A B : rS} (k : RFX A fx) (l : afq a b h sm A B) : RFX B fx := by
  intro i hi pt kk y no e
  obtain ⟨k1, k2, k3, k4, k5, k6⟩ := k i hi pt kk y no e
  exact ⟨k1, k2, by rw [l.1 14 i (by omega) (by omega) (by omega) (by omega) (by omega)]; exact k3, by rw [l.1 15 i (by omega) (by omega) (by omega) (by omega) (by omega)]; exact k4, fun n hn => by rw [l.1 16 _ (by omega) (by omega) (by omega) (by omega) (by omega)]; exact k5 n hn, fun n hn => by rw [l.1 17 _ (by omega) (by omega) (by omega) (by omega) (by omega)]; exact k6 n hn⟩
theorem rTr_q {a b h k r hi m : Nat} {sm : Nat → Option Nat} {T : Nat → nd} {A B : rS} (t : rTr A T k r hi m) (l : afq a b h sm A B) : rTr B T k r hi m := rTr_cong t fun f i q1 q2 _ _ => l.1 f i (by omega) (by omega) (by omega) (by omega) (by omega)
theorem fnd.q {a b h e : Nat} {sm : Nat → Option Nat} {F : nF} {A B : rS} (k : fnd A e F) (l : afq a b h sm A B) (he : e < a ∨ b ≤ e) : fnd B e F := by
  obtain ⟨h1, h2, h3, h4, h5, h6⟩ := k
  exact ⟨by rw [l.1 29 e (by omega) (by omega) (by omega) (by omega) (by omega)]; exact h1, by rw [l.1 30 e (by omega) (by omega) (by omega) (by omega) (by omega)]; exact h2, h3, h4, h5.cong fun n hn => l.2 27 _ (by omega) (by omega) (by omega), h6.cong fun n hn => l.2 28 _ (by omega) (by omega) (by omega)⟩
section RCE
variable {c : rX} {D : Nat} {S : rS} {K : Option Value → rS → Prop} {B a : Nat} {g : nV}
/-- conclude: by the sign -/
theorem cn_ok (ho : rOK c) (h1 : hB B) (h2 : a < 64) {sg : Nat} (h4 : S.1 4 (B + a) = nI sg) (hsg : sg < 65536) (hi : vw (wv S 26 (5 * a)) g)
    (H : ∀ S1, ffr a S S1 → vw (wv S1 36 0) g → vw (wv S1 37 0) g →
      (sg = 33 → rM c (D + 3) eX10_concludeNot [.ref c.2.2.1, .int (nI (B + a))] S1 (fun v S5 => v = none ∧ K none S5)) ∧
      (sg = 38 → rM c (D + 3) eX10_concludeAnd [.ref c.2.2.1, .int (nI (B + a))] S1 (fun v S5 => v = none ∧ K none S5)) ∧
      (sg = 43 ∨ sg = 45 ∨ sg = 60 → rM c (D + 3) eX10_concludeSum [.ref c.2.2.1, .int (nI (B + a))] S1 (fun v S5 => v = none ∧ K none S5)) ∧
      (sg = 58 → rM c (D + 3) eX10_concludeLet [.ref c.2.2.1, .int (nI (B + a))] S1 (fun v S5 => v = none ∧ K none S5)) ∧
      (sg = 63 → rM c (D + 3) eX10_concludeIf [.ref c.2.2.1, .int (nI (B + a))] S1 (fun v S5 => v = none ∧ K none S5)) ∧
      (sg = 65 ∨ sg = 68 → rM c (D + 3) eX10_concludeHalf [.ref c.2.2.1, .int (nI (B + a))] S1 (fun v S5 => v = none ∧ K none S5)) ∧
      (sg = 78 ∨ sg = 66 ∨ sg = 69 ∨ sg = 80 → rM c (D + 3) eX10_concludeTest [.ref c.2.2.1, .int (nI (B + a)), .int (nI (tkd sg))] S1 (fun v S5 => v = none ∧ K none S5)) ∧
      (sg = 97 → rM c (D + 3) eX10_concludeVariable [.ref c.2.2.1, .int (nI (B + a))] S1 (fun v S5 => v = none ∧ K none S5)) ∧
      (sg = 124 → rM c (D + 3) eX10_concludeOr [.ref c.2.2.1, .int (nI (B + a))] S1 (fun v S5 => v = none ∧ K none S5)) ∧
      (sg = 71 ∨ sg = 72 ∨ sg = 73 → rM c (D + 3) eX10_concludeCall [.ref c.2.2.1, .int (nI (B + a))] S1 (fun v S5 => v = none ∧ K none S5)) ∧
      (sg = 35 ∨ sg = 126 ∨ sg = 46 ∨ sg = 48 ∨ sg = 67 → ∀ S', ffr a S S' → fnd S' a (nFin (if sg = 35 then 2 else if sg = 126 then 4 else if sg = 46 then 8 else if sg = 48 then 1 else 16) none g g) → K none S') ∧
      (sg = 33 ∨ sg = 38 ∨ sg = 43 ∨ sg = 45 ∨ sg = 60 ∨ sg = 58 ∨ sg = 63 ∨ sg = 65 ∨ sg = 68 ∨ sg = 78 ∨ sg = 66 ∨ sg = 69 ∨ sg = 80 ∨ sg = 97 ∨ sg = 124 ∨ sg = 71 ∨ sg = 72 ∨ sg = 73 ∨ sg = 35 ∨ sg = 126 ∨ sg = 46 ∨ sg = 48 ∨ sg = 67)) :
    rM c (D + 4) eX10_conclude [.ref c.2.2.1, .int (nI (B + a))] S K := by
  have ir : am_ix (nI (B + a)) (B + a) 320 := am_ix_n (by rcases h1 with h | h | h | h | h <;> omega) (by decide)
  refine w_X10_conclude ho (nI (B + a)) (r_start ho h1 h2 fun S1 f1 w1 w2 => ⟨rfl, B + a, ir, ?_⟩)
  have y1 : vw (wv S1 36 0) g := hi.cong w1
  have n1 : vw (wv S1 37 0) g := hi.cong w2
  obtain ⟨H33, H38, Hs, H58, H63, Hh, Ht, H97, H124, Hc, Hk, Hin⟩ := H S1 f1 y1 n1
  rw [f1.1 4 (B + a) (by omega), h4]
  have ei : ∀ b : Nat, b < 2 ^ 31 → (nI sg = nI b ↔ sg = b) := fun b hb => nI_is (by omega) hb
  have e33 : nI sg = 33 ↔ sg = 33 := ei 33 (by decide)
  have e35 : nI sg = 35 ↔ sg = 35 := ei 35 (by decide)
  have e38 : nI sg = 38 ↔ sg = 38 := ei 38 (by decide)
  have e43 : nI sg = 43 ↔ sg = 43 := ei 43 (by decide)
  have e45 : nI sg = 45 ↔ sg = 45 := ei 45 (by decide)
  have e46 : nI sg = 46 ↔ sg = 46 := ei 46 (by decide)
  have e48 : nI sg = 48 ↔ sg = 48 := ei 48 (by decide)
  have e58 : nI sg = 58 ↔ sg = 58 := ei 58 (by decide)
  have e60 : nI sg = 60 ↔ sg = 60 := ei 60 (by decide)
  have e63 : nI sg = 63 ↔ sg = 63 := ei 63 (by decide)
  have e65 : nI sg = 65 ↔ sg = 65 := ei 65 (by decide)
  have e66 : nI sg = 66 ↔ sg = 66 := ei 66 (by decide)
  have e67 : nI sg = 67 ↔ sg = 67 := ei 67 (by decide)
  have e68 : nI sg = 68 ↔ sg = 68 := ei 68 (by decide)
  have e69 : nI sg = 69 ↔ sg = 69 := ei 69 (by decide)
  have e78 : nI sg = 78 ↔ sg = 78 := ei 78 (by decide)
  have e80 : nI sg = 80 ↔ sg = 80 := ei 80 (by decide)
  have e97 : nI sg = 97 ↔ sg = 97 := ei 97 (by decide)
  have e124 : nI sg = 124 ↔ sg = 124 := ei 124 (by decide)
  have e126 : nI sg = 126 ↔ sg = 126 := ei 126 (by decide)
  rw [e33, e35, e38, e43, e45, e46, e48, e58, e60, e63, e65, e66, e67, e68, e69, e78, e80, e97, e124, e126]
  have fin : ∀ t, t < 32 → (∀ S', ffr a S S' → fnd S' a (nFin t none g g) → K none S') → rM c (D + 3) eX10_finish (.ref c.2.2.1 :: [.int (nI (B + a)), .int (nI t), .int (-1)]) S1 (fun v S5 => v = none ∧ K none S5) := fun t ht k => r_finish ho h1 h2 (p := none) ht (fun q e => by cases e) y1 n1 fun S' f' e' => ⟨rfl, k S' (f1.trans f') e'⟩
  refine ⟨H33, fun z => fin 2 (by decide) ?_, H38, Hs, fun z => fin 8 (by decide) ?_, fun z => fin 1 (by decide) ?_, H58, H63, Hh, fun z => ?_, fun z => fin 16 (by decide) ?_, fun z => ?_, fun z => ?_, fun z => ?_, H97, H124, fun z => fin 4 (by decide) ?_, fun z => Hc (by omega)⟩
  · have := Hk (by omega)
    rw [if_pos z] at this
    exact this
  · have := Hk (by omega)
    rw [if_neg (by omega), if_neg (by omega), if_pos z] at this
    exact this
  · have := Hk (by omega)
    rw [if_neg (by omega), if_neg (by omega), if_neg (by omega), if_pos z] at this
    exact this
  · have := Ht (by omega)
    subst z
    exact this
  · have := Hk (by omega)
    rw [if_neg (by omega), if_neg (by omega), if_neg (by omega), if_neg (by omega)] at this
    exact this
  · have := Ht (by omega)
    subst z
    exact this
  · have := Ht (by omega)
    subst z
    exact this
  · have := Ht (by omega)
    subst z
    exact this
  · have := Hk (by omega)
    rw [if_neg (by omega), if_pos z] at this
    exact this
/-- a name is bound -/
theorem en_ok (ho : rOK c) (h1 : hB B) (h2 : a < 64) {b q x : Nat} {F : nF} (h8 : S.1 8 (B + a) = nI x) (h5 : S.1 5 (B + a) = nI (B + b)) (hb : b < 64) (hq : q < 64) (hx : x < 8) (hF : fnd S b F) (hi : vw (wv S 26 (5 * q)) g)
    (hK : ∀ S', (∀ f i, ¬ ((f = 32 ∨ f = 33) ∧ i = x) → S'.1 f i = S.1 f i) → (∀ f i, ¬ (f = 26 ∧ 5 * q ≤ i ∧ i < 5 * q + 5) → ¬ ((f = 34 ∨ f = 35) ∧ 5 * x ≤ i ∧ i < 5 * x + 5) → S'.2 f i = S.2 f i) →
      (∀ p, F.2.1 = some p → S'.1 33 x = 0 ∧ S'.1 32 x = nI p ∧ vw (wv S' 26 (5 * q)) g) →
      (F.2.1 = none → S'.1 33 x = 1 ∧ S'.1 32 x = nI (7 * x) ∧ vw (wv S' 26 (5 * q)) (nIn g x F.1) ∧ vw (wv S' 34 (5 * x)) F.2.2.1 ∧ vw (wv S' 35 (5 * x)) F.2.2.2) → K none S') :
    rM c (D + 4) eX10_enter [.ref c.2.2.1, .int (nI (B + a)), .int (nI (B + q))] S K := by
  have ir : am_ix (nI (B + a)) (B + a) 320 := am_ix_n (by rcases h1 with h | h | h | h | h <;> omega) (by decide)
  have ix : am_ix (nI x) x 8 := am_ix_n hx (by decide)
  have hF0 := hF
  obtain ⟨e1, e2, e3, e4, e5, e6⟩ := hF
  refine w_X10_enter ho (nI (B + a)) (nI (B + q)) ⟨B + a, ir, B + a, ir, ?_⟩
  rw [h5, h8]
  refine r_placeOf ho h1 hb ⟨_, rfl, ?_⟩
  rw [e2, rfI_n1 e4]
  refine ⟨fun z => ?_, fun z => ?_⟩
  · -- another name of a place
    cases ep : F.2.1 with
    | none => exact absurd ep z
    | some p =>
      refine w_X10_enter_35 ho (nI (B + q)) (nI x) (nI (B + b)) 0 (nI x) ⟨x, ix, Or.inl rfl, x, ix, ?_⟩
      have e33 : (rsi S 33 x 0).1 33 x = 0 := rsi_i _ _ _ _
      rw [e33]
      refine ⟨fun _ => r_placeOf ho h1 hb ⟨_, rfl, ?_⟩, fun w => absurd rfl w⟩
      have e30 : (rsi S 33 x 0).1 30 b = nI p := by rw [rsi_ne _ _ (by omega), e2, ep]; rfl
      rw [e30]
      refine w_X10_enter_63 ho (nI (B + q)) (nI x) (nI (B + b)) (nI p) (nI x) ⟨x, ix, x, ix, ?_⟩
      rw [e33]
      refine ⟨fun w => absurd rfl w, fun _ => hK _ (fun f i w => by rw [rsi_ne _ _ (by omega), rsi_ne _ _ (by omega)]) (fun f i _ _ => rfl) (fun p' ep' => ?_) (fun w => by rw [ep] at w; cases w)⟩
      rw [ep] at ep'
      injection ep' with ep'
      subst ep'
      exact ⟨by rw [rsi_ne _ _ (by omega)]; exact e33, rsi_i _ _ _ _, hi⟩
  · refine w_X10_enter_35 ho (nI (B + q)) (nI x) (nI (B + b)) 1 (nI x) ⟨x, ix, Or.inr rfl, x, ix, ?_⟩
    have e33 : (rsi S 33 x 1).1 33 x = 1 := rsi_i _ _ _ _
    rw [e33]
    refine ⟨fun w => absurd w (by decide), fun _ => ?_⟩
    rw [show (7 : Int32) * nI x = nI (7 * x) from pk_mul 7 x]
    refine w_X10_enter_63 ho (nI (B + q)) (nI x) (nI (B + b)) (nI (7 * x)) (nI x) ⟨x, ix, x, ix, ?_⟩
    rw [e33]
    refine ⟨fun _ => ?_, fun w => absurd w (by decide)⟩
    have a1 : ∀ f i, ¬ ((f = 32 ∨ f = 33) ∧ i = x) → (rsi (rsi S 33 x 1) 32 x (nI (7 * x))).1 f i = S.1 f i := fun f i w => by rw [rsi_ne _ _ (by omega), rsi_ne _ _ (by omega)]
    have a2 : (rsi (rsi S 33 x 1) 32 x (nI (7 * x))).1 33 x = 1 := by rw [rsi_ne _ _ (by omega)]; exact e33
    have a3 : (rsi (rsi S 33 x 1) 32 x (nI (7 * x))).1 32 x = nI (7 * x) := rsi_i _ _ _ _
    have a4 : (rsi (rsi S 33 x 1) 32 x (nI (7 * x))).2 = S.2 := rfl
    generalize rsi (rsi S 33 x 1) 32 x (nI (7 * x)) = S1 at a1 a2 a3 a4 ⊢
    refine r_five ho h1 hq ⟨_, rfl, r_typeOf ho h1 hb ⟨_, rfl, ?_⟩⟩
    rw [a1 29 b (by omega), e1, show (7 : Int32) * nI x = nI (7 * x) from pk_mul 7 x]
    refine v_say ho (k1 := 17) (f1 := 26) (n1 := 320) rfl (by omega) (by decide) e3 ⟨rfl, ?_⟩
    have y1 : vw (wv S1 26 (5 * q)) g := by unfold wv; rw [a4]; exact hi
    have key : ∀ m n : Nat, n + m = 7 → 1 ≤ n → ∀ S2, S2.1 = S1.1 → (∀ f i, ¬ (f = 26 ∧ 5 * q ≤ i ∧ i < 5 * q + 5) → S2.2 f i = S.2 f i) → vw (wv S2 26 (5 * q)) (fun r => if r / 7 = x ∧ r < 7 * x + n then (if r = 7 * x then F.1 else 31) else g r) → rG c eX10_enter (D + 3 + 1) (rQ c K) 99 [some (.ref c.2.2.1), none, some (.int (nI (B + q))), some (.int (nI x)), some (.int (nI (B + b))), some (.int (nI n))] [] S2 := by
      intro m
      induction m with
      | zero =>
        intro n hn hn1 S2 c1 c2 c3
        have : n = 7 := by omega
        subst this
        refine w_X10_enter_99 ho (nI (B + q)) (nI x) (nI (B + b)) (nI 7) ⟨fun _ => ?_, fun w => absurd (by decide) w⟩
        rw [show (5 : Int32) * nI x = nI (5 * x) from pk_mul 5 x]
        refine r_five ho h1 hb ⟨_, rfl, ?_⟩
        have y2 : vw (wv S2 27 (5 * b)) F.2.2.1 := e5.cong fun k hk => c2 27 _ (by omega)
        have n2 : vw (wv S2 28 (5 * b)) F.2.2.2 := e6.cong fun k hk => c2 28 _ (by omega)
        refine v_copy ho (k1 := 18) (f1 := 27) (n1 := 320) (k2 := 25) (f2 := 34) (n2 := 40) (i := 5 * b) (j := 5 * x) rfl rfl (by omega) (by omega) (by decide) (by decide) (Or.inl (by decide)) ⟨rfl, r_five ho h1 hb ⟨_, rfl, ?_⟩⟩
        refine v_copy ho (k1 := 19) (f1 := 28) (n1 := 320) (k2 := 26) (f2 := 35) (n2 := 40) (i := 5 * b) (j := 5 * x) rfl rfl (by omega) (by omega) (by decide) (by decide) (Or.inl (by decide)) ⟨rfl, ?_⟩
        refine hK _ (fun f i w => ?_) (fun f i w1 w2 => ?_) (fun p ep => by rw [z] at ep; cases ep) (fun _ => ⟨?_, ?_, ?_, ?_, ?_⟩)
        · show S2.1 f i = _
          rw [c1]; exact a1 f i w
        · rw [put_out _ _ (by omega), put_out _ _ (by omega)]; exact c2 f i w1
        · show S2.1 33 x = 1
          rw [c1]; exact a2
        · show S2.1 32 x = _
          rw [c1]; exact a3
        · refine (c3.cong fun k hk => ?_).iff fun r hr => ?_
          · rw [wv_out (Or.inl (by decide)) k hk, wv_out (Or.inl (by decide)) k hk]
          · show (if r / 7 = x then (if r = 7 * x then F.1 else 31) else g r) = if r / 7 = x ∧ r < 7 * x + 7 then (if r = 7 * x then F.1 else 31) else g r
            by_cases w : r / 7 = x
            · rw [if_pos w, if_pos (show r / 7 = x ∧ r < 7 * x + 7 from ⟨w, by omega⟩)]
            · rw [if_neg w, if_neg (show ¬ (r / 7 = x ∧ r < 7 * x + 7) from fun u => w u.1)]
        · exact y2.cong fun k hk => by rw [wv_out (Or.inl (by decide)) k hk]; exact wv_in _ _ _ _ k hk
        · refine n2.cong fun k hk => ?_
          rw [wv_in _ _ _ _ k hk]
          exact wv_out (Or.inl (by decide)) k hk
      | succ m ih =>
        intro n hn hn1 S2 c1 c2 c3
        have n7 : ¬ (7 : Int32) ≤ nI n := fun w => by
          have := (nI_leI (a := 7) (b := n) (by decide) (by omega)).mp w
          omega
        refine w_X10_enter_99 ho (nI (B + q)) (nI x) (nI (B + b)) (nI n) ⟨fun w => absurd w n7, fun _ => r_five ho h1 hq ⟨_, rfl, ?_⟩⟩
        rw [show (7 : Int32) * nI x = nI (7 * x) from pk_mul 7 x, nI_add, nI_1]
        refine v_say ho (k1 := 17) (f1 := 26) (n1 := 320) (kk := 31) rfl (by omega) (by decide) (by decide) ⟨rfl, ?_⟩
        refine ih (n + 1) (by omega) (by omega) _ c1 (fun f i w => by rw [put_out _ _ (by omega)]; exact c2 f i w) ?_
        have h' : vw (wv (put S2 26 (5 * q) 5 (wSay (wv S2 26 (5 * q)) (7 * x + n) 31)) 26 (5 * q)) _ := (c3.say (show 7 * x + n < 56 by omega) (by decide)).cong fun k hk => wv_in _ _ _ _ k hk
        refine h'.iff fun r hr => ?_
        show (if r / 7 = x ∧ r < 7 * x + (n + 1) then (if r = 7 * x then F.1 else 31) else g r) = if r = 7 * x + n then 31 else if r / 7 = x ∧ r < 7 * x + n then (if r = 7 * x then F.1 else 31) else g r
        by_cases w : r = 7 * x + n
        · rw [if_pos w, if_pos (show r / 7 = x ∧ r < 7 * x + (n + 1) from ⟨by omega, by omega⟩), if_neg (show ¬ r = 7 * x by omega)]
        · rw [if_neg w]
          by_cases w2 : r / 7 = x ∧ r < 7 * x + n
          · rw [if_pos w2, if_pos (show r / 7 = x ∧ r < 7 * x + (n + 1) from ⟨w2.1, by omega⟩)]
          · rw [if_neg w2, if_neg (show ¬ (r / 7 = x ∧ r < 7 * x + (n + 1)) from fun u => w2 ⟨u.1, by omega⟩)]
    refine key 6 1 (by omega) (by omega) _ rfl (fun f i w => by rw [put_out _ _ (by omega), a4]) ?_
    have h' : vw (wv (put S1 26 (5 * q) 5 (wSay (wv S1 26 (5 * q)) (7 * x) F.1)) 26 (5 * q)) _ := (y1.say (show 7 * x < 56 by omega) e3).cong fun k hk => wv_in _ _ _ _ k hk
    refine h'.iff fun r hr => ?_
    show (if r / 7 = x ∧ r < 7 * x + 1 then (if r = 7 * x then F.1 else 31) else g r) = if r = 7 * x then F.1 else g r
    by_cases w : r = 7 * x
    · rw [if_pos (show r / 7 = x ∧ r < 7 * x + 1 from ⟨by omega, by omega⟩), if_pos w, if_pos w]
    · rw [if_neg (show ¬ (r / 7 = x ∧ r < 7 * x + 1) by omega), if_neg w]
end RCE
