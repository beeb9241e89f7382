/-! The reference's checker: the next part, and the loop. -/
def JA (c : rX) (D : Nat) (K : Option Value → rS → Prop) (S : rS) (h : Nat) : Prop := rG c eX10_accepts (D + 5 + 1) (rQ c K) 35 [some (.ref c.2.2.1), none, none, some (.int (nI h)), none, none, none] [] S
def JN (c : rX) (D : Nat) (K : Option Value → rS → Prop) (h : Nat) : Option Value → rS → Prop := fun v S13 => ∃ z14 : Int32, v = some (.int z14) ∧ ((¬ z14 = (-1) → JA c D K (rsi (rsi S13 31 h z14) 25 h 0) (h + 1)) ∧ (z14 = (-1) → JA c D K S13 (h - 1)))
def ptv (S : rS) (r s : Nat) : Int32 := if s = 0 then S.1 5 r else if s = 1 then S.1 6 r else if s = 2 then S.1 7 r else -1
section RCF
variable {c : rX} {D : Nat} {S : rS} {K : Option Value → rS → Prop} {B a : Nat} {g : nV}
theorem JA.fail (ho : rOK c) {h : Nat} (h38 : ¬ S.1 38 0 = 0) (hK : K (some (.int 0)) S) : JA c D K S h := w_X10_accepts_35 ho (nI h) ⟨fun _ => ⟨fun _ => hK, fun z => absurd z h38⟩, fun _ => ⟨fun _ => ⟨fun _ => hK, fun z => absurd z h38⟩, fun z => absurd z h38⟩⟩
theorem JA.done (ho : rOK c) (h38 : S.1 38 0 = 0) (hK : K (some (.int 1)) S) : JA c D K S 0 := w_X10_accepts_35 ho (nI 0) ⟨fun _ => ⟨fun z => absurd h38 z, fun _ => hK⟩, fun z => absurd (by decide) z⟩
theorem JA.step (ho : rOK c) {h r s : Nat} (hh : 1 ≤ h) (h79 : h ≤ 79) (hs : s < 10) (h38 : S.1 38 0 = 0) (h31 : S.1 31 (h - 1) = nI r) (h25 : S.1 25 (h - 1) = nI s) (k : rM c (D + 5) eX10_nextPart [.ref c.2.2.1, .int (nI r), .int (nI s)] (rsi S 25 (h - 1) (nI (s + 1))) (JN c D K h)) : JA c D K S h := by
  have e1 : nI h - 1 = nI (h - 1) := by
    have := nI_pred (h - 1)
    rw [show h - 1 + 1 = h by omega] at this
    exact this
  have e2 : nI h + (-1) = nI (h - 1) := by rw [← e1, Int32.sub_eq_add_neg]
  have ix : am_ix (nI (h - 1)) (h - 1) 80 := am_ix_n (by omega) (by decide)
  have n0 : ¬ nI h ≤ 0 := fun z => by
    have := (nI_leI (b := 0) (by omega) (by decide)).mp z
    omega
  refine w_X10_accepts_35 ho (nI h) ⟨fun z => absurd z n0, fun _ => ⟨fun z => absurd h38 z, fun _ => ?_⟩⟩
  rw [e1, e2, nI_1]
  refine ⟨h - 1, ix, h - 1, ix, h - 1, ix, h - 1, ix, ?_⟩
  rw [h31, h25, nI_1]
  refine k.mono fun v S13 ⟨z14, e, j1, j2⟩ => ⟨z14, e, fun z => ⟨h, am_ix_n (by omega) (by decide), h, am_ix_n (by omega) (by decide), j1 z⟩, j2⟩
theorem np_imp (ho : rOK c) (h1 : hB B) (h2 : a < 64) (hi : vw (wv S 26 (5 * a)) g) (hm : nImp g = true) (hK : ∀ S', ffr a S S' → fnd S' a (0, none, nZ, nZ) → K (some (.int (-1))) S') : rM c (D + 5) eX10_nextPart [.ref c.2.2.1, .int (nI (B + a)), .int (nI 0)] S K := by
  refine w_X10_nextPart ho (nI (B + a)) (nI 0) ⟨fun z => absurd rfl z, fun _ => r_five ho h1 h2 ⟨_, rfl, v_imp ho (k1 := 17) (f1 := 26) (n1 := 320) rfl (by omega) (by decide) hi.1 ⟨_, rfl, ?_⟩⟩⟩
  rw [vw_imp hi, if_pos hm]
  refine ⟨fun z => absurd z (by decide), fun _ => ?_⟩
  refine v_clear ho (k1 := 27) (f1 := 36) (n1 := 5) (i := 0) rfl (by decide) (by decide) ⟨rfl, ?_⟩
  refine v_clear ho (k1 := 28) (f1 := 37) (n1 := 5) (i := 0) rfl (by decide) (by decide) ⟨rfl, ?_⟩
  have f2 := (ffr_w a S 36 (Or.inl rfl) (fun _ => 0)).trans (ffr_w a (put S 36 0 5 fun _ => 0) 37 (Or.inr rfl) (fun _ => 0))
  have y2 : vw (wv (put (put S 36 0 5 fun _ => 0) 37 0 5 fun _ => 0) 36 0) nZ := vw_0.cong fun k hk => by rw [wv_out (Or.inl (by decide)) k hk, wv_in _ _ _ _ k hk]
  have n2 : vw (wv (put (put S 36 0 5 fun _ => 0) 37 0 5 fun _ => 0) 37 0) nZ := vw_0.cong fun k hk => wv_in _ _ _ _ k hk
  exact r_finish ho h1 h2 (t := 0) (p := none) (by decide) (fun q e => by cases e) y2 n2 fun S' f' e' => ⟨rfl, hK S' (f2.trans f') e'⟩
theorem np_86 (ho : rOK c) (h1 : hB B) (h2 : a < 64) {s : Nat} (hs : s ≤ 3) (hi : s = 0 → vw (wv S 26 (5 * a)) g ∧ ¬ nImp g = true) (k : rG c eX10_nextPart (D + 4 + 1) (rQ c K) 86 [some (.ref c.2.2.1), some (.int (nI (B + a))), some (.int (nI s)), none, none] [.int (ptv S (B + a) s)] S) : rM c (D + 5) eX10_nextPart [.ref c.2.2.1, .int (nI (B + a)), .int (nI s)] S K := by
  have ir : am_ix (nI (B + a)) (B + a) 320 := am_ix_n (by rcases h1 with h | h | h | h | h <;> omega) (by decide)
  have e0 : nI s = 0 ↔ s = 0 := nI_is (b := 0) (by omega) (by decide)
  have e1 : nI s = 1 ↔ s = 1 := nI_is (b := 1) (by omega) (by decide)
  have e2 : nI s = 2 ↔ s = 2 := nI_is (b := 2) (by omega) (by decide)
  have k44 : rG c eX10_nextPart (D + 4 + 1) (rQ c K) 44 [some (.ref c.2.2.1), some (.int (nI (B + a))), some (.int (nI s)), none, none] [] S := by
    refine w_X10_nextPart_44 ho (nI (B + a)) (nI s) ?_
    rw [e0, e1, e2]
    unfold ptv at k
    refine ⟨fun z0 => ⟨fun z1 => ⟨fun z2 => ?_, fun z2 => ⟨B + a, ir, ?_⟩⟩, fun z1 => ⟨B + a, ir, ?_⟩⟩, fun z0 => ⟨B + a, ir, ?_⟩⟩
    · rw [if_neg z0, if_neg z1, if_neg z2] at k; exact k
    · rw [if_neg z0, if_neg z1, if_pos z2] at k; exact k
    · rw [if_neg z0, if_pos z1] at k; exact k
    · rw [if_pos z0] at k; exact k
  refine w_X10_nextPart ho (nI (B + a)) (nI s) ?_
  rw [e0]
  refine ⟨fun _ => k44, fun z => ?_⟩
  obtain ⟨i1, i2⟩ := hi z
  refine r_five ho h1 h2 ⟨_, rfl, v_imp ho (k1 := 17) (f1 := 26) (n1 := 320) rfl (by omega) (by decide) i1.1 ⟨_, rfl, ?_⟩⟩
  rw [vw_imp i1, if_neg i2]
  exact ⟨fun _ => k44, fun z => absurd rfl z⟩
theorem np_end (ho : rOK c) (h1 : hB B) (h2 : a < 64) {s : Nat} (hs : s ≤ 3) (hi : s = 0 → vw (wv S 26 (5 * a)) g ∧ ¬ nImp g = true) (hp : ptv S (B + a) s = -1) (k : rM c (D + 4) eX10_conclude [.ref c.2.2.1, .int (nI (B + a))] S (fun v S9 => v = none ∧ K (some (.int (-1))) S9)) : rM c (D + 5) eX10_nextPart [.ref c.2.2.1, .int (nI (B + a)), .int (nI s)] S K := by
  refine np_86 ho h1 h2 hs hi ?_
  rw [hp]
  exact w_X10_nextPart_86 ho (nI (B + a)) (nI s) (-1) ⟨fun z => absurd rfl z, fun _ => k⟩
/-- a part is given the view of its node, of a yes, or of a no -/
theorem np_go (ho : rOK c) (h1 : hB B) (h2 : a < 64) {s op b q : Nat} (hs : s ≤ 2) (hi : s = 0 → vw (wv S 26 (5 * a)) g ∧ ¬ nImp g = true) (hp : ptv S (B + a) s = nI (B + q)) (hq : q < 64) (hqa : q ≠ a) (h4 : S.1 4 (B + a) = nI op) (hop : op < 65536) (h5 : S.1 5 (B + a) = nI (B + b)) (hb : b < 64) (n58 : ¬ (s = 1 ∧ op = 58))
    (hy : (s = 1 ∧ (op = 63 ∨ op = 38)) → ∀ S', S'.1 = S.1 → (∀ k, k < 5 → wv S' 26 (5 * q) k = wv S 27 (5 * b) k) → (∀ f i, ¬ (f = 26 ∧ 5 * q ≤ i ∧ i < 5 * q + 5) → S'.2 f i = S.2 f i) → K (some (.int (nI (B + q)))) S')
    (hn : ((s = 2 ∧ op = 63) ∨ (s = 1 ∧ op = 124)) → ∀ S', S'.1 = S.1 → (∀ k, k < 5 → wv S' 26 (5 * q) k = wv S 28 (5 * b) k) → (∀ f i, ¬ (f = 26 ∧ 5 * q ≤ i ∧ i < 5 * q + 5) → S'.2 f i = S.2 f i) → K (some (.int (nI (B + q)))) S')
    (hin : ¬ (s = 1 ∧ (op = 63 ∨ op = 38)) → ¬ ((s = 2 ∧ op = 63) ∨ (s = 1 ∧ op = 124)) → ∀ S', S'.1 = S.1 → (∀ k, k < 5 → wv S' 26 (5 * q) k = wv S 26 (5 * a) k) → (∀ f i, ¬ (f = 26 ∧ 5 * q ≤ i ∧ i < 5 * q + 5) → S'.2 f i = S.2 f i) → K (some (.int (nI (B + q)))) S') :
    rM c (D + 5) eX10_nextPart [.ref c.2.2.1, .int (nI (B + a)), .int (nI s)] S K := by
  have ir : am_ix (nI (B + a)) (B + a) 320 := am_ix_n (by rcases h1 with h | h | h | h | h <;> omega) (by decide)
  have e0 : nI s ≤ 0 ↔ s ≤ 0 := nI_leI (b := 0) (by omega) (by decide)
  have e1 : nI s = 1 ↔ s = 1 := nI_is (b := 1) (by omega) (by decide)
  have o63 : nI op = 63 ↔ op = 63 := nI_is (b := 63) (by omega) (by decide)
  have o38 : nI op = 38 ↔ op = 38 := nI_is (b := 38) (by omega) (by decide)
  have o124 : nI op = 124 ↔ op = 124 := nI_is (b := 124) (by omega) (by decide)
  have o58 : nI op = 58 ↔ op = 58 := nI_is (b := 58) (by omega) (by decide)
  -- the end: no binding
  have k262 : ∀ S', S'.1 = S.1 → K (some (.int (nI (B + q)))) S' → rG c eX10_nextPart (D + 4 + 1) (rQ c K) 262 [some (.ref c.2.2.1), some (.int (nI (B + a))), some (.int (nI s)), some (.int (nI (B + q))), none] [] S' := by
    intro S' e k
    refine w_X10_nextPart_262 ho (nI (B + a)) (nI s) (nI (B + q)) ?_
    rw [e1]
    refine ⟨fun _ => k, fun z1 => ⟨B + a, ir, ?_⟩⟩
    rw [e, h4, o58]
    exact ⟨fun _ => k, fun z => absurd ⟨z1, z⟩ n58⟩
  have nq : nI (B + q) ≠ -1 := nI_neg1 (by rcases h1 with h | h | h | h | h <;> omega)
  have k241 : ¬ (s = 1 ∧ (op = 63 ∨ op = 38)) → ¬ ((s = 2 ∧ op = 63) ∨ (s = 1 ∧ op = 124)) → rG c eX10_nextPart (D + 4 + 1) (rQ c K) 241 [some (.ref c.2.2.1), some (.int (nI (B + a))), some (.int (nI s)), some (.int (nI (B + q))), none] [] S := by
    intro q1 q2
    refine w_X10_nextPart_241 ho (nI (B + a)) (nI s) (nI (B + q)) (r_five ho h1 h2 ⟨_, rfl, r_five ho h1 hq ⟨_, rfl, ?_⟩⟩)
    refine v_copy ho (k1 := 17) (f1 := 26) (n1 := 320) (k2 := 17) (f2 := 26) (n2 := 320) (i := 5 * a) (j := 5 * q) rfl rfl (by omega) (by omega) (by decide) (by decide) (Or.inr (by omega)) ⟨rfl, k262 _ rfl (hin q1 q2 _ rfl (fun k hk => wv_in _ _ _ _ k hk) (fun f i w => put_out _ _ w))⟩
  have k159 : (s = 1 ∨ ¬ op = 63 ∨ s = 0) → ¬ (s = 1 ∧ op = 63) → rG c eX10_nextPart (D + 4 + 1) (rQ c K) 159 [some (.ref c.2.2.1), some (.int (nI (B + a))), some (.int (nI s)), some (.int (nI (B + q))), some (.int (nI (B + b)))] [] S := by
    intro hh h63
    have k200 : ¬ (s = 1 ∧ op = 38) → rG c eX10_nextPart (D + 4 + 1) (rQ c K) 200 [some (.ref c.2.2.1), some (.int (nI (B + a))), some (.int (nI s)), some (.int (nI (B + q))), some (.int (nI (B + b)))] [] S := by
      intro h38
      refine w_X10_nextPart_200 ho (nI (B + a)) (nI s) (nI (B + q)) (nI (B + b)) ?_
      rw [e1]
      refine ⟨fun z1 => k241 (by omega) (by omega), fun z1 => ⟨B + a, ir, ?_⟩⟩
      rw [h4, o124]
      refine ⟨fun z => k241 (by omega) (by omega), fun z => r_five ho h1 hb ⟨_, rfl, r_five ho h1 hq ⟨_, rfl, ?_⟩⟩⟩
      refine v_copy ho (k1 := 19) (f1 := 28) (n1 := 320) (k2 := 17) (f2 := 26) (n2 := 320) (i := 5 * b) (j := 5 * q) rfl rfl (by omega) (by omega) (by decide) (by decide) (Or.inl (by decide)) ⟨rfl, k262 _ rfl (hn (Or.inr ⟨z1, z⟩) _ rfl (fun k hk => wv_in _ _ _ _ k hk) (fun f i w => put_out _ _ w))⟩
    refine w_X10_nextPart_159 ho (nI (B + a)) (nI s) (nI (B + q)) (nI (B + b)) ?_
    rw [e1]
    refine ⟨fun z1 => k200 (by omega), fun z1 => ⟨B + a, ir, ?_⟩⟩
    rw [h4, o38]
    refine ⟨fun z => k200 (by omega), fun z => r_five ho h1 hb ⟨_, rfl, r_five ho h1 hq ⟨_, rfl, ?_⟩⟩⟩
    refine v_copy ho (k1 := 18) (f1 := 27) (n1 := 320) (k2 := 17) (f2 := 26) (n2 := 320) (i := 5 * b) (j := 5 * q) rfl rfl (by omega) (by omega) (by decide) (by decide) (Or.inl (by decide)) ⟨rfl, k262 _ rfl (hy ⟨z1, Or.inr z⟩ _ rfl (fun k hk => wv_in _ _ _ _ k hk) (fun f i w => put_out _ _ w))⟩
  refine np_86 ho h1 h2 (by omega) hi ?_
  rw [hp]
  refine w_X10_nextPart_86 ho (nI (B + a)) (nI s) (nI (B + q)) ⟨fun _ => ⟨B + a, ir, ?_⟩, fun z => absurd z nq⟩
  rw [h5, e0]
  refine ⟨fun z => k159 (by omega) (by omega), fun z => ⟨B + a, ir, ?_⟩⟩
  rw [h4, o63, e1]
  refine ⟨fun z63 => k159 (by omega) (by omega), fun z63 => ⟨fun z1 => ?_, fun z1 => ?_⟩⟩
  · refine w_X10_nextPart_138n ho (nI (B + a)) (nI s) (nI (B + q)) (nI (B + b)) (r_five ho h1 hb ⟨_, rfl, r_five ho h1 hq ⟨_, rfl, ?_⟩⟩)
    refine v_copy ho (k1 := 19) (f1 := 28) (n1 := 320) (k2 := 17) (f2 := 26) (n2 := 320) (i := 5 * b) (j := 5 * q) rfl rfl (by omega) (by omega) (by decide) (by decide) (Or.inl (by decide)) ⟨rfl, k262 _ rfl (hn (Or.inl ⟨by omega, z63⟩) _ rfl (fun k hk => wv_in _ _ _ _ k hk) (fun f i w => put_out _ _ w))⟩
  · refine w_X10_nextPart_138 ho (nI (B + a)) (nI s) (nI (B + q)) (nI (B + b)) (r_five ho h1 hb ⟨_, rfl, r_five ho h1 hq ⟨_, rfl, ?_⟩⟩)
    refine v_copy ho (k1 := 18) (f1 := 27) (n1 := 320) (k2 := 17) (f2 := 26) (n2 := 320) (i := 5 * b) (j := 5 * q) rfl rfl (by omega) (by omega) (by decide) (by decide) (Or.inl (by decide)) ⟨rfl, k262 _ rfl (hy ⟨z1, Or.inl z63⟩ _ rfl (fun k hk => wv_in _ _ _ _ k hk) (fun f i w => put_out _ _ w))⟩
/-- a bound expression's body -/
theorem np_let (ho : rOK c) (h1 : hB B) (h2 : a < 64) {b q x : Nat} {F : nF} (hp : S.1 6 (B + a) = nI (B + q)) (hq : q < 64) (hqa : q ≠ a) (hqb : q ≠ b) (h4 : S.1 4 (B + a) = nI 58) (h8 : S.1 8 (B + a) = nI x) (hx : x < 8) (h5 : S.1 5 (B + a) = nI (B + b)) (hb : b < 64) (hF : fnd S b F) (hg : vw (wv S 26 (5 * a)) g)
    (hK : ∀ S', (∀ f i, ¬ ((f = 32 ∨ f = 33) ∧ i = x) → S'.1 f i = S.1 f i) → (∀ f i, ¬ (f = 26 ∧ 5 * q ≤ i ∧ i < 5 * q + 5) → ¬ ((f = 34 ∨ f = 35) ∧ 5 * x ≤ i ∧ i < 5 * x + 5) → S'.2 f i = S.2 f i) →
      (∀ p, F.2.1 = some p → S'.1 33 x = 0 ∧ S'.1 32 x = nI p ∧ vw (wv S' 26 (5 * q)) g) →
      (F.2.1 = none → S'.1 33 x = 1 ∧ S'.1 32 x = nI (7 * x) ∧ vw (wv S' 26 (5 * q)) (nIn g x F.1) ∧ vw (wv S' 34 (5 * x)) F.2.2.1 ∧ vw (wv S' 35 (5 * x)) F.2.2.2) → K (some (.int (nI (B + q)))) S') :
    rM c (D + 5) eX10_nextPart [.ref c.2.2.1, .int (nI (B + a)), .int (nI 1)] S K := by
  have ir : am_ix (nI (B + a)) (B + a) 320 := am_ix_n (by rcases h1 with h | h | h | h | h <;> omega) (by decide)
  have nq : nI (B + q) ≠ -1 := nI_neg1 (by rcases h1 with h | h | h | h | h <;> omega)
  refine np_86 (g := g) ho h1 h2 (by decide) (fun z => absurd z (by decide)) ?_
  rw [show ptv S (B + a) 1 = nI (B + q) from hp]
  refine w_X10_nextPart_86 ho (nI (B + a)) (nI 1) (nI (B + q)) ⟨fun _ => ⟨B + a, ir, ?_⟩, fun z => absurd z nq⟩
  rw [h5]
  refine ⟨fun z => absurd z (by decide), fun _ => ⟨B + a, ir, ?_⟩⟩
  rw [h4]
  refine ⟨fun _ => ?_, fun z => absurd z (by decide)⟩
  refine w_X10_nextPart_159 ho (nI (B + a)) (nI 1) (nI (B + q)) (nI (B + b)) ⟨fun z => absurd rfl z, fun _ => ⟨B + a, ir, ?_⟩⟩
  rw [h4]
  refine ⟨fun _ => ?_, fun z => absurd z (by decide)⟩
  refine w_X10_nextPart_200 ho (nI (B + a)) (nI 1) (nI (B + q)) (nI (B + b)) ⟨fun z => absurd rfl z, fun _ => ⟨B + a, ir, ?_⟩⟩
  rw [h4]
  refine ⟨fun _ => ?_, fun z => absurd z (by decide)⟩
  refine w_X10_nextPart_241 ho (nI (B + a)) (nI 1) (nI (B + q)) (r_five ho h1 h2 ⟨_, rfl, r_five ho h1 hq ⟨_, rfl, ?_⟩⟩)
  refine v_copy ho (k1 := 17) (f1 := 26) (n1 := 320) (k2 := 17) (f2 := 26) (n2 := 320) (i := 5 * a) (j := 5 * q) rfl rfl (by omega) (by omega) (by decide) (by decide) (Or.inr (by omega)) ⟨rfl, ?_⟩
  have c1 : (put S 26 (5 * q) 5 (wv S 26 (5 * a))).1 = S.1 := rfl
  have c2 : ∀ f i, ¬ (f = 26 ∧ 5 * q ≤ i ∧ i < 5 * q + 5) → (put S 26 (5 * q) 5 (wv S 26 (5 * a))).2 f i = S.2 f i := fun f i w => put_out _ _ w
  have c3 : vw (wv (put S 26 (5 * q) 5 (wv S 26 (5 * a))) 26 (5 * q)) g := hg.cong fun k hk => wv_in _ _ _ _ k hk
  generalize put S 26 (5 * q) 5 (wv S 26 (5 * a)) = S1 at c1 c2 c3 ⊢
  refine w_X10_nextPart_262 ho (nI (B + a)) (nI 1) (nI (B + q)) ⟨fun z => absurd rfl z, fun _ => ⟨B + a, ir, ?_⟩⟩
  rw [c1, h4]
  refine ⟨fun z => absurd rfl z, fun _ => ?_⟩
  have F1 : fnd S1 b F := by
    obtain ⟨e1, e2, e3, e4, e5, e6⟩ := hF
    exact ⟨by rw [c1]; exact e1, by rw [c1]; exact e2, e3, e4, e5.cong fun k hk => c2 27 _ (by omega), e6.cong fun k hk => c2 28 _ (by omega)⟩
  exact en_ok ho h1 h2 (by rw [c1]; exact h8) (by rw [c1]; exact h5) hb hq hx F1 c3 fun S' d1 d2 d3 d4 => ⟨rfl, hK S' (fun f i w => by rw [d1 f i w, c1]) (fun f i w1 w2 => by rw [d2 f i w1 w2]; exact c2 f i w1) d3 d4⟩
end RCF
