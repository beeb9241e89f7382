/-! The reference's checker: halves, sums, choices, bindings, calls. -/
theorem k_15 : ∀ t, t < 32 → ((nI t &&& (-17) = 0) ↔ t &&& 15 = 0) := by decide +kernel
theorem k_30 : ∀ t, t < 32 → ∀ u, u < 32 → (((nI t ||| nI u) &&& (-2) = 0) ↔ (t ||| u) &&& 30 = 0) := by decide +kernel
theorem k_or2 : ∀ t, t < 32 → ∀ u, u < 32 → nI t ||| nI u = nI (t ||| u) := by decide +kernel
theorem k_or27 : ∀ t, t < 32 → ∀ u, u < 32 → (nI t &&& (-5)) ||| nI u = nI ((t &&& 27) ||| u) := by decide +kernel
theorem k_or0 : ∀ t, t < 32 → (nI t ||| 4 = nI (t ||| 4)) ∧ (nI t ||| 0 = nI (t ||| 0)) := by decide +kernel
section RCC
variable {c : rX} {d : Nat} {S : rS} {K : Option Value → rS → Prop} {B a : Nat} {g : nV}
theorem q_half (ho : rOK c) (h1 : hB B) (h2 : a < 64) {b op e : Nat} {F : nF} (h4 : S.1 4 (B + a) = nI op) (hop : op = 65 ∨ op = 68) (h5 : S.1 5 (B + a) = nI (B + b)) (h9 : S.1 9 (B + a) = nI e) (hb : b < 64) (hba : b ≠ a) (hF : fnd S b F) (hi : vw (wv S 26 (5 * a)) g) (hY : vw (wv S 36 0) g) (hN : vw (wv S 37 0) g)
    (hE : F.1 &&& 15 ≠ 0 → ∀ S', S'.2 = S.2 → (∀ f i, ¬ (f = 38 ∧ i = 0) → ¬ (f = 1 ∧ i = 0) → S'.1 f i = S.1 f i) → S'.1 38 0 = 1 → S'.1 1 0 = nI e → K none S')
    (hK : ¬ F.1 &&& 15 ≠ 0 → ∀ S', ffr a S S' → fnd S' a (nHalf F (if op = 65 then 1 else 2) g) → K none S') : rM c (d + 3) eX10_concludeHalf [.ref c.2.2.1, .int (nI (B + a))] S K := by
  have r320 : B + a < 320 := by rcases h1 with h | h | h | h | h <;> omega
  have ir : am_ix (nI (B + a)) (B + a) 320 := am_ix_n r320 (by decide)
  obtain ⟨e1, e2, e3, e4, e5, e6⟩ := hF
  refine w_X10_concludeHalf ho (nI (B + a)) ⟨B + a, ir, ?_⟩
  rw [h5]
  refine r_typeOf ho h1 hb ⟨_, rfl, ?_⟩
  rw [e1, k_15 F.1 e3]
  refine ⟨fun z => ?_, fun z => q_refuse ho r320 h9 fun S' a1 a2 a3 a4 => ⟨rfl, hE z S' a1 a2 a3 a4⟩⟩
  have hK := hK (fun w => w z)
  refine r_placeOf ho h1 hb ⟨_, rfl, B + a, ir, ?_⟩
  rw [h4, e2]
  have q7 : ∀ p r, F.2.1 = some p → rch p (if op = 65 then 1 else 2) = some r → r < 56 := by
    intro p r ep er
    have := e4 p ep
    have q2 : (if op = 65 then 1 else 2) ≤ 2 := by split <;> decide
    have q1 : ¬ (if op = 65 then 1 else 2) = 0 := by split <;> decide
    generalize (if op = 65 then 1 else 2) = qq at q1 q2 er
    unfold rch at er
    rw [if_neg q1] at er
    split at er
    · cases er; omega
    · split at er
      · cases er; omega
      · cases er
  have hr : ∀ r, (F.2.1.bind fun p => rch p (if op = 65 then 1 else 2)) = some r → r < 56 := by
    intro r er
    cases ep : F.2.1 with
    | none => rw [ep] at er; cases er
    | some p => rw [ep] at er; exact q7 p r ep er
  have tail : ∀ (S6 : rS) (o : Option Nat) (Y N : nV), (F.2.1.bind fun p => rch p (if op = 65 then 1 else 2)) = o → ffr a S S6 → vw (wv S6 36 0) Y → vw (wv S6 37 0) N → (o = none → Y = g ∧ N = g) → (∀ r, o = some r → Y = nRes g r 27 ∧ N = nRes g r 4) → rG c eX10_concludeHalf (d + 2 + 1) (rQ c K) 59 [some (.ref c.2.2.1), some (.int (nI (B + a))), some (.int (nI (B + b))), some (.int (rfI o))] [] S6 := by
    intro S6 o Y N eo f6 y6 n6 hn hs
    unfold nHalf at hK
    rw [eo] at hK
    have ho' : ∀ r, o = some r → r < 56 := fun r er => hr r (by rw [eo]; exact er)
    refine w_X10_concludeHalf_59 ho (nI (B + a)) (nI (B + b)) (rfI o) (r_typeOf ho h1 hb ⟨_, rfl, ?_⟩)
    rw [f6.1 29 b (by omega), e1, show nI F.1 = 0 ↔ F.1 = 0 from nI_is (b := 0) (by omega) (by decide), rfI_n1 ho']
    refine ⟨fun z0 => ⟨fun zo => ?_, fun zo => ?_⟩, fun z0 => ?_⟩
    · cases o with
      | none => exact absurd rfl zo
      | some r =>
        obtain ⟨eY, eN⟩ := hs r rfl
        subst eY; subst eN
        simp only at hK
        rw [if_neg z0] at hK
        have r56 := ho' r rfl
        have i6 : vw (wv S6 26 (5 * a)) g := hi.f f6 (by omega) (by omega)
        refine r_five ho h1 h2 ⟨_, rfl, v_said ho (k1 := 17) (f1 := 26) (n1 := 320) rfl (by omega) (by decide) r56 ⟨_, rfl, ?_⟩⟩
        rw [i6.2 r r56]
        exact r_finish ho h1 h2 (p := some r) (i6.lt r56) ho' y6 n6 fun S' f' e' => ⟨rfl, hK S' (f6.trans f') e'⟩
    · subst zo
      obtain ⟨eY, eN⟩ := hn rfl
      subst eY; subst eN
      simp only at hK
      rw [if_neg z0] at hK
      exact r_finish ho h1 h2 (t := 31) (p := none) (by decide) (fun q e => by cases e) y6 n6 fun S' f' e' => ⟨rfl, hK S' (f6.trans f') e'⟩
    · cases o with
      | none =>
        obtain ⟨eY, eN⟩ := hn rfl
        subst eY; subst eN
        simp only at hK
        rw [if_pos z0] at hK
        exact r_finish ho h1 h2 (t := 0) (p := none) (by decide) (fun q e => by cases e) y6 n6 fun S' f' e' => ⟨rfl, hK S' (f6.trans f') e'⟩
      | some r =>
        obtain ⟨eY, eN⟩ := hs r rfl
        subst eY; subst eN
        simp only at hK
        rw [if_pos z0] at hK
        exact r_finish ho h1 h2 (t := 0) (p := some r) (by decide) ho' y6 n6 fun S' f' e' => ⟨rfl, hK S' (f6.trans f') e'⟩
  have both : ∀ isA : Bool, (isA = true ↔ op = 65) → rM c (d + 2) eX10_further [.int (rfI F.2.1), .int (if isA = true then 1 else 0)] S (fun v S16 => ∃ z17 : Int32, v = some (.int z17) ∧ ((z17 = (-1) → (rG c eX10_concludeHalf (d + 2 + 1) (rQ c K) 59 [some (.ref c.2.2.1), some (.int (nI (B + a))), some (.int (nI (B + b))), some (.int z17)] [] S16)) ∧ (¬ z17 = (-1) → (rM c (d + 2) eX10_split (.ref c.2.2.1 :: [.int z17]) S16 (fun v S19 => v = none ∧ (rG c eX10_concludeHalf (d + 2 + 1) (rQ c K) 59 [some (.ref c.2.2.1), some (.int (nI (B + a))), some (.int (nI (B + b))), some (.int z17)] [] S19)))))) := by
    intro isA hA
    have eq : (if isA = true then 1 else 2) = (if op = 65 then 1 else 2) := if_iff hA 1 2
    refine r_further ho e4 isA ⟨_, rfl, ?_⟩
    rw [eq]
    generalize eo : (F.2.1.bind fun p => rch p (if op = 65 then 1 else 2)) = o
    have ho' : ∀ r, o = some r → r < 56 := fun r er => hr r (by rw [eo]; exact er)
    rw [rfI_n1 ho']
    refine ⟨fun zo => ?_, fun zo => ?_⟩
    · exact tail S o g g eo (ffr.refl _ _) hY hN (fun _ => ⟨rfl, rfl⟩) (fun r er => by rw [zo] at er; cases er)
    · cases o with
      | none => exact absurd rfl zo
      | some r =>
        refine r_split ho (a := a) (ho' r rfl) hY hN fun S5 f5 y5 n5 => ⟨rfl, tail S5 (some r) _ _ eo f5 y5 n5 (fun z => by cases z) (fun r' er => by cases er; exact ⟨rfl, rfl⟩)⟩
  rw [show nI op = 65 ↔ op = 65 from nI_is (b := 65) (by omega) (by decide)]
  exact ⟨fun z => both false ⟨fun w => (by cases w), fun w => absurd w z⟩, fun z => both true ⟨fun _ => z, fun _ => rfl⟩⟩
theorem q_sum (ho : rOK c) (h1 : hB B) (h2 : a < 64) {b1 b2 op e : Nat} {F G : nF} (h4 : S.1 4 (B + a) = nI op) (hop : op < 65536) (h5 : S.1 5 (B + a) = nI (B + b1)) (h6 : S.1 6 (B + a) = nI (B + b2)) (h9 : S.1 9 (B + a) = nI e) (hb1 : b1 < 64) (hb2 : b2 < 64) (hF : fnd S b1 F) (hG : fnd S b2 G) (hY : vw (wv S 36 0) g) (hN : vw (wv S 37 0) g)
    (hE : (F.1 ||| G.1) &&& 30 ≠ 0 → ∀ S', S'.2 = S.2 → (∀ f i, ¬ (f = 38 ∧ i = 0) → ¬ (f = 1 ∧ i = 0) → S'.1 f i = S.1 f i) → S'.1 38 0 = 1 → S'.1 1 0 = nI e → K none S')
    (hK : ¬ (F.1 ||| G.1) &&& 30 ≠ 0 → ∀ S', ffr a S S' → fnd S' a (nFin (if op = 60 then 6 else 1) none g g) → K none S') : rM c (d + 3) eX10_concludeSum [.ref c.2.2.1, .int (nI (B + a))] S K := by
  have r320 : B + a < 320 := by rcases h1 with h | h | h | h | h <;> omega
  have ir : am_ix (nI (B + a)) (B + a) 320 := am_ix_n r320 (by decide)
  refine w_X10_concludeSum ho (nI (B + a)) ⟨B + a, ir, ?_⟩
  rw [h5]
  refine r_typeOf ho h1 hb1 ⟨_, rfl, B + a, ir, ?_⟩
  rw [h6]
  refine r_typeOf ho h1 hb2 ⟨_, rfl, ?_⟩
  rw [hF.1, hG.1, k_30 _ hF.2.2.1 _ hG.2.2.1]
  refine ⟨fun z => ⟨B + a, ir, ?_⟩, fun z => q_refuse ho r320 h9 fun S' a1 a2 a3 a4 => ⟨rfl, hE z S' a1 a2 a3 a4⟩⟩
  have hK := hK (fun w => w z)
  rw [h4, show nI op = 60 ↔ op = 60 from nI_is (b := 60) (by omega) (by decide)]
  refine ⟨fun z60 => ?_, fun z60 => ?_⟩
  · rw [if_neg z60] at hK
    exact r_finish ho h1 h2 (t := 1) (p := none) (by decide) (fun q e => by cases e) hY hN fun S' f' e' => ⟨rfl, hK S' f' e'⟩
  · rw [if_pos z60] at hK
    exact r_finish ho h1 h2 (t := 6) (p := none) (by decide) (fun q e => by cases e) hY hN fun S' f' e' => ⟨rfl, hK S' f' e'⟩
/-- a view of a part is copied into the work space -/
theorem w_cp (ho : rOK c) {k1 f1 k2 f2 b : Nat} {Y : nV} (hk1 : rT[k1]? = some (f1, 21, 320)) (hk2 : rT[k2]? = some (f2, 21, 5)) (hf1 : f1 = 27 ∨ f1 = 28) (hf2 : f2 = 36 ∨ f2 = 37) (hb : b < 64) (hY : vw (wv S f1 (5 * b)) Y) (hK : ∀ S', ffr a S S' → vw (wv S' f2 0) Y → (∀ f, f ≠ f2 → S'.2 f = S.2 f) → K none S') : rM c d eX10_copy [.ref (c.2.2.1 + (k1 + 1)), .int (nI (5 * b)), .ref (c.2.2.1 + (k2 + 1)), .int 0] S K := by
  refine v_copy ho (i := 5 * b) (j := 0) hk1 hk2 (by omega) (by decide) (by decide) (by decide) (Or.inl (by omega)) ?_
  exact hK _ (ffr_w a S f2 hf2 _) (hY.cong fun k hk => wv_in _ _ _ _ k hk) (fun f hf => funext fun i => put_out _ _ (by omega))
theorem w_or (ho : rOK c) {k1 f1 k2 f2 b : Nat} {X Y : nV} (hk1 : rT[k1]? = some (f1, 21, 5)) (hk2 : rT[k2]? = some (f2, 21, 320)) (hf1 : f1 = 36 ∨ f1 = 37) (hf2 : f2 = 27 ∨ f2 = 28) (hb : b < 64) (hX : vw (wv S f1 0) X) (hY : vw (wv S f2 (5 * b)) Y) (hK : ∀ S', ffr a S S' → vw (wv S' f1 0) (nOr X Y) → (∀ f, f ≠ f1 → S'.2 f = S.2 f) → K none S') : rM c d eX10_either [.ref (c.2.2.1 + (k1 + 1)), .int 0, .ref (c.2.2.1 + (k2 + 1)), .int (nI (5 * b))] S K := by
  refine v_either ho (i := 0) (j := 5 * b) hk1 hk2 (by decide) (by omega) (by decide) (by decide) (by omega) ?_
  exact hK _ (ffr_w a S f1 hf1 _) ((hX.or hY).cong fun k hk => wv_in _ _ _ _ k hk) (fun f hf => funext fun i => put_out _ _ (by omega))
theorem vw.same {A B : rS} {f i : Nat} {g : nV} (h : vw (wv A f i) g) (e : B.2 f = A.2 f) : vw (wv B f i) g := by unfold wv; rw [e]; exact h
theorem q_if (ho : rOK c) (h1 : hB B) (h2 : a < 64) {b2 b3 : Nat} {F G : nF} (h6 : S.1 6 (B + a) = nI (B + b2)) (h7 : S.1 7 (B + a) = nI (B + b3)) (hb2 : b2 < 64) (hb3 : b3 < 64) (n2 : b2 ≠ a) (n3 : b3 ≠ a) (hF : fnd S b2 F) (hG : fnd S b3 G)
    (hK : ∀ S', ffr a S S' → fnd S' a (nFin (F.1 ||| G.1) none (nOr F.2.2.1 G.2.2.1) (nOr F.2.2.2 G.2.2.2)) → K none S') : rM c (d + 3) eX10_concludeIf [.ref c.2.2.1, .int (nI (B + a))] S K := by
  have ir : am_ix (nI (B + a)) (B + a) 320 := am_ix_n (by rcases h1 with h | h | h | h | h <;> omega) (by decide)
  refine w_X10_concludeIf ho (nI (B + a)) ⟨B + a, ir, B + a, ir, ?_⟩
  rw [h6, h7]
  refine r_five ho h1 hb2 ⟨_, rfl, w_cp ho (a := a) (k1 := 18) (f1 := 27) (k2 := 27) (f2 := 36) rfl rfl (Or.inl rfl) (Or.inl rfl) hb2 hF.2.2.2.2.1 fun S1 f1 y1 g1 => ⟨rfl, r_five ho h1 hb3 ⟨_, rfl, ?_⟩⟩⟩
  refine w_or ho (a := a) (k1 := 27) (f1 := 36) (k2 := 18) (f2 := 27) rfl rfl (Or.inl rfl) (Or.inl rfl) hb3 y1 ((hG.f f1 n3).2.2.2.2.1) fun S2 f2 y2 g2 => ⟨rfl, r_five ho h1 hb2 ⟨_, rfl, ?_⟩⟩
  have F2 := f1.trans f2
  refine w_cp ho (a := a) (k1 := 19) (f1 := 28) (k2 := 28) (f2 := 37) rfl rfl (Or.inr rfl) (Or.inr rfl) hb2 ((hF.f F2 n2).2.2.2.2.2) fun S3 f3 n3' g3 => ⟨rfl, r_five ho h1 hb3 ⟨_, rfl, ?_⟩⟩
  have F3 := F2.trans f3
  refine w_or ho (a := a) (k1 := 28) (f1 := 37) (k2 := 19) (f2 := 28) rfl rfl (Or.inr rfl) (Or.inr rfl) hb3 n3' ((hG.f F3 n3).2.2.2.2.2) fun S4 f4 n4 g4 => ⟨rfl, r_typeOf ho h1 hb2 ⟨_, rfl, r_typeOf ho h1 hb3 ⟨_, rfl, ?_⟩⟩⟩
  have F4 := F3.trans f4
  rw [(hF.f F4 n2).1, (hG.f F4 n3).1, k_or2 _ hF.2.2.1 _ hG.2.2.1]
  have y4 : vw (wv S4 36 0) (nOr F.2.2.1 G.2.2.1) := (y2.same (g3 36 (by decide))).same (g4 36 (by decide))
  exact r_finish ho h1 h2 (p := none) (k_or32 _ hF.2.2.1 _ hG.2.2.1) (fun q e => by cases e) y4 n4 fun S' f' e' => ⟨rfl, hK S' (F4.trans f') e'⟩
theorem q_and (ho : rOK c) (h1 : hB B) (h2 : a < 64) {b1 b2 : Nat} {F G : nF} (h5 : S.1 5 (B + a) = nI (B + b1)) (h6 : S.1 6 (B + a) = nI (B + b2)) (hb1 : b1 < 64) (hb2 : b2 < 64) (n1 : b1 ≠ a) (n2 : b2 ≠ a) (hF : fnd S b1 F) (hG : fnd S b2 G)
    (hK : ∀ S', ffr a S S' → fnd S' a (nFin (G.1 ||| (if nImp F.2.2.2 = true then 0 else 4)) none G.2.2.1 (nOr G.2.2.2 F.2.2.2)) → K none S') : rM c (d + 3) eX10_concludeAnd [.ref c.2.2.1, .int (nI (B + a))] S K := by
  have ir : am_ix (nI (B + a)) (B + a) 320 := am_ix_n (by rcases h1 with h | h | h | h | h <;> omega) (by decide)
  refine w_X10_concludeAnd ho (nI (B + a)) ⟨B + a, ir, B + a, ir, ?_⟩
  rw [h5, h6]
  refine r_five ho h1 hb2 ⟨_, rfl, w_cp ho (a := a) (k1 := 18) (f1 := 27) (k2 := 27) (f2 := 36) rfl rfl (Or.inl rfl) (Or.inl rfl) hb2 hG.2.2.2.2.1 fun S1 f1 y1 g1 => ⟨rfl, r_five ho h1 hb2 ⟨_, rfl, ?_⟩⟩⟩
  refine w_cp ho (a := a) (k1 := 19) (f1 := 28) (k2 := 28) (f2 := 37) rfl rfl (Or.inr rfl) (Or.inr rfl) hb2 ((hG.f f1 n2).2.2.2.2.2) fun S3 f3 n3' g3 => ⟨rfl, r_five ho h1 hb1 ⟨_, rfl, ?_⟩⟩
  have F3 := f1.trans f3
  refine w_or ho (a := a) (k1 := 28) (f1 := 37) (k2 := 19) (f2 := 28) rfl rfl (Or.inr rfl) (Or.inr rfl) hb1 n3' ((hF.f F3 n1).2.2.2.2.2) fun S4 f4 n4 g4 => ⟨rfl, r_typeOf ho h1 hb2 ⟨_, rfl, r_five ho h1 hb1 ⟨_, rfl, ?_⟩⟩⟩
  have F4 := F3.trans f4
  have y4 : vw (wv S4 36 0) G.2.2.1 := (y1.same (g3 36 (by decide))).same (g4 36 (by decide))
  have e4 := (hF.f F4 n1).2.2.2.2.2
  refine v_imp ho (k1 := 19) (f1 := 28) (n1 := 320) rfl (by omega) (by decide) e4.1 ⟨_, rfl, ?_⟩
  rw [vw_imp e4, (hG.f F4 n2).1]
  have o := k_or0 _ hG.2.2.1
  refine ⟨fun z => ?_, fun z => ?_⟩
  · have w : ¬ nImp F.2.2.2 = true := fun w => by rw [if_pos w] at z; exact absurd z (by decide)
    rw [if_neg w] at hK
    rw [o.1]
    exact r_finish ho h1 h2 (p := none) (k_or32 _ hG.2.2.1 _ (by decide)) (fun q e => by cases e) y4 n4 fun S' f' e' => ⟨rfl, hK S' (F4.trans f') e'⟩
  · have w : nImp F.2.2.2 = true := by
      by_cases w : nImp F.2.2.2 = true
      · exact w
      · rw [if_neg w] at z; exact absurd rfl z
    rw [if_pos w] at hK
    rw [o.2]
    exact r_finish ho h1 h2 (p := none) (k_or32 _ hG.2.2.1 _ (by decide)) (fun q e => by cases e) y4 n4 fun S' f' e' => ⟨rfl, hK S' (F4.trans f') e'⟩
theorem q_or (ho : rOK c) (h1 : hB B) (h2 : a < 64) {b1 b2 : Nat} {F G : nF} (h5 : S.1 5 (B + a) = nI (B + b1)) (h6 : S.1 6 (B + a) = nI (B + b2)) (hb1 : b1 < 64) (hb2 : b2 < 64) (n1 : b1 ≠ a) (n2 : b2 ≠ a) (hF : fnd S b1 F) (hG : fnd S b2 G)
    (hK : ∀ S', ffr a S S' → fnd S' a (nFin ((F.1 &&& 27) ||| G.1) none (nOr F.2.2.1 G.2.2.1) G.2.2.2) → K none S') : rM c (d + 3) eX10_concludeOr [.ref c.2.2.1, .int (nI (B + a))] S K := by
  have ir : am_ix (nI (B + a)) (B + a) 320 := am_ix_n (by rcases h1 with h | h | h | h | h <;> omega) (by decide)
  refine w_X10_concludeOr ho (nI (B + a)) ⟨B + a, ir, B + a, ir, ?_⟩
  rw [h5, h6]
  refine r_five ho h1 hb1 ⟨_, rfl, w_cp ho (a := a) (k1 := 18) (f1 := 27) (k2 := 27) (f2 := 36) rfl rfl (Or.inl rfl) (Or.inl rfl) hb1 hF.2.2.2.2.1 fun S1 f1 y1 g1 => ⟨rfl, r_five ho h1 hb2 ⟨_, rfl, ?_⟩⟩⟩
  refine w_or ho (a := a) (k1 := 27) (f1 := 36) (k2 := 18) (f2 := 27) rfl rfl (Or.inl rfl) (Or.inl rfl) hb2 y1 ((hG.f f1 n2).2.2.2.2.1) fun S2 f2 y2 g2 => ⟨rfl, r_five ho h1 hb2 ⟨_, rfl, ?_⟩⟩
  have F2 := f1.trans f2
  refine w_cp ho (a := a) (k1 := 19) (f1 := 28) (k2 := 28) (f2 := 37) rfl rfl (Or.inr rfl) (Or.inr rfl) hb2 ((hG.f F2 n2).2.2.2.2.2) fun S3 f3 n3' g3 => ⟨rfl, r_typeOf ho h1 hb1 ⟨_, rfl, r_typeOf ho h1 hb2 ⟨_, rfl, ?_⟩⟩⟩
  have F3 := F2.trans f3
  rw [(hF.f F3 n1).1, (hG.f F3 n2).1, k_or27 _ hF.2.2.1 _ hG.2.2.1]
  have y3 : vw (wv S3 36 0) (nOr F.2.2.1 G.2.2.1) := y2.same (g3 36 (by decide))
  exact r_finish ho h1 h2 (p := none) (k_or32 _ (Nat.lt_of_le_of_lt Nat.and_le_left hF.2.2.1) _ hG.2.2.1) (fun q e => by cases e) y3 n3' fun S' f' e' => ⟨rfl, hK S' (F3.trans f') e'⟩
/-- drop -/
theorem r_drop (ho : rOK c) {k1 f1 x : Nat} {Y : nV} (hk1 : rT[k1]? = some (f1, 21, 5)) (hf1 : f1 = 36 ∨ f1 = 37) (hx : x < 8) (hY : vw (wv S f1 0) Y) (hK : ∀ S', ffr a S S' → vw (wv S' f1 0) (nDrop Y x) → (∀ f, f ≠ f1 → S'.2 f = S.2 f) → K none S') : rM c (d + 1) eX10_drop [.ref (c.2.2.1 + (k1 + 1)), .int (nI x)] S K := by
  refine w_X10_drop ho hk1 (nI x) (v_imp ho (i := 0) hk1 (by decide) (by decide) hY.1 ⟨_, rfl, ?_⟩)
  rw [vw_imp hY]
  unfold nDrop at hK
  refine ⟨fun z => ?_, fun z => ?_⟩
  · have w : ¬ nImp Y = true := fun w => by rw [if_pos w] at z; exact absurd z (by decide)
    rw [if_neg w] at hK
    have key : ∀ m n : Nat, n + m = 7 → ∀ S1, ffr a S S1 → vw (wv S1 f1 0) (fun q => if q / 7 = x ∧ q < 7 * x + n then 31 else Y q) → (∀ f, f ≠ f1 → S1.2 f = S.2 f) → rG c eX10_drop (d + 1) (rQ c K) 11 [some (.ref (c.2.2.1 + (k1 + 1))), some (.int (nI x)), some (.int (nI n))] [] S1 := by
      intro m
      induction m with
      | zero =>
        intro n hn S1 f1' y1 g1
        have : n = 7 := by omega
        subst this
        refine w_X10_drop_11 ho hk1 (nI x) (nI 7) ⟨fun _ => hK S1 f1' (y1.iff fun q hq => ?_) g1, fun z => absurd (by decide) z⟩
        show (if q / 7 = x then 31 else Y q) = if q / 7 = x ∧ q < 7 * x + 7 then 31 else Y q
        by_cases e : q / 7 = x
        · rw [if_pos e, if_pos ⟨e, by omega⟩]
        · rw [if_neg e, if_neg (fun w => e w.1)]
      | succ m ih =>
        intro n hn S1 f1' y1 g1
        have n7 : ¬ (7 : Int32) ≤ nI n := fun z => by
          have := (nI_leI (a := 7) (b := n) (by decide) (by omega)).mp z
          omega
        refine w_X10_drop_11 ho hk1 (nI x) (nI n) ⟨fun z => absurd z n7, fun _ => ?_⟩
        rw [show (7 : Int32) * nI x = nI (7 * x) from pk_mul 7 x, nI_add, nI_1]
        refine v_say ho (i := 0) (kk := 31) hk1 (by decide) (by decide) (by decide) ⟨rfl, ?_⟩
        refine ih (n + 1) (by omega) _ (f1'.trans (ffr_w a S1 f1 hf1 _)) ?_ (fun f hf => ?_)
        · have h' : vw (wv (put S1 f1 0 5 (wSay (wv S1 f1 0) (7 * x + n) 31)) f1 0) (fun q => if q = 7 * x + n then 31 else (if q / 7 = x ∧ q < 7 * x + n then 31 else Y q)) := (y1.say (show 7 * x + n < 56 by omega) (by decide)).cong fun k hk => wv_in _ _ _ _ k hk
          refine h'.iff fun q hq => ?_
          show (if q / 7 = x ∧ q < 7 * x + (n + 1) then 31 else Y q) = if q = 7 * x + n then 31 else if q / 7 = x ∧ q < 7 * x + n then 31 else Y q
          by_cases e : q = 7 * x + n
          · rw [if_pos e, if_pos ⟨by omega, by omega⟩]
          · rw [if_neg e]
            by_cases e2 : q / 7 = x ∧ q < 7 * x + n
            · rw [if_pos e2, if_pos ⟨e2.1, by omega⟩]
            · rw [if_neg e2, if_neg (fun w => e2 ⟨w.1, by omega⟩)]
        · rw [← g1 f hf]
          exact funext fun i => put_out _ _ (by omega)
    exact key 7 0 rfl S (ffr.refl _ _) (hY.iff fun q _ => if_neg (fun w => by omega)) (fun _ _ => rfl)
  · have w : nImp Y = true := by
      by_cases w : nImp Y = true
      · exact w
      · rw [if_neg w] at z; exact absurd rfl z
    rw [if_pos w] at hK
    exact hK S (ffr.refl _ _) hY (fun _ _ => rfl)
end RCC
