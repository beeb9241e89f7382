/-! The reference's reader: peek, create, give, one step of close. -/
def pO (fd : Nat → Bool) (x : Option Nat) : Option Nat := match x with
  | none => none
  | some c => if c = 33 ∨ c = 65 ∨ c = 66 ∨ c = 68 ∨ c = 69 ∨ c = 78 ∨ c = 80 then some 1 else if c = 38 ∨ c = 43 ∨ c = 45 ∨ c = 58 ∨ c = 60 ∨ c = 67 ∨ c = 124 then some 2 else if c = 63 then some 3 else if 71 ≤ c ∧ c ≤ 73 ∧ fd (c - 71) = true then some 1 else none
/-- the parts that a node has -/
def kst (S : rS) (r j : Nat) : Prop := ∀ i, i < 3 → (i < j → ¬ S.1 (5 + i) r = -1) ∧ (j ≤ i → S.1 (5 + i) r = -1)
theorem cr_spec (S : rS) (r : Nat) (k a b e : Int32) : ∃ S3, S3 = rsi (rsi (rsi (rsi (rsi (rsi (rsi S 11 4 k) 4 r a) 8 r b) 9 r e) 5 r (-1)) 6 r (-1)) 7 r (-1) ∧ S3.2 = S.2 ∧ S3.1 11 4 = k ∧ S3.1 4 r = a ∧ S3.1 8 r = b ∧ S3.1 9 r = e ∧ kst S3 r 0 ∧ ∀ f i, ¬ (f = 11 ∧ i = 4) → ¬ (4 ≤ f ∧ f ≤ 9 ∧ i = r) → S3.1 f i = S.1 f i := by
  refine ⟨_, rfl, rfl, ?_, ?_, ?_, ?_, ?_, fun f i q1 q2 => ?_⟩
  · rw [rsi_ne _ _ (by omega), rsi_ne _ _ (by omega), rsi_ne _ _ (by omega), rsi_ne _ _ (by omega), rsi_ne _ _ (by omega), rsi_ne _ _ (by omega), rsi_i]
  · rw [rsi_ne _ _ (by omega), rsi_ne _ _ (by omega), rsi_ne _ _ (by omega), rsi_ne _ _ (by omega), rsi_ne _ _ (by omega), rsi_i]
  · rw [rsi_ne _ _ (by omega), rsi_ne _ _ (by omega), rsi_ne _ _ (by omega), rsi_ne _ _ (by omega), rsi_i]
  · rw [rsi_ne _ _ (by omega), rsi_ne _ _ (by omega), rsi_ne _ _ (by omega), rsi_i]
  · intro i hi
    refine ⟨fun z => absurd z (by omega), fun _ => ?_⟩
    by_cases e2 : i = 2
    · subst e2; exact rsi_i _ _ _ _
    · rw [rsi_ne _ _ (by omega)]
      by_cases e1 : i = 1
      · subst e1; exact rsi_i _ _ _ _
      · rw [rsi_ne _ _ (by omega)]
        have e0 : i = 0 := by omega
        subst e0
        exact rsi_i _ _ _ _
  · rw [rsi_ne _ _ (by omega), rsi_ne _ _ (by omega), rsi_ne _ _ (by omega), rsi_ne _ _ (by omega), rsi_ne _ _ (by omega), rsi_ne _ _ (by omega), rsi_ne _ _ (by omega)]
section RRA
variable {c : rX} {D d : Nat} {S : rS} {K : Option Value → rS → Prop} {ch : Nat → Option Nat} {len : Nat} {fd : Nat → Bool}
theorem r_peek (ho : rOK c) {p : Nat} (hT : RTX S ch len fd) (hc : chO ch len) (e : S.1 20 0 = nI p) (hp : p < 200) (hK : K (some (.int (rfI (ch p)))) S) : rM c d eX10_peek [.ref c.2.2.1] S K := by
  have hl := hc.1
  refine w_X10_peek ho ?_
  rw [e, hT.1, nI_leI (by omega) (by omega)]
  refine ⟨fun z => ?_, fun z => ⟨p, am_ix_n (by omega) (by decide), ?_⟩⟩
  · rw [hc.2.1 p z] at hK; exact hK
  · obtain ⟨y, y1, y2⟩ := hT.2.1 p (by omega)
    rw [y2]
    rw [y1] at hK
    exact hK
theorem r_create (ho : rOK c) {k sg wh at' : Nat} (e : S.1 11 4 = nI k) (hk : k < 64) (hK : ∀ S', S'.2 = S.2 → S'.1 11 4 = nI (k + 1) → S'.1 4 (256 + k) = nI sg → S'.1 8 (256 + k) = nI wh → S'.1 9 (256 + k) = nI at' → kst S' (256 + k) 0 → (∀ f i, ¬ (f = 11 ∧ i = 4) → ¬ (4 ≤ f ∧ f ≤ 9 ∧ i = 256 + k) → S'.1 f i = S.1 f i) → K (some (.int (nI (256 + k)))) S') : rM c d eX10_create [.ref c.2.2.1, .int (nI sg), .int (nI wh), .int (nI at')] S K := by
  have e2 : (256 : Int32) + S.1 11 4 = nI (256 + k) := by rw [e]; exact nI_add 256 k
  refine w_X10_create ho (nI sg) (nI wh) (nI at') ?_
  rw [e2, e, nI_1]
  obtain ⟨S3, s1, s2, s3, s4, s5, s6, s7, s8⟩ := cr_spec S (256 + k) (nI (k + 1)) (nI sg) (nI wh) (nI at')
  have ix : am_ix (nI (256 + k)) (256 + k) 320 := am_ix_n (by omega) (by decide)
  refine ⟨_, ix, _, ix, _, ix, _, ix, _, ix, _, ix, ?_⟩
  rw [← s1]
  exact hK S3 s2 s3 s4 s5 s6 s7 s8
theorem r_partsOf (ho : rOK c) {x : Option Nat} (hT : RTX S ch len fd) (hx : ∀ y, x = some y → y < 65536) (hK : K (some (.int (rfI (pO fd x)))) S) : rM c d eX10_partsOf [.ref c.2.2.1, .int (rfI x)] S K := by
  have hx' : ∀ y, x = some y → y < 2 ^ 31 := fun y e => by have := hx y e; omega
  have eq : ∀ b : Nat, b < 2 ^ 31 → (rfI x = nI b ↔ x = some b) := fun b hb => rf_eq hx' b hb
  have e33 : rfI x = 33 ↔ x = some 33 := eq 33 (by decide)
  have e38 : rfI x = 38 ↔ x = some 38 := eq 38 (by decide)
  have e43 : rfI x = 43 ↔ x = some 43 := eq 43 (by decide)
  have e45 : rfI x = 45 ↔ x = some 45 := eq 45 (by decide)
  have e58 : rfI x = 58 ↔ x = some 58 := eq 58 (by decide)
  have e60 : rfI x = 60 ↔ x = some 60 := eq 60 (by decide)
  have e63 : rfI x = 63 ↔ x = some 63 := eq 63 (by decide)
  have e65 : rfI x = 65 ↔ x = some 65 := eq 65 (by decide)
  have e66 : rfI x = 66 ↔ x = some 66 := eq 66 (by decide)
  have e67 : rfI x = 67 ↔ x = some 67 := eq 67 (by decide)
  have e68 : rfI x = 68 ↔ x = some 68 := eq 68 (by decide)
  have e69 : rfI x = 69 ↔ x = some 69 := eq 69 (by decide)
  have e71 : rfI x = 71 ↔ x = some 71 := eq 71 (by decide)
  have e72 : rfI x = 72 ↔ x = some 72 := eq 72 (by decide)
  have e73 : rfI x = 73 ↔ x = some 73 := eq 73 (by decide)
  have e78 : rfI x = 78 ↔ x = some 78 := eq 78 (by decide)
  have e80 : rfI x = 80 ↔ x = some 80 := eq 80 (by decide)
  have e124 : rfI x = 124 ↔ x = some 124 := eq 124 (by decide)
  refine w_X10_partsOf ho (rfI x) ?_
  rw [e33, e38, e43, e45, e58, e60, e63, e65, e66, e67, e68, e69, e71, e72, e73, e78, e80, e124]
  cases x with
  | none => exact ⟨fun z => (by simp at z), fun z => (by simp at z), fun z => (by simp at z), fun z => (by simp at z), fun _ => hK⟩
  | some y =>
    simp only [Option.some.injEq]
    unfold pO at hK
    simp only at hK
    refine ⟨fun z => ?_, fun z => ?_, fun z => ?_, fun z => ?_, fun z => ?_⟩
    · rw [if_pos z] at hK; exact hK
    · rw [if_neg (by omega), if_pos z] at hK; exact hK
    · rw [if_neg (by omega), if_neg (by omega), if_pos z] at hK; exact hK
    · rw [if_neg (by omega), if_neg (by omega), if_neg (by omega)] at hK
      refine w_X10_partsOf_162 ho (rfI (some y)) ⟨y - 71, ?_, ?_⟩
      · have : rfI (some y) - 71 = nI (y - 71) := pk_sub (a := y) (b := 71) (by omega)
        rw [this]
        exact am_ix_n (by omega) (by decide)
      · rw [hT.2.2 (y - 71) (by omega)]
        by_cases q : fd (y - 71) = true
        · rw [if_pos q]
          rw [if_pos ⟨by omega, by omega, q⟩] at hK
          exact ⟨fun w => absurd w (by decide), fun _ => hK⟩
        · rw [if_neg q]
          rw [if_neg (fun w => q w.2.2)] at hK
          exact ⟨fun _ => hK, fun w => absurd rfl w⟩
    · rw [if_neg (by omega), if_neg (by omega), if_neg (by omega), if_neg (by omega)] at hK
      exact hK
theorem r_had (ho : rOK c) {r j : Nat} (hr : r < 320) (hj : j ≤ 3) (h : kst S r j) (hK : K (some (.int (nI j))) S) : rM c d eX10_partsHad [.int (nI r), .ref (c.2.2.1 + (2 + 1)), .ref (c.2.2.1 + (3 + 1)), .ref (c.2.2.1 + (4 + 1))] S K := by
  have ix : am_ix (nI r) r 320 := am_ix_n hr (by decide)
  refine w_X10_partsHad ho (nI r) (kp1 := 2) (fp1 := 5) (np1 := 320) rfl (kp2 := 3) (fp2 := 6) (np2 := 320) rfl (kp3 := 4) (fp3 := 7) (np3 := 320) rfl ⟨r, ix, fun q7 => ⟨r, ix, fun q6 => ⟨r, ix, fun q5 => ?_, fun q5 => ?_⟩, fun q6 => ?_⟩, fun q7 => ?_⟩
  · have : j = 0 := by
      by_cases z : j = 0
      · exact z
      · exact absurd q5 ((h 0 (by decide)).1 (by omega))
    subst this; exact hK
  · have : j = 1 := by
      have h1 : ¬ j ≤ 0 := fun z => q5 ((h 0 (by decide)).2 z)
      have h2 : ¬ 1 < j := fun z => absurd q6 ((h 1 (by decide)).1 z)
      omega
    subst this; exact hK
  · have : j = 2 := by
      have h1 : ¬ j ≤ 1 := fun z => q6 ((h 1 (by decide)).2 z)
      have h2 : ¬ 2 < j := fun z => absurd q7 ((h 2 (by decide)).1 z)
      omega
    subst this; exact hK
  · have : j = 3 := by
      have h1 : ¬ j ≤ 2 := fun z => q7 ((h 2 (by decide)).2 z)
      omega
    subst this; exact hK
/-- a part is given to a bracket -/
theorem r_give (ho : rOK c) {r q op w j : Nat} (hr : r < 320) (hq : q < 320) (hj : j ≤ 2) (h : kst S r j) (h4 : S.1 4 r = nI op) (hop : op < 65536) (h8 : S.1 8 r = nI w)
    (hK : ∀ S', S'.2 = S.2 → S'.1 (5 + j) r = nI q → kst S' r (j + 1) → (∀ f i, ¬ (f = 5 + j ∧ i = r) → ¬ (f = 22 ∧ i = 0) → S'.1 f i = S.1 f i) → (j = 0 ∧ op = 58 → S'.1 22 0 = S.1 22 0 ||| (1 <<< (nI w &&& 31))) → (¬ (j = 0 ∧ op = 58) → S'.1 22 0 = S.1 22 0) → K none S') :
    rM c (d + 1) eX10_give [.ref c.2.2.1, .int (nI r), .int (nI q)] S K := by
  have ix : am_ix (nI r) r 320 := am_ix_n hr (by decide)
  have jj : ∀ b : Nat, b < 2 ^ 31 → (nI j = nI b ↔ j = b) := fun b hb => nI_is (by omega) hb
  have j0 : nI j = 0 ↔ j = 0 := jj 0 (by decide)
  have j1 : nI j = 1 ↔ j = 1 := jj 1 (by decide)
  have kst' : kst (rsi S (5 + j) r (nI q)) r (j + 1) := by
    intro i hi
    by_cases e : i = j
    · subst e
      exact ⟨fun _ => by rw [rsi_i]; exact nI_neg1 (by omega), fun z => absurd z (by omega)⟩
    · rw [rsi_ne _ _ (by omega)]
      exact ⟨fun z => (h i hi).1 (by omega), fun z => (h i hi).2 (by omega)⟩
  have old : ∀ f i, ¬ (f = 5 + j ∧ i = r) → (rsi S (5 + j) r (nI q)).1 f i = S.1 f i := fun f i z => rsi_ne _ _ z
  have tail : rG c eX10_give (d + 1) (rQ c K) 53 [some (.ref c.2.2.1), some (.int (nI r)), none, some (.int (nI j))] [] (rsi S (5 + j) r (nI q)) := by
    refine w_X10_give_53 ho (nI r) (nI j) ⟨fun z => ?_, fun z => ⟨r, ix, ?_⟩⟩
    · refine hK _ rfl (rsi_i _ _ _ _) kst' (fun f i q1 _ => old f i q1) (fun y => absurd (j0.mpr y.1) z) (fun _ => old 22 0 (by omega))
    · rw [old 4 r (by omega), h4, show nI op = 58 ↔ op = 58 from nI_is (b := 58) (by omega) (by decide)]
      refine ⟨fun z2 => ?_, fun z2 => ⟨r, ix, ?_⟩⟩
      · exact hK _ rfl (rsi_i _ _ _ _) kst' (fun f i q1 _ => old f i q1) (fun y => absurd y.2 z2) (fun _ => old 22 0 (by omega))
      · rw [old 22 0 (by omega), old 8 r (by omega), h8]
        refine hK _ rfl ?_ ?_ (fun f i q1 q2 => ?_) (fun _ => rsi_i _ _ _ _) (fun y => absurd ⟨j0.mp z, z2⟩ y)
        · rw [rsi_ne _ _ (by omega), rsi_i]
        · intro i hi
          rw [rsi_ne _ _ (by omega)]
          exact kst' i hi
        · rw [rsi_ne _ _ q2]; exact old f i q1
  refine w_X10_give ho (nI r) (nI q) (r_had ho hr (by omega) h ⟨_, rfl, fun z0 => ⟨fun z1 => ⟨r, ix, ?_⟩, fun z1 => ⟨r, ix, ?_⟩⟩, fun z0 => ⟨r, ix, ?_⟩⟩)
  · have : j = 2 := by
      have a0 : ¬ j = 0 := fun w => z0 (j0.mpr w)
      have a1 : ¬ j = 1 := fun w => z1 (j1.mpr w)
      omega
    subst this; exact tail
  · have : j = 1 := j1.mp z1
    subst this; exact tail
  · have : j = 0 := j0.mp z0
    subst this; exact tail
end RRA
/-- readExpression's loop, nothing read whole -/
def JR (c : rX) (D : Nat) (K : Option Value → rS → Prop) (S : rS) : Prop := rG c eX10_readExpression (D + 3 + 1) (rQ c K) 7 [some (.ref c.2.2.1), some (.int (-1)), none] [] S
def JK (c : rX) (D : Nat) (K : Option Value → rS → Prop) : Option Value → rS → Prop := fun v S3 => ∃ z4 : Int32, v = some (.int z4) ∧ ((¬ z4 = (-1) → (rG c eX10_readExpression (D + 3 + 1) (rQ c K) 7 [some (.ref c.2.2.1), some (.int z4), none] [] S3)) ∧ (z4 = (-1) → (rG c eX10_readExpression (D + 3 + 1) (rQ c K) 7 [some (.ref c.2.2.1), some (.int (-1)), none] [] S3)))
/-- close's loop: the node n was read -/
def JC (c : rX) (D : Nat) (K : Option Value → rS → Prop) (S : rS) (n : Int32) : Prop := rG c eX10_close (D + 1 + 1) (rQ c (fun v S1 => ∃ z2 : Int32, v = some (.int z2) ∧ JK c D K (some (.int z2)) S1)) 2 [some (.ref c.2.2.1), none, some (.int n), none] [] S
section RRB
variable {c : rX} {D d : Nat} {S : rS} {K : Option Value → rS → Prop} {ch : Nat → Option Nat} {len : Nat} {fd : Nat → Bool}
theorem JR.wrong (ho : rOK c) (h : ¬ S.1 23 0 = 0) (hK : K (some (.int (-1))) S) : JR c D K S := w_X10_readExpression_7 ho (-1) ⟨fun z => absurd rfl z, fun _ => ⟨fun _ => hK, fun z => absurd z h⟩⟩
theorem JR.part (ho : rOK c) (h : S.1 23 0 = 0) (k : rM c (D + 3) eX10_readPart [.ref c.2.2.1] S (JK c D K)) : JR c D K S := w_X10_readExpression_7 ho (-1) ⟨fun z => absurd rfl z, fun _ => ⟨fun z => absurd h z, fun _ => k⟩⟩
theorem JK.no (ho : rOK c) (h : JR c D K S) : JK c D K (some (.int (-1))) S := ⟨-1, rfl, fun z => absurd rfl z, fun _ => h⟩
theorem JK.yes (ho : rOK c) {v : Int32} (hv : ¬ v = -1) (h : K (some (.int v)) S) : JK c D K (some (.int v)) S := ⟨v, rfl, fun _ => w_X10_readExpression_7 ho v ⟨fun _ => h, fun z => absurd z hv⟩, fun z => absurd z hv⟩
/-- no bracket is open: the whole is read -/
theorem JC.top (ho : rOK c) {n : Nat} (hn : n < 320) (h21 : S.1 21 0 = 0) (h23 : S.1 23 0 = 0) (hK : K (some (.int (nI n))) S) : JC c D K S (nI n) := by
  refine w_X10_close_2 ho (nI n) ?_
  rw [h21, h23]
  exact ⟨fun _ => ⟨fun _ => ⟨_, rfl, JK.yes ho (nI_neg1 (by omega)) hK⟩, fun z => absurd rfl z⟩, fun z => absurd (by decide) z⟩
/-- one step of close -/
theorem JC.step (ho : rOK c) {r q op w j p a dp : Nat} (hT : RTX S ch len fd) (hc : chO ch len) (h20 : S.1 20 0 = nI a) (ha : a < 200) (h21 : S.1 21 0 = nI (dp + 1)) (hdp : dp < 6) (h23 : S.1 23 0 = 0) (h24 : S.1 24 dp = nI r) (hr : r < 320) (hq : q < 320) (hj : j ≤ 2) (hs : kst S r j) (h4 : S.1 4 r = nI op) (hop : op < 65536) (h8 : S.1 8 r = nI w) (hp : pO fd (some op) = some p)
    (h1 : j + 1 < p → ∀ S', S'.2 = S.2 → S'.1 (5 + j) r = nI q → kst S' r (j + 1) → (∀ f i, ¬ (f = 5 + j ∧ i = r) → ¬ (f = 22 ∧ i = 0) → S'.1 f i = S.1 f i) → (j = 0 ∧ op = 58 → S'.1 22 0 = S.1 22 0 ||| (1 <<< (nI w &&& 31))) → (¬ (j = 0 ∧ op = 58) → S'.1 22 0 = S.1 22 0) → JR c D K S')
    (h2 : p ≤ j + 1 → ¬ ch a = some 41 → ∀ S', S'.2 = S.2 → (∀ f i, ¬ (f = 5 + j ∧ i = r) → ¬ (f = 22 ∧ i = 0) → ¬ (f = 23 ∧ i = 0) → S'.1 f i = S.1 f i) → S'.1 23 0 = 1 → K (some (.int (-1))) S')
    (h3 : p ≤ j + 1 → ch a = some 41 → ∀ S', S'.2 = S.2 → S'.1 (5 + j) r = nI q → kst S' r (j + 1) → (∀ f i, ¬ (f = 5 + j ∧ i = r) → ¬ (f = 22 ∧ i = 0) → ¬ (f = 20 ∧ i = 0) → ¬ (f = 21 ∧ i = 0) → S'.1 f i = S.1 f i) → S'.1 20 0 = nI (a + 1) → S'.1 21 0 = nI dp → (∃ s1 : Int32, (j = 0 ∧ op = 58 → s1 = S.1 22 0 ||| (1 <<< (nI w &&& 31))) ∧ (¬ (j = 0 ∧ op = 58) → s1 = S.1 22 0) ∧ (op = 58 → S'.1 22 0 = s1 &&& ((1 <<< (nI w &&& 31)) ^^^ (-1))) ∧ (¬ op = 58 → S'.1 22 0 = s1)) → JC c D K S' (nI r)) :
    JC c D K S (nI q) := by
  have ix : am_ix (nI r) r 320 := am_ix_n hr (by decide)
  have p3 : p ≤ 3 := by
    unfold pO at hp
    simp only at hp
    (repeat' split at hp) <;> first | (cases hp; done) | (injection hp with hp; omega)
  refine w_X10_close_2 ho (nI q) ?_
  rw [h21, h23]
  have d0 : ¬ nI (dp + 1) ≤ 0 := fun z => by
    have := (nI_leI (b := 0) (by omega) (by decide)).mp z
    omega
  refine ⟨fun z => absurd z d0, fun _ => ⟨fun z => absurd rfl z, fun _ => ⟨dp, ?_, ?_⟩⟩⟩
  · rw [nI_pred]; exact am_ix_n (by omega) (by decide)
  · rw [h24]
    refine r_give ho hr hq hj hs h4 hop h8 fun S1 g1 g2 g3 g4 g5 g6 => ⟨rfl, r_had ho hr (by omega) g3 ⟨_, rfl, r, ix, ?_⟩⟩
    have T1 : RTX S1 ch len fd := by
      refine ⟨by rw [g4 2 0 (by omega) (by omega)]; exact hT.1, fun i hi => ?_, fun i hi => by rw [g4 12 i (by omega) (by omega)]; exact hT.2.2 i hi⟩
      obtain ⟨y, y1, y2⟩ := hT.2.1 i hi
      exact ⟨y, y1, by rw [g4 3 i (by omega) (by omega)]; exact y2⟩
    rw [g4 4 r (by omega) (by omega), h4]
    refine r_partsOf ho (x := some op) T1 (fun y e => by cases e; exact hop) ⟨_, rfl, fun z => ?_, fun z => ?_⟩
    · rw [hp] at z
      have z : nI p ≤ nI (j + 1) := z
      have z := (nI_leI (by omega) (by omega)).mp z
      have e20 : S1.1 20 0 = nI a := by rw [g4 20 0 (by omega) (by omega)]; exact h20
      have e21 : S1.1 21 0 = nI (dp + 1) := by rw [g4 21 0 (by omega) (by omega)]; exact h21
      refine r_peek ho T1 hc e20 ha ⟨_, rfl, fun y => ⟨r, ix, ?_⟩, fun y => ?_⟩
      · have y : ch a = some 41 := (rf_eq (fun u hu => by have := hc.2.2 _ _ hu; omega) 41 (by decide)).mp y
        rw [e20, e21, nI_1, nI_pred, g4 4 r (by omega) (by omega), h4, show nI op = 58 ↔ op = 58 from nI_is (b := 58) (by omega) (by decide)]
        refine ⟨fun n58 => ?_, fun y58 => ⟨r, ix, ?_⟩⟩
        · refine h3 z y _ g1 ?_ (fun i hi => ?_) (fun f i q1 q2 q3 q4 => ?_) ?_ (rsi_i _ _ _ _) ⟨S1.1 22 0, g5, g6, fun y' => absurd y' n58, fun _ => ?_⟩
          · rw [rsi_ne _ _ (by omega), rsi_ne _ _ (by omega)]; exact g2
          · rw [rsi_ne _ _ (by omega), rsi_ne _ _ (by omega)]; exact g3 i hi
          · rw [rsi_ne _ _ q4, rsi_ne _ _ q3]; exact g4 f i q1 q2
          · rw [rsi_ne _ _ (by omega), rsi_i]
          · rw [rsi_ne _ _ (by omega), rsi_ne _ _ (by omega)]
        · rw [g4 8 r (by omega) (by omega), h8]
          refine h3 z y _ g1 ?_ (fun i hi => ?_) (fun f i q1 q2 q3 q4 => ?_) ?_ ?_ ⟨S1.1 22 0, g5, g6, fun _ => rsi_i _ _ _ _, fun y' => absurd y58 y'⟩
          · rw [rsi_ne _ _ (by omega), rsi_ne _ _ (by omega), rsi_ne _ _ (by omega)]; exact g2
          · rw [rsi_ne _ _ (by omega), rsi_ne _ _ (by omega), rsi_ne _ _ (by omega)]; exact g3 i hi
          · rw [rsi_ne _ _ q2, rsi_ne _ _ q4, rsi_ne _ _ q3]; exact g4 f i q1 q2
          · rw [rsi_ne _ _ (by omega), rsi_ne _ _ (by omega), rsi_i]
          · rw [rsi_ne _ _ (by omega), rsi_i]
      · have y : ¬ ch a = some 41 := fun w => y ((rf_eq (fun u hu => by have := hc.2.2 _ _ hu; omega) 41 (by decide)).mpr w)
        refine ⟨_, rfl, JK.no ho (JR.wrong ho (by rw [rsi_i]; decide) ?_)⟩
        refine h2 z y _ g1 (fun f i q1 q2 q3 => ?_) (rsi_i _ _ _ _)
        rw [rsi_ne _ _ q3]; exact g4 f i q1 q2
    · rw [hp] at z
      have z : ¬ nI p ≤ nI (j + 1) := z
      have z : ¬ p ≤ j + 1 := fun w => z ((nI_leI (by omega) (by omega)).mpr w)
      exact ⟨_, rfl, JK.no ho (h1 (by omega) S1 g1 g2 g3 g4 g5 g6)⟩
end RRB
