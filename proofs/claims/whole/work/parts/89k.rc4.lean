/-! The reference's checker: bindings and calls conclude. -/
theorem div7_neg : (-1 : Int32) / 7 = 0 := by decide
theorem rch_join {p n : Nat} (h3 : 3 ≤ n) (h7 : n < 7) : ((rch p (if n < 5 then 1 else 2)).bind fun q => rch q (if n % 2 = 1 then 1 else 2)) = rch p n := by
  have key : ∀ q1 q2, (q1 = 1 ∨ q1 = 2) → (q2 = 1 ∨ q2 = 2) → n = 2 * q1 + q2 → ((rch p q1).bind fun q => rch q q2) = rch p n := by
    intro q1 q2 h1 h2 hn
    unfold rch
    rw [if_neg (show ¬ q1 = 0 by omega), if_neg (show ¬ n = 0 by omega)]
    by_cases m0 : p % 7 = 0
    · rw [if_pos m0, if_pos m0]
      show (if q2 = 0 then _ else _) = _
      rw [if_neg (by omega), if_neg (by omega), if_pos (by omega)]
      congr 1
      omega
    · rw [if_neg m0, if_neg m0, if_neg (show ¬ (p % 7 ≤ 2 ∧ n ≤ 2) by omega)]
      by_cases m2 : p % 7 ≤ 2
      · rw [if_pos ⟨m2, by omega⟩]
        have hm : (p - p % 7 + 2 * (p % 7) + q1) % 7 = 2 * (p % 7) + q1 := by
          rcases h1 with h1 | h1 <;> subst h1 <;> omega
        show (if q2 = 0 then _ else if (p - p % 7 + 2 * (p % 7) + q1) % 7 = 0 then _ else if (p - p % 7 + 2 * (p % 7) + q1) % 7 ≤ 2 ∧ q2 ≤ 2 then _ else _) = _
        rw [hm, if_neg (by omega), if_neg (by omega), if_neg (by omega)]
      · rw [if_neg (fun z => m2 z.1)]
        rfl
  by_cases a : n < 5
  · rw [if_pos a]
    by_cases b : n % 2 = 1
    · rw [if_pos b]; exact key 1 1 (by omega) (by omega) (by omega)
    · rw [if_neg b]; exact key 1 2 (by omega) (by omega) (by omega)
  · rw [if_neg a]
    by_cases b : n % 2 = 1
    · rw [if_pos b]; exact key 2 1 (by omega) (by omega) (by omega)
    · rw [if_neg b]; exact key 2 2 (by omega) (by omega) (by omega)
theorem rch56 {p q r : Nat} (hp : p < 56) (hq : q < 7) (h : rch p q = some r) : r < 56 := by
  unfold rch at h
  split at h
  · cases h; exact hp
  · split at h
    · cases h; omega
    · split at h
      · cases h; omega
      · cases h
section RCD
variable {c : rX} {d : Nat} {S : rS} {K : Option Value → rS → Prop} {B a : Nat} {g : nV}
theorem r_joined (ho : rOK c) {p n : Nat} (hp : p < 56) (hn : n < 7) (hK : K (some (.int (rfI (rch p n)))) S) : rM c (d + 1) eX10_joined [.int (nI p), .int (nI n)] S K := by
  have e0 : nI n = 0 ↔ n = 0 := nI_is (b := 0) (by omega) (by decide)
  have e1 : nI n = 1 ↔ n = 1 := nI_is (b := 1) (by omega) (by decide)
  have e3 : (3 : Int32) ≤ nI n ↔ 3 ≤ n := nI_leI (a := 3) (by decide) (by omega)
  have e5 : (5 : Int32) ≤ nI n ↔ 5 ≤ n := nI_leI (a := 5) (by decide) (by omega)
  have one : ∀ (o : Option Nat) (q : Nat), o = some q → q < 56 → ∀ q', o = some q' → q' < 56 := fun o q e h q' e' => by rw [e] at e'; cases e'; exact h
  refine w_X10_joined ho (nI p) (nI n) ?_
  rw [e0, e1, e3, e5]
  refine ⟨fun z0 => ⟨fun z3 => ?_, fun z3 => ⟨fun z1 => ?_, fun z1 => ?_⟩⟩, fun z0 => ?_⟩
  · have two : ∀ isA : Bool, (isA = true ↔ n < 5) → rG c eX10_joined (d + 1) (rQ c K) 37 [none, some (.int (nI n)), none] [.int (if isA = true then 1 else 0), .int (nI p)] S := by
      intro isA hA
      have eq : (if isA = true then 1 else 2) = (if n < 5 then 1 else 2) := if_iff hA 1 2
      refine w_X10_joined_37 ho (nI n) _ (nI p) (r_further ho (o := some p) (fun q e => by cases e; exact hp) isA ⟨_, rfl, ?_⟩)
      have eb : ((some p : Option Nat).bind fun p => rch p (if isA = true then 1 else 2)) = rch p (if n < 5 then 1 else 2) := by rw [← eq]; rfl
      rw [eb]
      have jn := rch_join (p := p) z3 hn
      generalize eo : rch p (if n < 5 then 1 else 2) = o at jn
      have ho' : ∀ r, o = some r → r < 56 := fun r er => rch56 hp (q := if n < 5 then 1 else 2) (by split <;> decide) (by rw [eo]; exact er)
      rw [rfI_n1 ho']
      refine ⟨fun zo => ?_, fun zo => ?_⟩
      · cases o with
        | none => exact absurd rfl zo
        | some r =>
          have r56 := ho' r rfl
          have m2 : nI n - nI n / 2 * 2 = nI (n % 2) := pk_rem (d := 2) (by omega) (by decide) (by decide)
          rw [m2, show nI (n % 2) = 1 ↔ n % 2 = 1 from nI_is (b := 1) (by omega) (by decide)]
          have jn : rch r (if n % 2 = 1 then 1 else 2) = rch p n := jn
          refine ⟨fun zm => ?_, fun zm => ?_⟩
          · rw [if_neg zm] at jn
            refine r_further ho (o := some r) (fun q e => by cases e; exact r56) false ⟨_, rfl, ?_⟩
            show K (some (.int (rfI (rch r 2)))) S
            rw [jn]
            exact hK
          · rw [if_pos zm] at jn
            refine r_further ho (o := some r) (fun q e => by cases e; exact r56) true ⟨_, rfl, ?_⟩
            show K (some (.int (rfI (rch r 1)))) S
            rw [jn]
            exact hK
      · subst zo
        have jn : none = rch p n := jn
        rw [← jn] at hK
        exact hK
    exact ⟨fun z5 => two false ⟨fun w => (by cases w), fun w => absurd w (by omega)⟩, fun z5 => two true ⟨fun _ => (by omega), fun _ => rfl⟩⟩
  · have : n = 2 := by omega
    subst this
    exact r_further ho (o := some p) (fun q e => by cases e; exact hp) false ⟨_, rfl, hK⟩
  · subst z1
    exact r_further ho (o := some p) (fun q e => by cases e; exact hp) true ⟨_, rfl, hK⟩
  · subst z0
    have : rch p 0 = some p := if_pos rfl
    rw [this] at hK
    exact hK
theorem q_call (ho : rOK c) (h1 : hB B) (h2 : a < 64) {b i e pt kk : Nat} {y no : Int64} {F : nF} (hi3 : i < 3) (hpt : pt < 32) (hkk : kk < 32) (h4 : S.1 4 (B + a) = nI (71 + i)) (h5 : S.1 5 (B + a) = nI (B + b)) (h9 : S.1 9 (B + a) = nI e) (hb : b < 64) (hF : fnd S b F) (hY : vw (wv S 36 0) g) (hN : vw (wv S 37 0) g)
    (h14 : S.1 14 i = nI pt) (h15 : S.1 15 i = nI kk) (h16 : ∀ k, k < 7 → S.1 16 (7 * i + k) = nI (kd y k)) (h17 : ∀ k, k < 7 → S.1 17 (7 * i + k) = nI (kd no k))
    (hE : F.1 &&& (31 - pt) ≠ 0 → ∀ S', S'.2 = S.2 → (∀ f i, ¬ (f = 38 ∧ i = 0) → ¬ (f = 1 ∧ i = 0) → S'.1 f i = S.1 f i) → S'.1 38 0 = 1 → S'.1 1 0 = nI e → K none S')
    (hK : ¬ F.1 &&& (31 - pt) ≠ 0 → ∀ S', ffr a S S' → fnd S' a (nFin kk none (nFromO g F.2.1 y) (nFromO g F.2.1 no)) → K none S') : rM c (d + 3) eX10_concludeCall [.ref c.2.2.1, .int (nI (B + a))] S K := by
  have r320 : B + a < 320 := by rcases h1 with h | h | h | h | h <;> omega
  have ir : am_ix (nI (B + a)) (B + a) 320 := am_ix_n r320 (by decide)
  obtain ⟨e1, e2, e3, e4, e5, e6⟩ := hF
  have ei : S.1 4 (B + a) - 71 = nI i := by
    rw [h4]
    have := pk_sub (a := 71 + i) (b := 71) (by omega)
    rw [show 71 + i - 71 = i by omega] at this
    exact this
  have ix : am_ix (nI i) i 3 := am_ix_n hi3 (by decide)
  refine w_X10_concludeCall ho (nI (B + a)) ⟨B + a, ir, B + a, ir, ?_⟩
  rw [h5, ei]
  refine r_typeOf ho h1 hb ⟨_, rfl, i, ix, ?_⟩
  rw [e1, h14, (t_test pt hpt F.1 e3).1]
  refine ⟨fun z => r_placeOf ho h1 hb ⟨_, rfl, ?_⟩, fun z => q_refuse ho r320 h9 fun S' a1 a2 a3 a4 => ⟨rfl, hE z S' a1 a2 a3 a4⟩⟩
  have hK := hK (fun w => w z)
  rw [e2]
  have fin : ∀ (S6 : rS) (Y N : nV), ffr a S S6 → vw (wv S6 36 0) Y → vw (wv S6 37 0) N → (∀ S', ffr a S S' → fnd S' a (nFin kk none Y N) → K none S') → rG c eX10_concludeCall (d + 2 + 1) (rQ c K) 131 [some (.ref c.2.2.1), some (.int (nI (B + a))), some (.int (nI i)), none, none, none, none] [] S6 := by
    intro S6 Y N f6 y6 n6 k6
    refine w_X10_concludeCall_131 ho (nI (B + a)) (nI i) ⟨i, ix, ?_⟩
    rw [f6.1 15 i (by omega), h15]
    exact r_finish ho h1 h2 (p := none) hkk (fun q e => by cases e) y6 n6 fun S' f' e' => ⟨rfl, k6 S' (f6.trans f') e'⟩
  cases ep : F.2.1 with
  | none =>
    rw [ep] at hK
    refine w_X10_concludeCall_50 ho (nI (B + a)) (nI i) (-1) 0 ⟨fun z => absurd z (by decide), fun _ => ⟨fun _ => fin S _ _ (ffr.refl _ _) hY hN hK, fun z => absurd rfl z⟩⟩
  | some p =>
    have p56 := e4 p ep
    rw [ep] at hK
    have key : ∀ m n : Nat, n + m = 7 → ∀ S6, ffr a S S6 → vw (wv S6 36 0) (nFrom g p y n) → vw (wv S6 37 0) (nFrom g p no n) → rG c eX10_concludeCall (d + 2 + 1) (rQ c K) 50 [some (.ref c.2.2.1), some (.int (nI (B + a))), some (.int (nI i)), none, some (.int (nI p)), some (.int (nI n)), none] [] S6 := by
      intro m
      induction m with
      | zero =>
        intro n hn S6 f6 y6 n6
        have : n = 7 := by omega
        subst this
        exact w_X10_concludeCall_50 ho (nI (B + a)) (nI i) (nI p) (nI 7) ⟨fun _ => fin S6 _ _ f6 y6 n6 hK, fun z => absurd (by decide) z⟩
      | succ m ih =>
        intro n hn S6 f6 y6 n6
        have n7 : ¬ (7 : Int32) ≤ nI n := fun z => by
          have := (nI_leI (a := 7) (b := n) (by decide) (by omega)).mp z
          omega
        refine w_X10_concludeCall_50 ho (nI (B + a)) (nI i) (nI p) (nI n) ⟨fun z => absurd z n7, fun _ => ⟨fun z => absurd z (nI_neg1 (by omega)), fun _ => r_joined ho p56 (by omega) ⟨_, rfl, ?_⟩⟩⟩
        have ho' : ∀ r, rch p n = some r → r < 56 := fun r er => rch56 p56 (by omega) er
        rw [rfI_n1 ho', nI_1]
        have nx := ih (n + 1) (by omega)
        unfold nFrom at nx
        refine ⟨fun zo => ?_, fun zo => ?_⟩
        · cases er : rch p n with
          | none => exact absurd er zo
          | some r =>
            have r56 := ho' r er
            rw [er] at nx
            simp only at nx
            have j21 : am_ix (7 * nI i + nI n) (7 * i + n) 21 := by rw [show (7 : Int32) * nI i = nI (7 * i) from pk_mul 7 i, nI_add]; exact am_ix_n (by omega) (by decide)
            refine ⟨7 * i + n, j21, ?_⟩
            rw [f6.1 16 _ (by omega), h16 n (by omega)]
            refine v_restrict ho (k1 := 27) (f1 := 36) (n1 := 5) (i := 0) rfl (by decide) (by decide) (kd_lt _ _) ⟨rfl, 7 * i + n, j21, ?_⟩
            have f7 := f6.trans (ffr_w a S6 36 (Or.inl rfl) (wRes (wv S6 36 0) r (kd y n)))
            have y7 : vw (wv (put S6 36 0 5 (wRes (wv S6 36 0) r (kd y n))) 36 0) (nRes (nFrom g p y n) r (kd y n)) := (y6.res r56).cong fun k hk => wv_in _ _ _ _ k hk
            have n7' : vw (wv (put S6 36 0 5 (wRes (wv S6 36 0) r (kd y n))) 37 0) (nFrom g p no n) := n6.cong fun k hk => wv_out (Or.inl (by decide)) k hk
            generalize put S6 36 0 5 (wRes (wv S6 36 0) r (kd y n)) = S7 at f7 y7 n7' ⊢
            rw [f7.1 17 _ (by omega), h17 n (by omega)]
            refine v_restrict ho (k1 := 28) (f1 := 37) (n1 := 5) (i := 0) rfl (by decide) (by decide) (kd_lt _ _) ⟨rfl, ?_⟩
            exact nx _ (f7.trans (ffr_w a S7 37 (Or.inr rfl) _)) (y7.cong fun k hk => wv_out (Or.inl (by decide)) k hk) ((n7'.res r56).cong fun k hk => wv_in _ _ _ _ k hk)
        · rw [zo] at nx
          exact nx S6 f6 y6 n6
    exact key 7 0 rfl S (ffr.refl _ _) hY hN
theorem q_let (ho : rOK c) (h1 : hB B) (h2 : a < 64) {b2 x : Nat} {G : nF} {own : Bool} (hx : 2 ≤ x ∧ x < 8) (h8 : S.1 8 (B + a) = nI x) (h6 : S.1 6 (B + a) = nI (B + b2)) (hb2 : b2 < 64) (n2 : b2 ≠ a) (hG : fnd S b2 G) (h33 : S.1 33 x = if own = true then 1 else 0)
    (hK : ∀ S', ffr a S S' → fnd S' a (if own = true then nFin G.1 (nGone G.2.1 x) (nDrop G.2.2.1 x) (nDrop G.2.2.2 x) else nFin G.1 G.2.1 G.2.2.1 G.2.2.2) → K none S') : rM c (d + 3) eX10_concludeLet [.ref c.2.2.1, .int (nI (B + a))] S K := by
  have ir : am_ix (nI (B + a)) (B + a) 320 := am_ix_n (by rcases h1 with h | h | h | h | h <;> omega) (by decide)
  have ix : am_ix (S.1 8 (B + a)) x 8 := by rw [h8]; exact am_ix_n hx.2 (by decide)
  refine w_X10_concludeLet ho (nI (B + a)) ⟨B + a, ir, B + a, ir, ?_⟩
  rw [h6]
  refine r_five ho h1 hb2 ⟨_, rfl, w_cp ho (a := a) (k1 := 18) (f1 := 27) (k2 := 27) (f2 := 36) rfl rfl (Or.inl rfl) (Or.inl rfl) hb2 hG.2.2.2.2.1 fun S1 f1 y1 g1 => ⟨rfl, r_five ho h1 hb2 ⟨_, rfl, ?_⟩⟩⟩
  refine w_cp ho (a := a) (k1 := 19) (f1 := 28) (k2 := 28) (f2 := 37) rfl rfl (Or.inr rfl) (Or.inr rfl) hb2 ((hG.f f1 n2).2.2.2.2.2) fun S3 f3 n3' g3 => ⟨rfl, x, ix, ?_⟩
  have F3 := f1.trans f3
  have y3 : vw (wv S3 36 0) G.2.2.1 := y1.same (g3 36 (by decide))
  rw [F3.1 33 x (by omega), h33, h8]
  -- the end
  have last : ∀ (S6 : rS) (Y N : nV) (s0 : Bool), ffr a S S6 → vw (wv S6 36 0) Y → vw (wv S6 37 0) N → (∀ S', ffr a S S' → fnd S' a (nFin G.1 (if s0 = true then none else G.2.1) Y N) → K none S') → rG c eX10_concludeLet (d + 2 + 1) (rQ c K) 101 [some (.ref c.2.2.1), some (.int (nI (B + a))), none, some (.int (nI (B + b2))), some (.int (if s0 = true then 1 else 0))] [] S6 := by
    intro S6 Y N s0 f6 y6 n6 k6
    have G6 := hG.f f6 n2
    refine w_X10_concludeLet_101 ho (nI (B + a)) (nI (B + b2)) _ (r_typeOf ho h1 hb2 ⟨_, rfl, r_placeOf ho h1 hb2 ⟨_, rfl, ?_⟩⟩)
    rw [G6.1, G6.2.1, rfI_n1 G6.2.2.2.1]
    refine ⟨fun z => ?_, fun z => ⟨fun z0 => r_placeOf ho h1 hb2 ⟨_, rfl, ?_⟩, fun z0 => ?_⟩⟩
    · have e : (if s0 = true then none else G.2.1) = none := by split; rfl; exact z
      rw [e] at k6
      exact r_finish ho h1 h2 (p := none) hG.2.2.1 (fun q e => by cases e) y6 n6 fun S' f' e' => ⟨rfl, k6 S' (f6.trans f') e'⟩
    · have e : ¬ s0 = true := fun w => by rw [if_pos w] at z0; exact absurd z0 (by decide)
      rw [if_neg e] at k6
      rw [G6.2.1]
      exact r_finish ho h1 h2 hG.2.2.1 hG.2.2.2.1 y6 n6 fun S' f' e' => ⟨rfl, k6 S' (f6.trans f') e'⟩
    · have e : s0 = true := by
        cases s0 with
        | true => rfl
        | false => exact absurd rfl z0
      rw [if_pos e] at k6
      exact r_finish ho h1 h2 (p := none) hG.2.2.1 (fun q e => by cases e) y6 n6 fun S' f' e' => ⟨rfl, k6 S' (f6.trans f') e'⟩
  cases own with
  | false =>
    refine ⟨fun _ => ?_, fun z => absurd rfl z⟩
    refine w_X10_concludeLet_74 ho (nI (B + a)) (nI x) (nI (B + b2)) 0 ⟨x, am_ix_n hx.2 (by decide), ?_⟩
    rw [F3.1 33 x (by omega), h33]
    exact ⟨fun _ => last S3 _ _ false F3 y3 n3' hK, fun z => absurd rfl z⟩
  | true =>
    refine ⟨fun z => absurd z (by decide), fun _ => r_placeOf ho h1 hb2 ⟨_, rfl, ?_⟩⟩
    have dr : ∀ s0 : Bool, (if s0 = true then none else G.2.1) = nGone G.2.1 x → rG c eX10_concludeLet (d + 2 + 1) (rQ c K) 74 [some (.ref c.2.2.1), some (.int (nI (B + a))), some (.int (nI x)), some (.int (nI (B + b2))), none] [.int (if s0 = true then 1 else 0)] S3 := by
      intro s0 es
      refine w_X10_concludeLet_74 ho (nI (B + a)) (nI x) (nI (B + b2)) _ ⟨x, am_ix_n hx.2 (by decide), ?_⟩
      rw [F3.1 33 x (by omega), h33]
      refine ⟨fun z => absurd z (by decide), fun _ => ?_⟩
      refine r_drop ho (a := a) (k1 := 27) (f1 := 36) rfl (Or.inl rfl) hx.2 y3 fun S4 f4 y4 g4 => ⟨rfl, ?_⟩
      refine r_drop ho (a := a) (k1 := 28) (f1 := 37) rfl (Or.inr rfl) hx.2 (n3'.same (g4 37 (by decide))) fun S5 f5 n5 g5 => ⟨rfl, ?_⟩
      refine last S5 _ _ s0 (F3.trans (f4.trans f5)) (y4.same (g5 36 (by decide))) n5 fun S' f' e' => hK S' f' ?_
      rw [es] at e'
      exact e'
    rw [(hG.f F3 n2).2.1]
    cases ep : G.2.1 with
    | none =>
      have e0 : rfI (none : Option Nat) / 7 = 0 := div7_neg
      rw [e0]
      have n0 : ¬ (0 : Int32) = nI x := fun w => by
        have := (nI_eq (a := 0) (b := x) (by decide) (by omega)).mp w
        omega
      exact ⟨fun _ => dr false (by rw [ep]; rfl), fun z => absurd z n0⟩
    | some p =>
      have p56 := hG.2.2.2.1 p ep
      have e7 : rfI (some p) / 7 = nI (p / 7) := pk_div (a := p) (d := 7) (by omega) (by decide) (by decide)
      rw [e7, show nI (p / 7) = nI x ↔ p / 7 = x from nI_is (by omega) (by omega)]
      refine ⟨fun z => dr false ?_, fun z => dr true ?_⟩
      · rw [ep]
        show some p = if p / 7 = x then none else some p
        rw [if_neg z]
      · rw [ep]
        show none = if p / 7 = x then none else some p
        rw [if_pos z]
end RCD
