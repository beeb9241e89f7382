/-! The reference's checker agrees with the checker by names: every node. -/
section RCH
variable {c : rX} {D : Nat} {fx : fnT} {fd : Nat → Bool} {T : Nat → nd} {B : Nat}
theorem ac_ok (ho : rOK c) (h1 : hB B) (hfx : ∀ i, i < 3 → fd i = true → (fx i).isSome = true) : ∀ k, acC c D fx fd T B k := by
  intro k
  induction k with
  | zero => intro K S a b m lo sl sh h sc sm g nm ow t; exact absurd t id
  | succ k ih =>
    intro K S a b m lo sl sh h sc sm g nm ow t hb w wN np hR hX hv hh h79 h31 h25 h38 hE hG
    have lt := rTr_lt t
    have h2 : a < 64 := by omega
    have hop : (T m).1 < 65536 := w.2.2.2.2.1
    have t0 := t
    obtain ⟨t4, t8, t9, tk⟩ := t
    rw [nk] at hE hG
    have stp : ∀ {X Y : rS}, (∀ f i, ¬ (f = 25 ∧ i = h - 1) → Y.1 f i = X.1 f i) → Y.2 = X.2 → afq a b h sm X Y := fun e1 e2 => ffr_25 e1 e2 hh
    by_cases hI : nImp g = true
    · rw [if_pos hI] at hG
      refine JA.step ho hh (by omega) (by decide) h38 h31 h25 (np_imp ho h1 h2 (S := rsi S 25 (h - 1) (nI (0 + 1))) hv hI fun S' f' e' => ⟨-1, rfl, fun z => absurd rfl z, fun _ => ?_⟩)
      have f0 : afq a b h sm S (rsi S 25 (h - 1) (nI (0 + 1))) := stp (fun f i z => rsi_ne _ _ z) rfl
      refine hG _ rfl S' (f0.trans (f'.q (by omega))) ?_ ?_ e'
      · rw [f'.1 38 0 (by omega), rsi_ne _ _ (by omega)]; exact h38
      · rw [f'.1 1 0 (by omega), rsi_ne _ _ (by omega)]
    · rw [if_neg hI] at hE hG
      by_cases ne : (T m).2.2.2.2 = []
      · -- a leaf
        have w7 := w.2.2.2.2.2.2
        rw [ne] at w7 tk
        have nl := w7.2.2.2
        simp only [List.mem_cons, List.not_mem_nil, or_false, not_or] at nl
        rw [if_neg (by omega), if_neg (by omega), if_neg (by omega), if_neg (by omega), if_neg (by omega), if_neg (by omega), if_neg (by omega), if_neg (by omega), if_neg (by omega)] at hG
        obtain ⟨k5, k6, k7, hb1⟩ := tk
        refine ac_con (g := g) ho h1 h2 (by decide) (fun _ => ⟨hv, hI⟩) hh (by omega) h38 h31 h25 k5 fun S1 o1 o2 => ?_
        have hv1 : vw (wv S1 26 (5 * a)) g := by unfold wv; rw [o2]; exact hv
        have f1 : afq a b h sm S S1 := stp o1 o2
        have fin : ∀ F S', ffr a S1 S' → fnd S' a F → (∀ S', afq a b h sm S S' → S'.1 38 0 = 0 → S'.1 1 0 = S.1 1 0 → fnd S' a F → JA c D K S' (h - 1)) → JA c D K S' (h - 1) := by
          intro F S' f' e' kk
          refine kk S' (f1.trans (f'.q (by omega))) ?_ ?_ e'
          · rw [f'.1 38 0 (by omega), o1 38 0 (by omega)]; exact h38
          · rw [f'.1 1 0 (by omega), o1 1 0 (by omega)]
        have wN' : ∀ s, (T m).2.2.2.1 = some s → sm ((T m).1 - 97) = some s := by
          unfold wn at wN
          rw [ne] at wN
          exact wN
        cases e : (T m).2.2.2.1 with
        | none =>
          rw [e] at hG
          have hK := (np m (Nat.le_refl _)).1 ne e
          have sg : sgn (T m) = if 48 ≤ (T m).1 ∧ (T m).1 ≤ 57 then 48 else (T m).1 := by unfold sgn; rw [if_pos ne, e]
          unfold isK at hK
          have sgv : sgn (T m) = 48 ∨ sgn (T m) = 35 ∨ sgn (T m) = 126 ∨ sgn (T m) = 46 := by rw [sg]; split <;> omega
          have ec : (if sgn (T m) = 35 then 2 else if sgn (T m) = 126 then 4 else if sgn (T m) = 46 then 8 else if sgn (T m) = 48 then 1 else 16) = ckConst (T m).1 := by
            unfold ckConst
            rw [sg]
            by_cases q : 48 ≤ (T m).1 ∧ (T m).1 ≤ 57
            · rw [if_pos q, if_neg (show ¬ (T m).1 = 35 by omega), if_neg (show ¬ (T m).1 = 126 by omega), if_neg (show ¬ (T m).1 = 46 by omega)]
              decide
            · rw [if_neg q]
              by_cases q1 : (T m).1 = 35
              · rw [if_pos q1, if_pos q1]
              · rw [if_neg q1, if_neg q1]
                by_cases q2 : (T m).1 = 126
                · rw [if_pos q2, if_pos q2]
                · rw [if_neg q2, if_neg q2, if_pos (show (T m).1 = 46 by omega), if_pos (show (T m).1 = 46 by omega)]
          refine cn_ok ho h1 h2 (K := fun v S9 => v = none ∧ JA c D K S9 (h - 1)) (g := g) (sg := sgn (T m)) (by rw [o1 4 _ (by omega)]; exact t4) (by omega) hv1 fun S2 f2 y2 n2 => ⟨fun z => absurd z (by omega), fun z => absurd z (by omega), fun z => absurd z (by omega), fun z => absurd z (by omega), fun z => absurd z (by omega), fun z => absurd z (by omega), fun z => absurd z (by omega), fun z => absurd z (by omega), fun z => absurd z (by omega), fun z => absurd z (by omega), fun _ S' f' e' => ⟨rfl, ?_⟩, by omega⟩
          rw [ec] at e'
          exact fin _ S' f' e' (hG _ rfl)
        | some s =>
          rw [e] at hG
          simp only at hG
          have c97 := (np m (Nat.le_refl _)).2.2.1 ne s e
          have hs := wN' s e
          have sg : sgn (T m) = 97 := by unfold sgn; rw [if_pos ne, e]
          have wh : wht (T m) = (T m).1 - 97 := by unfold wht; rw [if_pos ne, e]
          obtain ⟨r1, r2, r3, r4⟩ := hR ((T m).1 - 97) (by rw [hs]; rfl)
          rw [wh] at t8
          rw [sg] at t4
          refine cn_ok ho h1 h2 (K := fun v S9 => v = none ∧ JA c D K S9 (h - 1)) (g := g) (sg := 97) (by rw [o1 4 _ (by omega)]; exact t4) (by decide) hv1 fun S2 f2 y2 n2 => ⟨fun z => absurd z (by decide), fun z => absurd z (by decide), fun z => absurd z (by decide), fun z => absurd z (by decide), fun z => absurd z (by decide), fun z => absurd z (by decide), fun z => absurd z (by decide), fun _ => ?_, fun z => absurd z (by decide), fun z => absurd z (by decide), fun z => absurd z (by decide), by decide⟩
          refine q_var ho h1 h2 (o := ow ((T m).1 - 97)) (p := nm ((T m).1 - 97)) (by rw [f2.1 8 _ (by omega), o1 8 _ (by omega)]; exact t8) r1 (by rw [f2.1 32 _ (by omega), o1 32 _ (by omega)]; exact r2) r3 (hv1.f f2 (by omega) (by omega)) y2 n2 ?_ (fun S' f' e' => ⟨rfl, rfl, ?_⟩)
          · rw [f2.1 33 _ (by omega), o1 33 _ (by omega)]
            rcases r4 with r4 | ⟨Y, N, e1, e2, e3, e4⟩
            · exact Or.inl r4
            · exact Or.inr ⟨Y, N, e1, e2, (e3.cong fun n hn => by unfold wv; rw [o2]).f f2 (by omega) (by omega), (e4.cong fun n hn => by unfold wv; rw [o2]).f f2 (by omega) (by omega)⟩
          · exact fin _ S' (f2.trans f') e' (hG _ rfl)
      · -- a bracket
        obtain ⟨mm, m1, m2, m3, m4, m5⟩ := wt_inv w ne
        have sgo : sgn (T m) = (T m).1 := by unfold sgn; rw [if_neg ne]
        rw [sgo] at t4
        -- the first part
        have first : ∀ (b1 : Nat), b1 ≤ b → rTr S T k (B + (a + 1)) (B + b1) (kid T m 0) → wn T k (kid T m 0) sm → S.1 5 (B + a) = nI (B + (a + 1)) →
            (∀ e, nk fx T k (kid T m 0) g nm ow = .inl e → ∀ S', afq a b h sm S S' → ¬ S'.1 38 0 = 0 → S'.1 1 0 = nI e → K (some (.int 0)) S') →
            (∀ F, nk fx T k (kid T m 0) g nm ow = .inr F → ∀ S3, afq a b h sm S S3 → S3.1 38 0 = 0 → S3.1 1 0 = S.1 1 0 → fnd S3 (a + 1) F → S3.1 31 (h - 1) = nI (B + a) → S3.1 25 (h - 1) = nI 1 → vw (wv S3 26 (5 * a)) g → JA c D K S3 h) → JA c D K S h := by
          intro b1 hb1 tq wq h5 kE kG
          have ltq := rTr_lt tq
          have o1 : ∀ f i, ¬ (f = 25 ∧ i = h - 1) → (rsi S 25 (h - 1) (nI (0 + 1))).1 f i = S.1 f i := fun f i z => rsi_ne _ _ z
          have o3 : (rsi S 25 (h - 1) (nI (0 + 1))).1 25 (h - 1) = nI 1 := rsi_i _ _ _ _
          have o2 : (rsi S 25 (h - 1) (nI (0 + 1))).2 = S.2 := rfl
          refine JA.step ho hh (by omega) (by decide) h38 h31 h25 ?_
          generalize rsi S 25 (h - 1) (nI (0 + 1)) = S0 at o1 o2 o3 ⊢
          have f0 : afq a b h sm S S0 := stp o1 o2
          have v0 : vw (wv S0 26 (5 * a)) g := by unfold wv; rw [o2]; exact hv
          refine np_go (g := g) ho h1 h2 (s := 0) (op := (T m).1) (b := a + 1) (q := a + 1) (by decide) (fun _ => ⟨v0, hI⟩) (by show S0.1 5 (B + a) = _; rw [o1 5 _ (by omega)]; exact h5) (by omega) (by omega) (by rw [o1 4 _ (by omega)]; exact t4) hop (by rw [o1 5 _ (by omega)]; exact h5) (by omega) (by omega) (fun z => absurd z.1 (by decide)) (fun z => absurd z (by omega)) (fun _ _ S1 d1 d2 d3 => ?_)
          have f1 : afq a b h sm S0 S1 := ⟨fun f i _ _ _ _ _ => by rw [d1], fun f i q1 _ _ => d3 f i (by omega)⟩
          have F1 := f0.trans f1
          have va : vw (wv S1 26 (5 * a)) g := v0.cong fun n hn => d3 26 _ (by omega)
          refine ac_push (sm := sm) (a := a) (b := b) ih h1 (s := 1) (by rw [d1, o1 31 _ (by omega)]; exact h31) (by rw [d1]; exact o3) (by rw [d1, o1 38 0 (by omega)]; exact h38) hh (by omega) (rTr_q tq F1) (by omega) m2 wq (fun i hi => np i (by omega)) (hR.q F1) (hX.q F1) (v0.cong d2) (fun _ z => z) (by omega) hb1 (fun e he S' f' q1 q2 => kE e he S' (F1.trans f') q1 q2) (fun F hF S' f'' f' q1 q2 q3 q4 q5 => ?_)
          refine kG F hF S' (F1.trans f') q1 (by rw [q2, d1, o1 1 0 (by omega)]) q3 q4 q5 (va.cong fun n hn => f''.2 26 _ (by omega) (by omega) (by omega))
        have h320 : B + a < 320 := by rcases h1 with h | h | h | h | h <;> omega
        -- a refusal
        have ref : ∀ (S1 S' : rS), afq a b h sm S S1 → S'.2 = S1.2 → (∀ f i, ¬ (f = 38 ∧ i = 0) → ¬ (f = 1 ∧ i = 0) → S'.1 f i = S1.1 f i) → S'.1 38 0 = 1 → S'.1 1 0 = nI (T m).2.1 → (∀ S', afq a b h sm S S' → ¬ S'.1 38 0 = 0 → S'.1 1 0 = nI (T m).2.1 → K (some (.int 0)) S') → JA c D K S' (h - 1) := by
          intro S1 S' f1 e2 e1 e38 e1' kk
          exact JA.fail ho (by rw [e38]; decide) (kk S' (f1.trans ⟨fun f i _ _ _ q4 q5 => e1 f i q4 q5, fun f i _ _ _ => by rw [e2]⟩) (by rw [e38]; decide) e1')
        -- the end of a node
        have fin : ∀ F (S1 S' : rS), afq a b h sm S S1 → S1.1 38 0 = 0 → S1.1 1 0 = S.1 1 0 → ffr a S1 S' → fnd S' a F → (∀ S', afq a b h sm S S' → S'.1 38 0 = 0 → S'.1 1 0 = S.1 1 0 → fnd S' a F → JA c D K S' (h - 1)) → JA c D K S' (h - 1) := by
          intro F S1 S' f1 e38 e1 f' e' kk
          exact kk S' (f1.trans (f'.q (by omega))) (by rw [f'.1 38 0 (by omega)]; exact e38) (by rw [f'.1 1 0 (by omega)]; exact e1) e'
        have nd : ∀ {X : rS}, afq a b h sm S X → ∀ f, 4 ≤ f → f ≤ 9 → ∀ i, X.1 f i = S.1 f i := fun l f q1 q2 i => l.1 f i (by omega) (by omega) (by omega) (by omega) (by omega)
        have con : ∀ (s : Nat) (S3 : rS), 1 ≤ s → s ≤ 3 → ptv S (B + a) s = -1 → afq a b h sm S S3 → S3.1 38 0 = 0 → S3.1 31 (h - 1) = nI (B + a) → S3.1 25 (h - 1) = nI s → (∀ S1, afq a b h sm S S1 → S1.1 38 0 = 0 → S1.1 1 0 = S3.1 1 0 → (∀ f i, ¬ (f = 25 ∧ i = h - 1) → S1.1 f i = S3.1 f i) → S1.2 = S3.2 → (∀ e F, fnd S3 e F → fnd S1 e F) → rM c (D + 4) eX10_conclude [.ref c.2.2.1, .int (nI (B + a))] S1 (fun v S9 => v = none ∧ JA c D K S9 (h - 1))) → JA c D K S3 h := by
          intro s S3 hs1 hs3 hp f3 e38 e31 e25 kk
          refine ac_con (g := g) ho h1 h2 (s := s) hs3 (fun z => absurd z (by omega)) hh (by omega) e38 e31 e25 ?_ fun S1 o1 o2 => kk S1 (f3.trans (stp o1 o2)) (by rw [o1 38 0 (by omega)]; exact e38) (o1 1 0 (by omega)) o1 o2 (fun e F hF => ?_)
          · unfold ptv at hp ⊢
            rw [nd f3 5 (by omega) (by omega), nd f3 6 (by omega) (by omega), nd f3 7 (by omega) (by omega)]
            exact hp
          · obtain ⟨q1, q2, q3, q4, q5, q6⟩ := hF
            exact ⟨by rw [o1 29 _ (by omega)]; exact q1, by rw [o1 30 _ (by omega)]; exact q2, q3, q4, by unfold wv; rw [o2]; exact q5, by unfold wv; rw [o2]; exact q6⟩
        -- a later part, no binding
        have second : ∀ (s q bq mq lo' sl' sh' : Nat) (g' : nV) (S3 : rS), 1 ≤ s → s ≤ 2 → (T m).1 ≠ 58 → a + 1 < q → bq ≤ b → mq < m → ptv S (B + a) s = nI (B + q) → S.1 5 (B + a) = nI (B + (a + 1)) → rTr S T k (B + q) (B + bq) mq → wt T k mq lo' sl' sh' sc → wn T k mq sm →
            afq a b h sm S S3 → S3.1 38 0 = 0 → S3.1 31 (h - 1) = nI (B + a) → S3.1 25 (h - 1) = nI s →
            ((s = 1 ∧ ((T m).1 = 63 ∨ (T m).1 = 38)) → vw (wv S3 27 (5 * (a + 1))) g') → (((s = 2 ∧ (T m).1 = 63) ∨ (s = 1 ∧ (T m).1 = 124)) → vw (wv S3 28 (5 * (a + 1))) g') → (¬ (s = 1 ∧ ((T m).1 = 63 ∨ (T m).1 = 38)) → ¬ ((s = 2 ∧ (T m).1 = 63) ∨ (s = 1 ∧ (T m).1 = 124)) → vw (wv S3 26 (5 * a)) g') →
            (∀ e, nk fx T k mq g' nm ow = .inl e → ∀ S', afq a b h sm S S' → ¬ S'.1 38 0 = 0 → S'.1 1 0 = nI e → K (some (.int 0)) S') →
            (∀ F, nk fx T k mq g' nm ow = .inr F → ∀ S5, afq a b h sm S S5 → S5.1 38 0 = 0 → S5.1 1 0 = S3.1 1 0 → fnd S5 q F → S5.1 31 (h - 1) = nI (B + a) → S5.1 25 (h - 1) = nI (s + 1) → (∀ e F, e < q → fnd S3 e F → fnd S5 e F) → (∀ g, vw (wv S3 26 (5 * a)) g → vw (wv S5 26 (5 * a)) g) → JA c D K S5 h) → JA c D K S3 h := by
          intro s q bq mq lo' sl' sh' g' S3 hs1 hs2 n58 haq hqb hmq hp h5 tq wt' wq f3 e38 e31 e25 hy hn hin kE kG
          have ltq := rTr_lt tq
          have o1 : ∀ f i, ¬ (f = 25 ∧ i = h - 1) → (rsi S3 25 (h - 1) (nI (s + 1))).1 f i = S3.1 f i := fun f i z => rsi_ne _ _ z
          have o3 : (rsi S3 25 (h - 1) (nI (s + 1))).1 25 (h - 1) = nI (s + 1) := rsi_i _ _ _ _
          have o2 : (rsi S3 25 (h - 1) (nI (s + 1))).2 = S3.2 := rfl
          refine JA.step ho hh (by omega) (by omega) e38 e31 e25 ?_
          generalize rsi S3 25 (h - 1) (nI (s + 1)) = S0 at o1 o2 o3 ⊢
          have f0 : afq a b h sm S S0 := f3.trans (stp o1 o2)
          -- when the view stands
          have go : ∀ S1 : rS, S1.1 = S0.1 → (∀ f i, ¬ (f = 26 ∧ 5 * q ≤ i ∧ i < 5 * q + 5) → S1.2 f i = S0.2 f i) → vw (wv S1 26 (5 * q)) g' → JN c D K h (some (.int (nI (B + q)))) S1 := by
            intro S1 d1 d3 dv
            have f1 : afq a b h sm S0 S1 := ⟨fun f i _ _ _ _ _ => by rw [d1], fun f i q1 _ _ => d3 f i (by omega)⟩
            have F1 := f0.trans f1
            refine ac_push (sm := sm) (a := a) (b := b) ih h1 (s := s + 1) (by rw [d1, o1 31 _ (by omega)]; exact e31) (by rw [d1]; exact o3) (by rw [d1, o1 38 0 (by omega)]; exact e38) hh (by omega) (rTr_q tq F1) (by omega) wt' wq (fun i hi => np i (by omega)) (hR.q F1) (hX.q F1) dv (fun _ z => z) (by omega) hqb (fun e he S' f' q1 q2 => kE e he S' (F1.trans f') q1 q2) (fun F hF S' f'' f' q1 q2 q3 q4 q5 => ?_)
            refine kG F hF S' (F1.trans f') q1 (by rw [q2, d1, o1 1 0 (by omega)]) q3 q4 q5 (fun e G he hg => ?_) (fun g9 h9 => ?_)
            · have g1 : fnd S1 e G := by
                obtain ⟨r1, r2, r3, r4, r5, r6⟩ := hg
                exact ⟨by rw [d1, o1 29 _ (by omega)]; exact r1, by rw [d1, o1 30 _ (by omega)]; exact r2, r3, r4, r5.cong fun n hn => by show S1.2 27 _ = S3.2 27 _; rw [d3 27 _ (by omega), o2], r6.cong fun n hn => by show S1.2 28 _ = S3.2 28 _; rw [d3 28 _ (by omega), o2]⟩
              exact g1.q f'' (Or.inl he)
            · refine h9.cong fun n hn => ?_
              show S'.2 26 _ = S3.2 26 _
              rw [f''.2 26 _ (by omega) (by omega) (by omega), d3 26 _ (by omega), o2]
          have hp0 : ptv S0 (B + a) s = nI (B + q) := by
            unfold ptv at hp ⊢
            rw [nd f0 5 (by omega) (by omega), nd f0 6 (by omega) (by omega), nd f0 7 (by omega) (by omega)]
            exact hp
          refine np_go (g := g) ho h1 h2 (s := s) (op := (T m).1) (b := a + 1) (q := q) hs2 (fun z => absurd z (by omega)) hp0 (by omega) (by omega) (by rw [nd f0 4 (by omega) (by omega)]; exact t4) hop (by rw [nd f0 5 (by omega) (by omega)]; exact h5) (by omega) (fun z => n58 z.2) (fun z S1 d1 d2 d3 => ?_) (fun z S1 d1 d2 d3 => ?_) (fun z1 z2 S1 d1 d2 d3 => ?_)
          · exact go S1 d1 d3 ((hy z).cong fun n hn => by rw [d2 n hn]; unfold wv; rw [o2])
          · exact go S1 d1 d3 ((hn z).cong fun n hn => by rw [d2 n hn]; unfold wv; rw [o2])
          · exact go S1 d1 d3 ((hin z1 z2).cong fun n hn => by rw [d2 n hn]; unfold wv; rw [o2])
        rcases m5 with ⟨am, b1⟩ | ⟨am, b1, b2, b3⟩ | ⟨am, b1, b2, b3, b4, b5, b6⟩ | ⟨am, b1, b2, b3, m', b4, b5, b6, b7⟩
        · -- one part
          rw [b1] at tk
          obtain ⟨k5, k6, k7, tq⟩ := tk
          have ltq := rTr_lt tq
          have wq : wn T k (kid T m 0) sm := by unfold wn at wN; rw [b1] at wN; exact wN
          simp only [List.mem_cons, List.not_mem_nil, or_false] at am
          refine first b (Nat.le_refl _) tq wq k5 (fun e he => ?_) (fun F hF S3 f3 e38 e1 eF e31 e25 ev => con 1 S3 (by decide) (by decide) k6 f3 e38 e31 e25 fun S1 f1 x38 x1 o1 o2 x9 => ?_)
          · by_cases c1 : (T m).1 = 78 ∨ (T m).1 = 66 ∨ (T m).1 = 69 ∨ (T m).1 = 80
            · rw [if_pos c1, he] at hE; exact hE e rfl
            · rw [if_neg c1] at hE
              by_cases c2 : (T m).1 = 33
              · rw [if_pos c2, he] at hE; exact hE e rfl
              · rw [if_neg c2] at hE
                by_cases c3 : (T m).1 = 65 ∨ (T m).1 = 68
                · rw [if_pos c3, he] at hE; exact hE e rfl
                · rw [if_neg c3, if_neg (by omega), if_neg (by omega), if_neg (by omega), if_neg (by omega), if_neg (by omega), if_pos (by omega), he] at hE; exact hE e rfl
          · have x1' : S1.1 1 0 = S.1 1 0 := x1.trans e1
            have F1 : fnd S1 (a + 1) F := x9 _ _ eF
            have v1 : vw (wv S1 26 (5 * a)) g := by unfold wv; rw [o2]; exact ev
            refine cn_ok ho h1 h2 (K := fun v S9 => v = none ∧ JA c D K S9 (h - 1)) (g := g) (sg := (T m).1) (by rw [nd f1 4 (by omega) (by omega)]; exact t4) hop v1 fun S2 f2 y2 n2 => ?_
            have F2 : fnd S2 (a + 1) F := F1.f f2 (by omega)
            have g2 : ∀ f, 4 ≤ f → f ≤ 9 → S2.1 f (B + a) = S.1 f (B + a) := fun f q1 q2 => by rw [f2.1 f _ (by omega)]; exact nd f1 f q1 q2 _
            have A2 : afq a b h sm S S2 := f1.trans (f2.q (by omega))
            have y38 : S2.1 38 0 = 0 := by rw [f2.1 38 0 (by omega)]; exact x38
            have y1 : S2.1 1 0 = S.1 1 0 := by rw [f2.1 1 0 (by omega)]; exact x1'
            have h5 : S2.1 5 (B + a) = nI (B + (a + 1)) := by rw [g2 5 (by omega) (by omega)]; exact k5
            refine ⟨fun z => ?_, fun z => absurd z (by omega), fun z => absurd z (by omega), fun z => absurd z (by omega), fun z => absurd z (by omega), fun z => ?_, fun z => ?_, fun z => absurd z (by omega), fun z => absurd z (by omega), fun z => ?_, fun z => absurd z (by omega), by omega⟩
            · rw [if_neg (by omega), if_pos z, hF] at hG
              exact q_not ho h1 h2 h5 (by omega) (by omega) F2 fun S' f' e' => ⟨rfl, rfl, fin _ S2 S' A2 y38 y1 f' e' (hG _ rfl)⟩
            · rw [if_neg (by omega), if_neg (by omega), if_pos z, hF] at hE hG
              simp only at hE hG
              refine q_half ho h1 h2 (by rw [g2 4 (by omega) (by omega)]; exact t4) z h5 (by rw [g2 9 (by omega) (by omega)]; exact t9) (by omega) (by omega) F2 (v1.f f2 (by omega) (by omega)) y2 n2 (fun q S' e2 e1 e38 e1' => ⟨rfl, rfl, ?_⟩) (fun q S' f' e' => ⟨rfl, rfl, ?_⟩)
              · rw [if_pos q] at hE
                exact ref S2 S' A2 e2 e1 e38 e1' (hE _ rfl)
              · rw [if_neg q] at hG
                exact fin _ S2 S' A2 y38 y1 f' e' (hG _ rfl)
            · rw [if_pos z, hF] at hG
              exact q_test ho h1 h2 (tkd_lt _) h5 (by omega) (by omega) F2 y2 n2 fun S' f' e' => ⟨rfl, rfl, fin _ S2 S' A2 y38 y1 f' e' (hG _ rfl)⟩
            · rw [if_neg (by omega), if_neg (by omega), if_neg (by omega), if_neg (by omega), if_neg (by omega), if_neg (by omega), if_neg (by omega), if_neg (by omega), if_pos z, hF] at hE hG
              simp only at hE hG
              have hfd := (np m (Nat.le_refl _)).2.1 (by omega) (by omega)
              obtain ⟨z4, ez⟩ := Option.isSome_iff_exists.mp (hfx _ (by omega) hfd)
              obtain ⟨pt, kk, y, no⟩ := z4
              rw [ez] at hE hG
              simp only at hE hG
              obtain ⟨r1, r2, r3, r4, r5, r6⟩ := (hX.q A2) ((T m).1 - 71) (by omega) pt kk y no ez
              refine q_call ho h1 h2 (i := (T m).1 - 71) (by omega) r1 r2 (by rw [g2 4 (by omega) (by omega), t4]; congr 1; omega) h5 (by rw [g2 9 (by omega) (by omega)]; exact t9) (by omega) F2 y2 n2 r3 r4 r5 r6 (fun q S' e2 e1 e38 e1' => ⟨rfl, rfl, ?_⟩) (fun q S' f' e' => ⟨rfl, rfl, ?_⟩)
              · rw [if_pos q] at hE
                exact ref S2 S' A2 e2 e1 e38 e1' (hE _ rfl)
              · rw [if_neg q] at hG
                exact fin _ S2 S' A2 y38 y1 f' e' (hG _ rfl)
        · -- two parts
          rw [b1] at tk
          obtain ⟨hq, k5, k6, k7, tq, tq2⟩ := tk
          have ltq := rTr_lt tq
          have ltq2 := rTr_lt tq2
          obtain ⟨q, rfl⟩ : ∃ q, hq = B + q := ⟨hq - B, by omega⟩
          simp only [List.mem_cons, List.not_mem_nil, or_false] at am
          have wq : wn T k (kid T m 0) sm ∧ wn T k (kid T m 1) sm := by
            unfold wn at wN
            rw [b1] at wN
            rcases wN.2 with z | z
            · exact ⟨wN.1, z.2⟩
            · have := z.1; omega
          rw [if_neg (by omega), if_neg (by omega), if_neg (by omega)] at hE hG
          refine first q (by omega) tq wq.1 k5 (fun e he => ?_) (fun F hF S3 f3 e38 e1 eF e31 e25 ev => ?_)
          · by_cases c4 : (T m).1 = 67 ∨ (T m).1 = 43 ∨ (T m).1 = 45 ∨ (T m).1 = 60
            · rw [if_pos c4, he] at hE; exact hE e rfl
            · rw [if_neg c4, if_neg (by omega)] at hE
              by_cases c6 : (T m).1 = 38
              · rw [if_pos c6, he] at hE; exact hE e rfl
              · rw [if_neg c6, if_pos (by omega), he] at hE; exact hE e rfl
          · by_cases c4 : (T m).1 = 67 ∨ (T m).1 = 43 ∨ (T m).1 = 45 ∨ (T m).1 = 60
            · rw [if_pos c4, hF] at hE hG
              simp only at hE hG
              refine second 1 q b (kid T m 1) _ _ _ g S3 (by decide) (by decide) (by omega) (by omega) (Nat.le_refl _) b2 k6 k5 tq2 b3 wq.2 f3 e38 e31 e25 (fun z => absurd z (by omega)) (fun z => absurd z (by omega)) (fun _ _ => ev) (fun e he => ?_) (fun G hG2 S5 f5 x38 x1 xG x31 x25 xf xv => con 2 S5 (by decide) (by decide) k7 f5 x38 x31 x25 fun S1 f1 y38 y1 o1 o2 x9 => ?_)
              · rw [he] at hE; exact hE e rfl
              · rw [hG2] at hE hG
                simp only at hE hG
                have F1 : fnd S1 (a + 1) F := x9 _ _ (xf _ _ (by omega) eF)
                have G1 : fnd S1 q G := x9 _ _ xG
                have v1 : vw (wv S1 26 (5 * a)) g := by unfold wv; rw [o2]; exact xv _ ev
                have y1' : S1.1 1 0 = S.1 1 0 := (y1.trans x1).trans e1
                refine cn_ok ho h1 h2 (K := fun v S9 => v = none ∧ JA c D K S9 (h - 1)) (g := g) (sg := (T m).1) (by rw [nd f1 4 (by omega) (by omega)]; exact t4) hop v1 fun S2 f2 y2 n2 => ?_
                have g2 : ∀ f, 4 ≤ f → f ≤ 9 → S2.1 f (B + a) = S.1 f (B + a) := fun f q1 q2 => by rw [f2.1 f _ (by omega)]; exact nd f1 f q1 q2 _
                have A2 : afq a b h sm S S2 := f1.trans (f2.q (by omega))
                have z38 : S2.1 38 0 = 0 := by rw [f2.1 38 0 (by omega)]; exact y38
                have z1 : S2.1 1 0 = S.1 1 0 := by rw [f2.1 1 0 (by omega)]; exact y1'
                refine ⟨fun z => absurd z (by omega), fun z => absurd z (by omega), fun z => ?_, fun z => absurd z (by omega), fun z => absurd z (by omega), fun z => absurd z (by omega), fun z => absurd z (by omega), fun z => absurd z (by omega), fun z => absurd z (by omega), fun z => absurd z (by omega), fun z S' f' e' => ⟨rfl, ?_⟩, by omega⟩
                · refine q_sum ho h1 h2 (by rw [g2 4 (by omega) (by omega)]; exact t4) hop (by rw [g2 5 (by omega) (by omega)]; exact k5) (by rw [g2 6 (by omega) (by omega)]; exact k6) (by rw [g2 9 (by omega) (by omega)]; exact t9) (by omega) (by omega) (F1.f f2 (by omega)) (G1.f f2 (by omega)) y2 n2 (fun qq S' e2 e1' e38' e1'' => ⟨rfl, rfl, ?_⟩) (fun qq S' f' e' => ⟨rfl, rfl, ?_⟩)
                  · rw [if_pos ⟨by omega, qq⟩] at hE
                    exact ref S2 S' A2 e2 e1' e38' e1'' (hE _ rfl)
                  · rw [if_neg (fun u => qq u.2), if_neg (show ¬ (T m).1 = 67 by omega)] at hG
                    exact fin _ S2 S' A2 z38 z1 f' e' (hG _ rfl)
                · have c67 : (T m).1 = 67 := by omega
                  rw [if_neg (fun u => u.1 c67), if_pos c67] at hG
                  rw [if_neg (by omega), if_neg (by omega), if_neg (by omega), if_neg (by omega)] at e'
                  exact fin _ S1 S' f1 y38 y1' f' e' (hG _ rfl)
            · rw [if_neg c4, if_neg (by omega)] at hE hG
              by_cases c6 : (T m).1 = 38
              · rw [if_pos c6, hF] at hE hG
                simp only at hE hG
                refine second 1 q b (kid T m 1) _ _ _ F.2.2.1 S3 (by decide) (by decide) (by omega) (by omega) (Nat.le_refl _) b2 k6 k5 tq2 b3 wq.2 f3 e38 e31 e25 (fun _ => eF.2.2.2.2.1) (fun z => absurd z (by omega)) (fun z _ => absurd ⟨rfl, Or.inr c6⟩ z) (fun e he => ?_) (fun G hG2 S5 f5 x38 x1 xG x31 x25 xf xv => con 2 S5 (by decide) (by decide) k7 f5 x38 x31 x25 fun S1 f1 y38 y1 o1 o2 x9 => ?_)
                · rw [he] at hE; exact hE e rfl
                · rw [hG2] at hG
                  simp only at hG
                  have F1 : fnd S1 (a + 1) F := x9 _ _ (xf _ _ (by omega) eF)
                  have G1 : fnd S1 q G := x9 _ _ xG
                  have v1 : vw (wv S1 26 (5 * a)) g := by unfold wv; rw [o2]; exact xv _ ev
                  have y1' : S1.1 1 0 = S.1 1 0 := (y1.trans x1).trans e1
                  refine cn_ok ho h1 h2 (K := fun v S9 => v = none ∧ JA c D K S9 (h - 1)) (g := g) (sg := (T m).1) (by rw [nd f1 4 (by omega) (by omega)]; exact t4) hop v1 fun S2 f2 y2 n2 => ?_
                  have g2 : ∀ f, 4 ≤ f → f ≤ 9 → S2.1 f (B + a) = S.1 f (B + a) := fun f q1 q2 => by rw [f2.1 f _ (by omega)]; exact nd f1 f q1 q2 _
                  have A2 : afq a b h sm S S2 := f1.trans (f2.q (by omega))
                  refine ⟨fun z => absurd z (by omega), fun z => ?_, fun z => absurd z (by omega), fun z => absurd z (by omega), fun z => absurd z (by omega), fun z => absurd z (by omega), fun z => absurd z (by omega), fun z => absurd z (by omega), fun z => absurd z (by omega), fun z => absurd z (by omega), fun z => absurd z (by omega), by omega⟩
                  exact q_and ho h1 h2 (by rw [g2 5 (by omega) (by omega)]; exact k5) (by rw [g2 6 (by omega) (by omega)]; exact k6) (by omega) (by omega) (by omega) (by omega) (F1.f f2 (by omega)) (G1.f f2 (by omega)) fun S' f' e' => ⟨rfl, rfl, fin _ S2 S' A2 (by rw [f2.1 38 0 (by omega)]; exact y38) (by rw [f2.1 1 0 (by omega)]; exact y1') f' e' (hG _ rfl)⟩
              · rw [if_neg c6, if_pos (by omega), hF] at hE hG
                simp only at hE hG
                have c7 : (T m).1 = 124 := by omega
                refine second 1 q b (kid T m 1) _ _ _ F.2.2.2 S3 (by decide) (by decide) (by omega) (by omega) (Nat.le_refl _) b2 k6 k5 tq2 b3 wq.2 f3 e38 e31 e25 (fun z => absurd z (by omega)) (fun _ => eF.2.2.2.2.2) (fun _ z => absurd (Or.inr ⟨rfl, c7⟩) z) (fun e he => ?_) (fun G hG2 S5 f5 x38 x1 xG x31 x25 xf xv => con 2 S5 (by decide) (by decide) k7 f5 x38 x31 x25 fun S1 f1 y38 y1 o1 o2 x9 => ?_)
                · rw [he] at hE; exact hE e rfl
                · rw [hG2] at hG
                  simp only at hG
                  have F1 : fnd S1 (a + 1) F := x9 _ _ (xf _ _ (by omega) eF)
                  have G1 : fnd S1 q G := x9 _ _ xG
                  have v1 : vw (wv S1 26 (5 * a)) g := by unfold wv; rw [o2]; exact xv _ ev
                  have y1' : S1.1 1 0 = S.1 1 0 := (y1.trans x1).trans e1
                  refine cn_ok ho h1 h2 (K := fun v S9 => v = none ∧ JA c D K S9 (h - 1)) (g := g) (sg := (T m).1) (by rw [nd f1 4 (by omega) (by omega)]; exact t4) hop v1 fun S2 f2 y2 n2 => ?_
                  have g2 : ∀ f, 4 ≤ f → f ≤ 9 → S2.1 f (B + a) = S.1 f (B + a) := fun f q1 q2 => by rw [f2.1 f _ (by omega)]; exact nd f1 f q1 q2 _
                  have A2 : afq a b h sm S S2 := f1.trans (f2.q (by omega))
                  refine ⟨fun z => absurd z (by omega), fun z => absurd z (by omega), fun z => absurd z (by omega), fun z => absurd z (by omega), fun z => absurd z (by omega), fun z => absurd z (by omega), fun z => absurd z (by omega), fun z => absurd z (by omega), fun z => ?_, fun z => absurd z (by omega), fun z => absurd z (by omega), by omega⟩
                  exact q_or ho h1 h2 (by rw [g2 5 (by omega) (by omega)]; exact k5) (by rw [g2 6 (by omega) (by omega)]; exact k6) (by omega) (by omega) (by omega) (by omega) (F1.f f2 (by omega)) (G1.f f2 (by omega)) fun S' f' e' => ⟨rfl, rfl, fin _ S2 S' A2 (by rw [f2.1 38 0 (by omega)]; exact y38) (by rw [f2.1 1 0 (by omega)]; exact y1') f' e' (hG _ rfl)⟩
        · -- a binding
          rw [b1] at tk
          obtain ⟨hq, k5, k6, k7, tq, tq2⟩ := tk
          have ltq := rTr_lt tq
          have ltq2 := rTr_lt tq2
          obtain ⟨q, rfl⟩ : ∃ q, hq = B + q := ⟨hq - B, by omega⟩
          have wq : wn T k (kid T m 0) sm ∧ (T m).2.2.1 < 8 ∧ sm (T m).2.2.1 = none ∧ wn T k (kid T m 1) (up sm (T m).2.2.1 (some mm)) := by
            unfold wn at wN
            rw [b1] at wN
            rcases wN.2 with z | z
            · exact absurd am z.1
            · rw [b2] at z; exact ⟨wN.1, z.2⟩
          have hx2 := ((np m (Nat.le_refl _)).2.2.2 am).1
          have wh : wht (T m) = (T m).2.2.1 := by unfold wht; rw [if_neg ne, if_pos am]
          rw [wh] at t8
          rw [am] at t4
          obtain ⟨wq0, x8, xn, wq1⟩ := wq
          rw [if_neg (by omega), if_neg (by omega), if_neg (by omega), if_neg (by omega), if_neg (by omega), if_neg (by omega), if_neg (by omega), if_pos am] at hE hG
          generalize hx : (T m).2.2.1 = x at hx2 wh t8 x8 xn wq1 hE hG
          refine first q (by omega) tq wq0 k5 (fun e he => ?_) (fun F hF S3 f3 e38 e1 eF e31 e25 ev => ?_)
          · rw [he] at hE; exact hE e rfl
          · rw [hF] at hE hG
            simp only at hE hG
            have o1 : ∀ f i, ¬ (f = 25 ∧ i = h - 1) → (rsi S3 25 (h - 1) (nI (1 + 1))).1 f i = S3.1 f i := fun f i z => rsi_ne _ _ z
            have o3 : (rsi S3 25 (h - 1) (nI (1 + 1))).1 25 (h - 1) = nI 2 := rsi_i _ _ _ _
            have o2 : (rsi S3 25 (h - 1) (nI (1 + 1))).2 = S3.2 := rfl
            refine JA.step ho hh (by omega) (by decide) e38 e31 e25 ?_
            generalize rsi S3 25 (h - 1) (nI (1 + 1)) = S0 at o1 o2 o3 ⊢
            have f0 : afq a b h sm S S0 := f3.trans (stp o1 o2)
            have v0 : vw (wv S0 26 (5 * a)) g := by unfold wv; rw [o2]; exact ev
            have F0 : fnd S0 (a + 1) F := by
              obtain ⟨q1, q2, q3, q4, q5, q6⟩ := eF
              exact ⟨by rw [o1 29 _ (by omega)]; exact q1, by rw [o1 30 _ (by omega)]; exact q2, q3, q4, by unfold wv; rw [o2]; exact q5, by unfold wv; rw [o2]; exact q6⟩
            have sx : ∀ y, (sm y).isSome = true → (up sm x (some mm) y).isSome = true := fun y hy => by
              by_cases z : y = x
              · subst z; rw [up_same]; rfl
              · rw [up_ne _ _ z]; exact hy
            have smx : (sm x).isSome = false := by rw [xn]; rfl
            refine np_let (g := g) ho h1 h2 (q := q) (x := x) (by rw [nd f0 6 (by omega) (by omega)]; exact k6) (by omega) (by omega) (by omega) (by rw [nd f0 4 (by omega) (by omega)]; exact t4) (by rw [nd f0 8 (by omega) (by omega)]; exact t8) x8 (by rw [nd f0 5 (by omega) (by omega)]; exact k5) (by omega) F0 v0 fun S1 d1 d2 d3 d4 => ?_
            have f1 : afq a b h sm S0 S1 := by
              refine ⟨fun f i _ _ q3 _ _ => d1 f i (fun z => q3 ⟨z.1, by rw [z.2]; exact smx⟩), fun f i q1 _ q3 => d2 f i (by omega) (fun z => q3 ⟨z.1, ?_⟩)⟩
              rw [show i / 5 = x by omega]
              exact smx
            have F1 := f0.trans f1
            have va : vw (wv S1 26 (5 * a)) g := v0.cong fun n hn => d2 26 _ (by omega) (by omega)
            have R1 := hR.q F1
            have E31 : S1.1 31 (h - 1) = nI (B + a) := by rw [d1 31 _ (by omega), o1 31 _ (by omega)]; exact e31
            have E25 : S1.1 25 (h - 1) = nI 2 := by rw [d1 25 _ (by omega)]; exact o3
            have E38 : S1.1 38 0 = 0 := by rw [d1 38 0 (by omega), o1 38 0 (by omega)]; exact e38
            have E1 : S1.1 1 0 = S.1 1 0 := by rw [d1 1 0 (by omega), o1 1 0 (by omega)]; exact e1
            -- the end, once the body is done
            have last : ∀ (own : Bool) (G : nF) (S5 : rS), afq q b (h + 1) (up sm x (some mm)) S1 S5 → afq a b h sm S1 S5 → S1.1 33 x = (if own = true then 1 else 0) → S5.1 38 0 = 0 → S5.1 1 0 = S1.1 1 0 → fnd S5 q G → S5.1 31 (h - 1) = nI (B + a) → S5.1 25 (h - 1) = nI 2 → (∀ S', afq a b h sm S S' → S'.1 38 0 = 0 → S'.1 1 0 = S.1 1 0 → fnd S' a (if own = true then nFin G.1 (nGone G.2.1 x) (nDrop G.2.2.1 x) (nDrop G.2.2.2 x) else nFin G.1 G.2.1 G.2.2.1 G.2.2.2) → JA c D K S' (h - 1)) → JA c D K S5 h := by
              intro own G S5 f5' f5 e33 x38 x1 xG x31 x25 kk
              refine con 2 S5 (by decide) (by decide) k7 (F1.trans f5) x38 x31 x25 fun S6 f6 y38 y1 p1 p2 x9 => ?_
              have G6 : fnd S6 q G := x9 _ _ xG
              have v6 : vw (wv S6 26 (5 * a)) g := va.cong fun n hn => by
                show S6.2 26 _ = S1.2 26 _
                rw [p2, f5'.2 26 _ (by omega) (by omega) (by omega)]
              have e33' : S6.1 33 x = if own = true then 1 else 0 := by
                rw [p1 33 x (by omega), f5'.1 33 x (by omega) (by omega) (fun z => by have := z.2; rw [up_same] at this; cases this) (by omega) (by omega)]
                exact e33
              refine cn_ok ho h1 h2 (K := fun v S9 => v = none ∧ JA c D K S9 (h - 1)) (g := g) (sg := 58) (by rw [nd f6 4 (by omega) (by omega)]; exact t4) (by decide) v6 fun S2 f2 y2 n2 => ?_
              have g2 : ∀ f, 4 ≤ f → f ≤ 9 → S2.1 f (B + a) = S.1 f (B + a) := fun f q1 q2 => by rw [f2.1 f _ (by omega)]; exact nd f6 f q1 q2 _
              refine ⟨fun z => absurd z (by decide), fun z => absurd z (by decide), fun z => absurd z (by decide), fun z => ?_, fun z => absurd z (by decide), fun z => absurd z (by decide), fun z => absurd z (by decide), fun z => absurd z (by decide), fun z => absurd z (by decide), fun z => absurd z (by decide), fun z => absurd z (by decide), by decide⟩
              refine q_let ho h1 h2 (own := own) ⟨hx2, x8⟩ (by rw [g2 8 (by omega) (by omega)]; exact t8) (by rw [g2 6 (by omega) (by omega)]; exact k6) (by omega) (by omega) (G6.f f2 (by omega)) (by rw [f2.1 33 x (by omega)]; exact e33') fun S' f' e' => ⟨rfl, rfl, ?_⟩
              exact fin _ S2 S' (f6.trans (f2.q (by omega))) (by rw [f2.1 38 0 (by omega)]; exact y38) (by rw [f2.1 1 0 (by omega), y1, x1]; exact E1) f' e' kk
            cases ep : F.2.1 with
            | none =>
              rw [ep] at hE hG
              simp only at hE hG
              obtain ⟨u1, u2, u3, u4, u5⟩ := d4 ep
              have R2 : REN S1 (up sm x (some mm)) (up nm x (7 * x)) (up ow x (some (F.2.2.1, F.2.2.2))) := by
                intro y hy
                by_cases z : y = x
                · subst z
                  rw [up_same, up_same]
                  exact ⟨x8, u2, by omega, Or.inr ⟨_, _, rfl, u1, u4, u5⟩⟩
                · rw [up_ne _ _ z] at hy
                  rw [up_ne _ _ z, up_ne _ _ z]
                  exact R1 y hy
              refine ac_push (sm := sm) (a := a) (b := b) ih h1 (s := 2) E31 E25 E38 hh (by omega) (rTr_q tq2 F1) hb b6 wq1 (fun i hi => np i (by omega)) R2 (hX.q F1) u3 sx (by omega) (Nat.le_refl _) (fun e he S' f' q1 q2 => ?_) (fun G hG2 S5 f5' f5 x38 x1 xG x31 x25 => ?_)
              · rw [he] at hE; exact hE e rfl S' (F1.trans f') q1 q2
              · rw [hG2] at hG
                simp only at hG
                exact last true G S5 f5' f5 u1 x38 x1 xG x31 x25 (hG _ rfl)
            | some p =>
              rw [ep] at hE hG
              simp only at hE hG
              obtain ⟨u1, u2, u3⟩ := d3 p ep
              have p56 := eF.2.2.2.1 p ep
              have R2 : REN S1 (up sm x (some mm)) (up nm x p) (up ow x none) := by
                intro y hy
                by_cases z : y = x
                · subst z
                  rw [up_same, up_same]
                  exact ⟨x8, u2, p56, Or.inl ⟨rfl, u1⟩⟩
                · rw [up_ne _ _ z] at hy
                  rw [up_ne _ _ z, up_ne _ _ z]
                  exact R1 y hy
              refine ac_push (sm := sm) (a := a) (b := b) ih h1 (s := 2) E31 E25 E38 hh (by omega) (rTr_q tq2 F1) hb b6 wq1 (fun i hi => np i (by omega)) R2 (hX.q F1) u3 sx (by omega) (Nat.le_refl _) (fun e he S' f' q1 q2 => ?_) (fun G hG2 S5 f5' f5 x38 x1 xG x31 x25 => ?_)
              · rw [he] at hE; exact hE e rfl S' (F1.trans f') q1 q2
              · rw [hG2] at hG
                simp only at hG
                exact last false G S5 f5' f5 u1 x38 x1 xG x31 x25 (hG _ rfl)
        · -- a choice
          rw [b1] at tk
          obtain ⟨hq, hq2, k5, k6, k7, tq, tq2, tq3⟩ := tk
          have ltq := rTr_lt tq
          have ltq2 := rTr_lt tq2
          have ltq3 := rTr_lt tq3
          obtain ⟨q, rfl⟩ : ∃ q, hq = B + q := ⟨hq - B, by omega⟩
          obtain ⟨q2, rfl⟩ : ∃ q, hq2 = B + q := ⟨hq2 - B, by omega⟩
          have wq : wn T k (kid T m 0) sm ∧ wn T k (kid T m 1) sm ∧ wn T k (kid T m 2) sm := by
            unfold wn at wN
            rw [b1] at wN
            exact wN
          rw [if_neg (by omega), if_neg (by omega), if_neg (by omega), if_neg (by omega), if_pos am] at hE hG
          refine first q (by omega) tq wq.1 k5 (fun e he => ?_) (fun F hF S3 f3 e38 e1 eF e31 e25 ev => ?_)
          · rw [he] at hE; exact hE e rfl
          · rw [hF] at hE hG
            simp only at hE hG
            refine second 1 q q2 (kid T m 1) _ _ _ F.2.2.1 S3 (by decide) (by decide) (by omega) (by omega) (by omega) b2 k6 k5 tq2 b6 wq.2.1 f3 e38 e31 e25 (fun _ => eF.2.2.2.2.1) (fun z => absurd z (by omega)) (fun z _ => absurd ⟨rfl, Or.inl am⟩ z) (fun e he => ?_) (fun G hG2 S5 f5 x38 x1 xG x31 x25 xf xv => ?_)
            · rw [he] at hE; exact hE e rfl
            · rw [hG2] at hE hG
              simp only at hE hG
              refine second 2 q2 b (kid T m 2) _ _ _ F.2.2.2 S5 (by decide) (by decide) (by omega) (by omega) (Nat.le_refl _) b3 k7 k5 tq3 b7 wq.2.2 f5 x38 x31 x25 (fun z => absurd z (by omega)) (fun _ => (xf _ _ (by omega) eF).2.2.2.2.2) (fun _ z => absurd (Or.inl ⟨rfl, am⟩) z) (fun e he => ?_) (fun H hH S7 f7 y38 y1 yH y31 y25 yf yv => con 3 S7 (by decide) (by decide) rfl f7 y38 y31 y25 fun S1 f1 z38 z1 o1 o2 x9 => ?_)
              · rw [he] at hE; exact hE e rfl
              · rw [hH] at hG
                simp only at hG
                have G1 : fnd S1 q G := x9 _ _ (yf _ _ (by omega) xG)
                have H1 : fnd S1 q2 H := x9 _ _ yH
                have v1 : vw (wv S1 26 (5 * a)) g := by unfold wv; rw [o2]; exact yv _ (xv _ ev)
                have z1' : S1.1 1 0 = S.1 1 0 := ((z1.trans y1).trans x1).trans e1
                refine cn_ok ho h1 h2 (K := fun v S9 => v = none ∧ JA c D K S9 (h - 1)) (g := g) (sg := (T m).1) (by rw [nd f1 4 (by omega) (by omega)]; exact t4) hop v1 fun S2 f2 y2 n2 => ?_
                have g2 : ∀ f, 4 ≤ f → f ≤ 9 → S2.1 f (B + a) = S.1 f (B + a) := fun f q1 q2 => by rw [f2.1 f _ (by omega)]; exact nd f1 f q1 q2 _
                have A2 : afq a b h sm S S2 := f1.trans (f2.q (by omega))
                refine ⟨fun z => absurd z (by omega), fun z => absurd z (by omega), fun z => absurd z (by omega), fun z => absurd z (by omega), fun z => ?_, fun z => absurd z (by omega), fun z => absurd z (by omega), fun z => absurd z (by omega), fun z => absurd z (by omega), fun z => absurd z (by omega), fun z => absurd z (by omega), by omega⟩
                exact q_if ho h1 h2 (by rw [g2 6 (by omega) (by omega)]; exact k6) (by rw [g2 7 (by omega) (by omega)]; exact k7) (by omega) (by omega) (by omega) (by omega) (G1.f f2 (by omega)) (H1.f f2 (by omega)) fun S' f' e' => ⟨rfl, rfl, fin _ S2 S' A2 (by rw [f2.1 38 0 (by omega)]; exact z38) (by rw [f2.1 1 0 (by omega)]; exact z1') f' e' (hG _ rfl)⟩
end RCH
