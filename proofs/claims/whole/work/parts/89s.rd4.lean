/-! The reference: define, whole. -/
theorem s71 : ∀ y, y < 71 → nI y - 71 < 0 := by decide +kernel
theorem s97 : ∀ y, y < 99 → nI y - 97 ≤ 1 := by decide +kernel
theorem s_none : rfI (none : Option Nat) - 71 < 0 ∧ rfI (none : Option Nat) - 97 ≤ 1 := by decide
section RDD
variable {c : rX} {D : Nat} {S : rS} {K : Option Value → rS → Prop} {fx : fnT} {fd : Nat → Bool} {ch : Nat → Option Nat} {len : Nat}
theorem r_define (ho : rOK c) (hfx' : ∀ i, i < 3 → fd i = true → (fx i).isSome = true) (hc : chO ch len) (hT : RTX S ch len fd) (hX : RFX S fx)
    (k1 : ∀ e, pDef ch fd = .inl e → ∀ S', hfx S S' → S'.1 0 0 = 1 → S'.1 1 0 = nI e → K (some (.int 0)) S')
    (k2 : ∀ j ty x s e, pDef ch fd = .inr (j, ty, x, s) → pPart ch fd 6 (up sm0 x (some 0)) (3, 2, 0, T0) = .inr s → nkD fx ty x s = .inl e → ∀ S', hfx S S' → S'.1 0 0 = 2 → S'.1 1 0 = nI e → K (some (.int 0)) S')
    (k3 : ∀ j ty x s F, pDef ch fd = .inr (j, ty, x, s) → pPart ch fd 6 (up sm0 x (some 0)) (3, 2, 0, T0) = .inr s → nkD fx ty x s = .inr F → ∀ S', dfx j S S' → S'.1 12 j = 1 → S'.1 13 j = nI x → S'.1 14 j = nI ty → S'.1 15 j = nI F.1 → (∀ k, k < 7 → S'.1 16 (7 * j + k) = nI (F.2.2.1 (7 * x + k)) ∧ S'.1 17 (7 * j + k) = nI (F.2.2.2 (7 * x + k))) → rTr S' s.2.2.2 7 (64 * j) (64 * j + s.2.2.1) (s.2.2.1 - 1) → S'.1 10 j = nI (64 * j) → S'.1 0 0 = 0 → S'.1 1 0 = -1 → K (some (.int (nI F.1))) S') :
    rM c (D + 7) eX10_define [.ref c.2.2.1] S K := by
  have hl := hc.1
  refine w_X10_define ho ?_
  have a1 : ∀ f i, ¬ ((f = 0 ∨ f = 1 ∨ f = 20) ∧ i = 0) → (rsi (rsi (rsi S 0 0 0) 1 0 (-1)) 20 0 0).1 f i = S.1 f i := fun f i z => by rw [rsi_ne _ _ (by omega), rsi_ne _ _ (by omega), rsi_ne _ _ (by omega)]
  have a2 : (rsi (rsi (rsi S 0 0 0) 1 0 (-1)) 20 0 0).1 0 0 = 0 := by rw [rsi_ne _ _ (by omega), rsi_ne _ _ (by omega), rsi_i]
  have a3 : (rsi (rsi (rsi S 0 0 0) 1 0 (-1)) 20 0 0).1 1 0 = -1 := by rw [rsi_ne _ _ (by omega), rsi_i]
  have a4 : (rsi (rsi (rsi S 0 0 0) 1 0 (-1)) 20 0 0).1 20 0 = nI 0 := rsi_i _ _ _ _
  have a5 : (rsi (rsi (rsi S 0 0 0) 1 0 (-1)) 20 0 0).2 = S.2 := rfl
  generalize rsi (rsi (rsi S 0 0 0) 1 0 (-1)) 20 0 0 = S0 at a1 a2 a3 a4 a5 ⊢
  have p0 : pfx S S0 := fun f i p => a1 f i (by unfold pst at p; omega)
  have h0 : hfx S S0 := ⟨p0, by rw [a5], by rw [a5], fun f i q1 q2 _ => a1 f i (by omega), a1 10 3 (by omega), a1 18 0 (by omega), a1 19 0 (by omega)⟩
  have T0' := hT.pf p0
  have adv : ∀ (A : rS) (p : Nat), hfx A (rsi A 20 0 (nI p)) := fun A p => hfx_w A _ (by unfold pst; omega) (by omega) (by omega) (by omega) (by omega)
  -- not a new function's name
  have bad0 : ∀ v1 : Int32, pDef ch fd = .inl 0 → rG c eX10_define (D + 6 + 1) (rQ c K) 46 [some (.ref c.2.2.1), some (.int v1), none, none, none, none, none] [.int 0] S0 := by
    intro v1 hp
    refine w_X10_define_46 ho v1 0 ⟨fun _ => w_X10_define_61 ho v1 0 (r_peek ho T0' hc a4 (by decide) ⟨_, rfl, fun _ => ?_, fun z => absurd rfl z⟩), fun z => absurd rfl z⟩
    refine w_X10_define_89 ho v1 _ 0 ⟨fun _ => d_dead ho hc T0' a4 (by decide) fun S' f' z0 z1 => k1 0 hp S' (h0.trans f') z0 z1, fun z => absurd rfl z⟩
  refine r_peek ho T0' hc a4 (by decide) ⟨_, rfl, ?_⟩
  cases ec : ch 0 with
  | none =>
    exact ⟨fun _ => bad0 _ (by unfold pDef; rw [ec]; rfl), fun z => absurd s_none.1 z⟩
  | some y =>
    have hy : y < 65536 := hc.2.2 _ _ ec
    by_cases y71 : y < 71
    · refine ⟨fun _ => bad0 _ ?_, fun z => absurd (s71 y y71) z⟩
      unfold pDef fnI
      rw [ec]
      simp only
      rw [if_neg (by omega)]
    · have es : rfI (some y) - 71 = nI (y - 71) := pk_sub (a := y) (b := 71) (by omega)
      rw [es]
      refine ⟨fun z => absurd z (nI_pos (by omega)), fun _ => ?_⟩
      rw [show (3 : Int32) ≤ nI (y - 71) ↔ 3 ≤ y - 71 from nI_leI (a := 3) (by decide) (by omega)]
      refine ⟨fun z => bad0 _ ?_, fun z => ?_⟩
      · unfold pDef fnI
        rw [ec]
        simp only
        rw [if_neg (by omega)]
      · have j3 : y - 71 < 3 := by omega
        generalize hj : y - 71 = j at j3
        have fI : fnI (ch 0) = some j := by
          unfold fnI
          rw [ec]
          simp only
          rw [if_pos (by omega), hj]
        have ij : am_ix (nI j) j 3 := am_ix_n j3 (by decide)
        refine ⟨j, ij, ?_⟩
        rw [T0'.2.2 j j3]
        by_cases fdj : fd j = true
        · rw [if_pos fdj]
          refine ⟨fun _ => bad0 _ ?_, fun z => absurd z (by decide)⟩
          unfold pDef
          rw [fI]
          simp only
          rw [if_pos fdj]
        · rw [if_neg fdj]
          refine ⟨fun z => absurd rfl z, fun _ => ?_⟩
          refine w_X10_define_46 ho (nI j) 1 ⟨fun z => absurd z (by decide), fun _ => ?_⟩
          rw [a4, nI_1]
          have h1 := h0.trans (adv S0 (0 + 1))
          have e1 : (rsi S0 20 0 (nI (0 + 1))).1 20 0 = nI 1 := rsi_i _ _ _ _
          have c1 : ∀ i, i < 2 → (rsi S0 20 0 (nI (0 + 1))).1 i 0 = S0.1 i 0 := fun i hi => rsi_ne _ _ (by omega)
          generalize rsi S0 20 0 (nI (0 + 1)) = S1 at h1 e1 c1 ⊢
          have T1 := hT.pf h1.1
          have bad1 : ∀ v3 : Int32, pDef ch fd = .inl 1 → rG c eX10_define (D + 6 + 1) (rQ c K) 89 [some (.ref c.2.2.1), some (.int (nI j)), none, some (.int v3), none, none, none] [.int 0] S1 := fun v3 hp => w_X10_define_89 ho (nI j) v3 0 ⟨fun _ => d_dead ho hc T1 e1 (by decide) fun S' f' z0 z1 => k1 1 hp S' (h1.trans f') z0 z1, fun z => absurd rfl z⟩
          refine w_X10_define_61 ho (nI j) 1 (r_peek ho T1 hc e1 (by decide) ⟨_, rfl, fun z => absurd z (by decide), fun _ => ?_⟩)
          cases ec1 : ch 1 with
          | none =>
            refine ⟨fun _ => bad1 _ ?_, fun z => absurd s_none.2 z⟩
            unfold pDef
            rw [fI]
            simp only
            rw [if_neg fdj, ec1]
            rfl
          | some w =>
            have hw : w < 65536 := hc.2.2 _ _ ec1
            have fN : fNm sm0 (ch 1) = if 99 ≤ w ∧ w < 105 then some (w - 97) else none := by
              rw [ec1]
              show (if 99 ≤ w ∧ w < 105 ∧ sm0 (w - 97) = none then some (w - 97) else none) = _
              by_cases q : 99 ≤ w ∧ w < 105
              · rw [if_pos q, if_pos ⟨q.1, q.2, rfl⟩]
              · rw [if_neg q, if_neg (fun u => q ⟨u.1, u.2.1⟩)]
            have dead1 : ¬ (99 ≤ w ∧ w < 105) → pDef ch fd = .inl 1 := by
              intro q
              rw [if_neg q] at fN
              unfold pDef
              rw [fI]
              simp only
              rw [if_neg fdj, fN]
            by_cases w99 : w < 99
            · exact ⟨fun _ => bad1 _ (dead1 (by omega)), fun z => absurd (s97 w w99) z⟩
            · have es1 : rfI (some w) - 97 = nI (w - 97) := pk_sub (a := w) (b := 97) (by omega)
              rw [es1, show nI (w - 97) ≤ 1 ↔ w - 97 ≤ 1 from nI_leI (b := 1) (by omega) (by decide), show (8 : Int32) ≤ nI (w - 97) ↔ 8 ≤ w - 97 from nI_leI (a := 8) (by decide) (by omega)]
              refine ⟨fun z => absurd z (by omega), fun _ => ⟨fun z => bad1 _ (dead1 (by omega)), fun z => ?_⟩⟩
              generalize hx : w - 97 = x at z es1
              have x8 : x < 8 := by omega
              have x2 : 2 ≤ x := by omega
              have fN' : fNm sm0 (ch 1) = some x := by rw [fN, if_pos (by omega), hx]
              refine w_X10_define_89 ho (nI j) (nI x) 1 ⟨fun z => absurd z (by decide), fun _ => ?_⟩
              rw [e1, nI_1]
              have h2 := h1.trans (adv S1 (1 + 1))
              have e2 : (rsi S1 20 0 (nI (1 + 1))).1 20 0 = nI 2 := rsi_i _ _ _ _
              have c2 : ∀ i, i < 2 → (rsi S1 20 0 (nI (1 + 1))).1 i 0 = S0.1 i 0 := fun i hi => by rw [rsi_ne _ _ (by omega)]; exact c1 i hi
              generalize rsi S1 20 0 (nI (1 + 1)) = S2 at h2 e2 c2 ⊢
              have T2 := hT.pf h2.1
              refine d_104 ho hc T2 e2 (by decide) ?_
              by_cases t0 : tyO (ch 2) = 0
              · rw [if_pos (Or.inr t0)]
                have hp : pDef ch fd = .inl 2 := by
                  unfold pDef
                  rw [fI]
                  simp only
                  rw [if_neg fdj, fN']
                  simp only
                  rw [if_pos t0]
                refine w_X10_define_190 ho (nI j) (nI x) _ 0 ⟨fun _ => w_X10_define_205 ho (nI j) 0 (nI x) _ ⟨fun _ => r_failn ho ⟨_, rfl, ?_⟩, fun z => absurd rfl z⟩, fun z => absurd rfl z⟩
                exact k1 2 hp _ (h2.trans ((hfx_w S2 _ (by unfold pst; omega) (by omega) (by omega) (by omega) (by omega)).trans (hfx_w _ _ (by unfold pst; omega) (by omega) (by omega) (by omega) (by omega)))) (rsi_i _ _ _ _) (by rw [rsi_ne _ _ (by omega), rsi_i]; exact e2)
              · rw [if_neg (fun u => by rcases u with u | u; exact absurd u (by decide); exact t0 u)]
                refine w_X10_define_190 ho (nI j) (nI x) _ 1 ⟨fun z => absurd z (by decide), fun _ => ?_⟩
                rw [e2, nI_1]
                have h3 := h2.trans (adv S2 (2 + 1))
                have e3 : (rsi S2 20 0 (nI (2 + 1))).1 20 0 = nI 3 := rsi_i _ _ _ _
                have c3 : ∀ i, i < 2 → (rsi S2 20 0 (nI (2 + 1))).1 i 0 = S0.1 i 0 := fun i hi => by rw [rsi_ne _ _ (by omega)]; exact c2 i hi
                generalize rsi S2 20 0 (nI (2 + 1)) = S3 at h3 e3 c3 ⊢
                have T3 := hT.pf h3.1
                have ty32 : tyO (ch 2) < 32 := by
                  unfold tyO
                  (repeat' split) <;> omega
                have hdefL : ∀ e, pEnd ch (pPart ch fd 6 (up sm0 x (some 0)) (3, 2, 0, T0)) = .inl e → pDef ch fd = .inl e := by
                  intro e he
                  unfold pDef
                  rw [fI]
                  simp only
                  rw [if_neg fdj, fN']
                  simp only
                  rw [if_neg t0, he]
                have hdefR : ∀ s, pEnd ch (pPart ch fd 6 (up sm0 x (some 0)) (3, 2, 0, T0)) = .inr s → pDef ch fd = .inr (j, tyO (ch 2), x, s) := by
                  intro s he
                  unfold pDef
                  rw [fI]
                  simp only
                  rw [if_neg fdj, fN']
                  simp only
                  rw [if_neg t0, he]
                have len3 : 3 ≤ len := by
                  cases e : ch 2 with
                  | none => rw [e] at t0; exact absurd rfl t0
                  | some u => have := hc.lt e; omega
                generalize hty : tyO (ch 2) = ty at ty32 hdefR t0
                obtain ⟨o1, o2, o3⟩ := m_one x x8
                refine w_X10_define_205 ho (nI j) 1 (nI x) (nI ty) ⟨fun z => absurd z (by decide), fun _ => ?_⟩
                rw [o1]
                refine r_rest (D := D + 1) ho (sm := up sm0 x (some 0)) hc T3 e3 len3 (smD_sc x) o2 (fun u hu => ?_) (fun e he S4 x4 z4 => ⟨0, rfl, fun z => absurd rfl z, fun _ => r_failn ho ⟨_, rfl, ?_⟩⟩) (fun s he he2 S4 x4 t4 r4 n4 => ⟨1, rfl, fun _ => ?_, fun z => absurd z (by decide)⟩)
                · rw [o3 u hu]
                  by_cases q : u = x
                  · subst q; rw [up_same, decide_eq_true rfl]; rfl
                  · rw [up_ne _ _ q, decide_eq_false q]; rfl
                · exact k1 e (hdefL e he) _ ((h3.trans x4.hf).trans ((hfx_w S4 _ (by unfold pst; omega) (by omega) (by omega) (by omega) (by omega)).trans (hfx_w _ _ (by unfold pst; omega) (by omega) (by omega) (by omega) (by omega)))) (rsi_i _ _ _ _) (by rw [rsi_ne _ _ (by omega), rsi_i]; exact z4)
                · have hdef := hdefR s he
                  have h4 := h3.trans x4.hf
                  obtain ⟨wt', l0, l60, wN, np⟩ := rd_wt hc (smD_sc x) he2
                  refine r_everything ho fun S5 g1 g2 g3 g4 => ⟨rfl, ?_⟩
                  have h5 : hfx S S5 := h4.trans ⟨fun f i p => g1 f i (by unfold pst at p; omega), g2 57 (by decide), g2 58 (by decide), fun f i q1 q2 _ => g1 f i (by omega), g1 10 3 (by omega), g1 18 0 (by omega), g1 19 0 (by omega)⟩
                  rw [show (7 : Int32) * nI x = nI (7 * x) from pk_mul 7 x]
                  refine v_say ho (k1 := 39) (f1 := 56) (n1 := 5) (i := 0) rfl (by decide) (by decide) ty32 ⟨rfl, ?_⟩
                  have i1 : (put S5 56 0 5 (wSay (wv S5 56 0) (7 * x) ty)).1 = S5.1 := rfl
                  have i2 : ∀ f, f ≠ 56 → (put S5 56 0 5 (wSay (wv S5 56 0) (7 * x) ty)).2 f = S5.2 f := fun f hf => funext fun i => put_out _ _ (fun z => hf z.1)
                  have i3 : vw (wv (put S5 56 0 5 (wSay (wv S5 56 0) (7 * x) ty)) 56 0) (fun q => if q = 7 * x then ty else 31) := (g3.say (show 7 * x < 56 by omega) ty32).cong fun k hk => wv_in _ _ _ _ k hk
                  generalize put S5 56 0 5 (wSay (wv S5 56 0) (7 * x) ty) = S6 at i1 i2 i3 ⊢
                  have h6 : hfx S S6 := h5.trans ⟨fun f i _ => by rw [i1], i2 57 (by decide), i2 58 (by decide), fun f i _ _ _ => by rw [i1], by rw [i1], by rw [i1], by rw [i1]⟩
                  have r6 : S6.1 10 4 = nI (256 + 0) := by rw [i1, g1 10 4 (by omega)]; exact r4
                  have n6 : S6.1 11 4 = nI s.2.2.1 := by rw [i1, g1 11 4 (by omega)]; exact n4
                  have t6 : rTr S6 s.2.2.2 7 (256 + 0) (256 + s.2.2.1) (s.2.2.1 - 1) := rTr_cong t4 fun f i q1 q2 _ _ => by rw [i1]; exact g1 f i (by omega)
                  have c6 : ∀ i, i < 2 → S6.1 i 0 = S0.1 i 0 := fun i hi => by rw [i1, g1 i 0 (by omega), x4.2 i 0 (by omega) (by omega) (by omega) (by omega)]; exact c3 i hi
                  have R6 : REN S6 (up sm0 x (some 0)) (fun x => 7 * x) (fun _ => none) := by
                    intro u hu
                    by_cases q : u = x
                    · subst q
                      exact ⟨x8, by rw [i1]; exact (g4 u x8).2, by show 7 * u < 56; omega, Or.inl ⟨rfl, by rw [i1]; exact (g4 u x8).1⟩⟩
                    · rw [up_ne _ _ q] at hu; cases hu
                  rw [r6]
                  refine r_acc (D := D) ho (B := 256) (by unfold hB; omega) hfx' (sm := up sm0 x (some 0)) t6 (by omega) wt' wN (fun i hi => np i (by omega)) R6 (hX.pf h6.1) i3 (fun e he' S7 f7 z7 => ⟨0, rfl, fun z => absurd rfl z, fun _ => r_failn ho ⟨_, rfl, ?_⟩⟩) (fun F hF S7 f7 z7 eF => ⟨1, rfl, fun _ => ?_, fun z => absurd z (by decide)⟩)
                  · exact k2 j ty x s e hdef he2 he' _ ((h6.trans f7.hf).trans (hfx_w S7 _ (by unfold pst; omega) (by omega) (by omega) (by omega) (by omega))) (rsi_i _ _ _ _) (by rw [rsi_ne _ _ (by omega)]; exact z7)
                  · have h7 := h6.trans f7.hf
                    have r7 : S7.1 10 4 = nI (256 + 0) := by rw [f7.1 10 4 (by omega) (by omega) (by omega) (by omega) (by omega)]; exact r6
                    have n7 : S7.1 11 4 = nI s.2.2.1 := by rw [f7.1 11 4 (by omega) (by omega) (by omega) (by omega) (by omega)]; exact n6
                    have t7 := rTr_q t6 f7
                    have c70 : S7.1 0 0 = 0 := by rw [f7.1 0 0 (by omega) (by omega) (by omega) (by omega) (by omega), c6 0 (by decide)]; exact a2
                    have c71 : S7.1 1 0 = -1 := by rw [z7, c6 1 (by decide)]; exact a3
                    rw [r7]
                    refine r_five ho (B := 256) (by unfold hB; omega) (by decide) ⟨_, rfl, ?_⟩
                    have key : ∀ m n : Nat, n + m = 7 → ∀ S8, S8.2 = S7.2 → (∀ f i, ¬ ((f = 16 ∨ f = 17) ∧ 7 * j ≤ i ∧ i < 7 * j + 7) → S8.1 f i = S7.1 f i) → (∀ k, k < n → S8.1 16 (7 * j + k) = nI (F.2.2.1 (7 * x + k)) ∧ S8.1 17 (7 * j + k) = nI (F.2.2.2 (7 * x + k))) → rG c eX10_define (D + 6 + 1) (rQ c K) 293 [some (.ref c.2.2.1), some (.int (nI j)), none, some (.int (nI x)), some (.int (nI ty)), some (.int (nI (5 * 0))), some (.int (nI n))] [] S8 := by
                      intro m
                      induction m with
                      | zero =>
                        intro n hn S8 u1 u2 u3
                        have : n = 7 := by omega
                        subst this
                        refine w_X10_define_293 ho (nI j) (nI x) (nI ty) _ (nI 7) ⟨fun _ => ⟨j, ij, j, ij, j, ij, ?_⟩, fun z => absurd (by decide) z⟩
                        have v1 : ∀ f i, ¬ ((f = 12 ∨ f = 13 ∨ f = 14) ∧ i = j) → (rsi (rsi (rsi S8 12 j 1) 13 j (nI x)) 14 j (nI ty)).1 f i = S8.1 f i := fun f i z => by rw [rsi_ne _ _ (by omega), rsi_ne _ _ (by omega), rsi_ne _ _ (by omega)]
                        have v12 : (rsi (rsi (rsi S8 12 j 1) 13 j (nI x)) 14 j (nI ty)).1 12 j = 1 := by rw [rsi_ne _ _ (by omega), rsi_ne _ _ (by omega), rsi_i]
                        have v13 : (rsi (rsi (rsi S8 12 j 1) 13 j (nI x)) 14 j (nI ty)).1 13 j = nI x := by rw [rsi_ne _ _ (by omega), rsi_i]
                        have v14 : (rsi (rsi (rsi S8 12 j 1) 13 j (nI x)) 14 j (nI ty)).1 14 j = nI ty := rsi_i _ _ _ _
                        have v2 : (rsi (rsi (rsi S8 12 j 1) 13 j (nI x)) 14 j (nI ty)).2 = S7.2 := u1
                        rw [u2 10 4 (by omega), r7]
                        generalize rsi (rsi (rsi S8 12 j 1) 13 j (nI x)) 14 j (nI ty) = S9 at v1 v12 v13 v14 v2 ⊢
                        refine r_typeOf ho (B := 256) (by unfold hB; omega) (by decide) ⟨_, rfl, j, ij, ?_⟩
                        rw [v1 29 0 (by omega), u2 29 0 (by omega), eF.1]
                        have w1 : ∀ f i, ¬ (f = 15 ∧ i = j) → (rsi S9 15 j (nI F.1)).1 f i = S9.1 f i := fun f i z => rsi_ne _ _ z
                        have w15 : (rsi S9 15 j (nI F.1)).1 15 j = nI F.1 := rsi_i _ _ _ _
                        have w2 : (rsi S9 15 j (nI F.1)).2 = S7.2 := v2
                        generalize rsi S9 15 j (nI F.1) = S10 at w1 w15 w2 ⊢
                        have all : ∀ f i, ¬ ((f = 16 ∨ f = 17) ∧ 7 * j ≤ i ∧ i < 7 * j + 7) → ¬ (12 ≤ f ∧ f ≤ 15 ∧ i = j) → S10.1 f i = S7.1 f i := fun f i q1 q2 => by rw [w1 f i (by omega), v1 f i (by omega), u2 f i q1]
                        refine r_move ho (t := j) (n := s.2.2.1) (by omega) (by omega) (by rw [all 11 4 (by omega) (by omega)]; exact n7) (by rw [all 10 4 (by omega) (by omega)]; exact r7) fun S11 mv => ⟨rfl, j, ij, ?_⟩
                        have t10 : rTr S10 s.2.2.2 7 (256 + 0) (256 + s.2.2.1) (s.2.2.1 - 1) := rTr_cong t7 fun f i q1 q2 _ _ => all f i (by omega) (by omega)
                        have t11 := rTr_mv (t := j) (by omega) (by omega) mv (r := 0) t10 (Nat.le_refl _)
                        have x1 : ∀ f i, ¬ (f = 11 ∧ i = j) → ¬ (f = 10 ∧ i = j) → (rsi (rsi S11 11 j (nI s.2.2.1)) 10 j (nI (64 * j))).1 f i = S11.1 f i := fun f i q1 q2 => by rw [rsi_ne _ _ q2, rsi_ne _ _ q1]
                        have x10 : (rsi (rsi S11 11 j (nI s.2.2.1)) 10 j (nI (64 * j))).1 10 j = nI (64 * j) := rsi_i _ _ _ _
                        have x22 : (rsi (rsi S11 11 j (nI s.2.2.1)) 10 j (nI (64 * j))).2 = S7.2 := mv.1.trans w2
                        generalize rsi (rsi S11 11 j (nI s.2.2.1)) 10 j (nI (64 * j)) = S12 at x1 x10 x22 ⊢
                        have nod : ∀ f i, ¬ (4 ≤ f ∧ f ≤ 9 ∧ 64 * j ≤ i ∧ i < 64 * j + 64) → ¬ (f = 11 ∧ i = j) → ¬ (f = 10 ∧ i = j) → S12.1 f i = S10.1 f i := fun f i q1 q2 q3 => by rw [x1 f i q2 q3, mv.2.2 f i (by omega)]
                        have out : ∀ f i, ¬ ((f = 16 ∨ f = 17) ∧ 7 * j ≤ i ∧ i < 7 * j + 7) → ¬ (12 ≤ f ∧ f ≤ 15 ∧ i = j) → ¬ (4 ≤ f ∧ f ≤ 9 ∧ 64 * j ≤ i ∧ i < 64 * j + 64) → ¬ (f = 11 ∧ i = j) → ¬ (f = 10 ∧ i = j) → S12.1 f i = S7.1 f i := fun f i q1 q2 q3 q4 q5 => by rw [nod f i q3 q4 q5]; exact all f i q1 q2
                        rw [show S12.1 15 j = nI F.1 by rw [nod 15 j (by omega) (by omega) (by omega)]; exact w15]
                        refine k3 j ty x s F hdef he2 hF S12 ⟨fun f i p q1 q2 q3 q4 => ?_, ?_, ?_, fun f i q1 q2 q3 q4 => ?_, ?_, ?_, ?_⟩ ?_ ?_ ?_ ?_ (fun k hk => ?_) ?_ x10 ?_ ?_
                        · rw [out f i q2 q1 q3 (by unfold pst at p; omega) q4]; exact h7.1 f i p
                        · rw [x22]; exact h7.2.1
                        · rw [x22]; exact h7.2.2.1
                        · rw [out f i (by omega) (by omega) (by omega) (by omega) (by omega)]; exact h7.2.2.2.1 f i q1 q2 q4
                        · rw [out 10 3 (by omega) (by omega) (by omega) (by omega) (by omega)]; exact h7.2.2.2.2.1
                        · rw [out 18 0 (by omega) (by omega) (by omega) (by omega) (by omega)]; exact h7.2.2.2.2.2.1
                        · rw [out 19 0 (by omega) (by omega) (by omega) (by omega) (by omega)]; exact h7.2.2.2.2.2.2
                        · rw [nod 12 j (by omega) (by omega) (by omega), w1 12 j (by omega)]; exact v12
                        · rw [nod 13 j (by omega) (by omega) (by omega), w1 13 j (by omega)]; exact v13
                        · rw [nod 14 j (by omega) (by omega) (by omega), w1 14 j (by omega)]; exact v14
                        · rw [nod 15 j (by omega) (by omega) (by omega)]; exact w15
                        · rw [nod 16 _ (by omega) (by omega) (by omega), w1 16 _ (by omega), v1 16 _ (by omega), nod 17 _ (by omega) (by omega) (by omega), w1 17 _ (by omega), v1 17 _ (by omega)]
                          exact u3 k hk
                        · exact rTr_cong t11 fun f i q1 q2 _ _ => x1 f i (by omega) (by omega)
                        · rw [out 0 0 (by omega) (by omega) (by omega) (by omega) (by omega)]; exact c70
                        · rw [out 1 0 (by omega) (by omega) (by omega) (by omega) (by omega)]; exact c71
                      | succ m ih =>
                        intro n hn S8 u1 u2 u3
                        have n7' : ¬ (7 : Int32) ≤ nI n := fun z => by
                          have := (nI_leI (a := 7) (b := n) (by decide) (by omega)).mp z
                          omega
                        have y8 : vw (wv S8 27 (5 * 0)) F.2.2.1 := by unfold wv; rw [u1]; exact eF.2.2.2.2.1
                        have n8 : vw (wv S8 28 (5 * 0)) F.2.2.2 := by unfold wv; rw [u1]; exact eF.2.2.2.2.2
                        have i21 : am_ix (7 * nI j + nI n) (7 * j + n) 21 := by rw [show (7 : Int32) * nI j = nI (7 * j) from pk_mul 7 j, nI_add]; exact am_ix_n (by omega) (by decide)
                        refine w_X10_define_293 ho (nI j) (nI x) (nI ty) _ (nI n) ⟨fun z => absurd z n7', fun _ => ?_⟩
                        rw [show (7 : Int32) * nI x = nI (7 * x) from pk_mul 7 x, nI_add, nI_1]
                        refine v_said ho (k1 := 18) (f1 := 27) (n1 := 320) (i := 5 * 0) rfl (by decide) (by decide) (show 7 * x + n < 56 by omega) ⟨_, rfl, 7 * j + n, i21, ?_⟩
                        rw [y8.2 _ (show 7 * x + n < 56 by omega)]
                        refine v_said ho (k1 := 19) (f1 := 28) (n1 := 320) (i := 5 * 0) rfl (by decide) (by decide) (show 7 * x + n < 56 by omega) ⟨_, rfl, 7 * j + n, i21, ?_⟩
                        have n8' : gk (wv (rsi S8 16 (7 * j + n) (nI (F.2.2.1 (7 * x + n)))) 28 (5 * 0)) (7 * x + n) = F.2.2.2 (7 * x + n) := n8.2 _ (show 7 * x + n < 56 by omega)
                        rw [n8']
                        refine ih (n + 1) (by omega) _ u1 (fun f i q => ?_) (fun k hk => ?_)
                        · rw [rsi_ne _ _ (by omega), rsi_ne _ _ (by omega)]; exact u2 f i q
                        · by_cases q : k = n
                          · subst q
                            exact ⟨by rw [rsi_ne _ _ (by omega), rsi_i], rsi_i _ _ _ _⟩
                          · rw [rsi_ne _ _ (by omega), rsi_ne _ _ (by omega), rsi_ne _ _ (by omega), rsi_ne _ _ (by omega)]
                            exact u3 k (by omega)
                    exact key 7 0 rfl S7 rfl (fun _ _ _ => rfl) (fun k hk => absurd hk (by omega))
end RDD
