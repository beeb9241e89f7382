/-! The reference: check and define. -/
theorem mvS.pf {S S' : rS} {n : Nat} (h : mvS S S' 3 n) : pfx S S' := fun f i p => h.2.2 f i (by unfold pst at p; omega)
theorem sm3 : ∀ x, x < 8 → (3 : Nat).testBit x = (smE x).isSome := by decide
/-- what the reference's check finds -/
def nkE (fx : fnT) (s : pS) : Nat ⊕ nF := nk fx s.2.2.2 7 (s.2.2.1 - 1) (fun _ => 31) (fun x => 7 * x) (fun _ => none)
def nkD (fx : fnT) (ty x : Nat) (s : pS) : Nat ⊕ nF := nk fx s.2.2.2 7 (s.2.2.1 - 1) (fun q => if q = 7 * x then ty else 31) (fun x => 7 * x) (fun _ => none)
theorem rd_wt {ch : Nat → Option Nat} {len p : Nat} {fd : Nat → Bool} {sm : Nat → Option Nat} {sc : List Nat} {s' : pS} (hc : chO ch len) (hs : scO sm sc) (h : pPart ch fd 6 sm (p, 2, 0, T0) = .inr s') : wt s'.2.2.2 7 (s'.2.2.1 - 1) 0 2 s'.2.1 sc ∧ 0 < s'.2.2.1 ∧ s'.2.2.1 ≤ 60 ∧ wn s'.2.2.2 7 (s'.2.2.1 - 1) sm ∧ ∀ m, m < s'.2.2.1 → nP fd (s'.2.2.2 m) := by
  have pp : pPre len (p, 2, 0, T0) := ⟨Nat.zero_le _, show (2 : Nat) ≤ 17 by decide⟩
  have q := pPart_ok fd hc 6 sm sc (p, 2, 0, T0) s' hs pp h
  have w : wt s'.2.2.2 7 (s'.2.2.1 - 1) 0 2 s'.2.1 sc := q.2.2.2.2.2.2.2
  have z : 0 < s'.2.2.1 := q.2.2.1
  have l := (wt_lt w).1
  have nm := pPart_nm fd hc 6 sm sc (p, 2, 0, T0) s' hs pp h
  exact ⟨w, z, by omega, nm.1, nm.2 fun m hm => absurd hm (Nat.not_lt_zero _)⟩
section RDB1
variable {c : rX} {D : Nat} {S : rS} {K : Option Value → rS → Prop} {fx : fnT} {fd : Nat → Bool} {ch : Nat → Option Nat} {len : Nat}
theorem r_check (ho : rOK c) (hfx : ∀ i, i < 3 → fd i = true → (fx i).isSome = true) (hc : chO ch len) (hT : RTX S ch len fd) (hX : RFX S fx)
    (k1 : ∀ e, pExpr ch fd = .inl e → ∀ S', pfx S S' → S'.2 = S.2 → (∀ f i, 4 ≤ f → f ≤ 9 → i < 256 → S'.1 f i = S.1 f i) → S'.1 10 3 = S.1 10 3 → S'.1 18 0 = S.1 18 0 → S'.1 19 0 = S.1 19 0 → S'.1 0 0 = 1 → S'.1 1 0 = nI e → K (some (.int 0)) S')
    (k2 : ∀ s e, pExpr ch fd = .inr s → pPart ch fd 6 smE (0, 2, 0, T0) = .inr s → nkE fx s = .inl e → ∀ S', pfx S S' → S'.2 57 = S.2 57 → S'.2 58 = S.2 58 → rTr S' s.2.2.2 7 192 (192 + s.2.2.1) (s.2.2.1 - 1) → S'.1 10 3 = nI 192 → S'.1 18 0 = 1 → S'.1 19 0 = 0 → S'.1 0 0 = 2 → S'.1 1 0 = nI e → K (some (.int 0)) S')
    (k3 : ∀ s F, pExpr ch fd = .inr s → pPart ch fd 6 smE (0, 2, 0, T0) = .inr s → nkE fx s = .inr F → ∀ S', pfx S S' → vw (wv S' 57 0) F.2.2.1 → vw (wv S' 58 0) F.2.2.2 → rTr S' s.2.2.2 7 192 (192 + s.2.2.1) (s.2.2.1 - 1) → S'.1 10 3 = nI 192 → S'.1 18 0 = 1 → S'.1 19 0 = 1 → S'.1 0 0 = 0 → S'.1 1 0 = -1 → K (some (.int (nI F.1))) S') :
    rM c (D + 7) eX10_check [.ref c.2.2.1] S K := by
  refine w_X10_check ho ?_
  have a1 : ∀ f i, ¬ ((f = 0 ∨ f = 1 ∨ f = 20) ∧ i = 0) → (rsi (rsi (rsi S 0 0 0) 1 0 (-1)) 20 0 0).1 f i = S.1 f i := fun f i z => by rw [rsi_ne _ _ (by omega), rsi_ne _ _ (by omega), rsi_ne _ _ (by omega)]
  have a2 : (rsi (rsi (rsi S 0 0 0) 1 0 (-1)) 20 0 0).1 0 0 = 0 := by rw [rsi_ne _ _ (by omega), rsi_ne _ _ (by omega), rsi_i]
  have a3 : (rsi (rsi (rsi S 0 0 0) 1 0 (-1)) 20 0 0).1 1 0 = -1 := by rw [rsi_ne _ _ (by omega), rsi_i]
  have a4 : (rsi (rsi (rsi S 0 0 0) 1 0 (-1)) 20 0 0).1 20 0 = nI 0 := rsi_i _ _ _ _
  have a5 : (rsi (rsi (rsi S 0 0 0) 1 0 (-1)) 20 0 0).2 = S.2 := rfl
  generalize rsi (rsi (rsi S 0 0 0) 1 0 (-1)) 20 0 0 = S0 at a1 a2 a3 a4 a5 ⊢
  have p0 : pfx S S0 := fun f i p => a1 f i (by unfold pst at p; omega)
  refine r_rest (D := D + 1) ho (mk := 3) (p := 0) hc (hT.pf p0) a4 (Nat.zero_le _) (smE_sc) (by decide) sm3 (fun e he S1 x1 z1 => ⟨0, rfl, fun z => absurd rfl z, fun _ => r_failn ho ⟨_, rfl, ?_⟩⟩) (fun s he he2 S1 x1 t1 r1 n1 => ⟨1, rfl, fun _ => ?_, fun z => absurd z (by decide)⟩)
  · refine k1 e he _ (p0.trans (x1.pf.trans ((pfx_w S1 _ (by unfold pst; omega)).trans (pfx_w _ _ (by unfold pst; omega))))) (x1.1.trans a5) (fun f i q1 q2 q3 => ?_) ?_ ?_ ?_ (rsi_i _ _ _ _) ?_
    · rw [rsi_ne _ _ (by omega), rsi_ne _ _ (by omega), x1.2 f i (by omega) (by omega) (by omega) (by omega), a1 f i (by omega)]
    · rw [rsi_ne _ _ (by omega), rsi_ne _ _ (by omega), x1.2 10 3 (by omega) (by omega) (by omega) (by omega), a1 10 3 (by omega)]
    · rw [rsi_ne _ _ (by omega), rsi_ne _ _ (by omega), x1.2 18 0 (by omega) (by omega) (by omega) (by omega), a1 18 0 (by omega)]
    · rw [rsi_ne _ _ (by omega), rsi_ne _ _ (by omega), x1.2 19 0 (by omega) (by omega) (by omega) (by omega), a1 19 0 (by omega)]
    · rw [rsi_ne _ _ (by omega), rsi_i]; exact z1
  · obtain ⟨w, l0, l60, wN, np⟩ := rd_wt hc smE_sc he2
    refine r_move ho (t := 3) (by decide) (by omega) n1 r1 fun S2 v2 => ⟨rfl, ?_⟩
    have t2 : rTr S2 s.2.2.2 7 (64 * 3 + 0) (64 * 3 + s.2.2.1) (s.2.2.1 - 1) := rTr_mv (by decide) (by omega) v2 (r := 0) t1 (Nat.le_refl _)
    have b1 : ∀ f i, ¬ (f = 11 ∧ i = 3) → ¬ (f = 10 ∧ i = 3) → ¬ (f = 18 ∧ i = 0) → (rsi (rsi (rsi S2 11 3 (nI s.2.2.1)) 10 3 (nI (64 * 3))) 18 0 1).1 f i = S2.1 f i := fun f i q1 q2 q3 => by rw [rsi_ne _ _ q3, rsi_ne _ _ q2, rsi_ne _ _ q1]
    have b2 : (rsi (rsi (rsi S2 11 3 (nI s.2.2.1)) 10 3 (nI (64 * 3))) 18 0 1).1 10 3 = nI 192 := by rw [rsi_ne _ _ (by omega), rsi_i]
    have b3 : (rsi (rsi (rsi S2 11 3 (nI s.2.2.1)) 10 3 (nI (64 * 3))) 18 0 1).1 18 0 = 1 := rsi_i _ _ _ _
    have b4 : (rsi (rsi (rsi S2 11 3 (nI s.2.2.1)) 10 3 (nI (64 * 3))) 18 0 1).2 = S.2 := v2.1.trans (x1.1.trans a5)
    have b5 : pfx S (rsi (rsi (rsi S2 11 3 (nI s.2.2.1)) 10 3 (nI (64 * 3))) 18 0 1) := p0.trans (x1.pf.trans (v2.pf.trans fun f i p => b1 f i (by unfold pst at p; omega) (by unfold pst at p; omega) (by unfold pst at p; omega)))
    have t3 : rTr (rsi (rsi (rsi S2 11 3 (nI s.2.2.1)) 10 3 (nI (64 * 3))) 18 0 1) s.2.2.2 7 (192 + 0) (192 + s.2.2.1) (s.2.2.1 - 1) := rTr_cong t2 fun f i q1 q2 _ _ => b1 f i (by omega) (by omega) (by omega)
    have c1 : ∀ i, i < 2 → (rsi (rsi (rsi S2 11 3 (nI s.2.2.1)) 10 3 (nI (64 * 3))) 18 0 1).1 i 0 = S0.1 i 0 := fun i hi => by rw [b1 i 0 (by omega) (by omega) (by omega), v2.2.2 i 0 (by omega), x1.2 i 0 (by omega) (by omega) (by omega) (by omega)]
    generalize rsi (rsi (rsi S2 11 3 (nI s.2.2.1)) 10 3 (nI (64 * 3))) 18 0 1 = S3 at b2 b3 b4 b5 t3 c1 ⊢
    clear b1
    refine r_everything ho fun S4 e1 e2 e3 e4 => ⟨rfl, ?_⟩
    have p4 : pfx S S4 := b5.trans fun f i p => e1 f i (by unfold pst at p; omega)
    rw [show S4.1 10 3 = nI (192 + 0) by rw [e1 10 3 (by omega)]; exact b2]
    have t4 : rTr S4 s.2.2.2 7 (192 + 0) (192 + s.2.2.1) (s.2.2.1 - 1) := rTr_cong t3 fun f i q1 q2 _ _ => e1 f i (by omega)
    have R4 : REN S4 smE (fun x => 7 * x) (fun _ => none) := by
      intro x hx
      obtain ⟨z, hz⟩ := Option.isSome_iff_exists.mp hx
      have := smE_is hz
      exact ⟨by omega, (e4 x (by omega)).2, by show 7 * x < 56; omega, Or.inl ⟨rfl, (e4 x (by omega)).1⟩⟩
    refine r_acc (D := D) ho (B := 192) (by unfold hB; omega) hfx (sm := smE) t4 (by omega) w wN (fun i hi => np i (by omega)) R4 (hX.pf p4) e3 (fun e he' S5 f5 z1 => ⟨0, rfl, Or.inl rfl, fun z => absurd rfl z, fun _ => r_failn ho ⟨_, rfl, ?_⟩⟩) (fun F hF S5 f5 z1 eF => ⟨1, rfl, Or.inr rfl, fun _ => ?_, fun z => absurd z (by decide)⟩)
    · have g5 : ∀ f i, (4 ≤ f ∧ f ≤ 9) ∨ f = 10 ∨ f = 18 ∨ f = 0 → S5.1 f i = S4.1 f i := fun f i q => f5.1 f i (by omega) (by omega) (by omega) (by omega) (by omega)
      refine k2 s e he he2 he' _ (p4.trans (f5.pf.trans ((pfx_w S5 _ (by unfold pst; omega)).trans (pfx_w _ _ (by unfold pst; omega))))) ?_ ?_ ?_ ?_ ?_ ?_ (rsi_i _ _ _ _) ?_
      · show S5.2 57 = _
        rw [← b4, ← e2 57 (by decide)]
        exact funext fun i => f5.2 57 i (by omega) (by omega) (by omega)
      · show S5.2 58 = _
        rw [← b4, ← e2 58 (by decide)]
        exact funext fun i => f5.2 58 i (by omega) (by omega) (by omega)
      · exact rTr_cong t4 fun f i q1 q2 _ _ => by rw [rsi_ne _ _ (by omega), rsi_ne _ _ (by omega)]; exact g5 f i (by omega)
      · rw [rsi_ne _ _ (by omega), rsi_ne _ _ (by omega), g5 10 3 (by omega), e1 10 3 (by omega)]; exact b2
      · rw [rsi_ne _ _ (by omega), rsi_ne _ _ (by omega), g5 18 0 (by omega), e1 18 0 (by omega)]; exact b3
      · rw [rsi_ne _ _ (by omega), rsi_i]
      · rw [rsi_ne _ _ (by omega), rsi_ne _ _ (by omega)]; exact z1
    · have g5 : ∀ f i, (4 ≤ f ∧ f ≤ 9) ∨ f = 10 ∨ f = 18 ∨ f = 0 → S5.1 f i = S4.1 f i := fun f i q => f5.1 f i (by omega) (by omega) (by omega) (by omega) (by omega)
      have d1 : ∀ f i, ¬ (f = 19 ∧ i = 0) → (rsi S5 19 0 1).1 f i = S5.1 f i := fun f i z => rsi_ne _ _ z
      have d2 : (rsi S5 19 0 1).1 19 0 = 1 := rsi_i _ _ _ _
      have d3 : (rsi S5 19 0 1).2 = S5.2 := rfl
      rw [show S5.1 10 3 = nI (192 + 0) by rw [g5 10 3 (by omega), e1 10 3 (by omega)]; exact b2]
      generalize rsi S5 19 0 1 = S6 at d1 d2 d3 ⊢
      refine r_five ho (B := 192) (by unfold hB; omega) (by decide) ⟨_, rfl, ?_⟩
      refine v_copy ho (k1 := 18) (f1 := 27) (n1 := 320) (k2 := 40) (f2 := 57) (n2 := 5) (i := 5 * 0) (j := 0) rfl rfl (by decide) (by decide) (by decide) (by decide) (Or.inl (by decide)) ⟨rfl, ?_⟩
      refine v_copy ho (k1 := 19) (f1 := 28) (n1 := 320) (k2 := 41) (f2 := 58) (n2 := 5) (i := 5 * 0) (j := 0) rfl rfl (by decide) (by decide) (by decide) (by decide) (Or.inl (by decide)) ⟨rfl, ?_⟩
      have j1 : (put (put S6 57 0 5 (wv S6 27 (5 * 0))) 58 0 5 (wv (put S6 57 0 5 (wv S6 27 (5 * 0))) 28 (5 * 0))).1 = S6.1 := rfl
      have y7 : vw (wv (put (put S6 57 0 5 (wv S6 27 (5 * 0))) 58 0 5 (wv (put S6 57 0 5 (wv S6 27 (5 * 0))) 28 (5 * 0))) 57 0) F.2.2.1 := eF.2.2.2.2.1.cong fun k hk => by
        rw [wv_out (Or.inl (by decide)) k hk, wv_in _ _ _ _ k hk]
        show S6.2 27 _ = S5.2 27 _
        rw [d3]
      have n7 : vw (wv (put (put S6 57 0 5 (wv S6 27 (5 * 0))) 58 0 5 (wv (put S6 57 0 5 (wv S6 27 (5 * 0))) 28 (5 * 0))) 58 0) F.2.2.2 := eF.2.2.2.2.2.cong fun k hk => by
        rw [wv_in _ _ _ _ k hk, wv_out (Or.inl (by decide)) k hk]
        show S6.2 28 _ = S5.2 28 _
        rw [d3]
      generalize put (put S6 57 0 5 (wv S6 27 (5 * 0))) 58 0 5 (wv (put S6 57 0 5 (wv S6 27 (5 * 0))) 28 (5 * 0)) = S7 at j1 y7 n7 ⊢
      have g7 : ∀ f i, ¬ (f = 19 ∧ i = 0) → S7.1 f i = S5.1 f i := fun f i z => by rw [j1]; exact d1 f i z
      have e10 : S7.1 10 3 = nI (192 + 0) := by rw [g7 10 3 (by omega), g5 10 3 (by omega), e1 10 3 (by omega)]; exact b2
      rw [e10]
      refine r_typeOf ho (B := 192) (by unfold hB; omega) (by decide) ⟨_, rfl, ?_⟩
      rw [g7 29 0 (by omega), eF.1]
      refine k3 s F he he2 hF S7 (p4.trans (f5.pf.trans fun f i p => g7 f i (by unfold pst at p; omega))) y7 n7 (rTr_cong t4 fun f i q1 q2 _ _ => by rw [g7 f i (by omega)]; exact g5 f i (by omega)) e10 ?_ (by rw [j1]; exact d2) ?_ ?_
      · rw [g7 18 0 (by omega), g5 18 0 (by omega), e1 18 0 (by omega)]; exact b3
      · rw [g7 0 0 (by omega), g5 0 0 (by omega), e1 0 0 (by omega), c1 0 (by decide)]; exact a2
      · rw [g7 1 0 (by omega), z1, e1 1 0 (by omega), c1 1 (by decide)]; exact a3
end RDB1
