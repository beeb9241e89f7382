/-! The reference's reader: by the brackets left. -/
section RRF
variable {c : rX} {D d : Nat} {S : rS} {K : Option Value → rS → Prop} {ch : Nat → Option Nat} {len : Nat} {fd : Nat → Bool} {sm : Nat → Option Nat} {sc : List Nat} {s : pS} {dp : Nat}
/-- an operation -/
theorem rp_oper (ho : rOK c) {b op st p : Nat} (hc : chO ch len) (ih : rpC c D ch len fd b) (hb : dp + 1 + b = 6) (hQ : pQ len sm sc s (dp + 1)) (hop : op < 65536) (h58 : op ≠ 58) (hp : pO fd (some op) = some p) (hB : BK S ch len fd sm s dp (256 + (s.2.2.1 + dp)) op 0 st 0)
    (hE : ∀ e, pClose ch (pOper (pPart ch fd b sm) op st p s) = .inl e → ∀ S', rfr (s.2.2.1 + dp) dp S S' → ¬ S'.1 23 0 = 0 → S'.1 20 0 = nI e → K (some (.int (-1))) S')
    (hG : ∀ s', pClose ch (pOper (pPart ch fd b sm) op st p s) = .inr s' → ∀ S', rfr (s.2.2.1 + dp) dp S S' → RRE S' ch len fd sm s' dp → rTr S' s'.2.2.2 (b + 2) (256 + (s.2.2.1 + dp)) (256 + (s'.2.2.1 + dp)) (s'.2.2.1 - 1) → JC c D K S' (nI (256 + (s.2.2.1 + dp)))) :
    JR c D K S := by
  obtain ⟨_, p1, p3⟩ := nPt_lt (sm := sm) hp h58
  have n0 : ∀ j, op = 58 ∧ j = 0 → sm 0 = none ∧ ∃ o : Option Nat, o.isSome = true ∧ sm = up sm 0 o := fun j z => absurd z.1 h58
  have sg : ∀ (x : Nat) (l : List Nat), l ≠ [] → sgn (op, st, x, none, l) = op := fun x l hl => by unfold sgn; rw [if_neg hl]
  have wh : ∀ (x : Nat) (l : List Nat), l ≠ [] → wht (op, st, x, none, l) = 0 := fun x l hl => by unfold wht; rw [if_neg hl, if_neg h58]
  unfold pOper at hE hG
  refine r_next ho (sm1 := sm) hc ih hb (by decide) (by omega) hB hQ hop (by decide) hp (n0 0) (fun _ => rfl) (fun e he => ?_) (fun s1 he1 hlt S1 f1 B1 k1 t1 u1 => ?_) (fun s1 he1 hle hne => ?_) (fun s1 he1 hle heq S1 f1 T1 z20 z21 z23 z11 _ zsc z4 z8 z9 zk k1 t1 u1 => ?_)
  · rw [he] at hE; exact hE e rfl
  · -- a second part
    rw [he1] at hE hG
    simp only at hE hG
    rw [if_neg (by omega)] at hE hG
    obtain ⟨Q1, o1, l1⟩ := hQ.step hc he1
    refine r_next ho (sm1 := sm) hc ih hb (by decide) (by omega) B1 Q1 hop (by decide) hp (n0 1) (fun _ => rfl) (fun e he S' f' => ?_) (fun s2 he2 hlt2 S2 f2 B2 k2 t2 u2 => ?_) (fun s2 he2 hle hne S' f' => ?_) (fun s2 he2 hle heq S2 f2 T2 z20 z21 z23 z11 _ zsc z4 z8 z9 zk k2 t2 u2 => ?_)
    · rw [he] at hE; exact hE e rfl S' (f1.trans f')
    · -- a third part
      rw [he2] at hE hG
      simp only at hE hG
      rw [if_neg (by omega)] at hE hG
      obtain ⟨Q2, o2, l2⟩ := Q1.step hc he2
      refine r_next ho (sm1 := sm) hc ih hb (by decide) (by omega) B2 Q2 hop (by decide) hp (n0 2) (fun _ => rfl) (fun e he S' f' => ?_) (fun s3 he3 hlt3 => absurd hlt3 (by omega)) (fun s3 he3 hle hne S' f' => ?_) (fun s3 he3 hle heq S3 f3 T3 z20 z21 z23 z11 _ zsc z4 z8 z9 zk k3 t3 u3 => ?_)
      · rw [he] at hE; exact hE e rfl S' (f1.trans (f2.trans f'))
      · rw [he3] at hE
        simp only [pClose] at hE
        exact hE s3.1 (if_neg hne) S' (f1.trans (f2.trans f'))
      · rw [he3] at hG
        simp only [pClose] at hG
        obtain ⟨Q3, o3, l3⟩ := Q2.step hc he3
        refine hG _ (if_pos heq) S3 (f1.trans (f2.trans f3)) ⟨T3, z20, z21, z23, ?_, zsc h58⟩ ?_
        · rw [z11]
          show nI (s3.2.2.1 + (dp + 1)) = nI (s3.2.2.1 + 1 + dp)
          congr 1
          omega
        · show rTr S3 (up s3.2.2.2 s3.2.2.1 _) (b + 1 + 1) _ (256 + (s3.2.2.1 + 1 + dp)) (s3.2.2.1 + 1 - 1)
          rw [Nat.add_sub_cancel]
          unfold rTr
          rw [up_same, sg 0 _ (by simp), wh 0 _ (by simp)]
          have c1 : rTr S3 s1.2.2.2 (b + 1) (256 + (s.2.2.1 + (dp + 1))) (256 + (s1.2.2.1 + (dp + 1))) (s1.2.2.1 - 1) := rTr_cong (rTr_cong t1 fun f i q1 q2 q3 q4 => u2 f i q1 q2 (by omega) (by omega) (by omega)) fun f i q1 q2 q3 q4 => u3 f i q1 q2 (by omega) (by omega) (by omega)
          have c2 : rTr S3 s2.2.2.2 (b + 1) (256 + (s1.2.2.1 + (dp + 1))) (256 + (s2.2.2.1 + (dp + 1))) (s2.2.2.1 - 1) := rTr_cong t2 fun f i q1 q2 q3 q4 => u3 f i q1 q2 (by omega) (by omega) (by omega)
          have e12 : ∀ m, m < s1.2.2.1 → s2.2.2.2 m = s1.2.2.2 m := o2.2.2.2.2.2.2.1
          have e23 : ∀ m, m < s2.2.2.1 → s3.2.2.2 m = s2.2.2.2 m := o3.2.2.2.2.2.2.1
          refine ⟨z4, z8, z9, 256 + (s1.2.2.1 + (dp + 1)), 256 + (s2.2.2.1 + (dp + 1)), ?_, ?_, ?_, ?_, ?_, ?_⟩
          · rw [u3 5 _ (by omega) (by omega) (by omega) (by omega) (by omega), u2 5 _ (by omega) (by omega) (by omega) (by omega) (by omega), show S1.1 5 (256 + (s.2.2.1 + dp)) = nI (256 + (s.2.2.1 + (dp + 1))) from k1]
            congr 1
          · rw [u3 6 _ (by omega) (by omega) (by omega) (by omega) (by omega)]; exact k2
          · exact k3
          · rw [show 256 + (s.2.2.1 + dp) + 1 = 256 + (s.2.2.1 + (dp + 1)) by omega]
            exact rTr_congT o1.2.2.2.2.2.2.2 c1 fun i hi => by rw [up_ne _ _ (by omega), e23 i (by omega), e12 i (by omega)]
          · exact rTr_congT o2.2.2.2.2.2.2.2 c2 fun i hi => by rw [up_ne _ _ (by omega), e23 i (by omega)]
          · rw [show 256 + (s3.2.2.1 + 1 + dp) = 256 + (s3.2.2.1 + (dp + 1)) by omega]
            exact rTr_congT o3.2.2.2.2.2.2.2 t3 fun i hi => up_ne _ _ (by omega)
    · rw [he2] at hE
      simp only at hE
      rw [if_pos (by omega)] at hE
      simp only [pClose] at hE
      exact hE s2.1 (if_neg hne) S' (f1.trans f')
    · rw [he2] at hG
      simp only at hG
      rw [if_pos (by omega)] at hG
      simp only [pClose] at hG
      obtain ⟨Q2, o2, l2⟩ := Q1.step hc he2
      refine hG _ (if_pos heq) S2 (f1.trans f2) ⟨T2, z20, z21, z23, ?_, zsc h58⟩ ?_
      · rw [z11]
        show nI (s2.2.2.1 + (dp + 1)) = nI (s2.2.2.1 + 1 + dp)
        congr 1
        omega
      · show rTr S2 (up s2.2.2.2 s2.2.2.1 _) (b + 1 + 1) _ (256 + (s2.2.2.1 + 1 + dp)) (s2.2.2.1 + 1 - 1)
        rw [Nat.add_sub_cancel]
        unfold rTr
        rw [up_same, sg 0 _ (by simp), wh 0 _ (by simp)]
        have c1 : rTr S2 s1.2.2.2 (b + 1) (256 + (s.2.2.1 + (dp + 1))) (256 + (s1.2.2.1 + (dp + 1))) (s1.2.2.1 - 1) := rTr_cong t1 fun f i q1 q2 q3 q4 => u2 f i q1 q2 (by omega) (by omega) (by omega)
        have e12 : ∀ m, m < s1.2.2.1 → s2.2.2.2 m = s1.2.2.2 m := o2.2.2.2.2.2.2.1
        refine ⟨z4, z8, z9, 256 + (s1.2.2.1 + (dp + 1)), ?_, k2, (zk 2 (by decide)).2 (by decide), ?_, ?_⟩
        · rw [u2 5 _ (by omega) (by omega) (by omega) (by omega) (by omega), show S1.1 5 (256 + (s.2.2.1 + dp)) = nI (256 + (s.2.2.1 + (dp + 1))) from k1]
          congr 1
        · rw [show 256 + (s.2.2.1 + dp) + 1 = 256 + (s.2.2.1 + (dp + 1)) by omega]
          exact rTr_congT o1.2.2.2.2.2.2.2 c1 fun i hi => by rw [up_ne _ _ (by omega), e12 i (by omega)]
        · rw [show 256 + (s2.2.2.1 + 1 + dp) = 256 + (s2.2.2.1 + (dp + 1)) by omega]
          exact rTr_congT o2.2.2.2.2.2.2.2 t2 fun i hi => up_ne _ _ (by omega)
  · rw [he1] at hE
    simp only at hE
    rw [if_pos (by omega)] at hE
    simp only [pClose] at hE
    exact hE s1.1 (if_neg hne)
  · rw [he1] at hG
    simp only at hG
    rw [if_pos (by omega)] at hG
    simp only [pClose] at hG
    obtain ⟨Q1, o1, l1⟩ := hQ.step hc he1
    refine hG _ (if_pos heq) S1 f1 ⟨T1, z20, z21, z23, ?_, zsc h58⟩ ?_
    · rw [z11]
      show nI (s1.2.2.1 + (dp + 1)) = nI (s1.2.2.1 + 1 + dp)
      congr 1
      omega
    · show rTr S1 (up s1.2.2.2 s1.2.2.1 _) (b + 1 + 1) _ (256 + (s1.2.2.1 + 1 + dp)) (s1.2.2.1 + 1 - 1)
      rw [Nat.add_sub_cancel]
      unfold rTr
      rw [up_same, sg 0 _ (by simp), wh 0 _ (by simp)]
      refine ⟨z4, z8, z9, ?_, (zk 1 (by decide)).2 (by decide), (zk 2 (by decide)).2 (by decide), ?_⟩
      · rw [show S1.1 5 (256 + (s.2.2.1 + dp)) = nI (256 + (s.2.2.1 + (dp + 1))) from k1]
        congr 1
      · rw [show 256 + (s.2.2.1 + dp) + 1 = 256 + (s.2.2.1 + (dp + 1)) by omega, show 256 + (s1.2.2.1 + 1 + dp) = 256 + (s1.2.2.1 + (dp + 1)) by omega]
        exact rTr_congT o1.2.2.2.2.2.2.2 t1 fun i hi => up_ne _ _ (by omega)
/-- a binding -/
theorem rp_bind (ho : rOK c) {b st x : Nat} (hc : chO ch len) (ih : rpC c D ch len fd b) (hb : dp + 1 + b = 6) (hQ : pQ len sm sc s (dp + 1)) (h4 : 4 * s.2.1 + 3 ≤ 8 + s.1) (hx : x < 8) (hn : sm x = none) (hB : BK S ch len fd sm s dp (256 + (s.2.2.1 + dp)) 58 x st 0)
    (hE : ∀ e, pClose ch (match pPart ch fd b sm s with
      | .inl e => .inl e
      | .inr s1 => if 17 ≤ s1.2.1 then .inl s1.1 else match pPart ch fd b (up sm x (some s1.2.1)) (s1.1, s1.2.1 + 1, s1.2.2) with
        | .inl e => .inl e
        | .inr s2 => .inr (pMk s2 (58, st, x, some s1.2.1, [s1.2.2.1 - 1, s2.2.2.1 - 1]))) = .inl e → ∀ S', rfr (s.2.2.1 + dp) dp S S' → ¬ S'.1 23 0 = 0 → S'.1 20 0 = nI e → K (some (.int (-1))) S')
    (hG : ∀ s', pClose ch (match pPart ch fd b sm s with
      | .inl e => .inl e
      | .inr s1 => if 17 ≤ s1.2.1 then .inl s1.1 else match pPart ch fd b (up sm x (some s1.2.1)) (s1.1, s1.2.1 + 1, s1.2.2) with
        | .inl e => .inl e
        | .inr s2 => .inr (pMk s2 (58, st, x, some s1.2.1, [s1.2.2.1 - 1, s2.2.2.1 - 1]))) = .inr s' → ∀ S', rfr (s.2.2.1 + dp) dp S S' → RRE S' ch len fd sm s' dp → rTr S' s'.2.2.2 (b + 2) (256 + (s.2.2.1 + dp)) (256 + (s'.2.2.1 + dp)) (s'.2.2.1 - 1) → JC c D K S' (nI (256 + (s.2.2.1 + dp)))) :
    JR c D K S := by
  have hl := hc.1
  refine r_next ho (sm1 := up sm x (some 0)) hc ih hb (by decide) (by omega) hB hQ (by decide) hx (pO58 fd) (fun _ => ⟨hn, some 0, rfl, rfl⟩) (fun z => absurd ⟨rfl, rfl⟩ z) (fun e he => ?_) (fun s1 he1 hlt S1 f1 B1 k1 t1 u1 => ?_) (fun s1 he1 hle => absurd hle (by decide)) (fun s1 he1 hle => absurd hle (by decide))
  · rw [he] at hE; exact hE e rfl
  · rw [he1] at hE hG
    simp only at hE hG
    obtain ⟨Q1, o1, l1⟩ := hQ.step hc he1
    have sl := pPart_sl ch fd b sm s s1 he1
    have q3 := Q1.2.2.1
    have q5 := Q1.2.2.2.2.1
    have q6 := Q1.2.2.2.2.2
    have h17 : ¬ 17 ≤ s1.2.1 := by omega
    rw [if_neg h17] at hE hG
    have iso : ∀ y, y < 8 → ((up sm x (some s1.2.1)) y).isSome = ((up sm x (some 0)) y).isSome := fun y _ => by
      by_cases z : y = x
      · subst z; rw [up_same, up_same]; rfl
      · rw [up_ne _ _ z, up_ne _ _ z]
    have B1' : BK S1 ch len fd (up sm x (some s1.2.1)) (s1.1, s1.2.1 + 1, s1.2.2) dp (256 + (s.2.2.1 + dp)) 58 x st 1 := by
      obtain ⟨⟨a1, a2, a3, a4, a5, a6⟩, a7, a8, a9, a10, a11⟩ := B1
      exact ⟨⟨a1, a2, a3, a4, a5, a6.iso iso⟩, a7, a8, a9, a10, a11⟩
    have hs1 : scO (up sm x (some s1.2.1)) (s1.2.1 :: sc) := by
      intro i t ht
      by_cases q : i = x
      · subst q
        rw [up_same] at ht
        cases ht
        exact List.mem_cons_self ..
      · rw [up_ne _ _ q] at ht
        exact List.mem_cons_of_mem _ (Q1.1 i t ht)
    have Q1' : pQ len (up sm x (some s1.2.1)) (s1.2.1 :: sc) (s1.1, s1.2.1 + 1, s1.2.2) (dp + 1) := ⟨hs1, ⟨Q1.2.1.1, show s1.2.1 + 1 ≤ 17 by omega⟩, q3, show 4 * (s1.2.1 + 1) ≤ 8 + s1.1 by omega, q5, q6⟩
    refine r_next ho (s := (s1.1, s1.2.1 + 1, s1.2.2)) (sm1 := up sm x (some s1.2.1)) hc ih hb (by decide) (show s.2.2.1 + dp + 1 ≤ s1.2.2.1 + (dp + 1) by omega) B1' Q1' (by decide) hx (pO58 fd) (fun z => absurd z.2 (by decide)) (fun _ => rfl) (fun e he S' f' => ?_) (fun s2 he2 hlt2 => absurd hlt2 (by decide)) (fun s2 he2 hle hne S' f' => ?_) (fun s2 he2 hle heq S2 f2 T2 z20 z21 z23 z11 zsc _ z4 z8 z9 zk k2 t2 u2 => ?_)
    · rw [he] at hE; exact hE e rfl S' (f1.trans f')
    · rw [he2] at hE
      simp only [pClose] at hE
      exact hE s2.1 (if_neg hne) S' (f1.trans f')
    · rw [he2] at hG
      simp only [pClose] at hG
      obtain ⟨Q2, o2, l2⟩ := Q1'.step hc he2
      have l2 : s1.2.2.1 < s2.2.2.1 := l2
      refine hG _ (if_pos heq) S2 (f1.trans f2) ⟨T2, z20, z21, z23, ?_, (zsc rfl).back hn⟩ ?_
      · rw [z11]
        show nI (s2.2.2.1 + (dp + 1)) = nI (s2.2.2.1 + 1 + dp)
        congr 1
        omega
      · show rTr S2 (up s2.2.2.2 s2.2.2.1 _) (b + 1 + 1) _ (256 + (s2.2.2.1 + 1 + dp)) (s2.2.2.1 + 1 - 1)
        rw [Nat.add_sub_cancel]
        unfold rTr
        rw [up_same]
        have c1 : rTr S2 s1.2.2.2 (b + 1) (256 + (s.2.2.1 + (dp + 1))) (256 + (s1.2.2.1 + (dp + 1))) (s1.2.2.1 - 1) := rTr_cong t1 fun f i q1 q2 q3 q4 => u2 f i q1 q2 (by omega) q4 (by omega)
        have e12 : ∀ m, m < s1.2.2.1 → s2.2.2.2 m = s1.2.2.2 m := o2.2.2.2.2.2.2.1
        refine ⟨z4, z8, z9, 256 + (s1.2.2.1 + (dp + 1)), ?_, k2, (zk 2 (by decide)).2 (by decide), ?_, ?_⟩
        · rw [u2 5 _ (by omega) (by omega) (by omega) (show 256 + (s.2.2.1 + dp) < 256 + (s1.2.2.1 + (dp + 1)) by omega) (by omega), show S1.1 5 (256 + (s.2.2.1 + dp)) = nI (256 + (s.2.2.1 + (dp + 1))) from k1]
          congr 1
        · rw [show 256 + (s.2.2.1 + dp) + 1 = 256 + (s.2.2.1 + (dp + 1)) by omega]
          exact rTr_congT o1.2.2.2.2.2.2.2 c1 fun i hi => by rw [up_ne _ _ (by omega), e12 i (by omega)]
        · rw [show 256 + (s2.2.2.1 + 1 + dp) = 256 + (s2.2.2.1 + (dp + 1)) by omega]
          exact rTr_congT o2.2.2.2.2.2.2.2 t2 fun i hi => up_ne _ _ (by omega)
theorem rp_ok (ho : rOK c) (hc : chO ch len) : ∀ b, rpC c D ch len fd b := by
  intro b
  induction b with
  | zero =>
    intro K S sm sc s dp hd hS hQ hE hG
    refine r_part ho (b := 0) hc hS hQ (fun n40 e he => hE e (by unfold pPart; rw [if_neg n40]; exact he)) (fun n40 s' he => hG s' (by unfold pPart; rw [if_neg n40]; exact he)) (fun y40 _ => ?_) (fun _ z => absurd z (by omega))
    exact hE s.1 (by unfold pPart; rw [if_pos y40]) _ ⟨rfl, fun f i z1 z2 z3 => rsi_ne _ _ (by omega), fun f i z1 z2 z3 => rsi_ne _ _ (by omega), fun i hi => rsi_ne _ _ (by omega)⟩ (by rw [rsi_i]; decide) (by rw [rsi_ne _ _ (by omega)]; exact hS.2.1)
  | succ b ih =>
    intro K S sm sc s dp hd hS hQ hE hG
    have hl := hc.1
    refine r_part ho (b := b + 1) hc hS hQ (fun n40 e he => hE e (by unfold pPart; rw [if_neg n40]; exact he)) (fun n40 s' he => hG s' (by unfold pPart; rw [if_neg n40]; exact he)) (fun _ z => absurd z (by omega)) (fun y40 dlt => ?_)
    have hpp : pPart ch fd (b + 1) sm s = pBr ch fd (pPart ch fd b) sm s := by
      rw [pPart, if_pos y40]
    rw [hpp] at hE hG
    unfold pBr at hE hG
    obtain ⟨q1, q2, q3, q4, q5, q6⟩ := hQ
    have l1 : s.1 < len := hc.lt y40
    refine r_open ho hc hS ⟨q1, q2, q3, q4, q5, q6⟩ dlt (fun np0 => ?_) (fun e58 npn fn => ?_) (fun op p ec n58 ep S1 f1 B1 => ?_) (fun x ec npn fn S1 f1 B1 => ?_)
    · rw [if_pos np0] at hE; exact hE _ rfl
    · rw [if_neg npn, if_pos e58] at hE
      unfold pBind at hE
      rw [fn] at hE
      exact hE _ rfl
    · obtain ⟨np, p1, p3⟩ := nPt_lt (sm := sm) ep n58
      have l2 := hc.lt ec
      rw [ec, np, if_neg (by omega), if_neg (fun z => n58 (Option.some.inj z))] at hE hG
      have Q' : pQ len sm sc (s.1 + 2, s.2) (dp + 1) := ⟨q1, ⟨show s.2.2.1 ≤ s.1 + 2 by have := q2.1; omega, q2.2⟩, show s.1 + 2 ≤ len by omega, show 4 * s.2.1 ≤ 8 + (s.1 + 2) by omega, show s.2.2.1 + (dp + 1) ≤ s.1 + 2 by omega, by omega⟩
      exact rp_oper ho (s := (s.1 + 2, s.2)) hc ih (by omega) Q' (hc.2.2 _ _ ec) n58 ep B1 (fun e he S' f' => hE e he S' (f1.trans f')) (fun s' he S' f' => hG s' he S' (f1.trans f'))
    · rw [if_neg npn, if_pos ec] at hE hG
      unfold pBind at hE hG
      rw [fn] at hE hG
      simp only at hE hG
      obtain ⟨x8, xn⟩ := fNm_lt fn
      have l2 : s.1 + 2 < len := by
        cases e : ch (s.1 + 2) with
        | none => rw [e] at fn; cases fn
        | some y => exact hc.lt e
      have Q' : pQ len sm sc (s.1 + 3, s.2) (dp + 1) := ⟨q1, ⟨show s.2.2.1 ≤ s.1 + 3 by have := q2.1; omega, q2.2⟩, show s.1 + 3 ≤ len by omega, show 4 * s.2.1 ≤ 8 + (s.1 + 3) by omega, show s.2.2.1 + (dp + 1) ≤ s.1 + 3 by omega, by omega⟩
      exact rp_bind ho (s := (s.1 + 3, s.2)) (st := s.1) hc ih (by omega) Q' (show 4 * s.2.1 + 3 ≤ 8 + (s.1 + 3) by omega) x8 xn B1 (fun e he S' f' => hE e he S' (f1.trans f')) (fun s' he S' f' => hG s' he S' (f1.trans f'))
end RRF
