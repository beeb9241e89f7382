/-! The reference's machine agrees with the machine as a function. -/
theorem ap1_e {op v e : Nat} {st st' : Nat × cL} (h : ap1 op v st = (st', .inl e)) : st' = st ∧ e = 2 := by
  unfold ap1 at h
  (repeat' split at h) <;> first | (cases h; exact ⟨rfl, rfl⟩) | (cases h; done)
theorem ap1_v {op v e : Nat} {st st' : Nat × cL} (h : ap1 op v st = (st', .inr e)) : st' = st := by
  unfold ap1 at h
  (repeat' split at h) <;> first | (cases h; rfl) | (cases h; done)
theorem ap2_e {op v w e : Nat} {st st' : Nat × cL} (h : ap2 op v w st = (st', .inl e)) : st' = st ∧ (e = 2 ∨ e = 3) := by
  unfold ap2 at h
  (repeat' split at h) <;> first | (cases h; exact ⟨rfl, Or.inl rfl⟩) | (cases h; exact ⟨rfl, Or.inr rfl⟩) | (cases h; done)
theorem ap2_v {op v w e : Nat} {st st' : Nat × cL} (h : ap2 op v w st = (st', .inr e)) : st'.1 = st.1 := by
  unfold ap2 at h
  (repeat' split at h) <;> first | (cases h; rfl) | (cases h; done)
section REE
variable {c : rX} {D : Nat} {bf : bT} {rk prm : Nat → Nat} {lim : Nat}
theorem ru_ok (ho : rOK c) (bO : bfO bf rk) (hlim : lim ≤ 1000) : ∀ k, ruC c D bf rk prm lim k := by
  intro k
  induction k with
  | zero =>
    intro K S T hh r hi m lo sl sh h l R sc sm ρ st t _ w _ _ _ _ _ hk
    have : hh = 0 := by omega
    subst this
    exact absurd t id
  | succ k ih =>
    intro K S T hh r hi m lo sl sh h l R sc sm ρ st t h320 w wN hsc scl tx np hk hl h79 h1 cl hρ hE hB hL h46 hst h48 h49 h51 h52 h53 kE kG
    rcases hh with _ | hh
    · exact absurd t id
    have lt := rTr_lt t
    have r320 : r < 320 := by omega
    have hop : (T m).1 < 65536 := w.2.2.2.2.1
    have h64 := cl.2.1
    have t0 := t
    obtain ⟨t4, t8, t9, tk⟩ := t
    have ir : am_ix (nI r) r 320 := am_ix_n r320 (by decide)
    refine JW.go ho h49 h1 (by omega) (s := 0) (n := st.1) (by decide) h52 h46 hst hlim (fun _ q => ?_) (fun _ q => ?_) (fun z => absurd z (by decide))
    · exact kE st 0 (by show (if lim ≤ st.1 then _ else _) = _; rw [if_pos (by omega)]) S (evq.refl _ _ _ _) hL h46
    · have hev : ev bf lim (k + 1) T m ρ st = (if (T m).2.2.2.2 = [] then ((st.1 + 1, st.2), .inr (lfv (T m) ρ)) else evNx (ev bf lim k T (kid T m 0) ρ (st.1 + 1, st.2)) (evOp (ev bf lim k) bf T m ρ)) := by
        show (if lim ≤ st.1 then _ else _) = _
        rw [if_neg (by omega)]
      have a1 : ∀ f i, ¬ (f = 46 ∧ i = 0) → (rsi S 46 0 (nI (st.1 + 1))).1 f i = S.1 f i := fun f i z => rsi_ne _ _ z
      have a2 : (rsi S 46 0 (nI (st.1 + 1))).1 46 0 = nI (st.1 + 1) := rsi_i _ _ _ _
      have a3 : (rsi S 46 0 (nI (st.1 + 1))).2 = S.2 := rfl
      generalize rsi S 46 0 (nI (st.1 + 1)) = S0 at a1 a2 a3 ⊢
      refine g_on ho (s := 0) (r := r) (l := l) (by rw [a1 49 0 (by omega)]; exact h49) h1 (by omega) (by decide) (by rw [a1 51 _ (by omega)]; exact h51) (by rw [a1 52 _ (by omega)]; exact h52) (by rw [a1 53 _ (by omega)]; exact h53) fun S1 b1 b2 b3 _ _ => ?_
      have f1 : evq h l sm S S1 := ⟨b1.trans a3, fun f i q1 q2 q3 q4 q5 => by rw [b2 f i (by omega), a1 f i (by omega)]⟩
      have nd : ∀ {X : rS}, evq h l sm S X → ∀ f, 4 ≤ f → f ≤ 9 → ∀ i, X.1 f i = S.1 f i := fun x f q1 q2 i => x.2 f i (by omega) (by omega) (by omega) (by omega) (by omega)
      have c46 : S1.1 46 0 = nI (st.1 + 1) := by rw [b2 46 0 (by omega)]; exact a2
      have c48 : S1.1 48 0 = 0 := by rw [b2 48 0 (by omega), a1 48 0 (by omega)]; exact h48
      have c49 : S1.1 49 0 = nI h := by rw [b2 49 0 (by omega), a1 49 0 (by omega)]; exact h49
      have c51 : S1.1 51 (h - 1) = nI r := by rw [b2 51 _ (by omega), a1 51 _ (by omega)]; exact h51
      have c53 : S1.1 53 (h - 1) = nI l := by rw [b2 53 _ (by omega), a1 53 _ (by omega)]; exact h53
      have kL1 : RCL S1 st.2 := hL.q fun f i q1 q2 => by rw [b2 f i (by omega), a1 f i (by omega)]
      -- the end of a node: its cell is the answer
      have done : ∀ (A S' : rS) (st' : Nat × cL) (v : Nat), evq h l sm S A → ev bf lim (k + 1) T m ρ st = (st', .inr v) → RCL A st'.2 → A.1 46 0 = nI st'.1 → A.1 48 0 = 0 → S'.2 = A.2 → (∀ f i, ¬ ((f = 49 ∨ f = 50) ∧ i = 0) → S'.1 f i = A.1 f i) → S'.1 50 0 = nI v → S'.1 49 0 = nI (h - 1) → JP c D K lim S' := by
        intro A S' st' v fA g kL k46 k48 e1 e2 e3 e4
        exact kG st' v g S' (fA.trans ⟨e1, fun f i q1 q2 q3 q4 q5 => e2 f i (by omega)⟩) (kL.q fun f i q1 q2 => e2 f i (by omega)) (by rw [e2 46 0 (by omega)]; exact k46) e3 e4 (by rw [e2 48 0 (by omega)]; exact k48)
      have gonow : ∀ (A : rS) (s : Nat) (stA : Nat × cL), 1 ≤ s → s ≤ 3 → evq h l sm S A → A.1 49 0 = nI h → A.1 48 0 = 0 → A.1 51 (h - 1) = nI r → A.1 52 (h - 1) = nI s → A.1 53 (h - 1) = nI l → A.1 46 0 = nI stA.1 → stA.1 ≤ lim → RCL A stA.2 → (∀ S', evq h l sm S S' → S'.1 49 0 = nI h → S'.1 48 0 = 0 → S'.1 51 (h - 1) = nI r → S'.1 52 (h - 1) = nI (s + 1) → S'.1 53 (h - 1) = nI l → S'.1 46 0 = nI stA.1 → RCL S' stA.2 → S'.1 50 0 = A.1 50 0 → (s = 1 → S'.1 54 (h - 1) = A.1 50 0) → (s ≠ 1 → S'.1 54 (h - 1) = A.1 54 (h - 1)) → rG c eX10_goOn (D + 3 + 1) (rQ c (fun v S1 => v = none ∧ JP c D K lim S1)) 54 [some (.ref c.2.2.1), some (.int (nI (h - 1))), some (.int (nI r)), some (.int (nI s)), some (.int (nI l)), none] [] S') → JP c D K lim A := by
        intro A s stA hs1 hs3 fA e49 e48 e51 e52 e53 e46 hsl eL kk
        refine JP.w e49 h1 (by omega) e48 (JW.go ho e49 h1 (by omega) hs3 e52 e46 hsl hlim (fun z => absurd z (by omega)) (fun z => absurd z (by omega)) (fun _ => g_on ho e49 h1 (by omega) hs3 e51 e52 e53 fun S' d1 d2 d3 d4 d5 => ?_))
        exact kk S' (fA.trans ⟨d1, fun f i q1 q2 q3 q4 q5 => d2 f i (by omega)⟩) (by rw [d2 49 0 (by omega)]; exact e49) (by rw [d2 48 0 (by omega)]; exact e48) (by rw [d2 51 _ (by omega)]; exact e51) d3 (by rw [d2 53 _ (by omega)]; exact e53) (by rw [d2 46 0 (by omega)]; exact e46) (eL.q fun f i q1 q2 => d2 f i (by omega)) (d2 50 0 (by omega)) d4 d5
      by_cases ne : (T m).2.2.2.2 = []
      · -- a leaf
        rw [if_pos ne] at hev
        rw [ne] at tk
        have w7 := w.2.2.2.2.2.2
        rw [ne] at w7
        have wN' : ∀ s, (T m).2.2.2.1 = some s → sm ((T m).1 - 97) = some s := by
          unfold wn at wN
          rw [ne] at wN
          exact wN
        refine w_X10_goOn_54 ho (nI (h - 1)) (nI r) (nI 0) (nI l) ⟨r, ir, fun z => ?_, fun _ => ?_⟩
        · rw [nd f1 5 (by omega) (by omega)] at z; exact absurd tk.1 z
        · exact e_leaf ho (sm := sm) (ρ := ρ) (x := T m) r320 (by omega) (by rw [nd f1 4 (by omega) (by omega)]; exact t4) (by rw [nd f1 8 (by omega) (by omega)]; exact t8) hop ne ((tx m (Nat.le_refl _)).2 ne) (fun t e => ⟨((np m (Nat.le_refl _)).1 ne t e).1, ((np m (Nat.le_refl _)).1 ne t e).2, wN' t e⟩) (hE.q f1) c49 h1 fun S' e1 e2 e3 e4 => ⟨rfl, rfl, done S1 S' _ _ f1 hev kL1 c46 c48 e1 e2 e3 e4⟩
      · -- a bracket
        rw [if_neg ne] at hev
        obtain ⟨mm, m1, m2, m3, m4, m5⟩ := wt_inv w ne
        have sgo : sgn (T m) = (T m).1 := by unfold sgn; rw [if_neg ne]
        rw [sgo] at t4
        have sub5 : ∃ hi1, S.1 5 r = nI (r + 1) ∧ hi1 ≤ hi ∧ rTr S T hh (r + 1) hi1 (kid T m 0) ∧ wn T hh (kid T m 0) sm := by
          unfold wn at wN
          rcases m5 with ⟨_, b1⟩ | ⟨_, b1, _⟩ | ⟨_, b1, _⟩ | ⟨_, b1, _⟩
          · rw [b1] at tk wN; exact ⟨hi, tk.1, Nat.le_refl _, tk.2.2.2, wN⟩
          · rw [b1] at tk wN
            obtain ⟨x, y1, y2, y3, y4, y5⟩ := tk
            have := rTr_lt y5
            exact ⟨x, y1, by omega, y4, wN.1⟩
          · rw [b1] at tk wN
            obtain ⟨x, y1, y2, y3, y4, y5⟩ := tk
            have := rTr_lt y5
            exact ⟨x, y1, by omega, y4, wN.1⟩
          · rw [b1] at tk wN
            obtain ⟨x, x2, y1, y2, y3, y4, y5, y6⟩ := tk
            have := rTr_lt y5
            have := rTr_lt y6
            exact ⟨x, y1, by omega, y4, wN.1⟩
        obtain ⟨hi1, s5, hi1l, tr1, wn1⟩ := sub5
        have sclm : ∀ s, s ∈ sc → s < mm := fun s hs => Nat.lt_of_lt_of_le (scl s hs) m3
        have P0 := ev_ok (lim := lim) bO k T hh (kid T m 0) lo sl mm sc ρ (st.1 + 1, st.2) R m2 (tx.le (by omega)) (by omega) cl hρ
        refine w_X10_goOn_54 ho (nI (h - 1)) (nI r) (nI 0) (nI l) ⟨r, ir, fun _ => ⟨fun z => absurd rfl z, fun _ => ⟨r, ir, ?_⟩⟩, fun z => ?_⟩
        · rw [nd f1 5 (by omega) (by omega), s5]
          refine rM.mono (K := fun v S3 => v = none ∧ JP c D K lim S3) (ru_kid ho ih (st := (st.1 + 1, st.2)) c49 c48 c46 (by omega) (rTr_e tr1 f1) (by omega) m2 wn1 hsc scl (tx.le (by omega)) (fun i hi => np i (by omega)) (by omega) hl cl hρ (hE.q f1) (hB.q f1) kL1 (show st.1 + 1 ≤ lim by omega) (fun st' e g S2 f2 kL k46 => ?_) (fun st' v g S2 f2 kL k46 k50 k49 k48 => ?_)) fun v S' w => ⟨w.1, rfl, w.2⟩
          · exact kE st' e (hev.trans (evNx_e g)) S2 (f1.trans (f2.kid fun _ z => z)) kL k46
          · have hev2 := hev.trans (evNx_v g)
            rw [g] at P0
            have hv : v < st'.2.1 := P0.2.2.2.2.2.2 v rfl
            have cl' : clO st'.2 := P0.1
            have l1 : st.2.1 ≤ st'.2.1 := P0.2.1
            have st'l : st'.1 ≤ lim := P0.2.2.2.2.1 (show st.1 + 1 ≤ lim by omega)
            have h64' := cl'.2.1
            have hρ' : ∀ s, s ∈ sc → ρ s < st'.2.1 := fun s hs => Nat.lt_of_lt_of_le (hρ s hs) l1
            have F2 : evq h l sm S S2 := f1.trans (f2.kid fun _ z => z)
            have keep : ∀ f, 51 ≤ f → f ≤ 53 → S2.1 f (h - 1) = S1.1 f (h - 1) := fun f q1 q2 => f2.2 f _ (by omega) (by omega) (by omega) (by omega) (by omega)
            refine gonow S2 1 st' (by decide) (by decide) F2 k49 k48 (by rw [keep 51 (by omega) (by omega)]; exact c51) (by rw [keep 52 (by omega) (by omega)]; exact b3) (by rw [keep 53 (by omega) (by omega)]; exact c53) k46 st'l kL fun S3 f3 j49 j48 j51 j52 j53 j46 jL j50 j54 _ => ?_
            rw [k50] at j50 j54
            have j54 := j54 rfl
            -- the top frame, at its second step, with the first part's value
            have i4 : S3.1 4 r = nI (T m).1 := by rw [nd f3 4 (by omega) (by omega)]; exact t4
            have i5 : S3.1 5 r = nI (r + 1) := by rw [nd f3 5 (by omega) (by omega)]; exact s5
            have n5 : ¬ S3.1 5 r = -1 := by rw [i5]; exact nI_neg1 (by omega)
            have v1 : nI v = 1 ↔ v = 1 := nI_is (b := 1) (by omega) (by decide)
            have hE3 := hE.q f3
            have hB3 := hB.q f3
            -- a further part's value is the node's
            have tail : ∀ (stA : Nat × cL) (A : rS) (x : Nat), evq h l sm S A → A.1 49 0 = nI h → A.1 48 0 = 0 → A.1 51 (h - 1) = nI r → A.1 52 (h - 1) = nI 2 → A.1 53 (h - 1) = nI l → A.1 46 0 = nI stA.1 → stA.1 ≤ lim → RCL A stA.2 → A.1 50 0 = nI x → ev bf lim (k + 1) T m ρ st = (stA, .inr x) → ((T m).1 = 63 ∨ (T m).1 = 38 ∨ (T m).1 = 124 ∨ (T m).1 = 58 ∨ (71 ≤ (T m).1 ∧ (T m).1 ≤ 73)) → (¬ (71 ≤ (T m).1 ∧ (T m).1 ≤ 73) → ¬ S.1 6 r = -1) → JP c D K lim A := by
              intro stA A x fA e49 e48 e51 e52 e53 e46 hsl eL e50 g ops h6
              refine gonow A 2 stA (by decide) (by decide) fA e49 e48 e51 e52 e53 e46 hsl eL fun S9 f9 u49 u48 u51 u52 u53 u46 uL u50 _ _ => ?_
              rw [e50] at u50
              have lnG : ∀ (d : Nat) (Q : rS → Prop), (∀ S', JP c D K lim S' → Q S') → rM c d eX10_end [.ref c.2.2.1, .int (S9.1 50 0)] S9 (fun v S' => v = none ∧ Q S') := by
                intro d Q hQ
                rw [u50]
                exact e_end ho u49 h1 fun S' e1 e2 e3 e4 => ⟨rfl, hQ S' (done S9 S' _ _ f9 g uL u46 u48 e1 e2 e3 e4)⟩
              have v4 : S9.1 4 r = nI (T m).1 := by rw [nd f9 4 (by omega) (by omega)]; exact t4
              have chs : rM c (D + 3) eX10_choose [.ref c.2.2.1, .int (nI r), .int (nI 2), .int (nI l)] S9 (fun v S5 => v = none ∧ (none = (none : Option Value) ∧ JP c D K lim S5)) := by
                have k13 : ∀ s0 : Int32, rG c eX10_choose (D + 2 + 1) (rQ c (fun v S5 => v = none ∧ (none = (none : Option Value) ∧ JP c D K lim S5))) 13 [some (.ref c.2.2.1), some (.int (nI r)), some (.int (nI 2)), some (.int (nI l)), none, none] [.int s0] S9 := fun s0 => w_X10_choose_13 ho (nI r) (nI 2) (nI l) s0 ⟨r, ir, fun z => absurd z (by decide), fun _ => lnG _ _ fun S' j => ⟨rfl, rfl, j⟩⟩
                exact w_X10_choose ho (nI r) (nI 2) (nI l) ⟨fun _ => k13 0, fun _ => k13 1⟩
              refine w_X10_goOn_54 ho (nI (h - 1)) (nI r) (nI 2) (nI l) ⟨r, ir, fun _ => ⟨fun _ => ⟨r, ir, ?_⟩, fun z => absurd z (by decide)⟩, fun z => absurd z (by rw [nd f9 5 (by omega) (by omega), s5]; exact nI_neg1 (by omega))⟩
              rw [v4]
              have e71 : nI (T m).1 < 71 ↔ (T m).1 < 71 := nI_ltI (b := 71) (by omega) (by decide)
              have e73 : (73 : Int32) < nI (T m).1 ↔ 73 < (T m).1 := nI_ltI (a := 73) (by decide) (by omega)
              have k122 : ¬ (71 ≤ (T m).1 ∧ (T m).1 ≤ 73) → rG c eX10_goOn (D + 3 + 1) (rQ c (fun v S1 => v = none ∧ JP c D K lim S1)) 122 [some (.ref c.2.2.1), some (.int (nI (h - 1))), some (.int (nI r)), some (.int (nI 2)), some (.int (nI l)), some (.int (nI (T m).1))] [] S9 := by
                intro nc
                have e63 : nI (T m).1 = 63 ↔ (T m).1 = 63 := nI_is (b := 63) (by omega) (by decide)
                have e38 : nI (T m).1 = 38 ↔ (T m).1 = 38 := nI_is (b := 38) (by omega) (by decide)
                have e124 : nI (T m).1 = 124 ↔ (T m).1 = 124 := nI_is (b := 124) (by omega) (by decide)
                have e58 : nI (T m).1 = 58 ↔ (T m).1 = 58 := nI_is (b := 58) (by omega) (by decide)
                refine w_X10_goOn_122 ho (nI (h - 1)) (nI r) (nI 2) (nI l) (nI (T m).1) ⟨r, ir, fun _ => ?_, fun z => absurd z (by rw [nd f9 6 (by omega) (by omega)]; exact h6 nc)⟩
                rw [e63, e38, e124, e58]
                refine ⟨fun z => chs, fun z63 => ⟨fun z => chs, fun z38 => ⟨fun z124 => ⟨fun _ => ⟨fun z58 => absurd z58 (by omega), fun _ => lnG _ _ fun S' j => ⟨rfl, j⟩⟩, fun z => absurd z (by decide)⟩, fun z => chs⟩⟩⟩
              rw [e71, e73]
              refine ⟨fun z => k122 (by omega), fun z => ⟨fun z2 => k122 (by omega), fun z2 => ?_⟩⟩
              exact w_X10_callOn ho (nI r) (nI 2) (nI l) ⟨r, ir, fun z => absurd z (by decide), fun _ => lnG _ _ fun S' j => ⟨rfl, rfl, j⟩⟩
            -- it stops here
            have stp : ∀ (A : rS) (stA : Nat × cL) (e : Nat), evq h l sm S A → A.1 49 0 = nI h → A.1 46 0 = nI stA.1 → RCL A stA.2 → (e = 2 ∨ e = 3) → ev bf lim (k + 1) T m ρ st = (stA, .inl e) → JP c D K lim (rsi A 48 0 (nI e)) := by
              intro A stA e fA e49 e46 eL he g
              refine JP.stop ho (h := h) (by rw [rsi_ne _ _ (by omega)]; exact e49) h1 (by omega) (rsi_i _ _ _ _) (by omega) (by omega) (kE stA e g _ (fA.trans (evq_w A _ (by omega))) (eL.q fun f i q1 q2 => rsi_ne _ _ (by omega)) (by rw [rsi_ne _ _ (by omega)]; exact e46))
            -- a further part, whose value is the node's
            have fur : ∀ (d : Nat) (Q : rS → Prop) (A : rS) (q hiq mq lo' sl' sh' : Nat) (sc' : List Nat) (sm' : Nat → Option Nat) (ρ' : Nat → Nat), (∀ S', JP c D K lim S' → Q S') → evq h l sm S A → A.1 49 0 = nI h → A.1 48 0 = 0 → A.1 51 (h - 1) = nI r → A.1 52 (h - 1) = nI 2 → A.1 53 (h - 1) = nI l → A.1 46 0 = nI st'.1 → RCL A st'.2 → rTr S T hh q hiq mq → hiq ≤ 320 → wt T hh mq lo' sl' sh' sc' → wn T hh mq sm' → scO sm' sc' → (∀ s, s ∈ sc' → s < sl') → mq < m → (∀ s, s ∈ sc' → ρ' s < st'.2.1) → REV A l sm' ρ' → (∀ x, (sm x).isSome = true → (sm' x).isSome = true) → evOp (ev bf lim k) bf T m ρ v st' = ev bf lim k T mq ρ' st' → ((T m).1 = 63 ∨ (T m).1 = 38 ∨ (T m).1 = 124 ∨ (T m).1 = 58) → ¬ S.1 6 r = -1 → rM c d eX10_begin [.ref c.2.2.1, .int (nI q), .int (nI l)] A (fun v S3 => v = none ∧ Q S3) := by
              intro d Q A q hiq mq lo' sl' sh' sc' sm' ρ' hQ fA e49 e48 e51 e52 e53 e46 eL tq hq w' wn' sc'' scl' hm hr eE hsm eo ops h6
              have P := ev_ok (lim := lim) bO k T hh mq lo' sl' sh' sc' ρ' st' R w' (tx.le (by omega)) (by omega) cl' hr
              refine rM.mono (K := fun v S3 => v = none ∧ JP c D K lim S3) (ru_kid ho ih (st := st') e49 e48 e46 (by omega) (rTr_e tq fA) hq w' wn' sc'' scl' (tx.le (by omega)) (fun i hi => np i (by omega)) (by omega) hl cl' hr eE (hB.q fA) eL st'l (fun stB e g S5 f5 xL x46 => kE stB e (hev2.trans (eo.trans g)) S5 (fA.trans (f5.kid hsm)) xL x46) (fun stB x g S5 f5 xL x46 x50 x49 x48 => ?_)) fun v S' w => ⟨w.1, hQ S' w.2⟩
              rw [g] at P
              have kp : ∀ f, 51 ≤ f → f ≤ 53 → S5.1 f (h - 1) = A.1 f (h - 1) := fun f q1 q2 => f5.2 f _ (by omega) (by omega) (by omega) (by omega) (by omega)
              exact tail stB S5 x (fA.trans (f5.kid hsm)) x49 x48 (by rw [kp 51 (by omega) (by omega)]; exact e51) (by rw [kp 52 (by omega) (by omega)]; exact e52) (by rw [kp 53 (by omega) (by omega)]; exact e53) x46 (P.2.2.2.2.1 st'l) xL x50 (hev2.trans (eo.trans g)) (by omega) (fun _ => h6)
            have e71 : nI (T m).1 < 71 ↔ (T m).1 < 71 := nI_ltI (b := 71) (by omega) (by decide)
            have e73 : (73 : Int32) < nI (T m).1 ↔ 73 < (T m).1 := nI_ltI (a := 73) (by decide) (by omega)
            have e63 : nI (T m).1 = 63 ↔ (T m).1 = 63 := nI_is (b := 63) (by omega) (by decide)
            have e38 : nI (T m).1 = 38 ↔ (T m).1 = 38 := nI_is (b := 38) (by omega) (by decide)
            have e124 : nI (T m).1 = 124 ↔ (T m).1 = 124 := nI_is (b := 124) (by omega) (by decide)
            have e58 : nI (T m).1 = 58 ↔ (T m).1 = 58 := nI_is (b := 58) (by omega) (by decide)
            have endv : ∀ (d : Nat) (Q : rS → Prop), (∀ S', JP c D K lim S' → Q S') → evOp (ev bf lim k) bf T m ρ v st' = (st', .inr v) → rM c d eX10_end [.ref c.2.2.1, .int (S3.1 50 0)] S3 (fun v S' => v = none ∧ Q S') := by
              intro d Q hQ eo
              rw [j50]
              exact e_end ho j49 h1 fun S' e1 e2 e3 e4 => ⟨rfl, hQ S' (done S3 S' _ _ f3 (hev2.trans eo) jL j46 j48 e1 e2 e3 e4)⟩
            refine w_X10_goOn_54 ho (nI (h - 1)) (nI r) (nI 1) (nI l) ⟨r, ir, fun _ => ⟨fun _ => ⟨r, ir, ?_⟩, fun z => absurd z (by decide)⟩, fun z => absurd z n5⟩
            rw [i4, e71, e73]
            have k122 : ¬ (71 ≤ (T m).1 ∧ (T m).1 ≤ 73) → rG c eX10_goOn (D + 3 + 1) (rQ c (fun v S1 => v = none ∧ JP c D K lim S1)) 122 [some (.ref c.2.2.1), some (.int (nI (h - 1))), some (.int (nI r)), some (.int (nI 1)), some (.int (nI l)), some (.int (nI (T m).1))] [] S3 := by
              intro nc
              refine w_X10_goOn_122 ho (nI (h - 1)) (nI r) (nI 1) (nI l) (nI (T m).1) ⟨r, ir, ?_⟩
              rw [nd f3 6 (by omega) (by omega), e63, e38, e124, e58]
              rcases m5 with ⟨am, b1⟩ | ⟨am, b1, b2, b3'⟩ | ⟨am, b1, b2, b3', b4, b5, b6⟩ | ⟨am, b1, b2, b3', m', b4, b5, b6, b7⟩
              · -- one operand
                rw [b1] at tk
                simp only [List.mem_cons, List.not_mem_nil, or_false] at am
                refine ⟨fun z => absurd tk.2.1 z, fun _ => ?_⟩
                have eo : evOp (ev bf lim k) bf T m ρ v st' = ap1 (T m).1 v st' := by
                  unfold evOp
                  rw [if_neg (by omega), if_neg (by omega), if_neg (by omega), if_neg (by omega), if_neg nc, if_neg (by omega)]
                rw [j50]
                refine e_unary ho (s := st'.1) r320 i4 (by omega) cl' jL hv j49 h1 (fun e g => ⟨rfl, rfl, ?_⟩) (fun w g S' e1 e2 e3 e4 => ⟨rfl, rfl, ?_⟩)
                · exact stp S3 st' e f3 j49 j46 jL (Or.inl (ap1_e g).2) (hev2.trans (eo.trans g))
                · exact done S3 S' _ _ f3 (hev2.trans (eo.trans g)) jL j46 j48 e1 e2 e3 e4
              · -- two parts
                rw [b1] at tk
                obtain ⟨hq, k5, k6, k7, tq, tq2⟩ := tk
                have ltq := rTr_lt tq
                have ltq2 := rTr_lt tq2
                simp only [List.mem_cons, List.not_mem_nil, or_false] at am
                have wq : wn T hh (kid T m 1) sm := by
                  unfold wn at wN
                  rw [b1] at wN
                  rcases wN.2 with z | z
                  · exact z.2
                  · have := z.1; omega
                have n6 : ¬ S.1 6 r = -1 := by rw [k6]; exact nI_neg1 (by omega)
                have chs : (T m).1 = 38 ∨ (T m).1 = 124 → rM c (D + 3) eX10_choose [.ref c.2.2.1, .int (nI r), .int (nI 1), .int (nI l)] S3 (fun v S5 => v = none ∧ (none = (none : Option Value) ∧ JP c D K lim S5)) := by
                  intro ops
                  have k74 : ∀ v4 : Int32, evOp (ev bf lim k) bf T m ρ v st' = ev bf lim k T (kid T m 1) ρ st' → rG c eX10_choose (D + 2 + 1) (rQ c (fun v S5 => v = none ∧ (none = (none : Option Value) ∧ JP c D K lim S5))) 74 [some (.ref c.2.2.1), some (.int (nI r)), none, some (.int (nI l)), some (.int v4), some (.int (nI (T m).1))] [] S3 := by
                    intro v4 eo
                    refine w_X10_choose_74 ho (nI r) (nI l) v4 (nI (T m).1) ?_
                    rw [e63]
                    refine ⟨fun _ => ⟨r, ir, ?_⟩, fun z => absurd z (by omega)⟩
                    rw [nd f3 6 (by omega) (by omega), k6]
                    exact fur _ _ S3 hq hi (kid T m 1) _ _ _ sc sm ρ (fun S' j => ⟨rfl, rfl, j⟩) f3 j49 j48 j51 j52 j53 j46 jL tq2 h320 b3' wq hsc sclm b2 hρ' hE3 (fun _ z => z) eo (by omega) n6
                  refine w_X10_choose ho (nI r) (nI 1) (nI l) ?_
                  rw [j50, v1]
                  have e13 : ∀ s0 : Int32, (s0 = 0 ↔ v = 1) → rG c eX10_choose (D + 2 + 1) (rQ c (fun v S5 => v = none ∧ (none = (none : Option Value) ∧ JP c D K lim S5))) 13 [some (.ref c.2.2.1), some (.int (nI r)), some (.int (nI 1)), some (.int (nI l)), none, none] [.int s0] S3 := by
                    intro s0 hs0
                    refine w_X10_choose_13 ho (nI r) (nI 1) (nI l) s0 ⟨r, ir, ?_⟩
                    rw [i4, e38]
                    refine ⟨fun _ => ⟨fun n38 => ?_, fun y38 => ⟨fun z0 => ?_, fun z0 => ?_⟩⟩, fun z => absurd (by decide) z⟩
                    · have c124 : (T m).1 = 124 := by omega
                      refine w_X10_choose_51 ho (nI r) (nI l) s0 (nI (T m).1) ?_
                      rw [e124]
                      refine ⟨fun z => absurd c124 z, fun _ => ⟨fun z0 => k74 s0 ?_, fun z0 => endv _ _ (fun S' j => ⟨rfl, rfl, j⟩) ?_⟩⟩
                      · unfold evOp
                        rw [if_neg (by omega), if_neg (by omega), if_pos c124, if_pos (hs0.mp z0)]
                      · unfold evOp
                        rw [if_neg (by omega), if_neg (by omega), if_pos c124, if_neg (fun u => z0 (hs0.mpr u))]
                    · refine endv _ _ (fun S' j => ⟨rfl, rfl, j⟩) ?_
                      unfold evOp
                      rw [if_neg (by omega), if_pos y38, if_pos (hs0.mp z0), hs0.mp z0]
                    · refine w_X10_choose_51 ho (nI r) (nI l) s0 (nI (T m).1) ?_
                      rw [e124]
                      refine ⟨fun _ => k74 s0 ?_, fun z => absurd z (by omega)⟩
                      unfold evOp
                      rw [if_neg (by omega), if_pos y38, if_neg (fun u => z0 (hs0.mpr u))]
                  exact ⟨fun z => e13 0 ⟨fun _ => z, fun _ => rfl⟩, fun z => e13 1 ⟨fun u => absurd u (by decide), fun u => absurd u z⟩⟩
                refine ⟨fun _ => ⟨fun z => absurd z (by omega), fun _ => ⟨fun z => chs (Or.inl z), fun n38 => ⟨fun n124 => ⟨fun z => absurd rfl z, fun _ => ⟨fun _ => ?_, fun z => absurd z (by omega)⟩⟩, fun z => chs (Or.inr z)⟩⟩⟩, fun z => absurd z n6⟩
                -- the second operand
                refine w_X10_goOn_209 ho (nI r) (nI l) ⟨r, ir, ?_⟩
                rw [nd f3 6 (by omega) (by omega), k6]
                have eo : evOp (ev bf lim k) bf T m ρ v st' = evTwo (ev bf lim k T (kid T m 1) ρ st') (T m).1 v := by
                  unfold evOp
                  rw [if_neg (by omega), if_neg (by omega), if_neg (by omega), if_neg (by omega), if_neg nc, if_pos (by omega)]
                have P := ev_ok (lim := lim) bO k T hh (kid T m 1) _ _ _ sc ρ st' R b3' (tx.le (by omega)) (by omega) cl' hρ'
                refine rM.mono (K := fun v S3 => v = none ∧ JP c D K lim S3) (ru_kid ho ih (st := st') j49 j48 j46 (by omega) (rTr_e tq2 f3) h320 b3' wq hsc sclm (tx.le (by omega)) (fun i hi => np i (by omega)) (by omega) hl cl' hρ' hE3 hB3 jL st'l (fun stB e g S5 f5 xL x46 => ?_) (fun stB x g S5 f5 xL x46 x50 x49 x48 => ?_)) fun v S' w => ⟨w.1, rfl, w.2⟩
                · exact kE stB e (hev2.trans (by rw [eo, g]; rfl)) S5 (f3.trans (f5.kid fun _ z => z)) xL x46
                · rw [g] at P
                  have hev3 : ev bf lim (k + 1) T m ρ st = ap2 (T m).1 v x stB := hev2.trans (by rw [eo, g]; rfl)
                  have F5 := f3.trans (f5.kid fun _ z => z)
                  have kp : ∀ f, 51 ≤ f → f ≤ 54 → S5.1 f (h - 1) = S3.1 f (h - 1) := fun f q1 q2 => f5.2 f _ (by omega) (by omega) (by omega) (by omega) (by omega)
                  have clB : clO stB.2 := P.1
                  have lB : st'.2.1 ≤ stB.2.1 := P.2.1
                  have hx : x < stB.2.1 := P.2.2.2.2.2.2 x rfl
                  refine gonow S5 2 stB (by decide) (by decide) F5 x49 x48 (by rw [kp 51 (by omega) (by omega)]; exact j51) (by rw [kp 52 (by omega) (by omega)]; exact j52) (by rw [kp 53 (by omega) (by omega)]; exact j53) x46 (P.2.2.2.2.1 st'l) xL fun S7 f7 u49 u48 u51 u52 u53 u46 uL u50 _ u54 => ?_
                  rw [x50] at u50
                  have u54 := u54 (by decide)
                  rw [kp 54 (by omega) (by omega), j54] at u54
                  have v4 : S7.1 4 r = nI (T m).1 := by rw [nd f7 4 (by omega) (by omega)]; exact t4
                  refine w_X10_goOn_54 ho (nI (h - 1)) (nI r) (nI 2) (nI l) ⟨r, ir, fun _ => ⟨fun _ => ⟨r, ir, ?_⟩, fun z => absurd z (by decide)⟩, fun z => absurd z (by rw [nd f7 5 (by omega) (by omega), s5]; exact nI_neg1 (by omega))⟩
                  rw [v4, e71, e73]
                  have k122b : rG c eX10_goOn (D + 3 + 1) (rQ c (fun v S1 => v = none ∧ JP c D K lim S1)) 122 [some (.ref c.2.2.1), some (.int (nI (h - 1))), some (.int (nI r)), some (.int (nI 2)), some (.int (nI l)), some (.int (nI (T m).1))] [] S7 := by
                    refine w_X10_goOn_122 ho (nI (h - 1)) (nI r) (nI 2) (nI l) (nI (T m).1) ⟨r, ir, fun _ => ?_, fun z => absurd z (by rw [nd f7 6 (by omega) (by omega)]; exact n6)⟩
                    rw [e63, e38, e124, e58]
                    refine ⟨fun z => absurd z (by omega), fun _ => ⟨fun z => absurd z n38, fun _ => ⟨fun _ => ⟨fun _ => ⟨fun _ => ⟨h - 1, am_ix_n (by omega) (by decide), ?_⟩, fun z => absurd z (by omega)⟩, fun z => absurd z (by decide)⟩, fun z => absurd z n124⟩⟩⟩
                    rw [u54, u50]
                    refine e_binary ho (s := stB.1) r320 v4 (by omega) clB uL (by omega) hx u49 h1 (fun e g' => ⟨rfl, rfl, ?_⟩) (fun L' y g' S' e1 e2 e3 e4 e5 => ⟨rfl, rfl, ?_⟩)
                    · exact stp S7 stB e f7 u49 u46 uL (ap2_e g').2 (hev3.trans g')
                    · exact kG (stB.1, L') y (hev3.trans g') S' (f7.trans ⟨e1, fun f i q1 q2 q3 q4 q5 => e2 f i (by omega) (by omega)⟩) e3 (by rw [e2 46 0 (by omega) (by omega)]; exact u46) e4 e5 (by rw [e2 48 0 (by omega) (by omega)]; exact u48)
                  exact ⟨fun z => k122b, fun z => ⟨fun z2 => k122b, fun z2 => absurd (by omega) nc⟩⟩
              · -- a binding
                rw [b1] at tk
                obtain ⟨hq, k5, k6, k7, tq, tq2⟩ := tk
                have ltq := rTr_lt tq
                have ltq2 := rTr_lt tq2
                have wq : sm (T m).2.2.1 = none ∧ wn T hh (kid T m 1) (up sm (T m).2.2.1 (some mm)) := by
                  unfold wn at wN
                  rw [b1] at wN
                  rcases wN.2 with z | z
                  · exact absurd am z.1
                  · rw [b2] at z; exact z.2.2
                have xx := (np m (Nat.le_refl _)).2 am
                have wh : wht (T m) = (T m).2.2.1 := by unfold wht; rw [if_neg ne, if_pos am]
                rw [wh] at t8
                generalize hxx : (T m).2.2.1 = x at wq xx wh t8
                have n6 : ¬ S.1 6 r = -1 := by rw [k6]; exact nI_neg1 (by omega)
                refine ⟨fun _ => ⟨fun z => absurd z (by omega), fun _ => ⟨fun z => absurd z (by omega), fun _ => ⟨fun _ => ⟨fun z => absurd rfl z, fun _ => ⟨fun z => absurd am z, fun _ => ⟨r, ir, 8 * l + x, ?_, ?_⟩⟩⟩, fun z => absurd z (by omega)⟩⟩⟩, fun z => absurd z n6⟩
                · rw [nd f3 8 (by omega) (by omega), t8, show (8 : Int32) * nI l = nI (8 * l) from pk_mul 8 l, nI_add]
                  exact am_ix_n (by omega) (by decide)
                · rw [j50]
                  have d1 : ∀ f i, ¬ (f = 55 ∧ i = 8 * l + x) → (rsi S3 55 (8 * l + x) (nI v)).1 f i = S3.1 f i := fun f i z => rsi_ne _ _ z
                  have d2 : (rsi S3 55 (8 * l + x) (nI v)).1 55 (8 * l + x) = nI v := rsi_i _ _ _ _
                  have d3 : (rsi S3 55 (8 * l + x) (nI v)).2 = S3.2 := rfl
                  generalize rsi S3 55 (8 * l + x) (nI v) = S4 at d1 d2 d3 ⊢
                  have f4 : evq h l sm S S4 := f3.trans ⟨d3, fun f i _ _ _ _ q5 => d1 f i (fun z => q5 ⟨z.1, Or.inr ⟨by omega, by rw [show i - 8 * l = x by omega, wq.1]; rfl⟩⟩)⟩
                  refine w_X10_goOn_209 ho (nI r) (nI l) ⟨r, ir, ?_⟩
                  rw [nd f4 6 (by omega) (by omega), k6]
                  have eo : evOp (ev bf lim k) bf T m ρ v st' = ev bf lim k T (kid T m 1) (up ρ mm v) st' := by
                    unfold evOp
                    rw [if_neg (by omega), if_neg (by omega), if_neg (by omega), if_pos am, b2]
                  have hs1 : scO (up sm x (some mm)) (mm :: sc) := by
                    intro i t ht
                    by_cases q : i = x
                    · subst q; rw [up_same] at ht; cases ht; exact List.mem_cons_self ..
                    · rw [up_ne _ _ q] at ht; exact List.mem_cons_of_mem _ (hsc i t ht)
                  have hr1 : ∀ s, s ∈ mm :: sc → up ρ mm v s < st'.2.1 := fun s hs => by
                    by_cases q : s = mm
                    · subst q; rw [up_same]; exact hv
                    · rw [up_ne _ _ q]
                      rcases List.mem_cons.mp hs with q' | q'
                      · exact absurd q' q
                      · exact hρ' s q'
                  have hE4 : REV S4 l (up sm x (some mm)) (up ρ mm v) := by
                    intro y s e
                    by_cases q : y = x
                    · subst q
                      rw [up_same] at e
                      injection e with e
                      subst e
                      rw [up_same]
                      exact ⟨xx.2, fun u => absurd u (by omega), fun _ => d2⟩
                    · rw [up_ne _ _ q] at e
                      obtain ⟨q1, q2, q3⟩ := hE3 y s e
                      have sm' : s ≠ mm := fun u => by
                        have := hsc y s e
                        have := sclm s this
                        omega
                      rw [up_ne _ _ sm']
                      exact ⟨q1, fun u => by rw [d1 45 y (by omega)]; exact q2 u, fun u => by rw [d1 55 _ (by omega)]; exact q3 u⟩
                  exact fur _ _ S4 hq hi (kid T m 1) _ _ _ (mm :: sc) (up sm x (some mm)) (up ρ mm v) (fun S' j => ⟨rfl, j⟩) f4 (by rw [d1 49 0 (by omega)]; exact j49) (by rw [d1 48 0 (by omega)]; exact j48) (by rw [d1 51 _ (by omega)]; exact j51) (by rw [d1 52 _ (by omega)]; exact j52) (by rw [d1 53 _ (by omega)]; exact j53) (by rw [d1 46 0 (by omega)]; exact j46) (jL.q fun f i q1 q2 => d1 f i (by omega)) tq2 h320 b6 wq.2 hs1 (fun s hs => (List.mem_cons.mp hs).elim (fun q => by omega) (fun q => Nat.lt_succ_of_lt (sclm s q))) b5 hr1 hE4 (fun y hy => by
                    by_cases q : y = x
                    · subst q; rw [up_same]; rfl
                    · rw [up_ne _ _ q]; exact hy) eo (by omega) n6
              · -- a choice
                rw [b1] at tk
                obtain ⟨hq, hq2, k5, k6, k7, tq, tq2, tq3⟩ := tk
                have ltq := rTr_lt tq
                have ltq2 := rTr_lt tq2
                have ltq3 := rTr_lt tq3
                have wq : wn T hh (kid T m 1) sm ∧ wn T hh (kid T m 2) sm := by
                  unfold wn at wN
                  rw [b1] at wN
                  exact wN.2
                have n6 : ¬ S.1 6 r = -1 := by rw [k6]; exact nI_neg1 (by omega)
                have e13 : ∀ s0 : Int32, (s0 = 0 ↔ v = 1) → rG c eX10_choose (D + 2 + 1) (rQ c (fun v S5 => v = none ∧ (none = (none : Option Value) ∧ JP c D K lim S5))) 13 [some (.ref c.2.2.1), some (.int (nI r)), some (.int (nI 1)), some (.int (nI l)), none, none] [.int s0] S3 := by
                  intro s0 hs0
                  refine w_X10_choose_13 ho (nI r) (nI 1) (nI l) s0 ⟨r, ir, ?_⟩
                  rw [i4, e38]
                  refine ⟨fun _ => ⟨fun _ => ?_, fun z => absurd z (by omega)⟩, fun z => absurd (by decide) z⟩
                  refine w_X10_choose_51 ho (nI r) (nI l) s0 (nI (T m).1) ?_
                  rw [e124]
                  refine ⟨fun _ => ?_, fun z => absurd z (by omega)⟩
                  refine w_X10_choose_74 ho (nI r) (nI l) s0 (nI (T m).1) ?_
                  rw [e63]
                  refine ⟨fun z => absurd am z, fun _ => ⟨fun z0 => ⟨r, ir, ?_⟩, fun z0 => ⟨r, ir, ?_⟩⟩⟩
                  · rw [nd f3 6 (by omega) (by omega), k6]
                    refine fur _ _ S3 hq hq2 (kid T m 1) _ _ _ sc sm ρ (fun S' j => ⟨rfl, rfl, j⟩) f3 j49 j48 j51 j52 j53 j46 jL tq2 (by omega) b6 wq.1 hsc sclm b2 hρ' hE3 (fun _ z => z) ?_ (by omega) n6
                    unfold evOp
                    rw [if_pos am, if_neg (fun u => z0 (hs0.mpr u))]
                  · rw [nd f3 7 (by omega) (by omega), k7]
                    refine fur _ _ S3 hq2 hi (kid T m 2) _ _ _ sc sm ρ (fun S' j => ⟨rfl, rfl, j⟩) f3 j49 j48 j51 j52 j53 j46 jL tq3 h320 b7 wq.2 hsc (fun s hs => Nat.lt_of_lt_of_le (sclm s hs) b4) b3' hρ' hE3 (fun _ z => z) ?_ (by omega) n6
                    unfold evOp
                    rw [if_pos am, if_pos (hs0.mp z0)]
                refine ⟨fun _ => ⟨fun _ => w_X10_choose ho (nI r) (nI 1) (nI l) ?_, fun z => absurd am z⟩, fun z => absurd z n6⟩
                rw [j50, v1]
                exact ⟨fun z => e13 0 ⟨fun _ => z, fun _ => rfl⟩, fun z => e13 1 ⟨fun u => absurd u (by decide), fun u => absurd u z⟩⟩
            refine ⟨fun z => k122 (by omega), fun z => ⟨fun z2 => k122 (by omega), fun z2 => ?_⟩⟩
            -- a call
            have cf : 71 ≤ (T m).1 ∧ (T m).1 ≤ 73 := by omega
            obtain ⟨g1, g2⟩ := (tx m (Nat.le_refl _)).1 cf.1 cf.2
            obtain ⟨b, hb⟩ := Option.isSome_iff_exists.mp g1
            have eo : evOp (ev bf lim k) bf T m ρ v st' = ev bf lim k b.1 b.2 (fun _ => v) st' := by
              unfold evOp
              rw [if_neg (by omega), if_neg (by omega), if_neg (by omega), if_neg (by omega), if_pos cf, hb]
            obtain ⟨⟨sh', w'⟩, tx'⟩ := bO _ (by omega) b hb
            obtain ⟨⟨hib, hib1, trb⟩, r10, r13, p2, p8, wnb, npb⟩ := hB3 ((T m).1 - 71) (by omega) b hb
            have ef : S3.1 4 r - 71 = nI ((T m).1 - 71) := by rw [i4]; exact pk_sub (a := (T m).1) (b := 71) (by omega)
            generalize hfi : (T m).1 - 71 = fi at g2 hb r10 r13 p2 p8 wnb ef tx' hib1 trb
            refine w_X10_callOn ho (nI r) (nI 1) (nI l) ⟨r, ir, fun _ => ⟨fi, by rw [ef]; exact am_ix_n (by omega) (by decide), 8 * (l + 1) + prm fi, ?_, fi, by rw [ef]; exact am_ix_n (by omega) (by decide), ?_⟩, fun z => absurd (by decide) z⟩
            · rw [r13, nI_1, show (8 : Int32) * nI (l + 1) = nI (8 * (l + 1)) from pk_mul 8 _, nI_add]
              exact am_ix_n (by omega) (by decide)
            · rw [r10, nI_1, j50]
              have d1 : ∀ f i, ¬ (f = 55 ∧ i = 8 * (l + 1) + prm fi) → (rsi S3 55 (8 * (l + 1) + prm fi) (nI v)).1 f i = S3.1 f i := fun f i z => rsi_ne _ _ z
              have d2 : (rsi S3 55 (8 * (l + 1) + prm fi) (nI v)).1 55 (8 * (l + 1) + prm fi) = nI v := rsi_i _ _ _ _
              have d3 : (rsi S3 55 (8 * (l + 1) + prm fi) (nI v)).2 = S3.2 := rfl
              generalize rsi S3 55 (8 * (l + 1) + prm fi) (nI v) = S4 at d1 d2 d3 ⊢
              have f34 : evq h l sm S3 S4 := ⟨d3, fun f i _ _ _ _ q5 => d1 f i (fun z => q5 ⟨z.1, Or.inl (by omega)⟩)⟩
              have f4 : evq h l sm S S4 := f3.trans f34
              have hE4 : REV S4 (l + 1) (up sm0 (prm fi) (some 0)) (fun _ => v) := by
                intro y s e
                by_cases q : y = prm fi
                · subst q
                  exact ⟨p8, fun u => absurd u (by omega), fun _ => d2⟩
                · rw [up_ne _ _ q] at e; cases e
              have P := ev_ok (lim := lim) bO k b.1 7 b.2 0 2 sh' [0] (fun _ => v) st' (rk fi) w' tx' (by omega) cl' (fun _ _ => hv)
              refine rM.mono (K := fun v S3 => v = none ∧ JP c D K lim S3) (ru_kid ho ih (st := st') (R := rk fi) (by rw [d1 49 0 (by omega)]; exact j49) (by rw [d1 48 0 (by omega)]; exact j48) (by rw [d1 46 0 (by omega)]; exact j46) (by omega) (rTr_e trb f34) (by omega) w' wnb (smD_sc (prm fi)) (fun s hs => by cases List.mem_singleton.mp hs; decide) tx' npb (by omega) (by omega) cl' (fun _ _ => hv) hE4 (hB3.q f34) (jL.q fun f i q1 q2 => d1 f i (by omega)) st'l (fun stB e g S5 f5 xL x46 => kE stB e (hev2.trans (eo.trans g)) S5 (f4.trans f5.call) xL x46) (fun stB x g S5 f5 xL x46 x50 x49 x48 => ?_)) fun v S' w => ⟨w.1, rfl, rfl, w.2⟩
              rw [g] at P
              have kp : ∀ f, 51 ≤ f → f ≤ 53 → S5.1 f (h - 1) = S3.1 f (h - 1) := fun f q1 q2 => by rw [f5.2 f _ (by omega) (by omega) (by omega) (by omega) (by omega), d1 f _ (by omega)]
              exact tail stB S5 x (f4.trans f5.call) x49 x48 (by rw [kp 51 (by omega) (by omega)]; exact j51) (by rw [kp 52 (by omega) (by omega)]; exact j52) (by rw [kp 53 (by omega) (by omega)]; exact j53) x46 (P.2.2.2.2.1 st'l) xL x50 (hev2.trans (eo.trans g)) (by omega) (fun u => absurd cf u)
        · rw [nd f1 5 (by omega) (by omega), s5] at z
          exact absurd z (nI_neg1 (by omega))
end REE
