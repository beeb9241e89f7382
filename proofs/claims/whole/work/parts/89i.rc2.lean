/-! The reference's checker: what it concludes of a node from its parts. -/
theorem vw.f {a : Nat} {A B : rS} {f i : Nat} {g : nV} (h : vw (wv A f i) g) (k : ffr a A B) (q1 : ¬ ((f = 27 ∨ f = 28) ∧ 5 * a < i + 5 ∧ i < 5 * a + 5)) (q2 : ¬ (f = 36 ∨ f = 37)) : vw (wv B f i) g := h.cong fun n hn => k.2 f (i + n) (by omega) q2
theorem fnd.f {a b : Nat} {A B : rS} {F : nF} (h : fnd A b F) (k : ffr a A B) (hab : b ≠ a) : fnd B b F := by
  obtain ⟨h1, h2, h3, h4, h5, h6⟩ := h
  exact ⟨by rw [k.1 29 b (by omega)]; exact h1, by rw [k.1 30 b (by omega)]; exact h2, h3, h4, h5.f k (by omega) (by omega), h6.f k (by omega) (by omega)⟩
theorem vw.lt {w : Nat → Int64} {g : nV} (h : vw w g) {p : Nat} (hp : p < 56) : g p < 32 := by rw [← h.2 p hp]; exact gk_lt _ _
theorem rfI_n1 {p : Option Nat} (h : ∀ q, p = some q → q < 56) : rfI p = -1 ↔ p = none := rfI_inj fun q e => by have := h q e; omega
section RCB
variable {c : rX} {d : Nat} {S : rS} {K : Option Value → rS → Prop} {B a : Nat} {g : nV}
theorem q_var (ho : rOK c) (h1 : hB B) (h2 : a < 64) {x p : Nat} {o : Option (nV × nV)} (h8 : S.1 8 (B + a) = nI x) (hx : x < 8) (h32 : S.1 32 x = nI p) (hp : p < 56) (hi : vw (wv S 26 (5 * a)) g) (hY : vw (wv S 36 0) g) (hN : vw (wv S 37 0) g)
    (hown : (o = none ∧ S.1 33 x = 0) ∨ ∃ Y N, o = some (Y, N) ∧ S.1 33 x = 1 ∧ vw (wv S 34 (5 * x)) Y ∧ vw (wv S 35 (5 * x)) N)
    (hK : ∀ S', ffr a S S' → fnd S' a (nFin (g p) (some p) (nOwn (nRes g p 27) (o.map Prod.fst)) (nOwn (nRes g p 4) (o.map Prod.snd))) → K none S') : rM c (d + 3) eX10_concludeVariable [.ref c.2.2.1, .int (nI (B + a))] S K := by
  have ir : am_ix (nI (B + a)) (B + a) 320 := am_ix_n (by rcases h1 with h | h | h | h | h <;> omega) (by decide)
  have ix : am_ix (S.1 8 (B + a)) x 8 := by rw [h8]; exact am_ix_n hx (by decide)
  refine w_X10_concludeVariable ho (nI (B + a)) ⟨B + a, ir, x, ix, ?_⟩
  rw [h32]
  refine r_split ho (a := a) hp hY hN fun S5 f5 y5 n5 => ⟨rfl, x, ix, ?_⟩
  have tail : ∀ (S6 : rS) (Y N : nV), ffr a S S6 → vw (wv S6 36 0) Y → vw (wv S6 37 0) N → (∀ S', ffr a S S' → fnd S' a (nFin (g p) (some p) Y N) → K none S') → rG c eX10_concludeVariable (d + 2 + 1) (rQ c K) 58 [some (.ref c.2.2.1), some (.int (nI (B + a))), none, some (.int (nI p))] [] S6 := by
    intro S6 Y N f6 y6 n6 k6
    have i6 : vw (wv S6 26 (5 * a)) g := hi.f f6 (by omega) (by omega)
    refine w_X10_concludeVariable_58 ho (nI (B + a)) (nI p) (r_five ho h1 h2 ⟨_, rfl, v_said ho (k1 := 17) (f1 := 26) (n1 := 320) rfl (by omega) (by decide) hp ⟨_, rfl, ?_⟩⟩)
    rw [i6.2 p hp]
    exact r_finish ho h1 h2 (p := some p) (i6.lt hp) (fun q e => by cases e; exact hp) y6 n6 fun S' f' e' => ⟨rfl, k6 S' (f6.trans f') e'⟩
  rw [f5.1 33 x (by omega)]
  rcases hown with ⟨o1, o2⟩ | ⟨Y, N, o1, o2, o3, o4⟩
  · rw [o2]
    subst o1
    exact ⟨fun _ => tail S5 _ _ f5 y5 n5 hK, fun z => absurd rfl z⟩
  · rw [o2]
    subst o1
    refine ⟨fun z => absurd z (by decide), fun _ => ?_⟩
    rw [h8, show (5 : Int32) * nI x = nI (5 * x) from pk_mul 5 x]
    have o3' : vw (wv S5 34 (5 * x)) Y := o3.f f5 (by omega) (by omega)
    refine v_both ho (k1 := 27) (f1 := 36) (n1 := 5) (k2 := 25) (f2 := 34) (n2 := 40) (i := 0) (j := 5 * x) rfl rfl (by decide) (by omega) (by decide) (by decide) (by decide) ⟨rfl, ?_⟩
    have f6 := f5.trans (ffr_w a S5 36 (Or.inl rfl) (fun k => wv S5 36 0 k &&& wv S5 34 (5 * x) k))
    have y6 : vw (wv (put S5 36 0 5 fun k => wv S5 36 0 k &&& wv S5 34 (5 * x) k) 36 0) (nAnd (nRes g p 27) Y) := (y5.and o3').cong fun k hk => wv_in _ _ _ _ k hk
    have n6 : vw (wv (put S5 36 0 5 fun k => wv S5 36 0 k &&& wv S5 34 (5 * x) k) 37 0) (nRes g p 4) := n5.cong fun k hk => wv_out (Or.inl (by decide)) k hk
    have o6 : vw (wv (put S5 36 0 5 fun k => wv S5 36 0 k &&& wv S5 34 (5 * x) k) 35 (5 * x)) N := (o4.f f5 (by omega) (by omega)).cong fun k hk => wv_out (Or.inl (by decide)) k hk
    generalize (put S5 36 0 5 fun k => wv S5 36 0 k &&& wv S5 34 (5 * x) k) = S6 at f6 y6 n6 o6 ⊢
    refine v_both ho (k1 := 28) (f1 := 37) (n1 := 5) (k2 := 26) (f2 := 35) (n2 := 40) (i := 0) (j := 5 * x) rfl rfl (by decide) (by omega) (by decide) (by decide) (by decide) ⟨rfl, ?_⟩
    exact tail _ _ _ (f6.trans (ffr_w a S6 37 (Or.inr rfl) _)) (y6.cong fun k hk => wv_out (Or.inl (by decide)) k hk) ((n6.and o6).cong fun k hk => wv_in _ _ _ _ k hk) hK
theorem t_test0 : ∀ q, q < 32 → ∀ t, t < 32 → ((nI t &&& (nI q ^^^ (-1)) = 0) ↔ t &&& (31 - q) = 0) ∧ ((nI t &&& nI q = 0) ↔ t &&& q = 0) := by decide +kernel
theorem t_nz : ∀ q, q < 32 → ∀ t, t < 32 → t = 0 ∨ ¬ t &&& q = 0 ∨ ¬ t &&& (31 - q) = 0 := by decide +kernel
theorem t_test (q : Nat) (hq : q < 32) (t : Nat) (ht : t < 32) : ((nI t &&& (nI q ^^^ (-1)) = 0) ↔ t &&& (31 - q) = 0) ∧ ((nI t &&& nI q = 0) ↔ t &&& q = 0) ∧ (t = 0 → t &&& q = 0 ∧ t &&& (31 - q) = 0) ∧ (¬ t = 0 → ¬ t &&& q = 0 ∨ ¬ t &&& (31 - q) = 0) :=
  ⟨(t_test0 q hq t ht).1, (t_test0 q hq t ht).2, fun z => by subst z; exact ⟨Nat.zero_and _, Nat.zero_and _⟩, fun z => (t_nz q hq t ht).resolve_left z⟩
theorem q_test (ho : rOK c) (h1 : hB B) (h2 : a < 64) {b q : Nat} {F : nF} (hq : q < 32) (h5 : S.1 5 (B + a) = nI (B + b)) (hb : b < 64) (hba : b ≠ a) (hF : fnd S b F) (hY : vw (wv S 36 0) g) (hN : vw (wv S 37 0) g)
    (hK : ∀ S', ffr a S S' → fnd S' a (nFin ((if F.1 &&& q ≠ 0 then 2 else 0) + (if F.1 &&& (31 - q) ≠ 0 then 4 else 0)) none (nResO g F.2.1 q) (nResO g F.2.1 (31 - q))) → K none S') : rM c (d + 3) eX10_concludeTest [.ref c.2.2.1, .int (nI (B + a)), .int (nI q)] S K := by
  have ir : am_ix (nI (B + a)) (B + a) 320 := am_ix_n (by rcases h1 with h | h | h | h | h <;> omega) (by decide)
  refine w_X10_concludeTest ho (nI (B + a)) (nI q) ⟨B + a, ir, ?_⟩
  rw [h5]
  obtain ⟨e1, e2, e3, e4, e5, e6⟩ := hF
  have tail : ∀ (S6 : rS) (Y N : nV), ffr a S S6 → vw (wv S6 36 0) Y → vw (wv S6 37 0) N → (∀ S', ffr a S S' → fnd S' a (nFin ((if F.1 &&& q ≠ 0 then 2 else 0) + (if F.1 &&& (31 - q) ≠ 0 then 4 else 0)) none Y N) → K none S') → rG c eX10_concludeTest (d + 2 + 1) (rQ c K) 47 [some (.ref c.2.2.1), some (.int (nI (B + a))), some (.int (nI q)), some (.int (nI (B + b))), none] [] S6 := by
    intro S6 Y N f6 y6 n6 k6
    refine w_X10_concludeTest_47 ho (nI (B + a)) (nI q) (nI (B + b)) (r_typeOf ho h1 hb ⟨_, rfl, ?_⟩)
    rw [f6.1 29 b (by omega), e1]
    obtain ⟨t1, t2, t3, t4⟩ := t_test q hq F.1 e3
    rw [t1, t2, show nI F.1 = 0 ↔ F.1 = 0 from nI_is (b := 0) (by omega) (by decide)]
    have go : ∀ t, t < 32 → t = (if F.1 &&& q ≠ 0 then 2 else 0) + (if F.1 &&& (31 - q) ≠ 0 then 4 else 0) → rM c (d + 2) eX10_finish (.ref c.2.2.1 :: [.int (nI (B + a)), .int (nI t), .int (-1)]) S6 (fun v S12 => v = none ∧ (K none S12)) := by
      intro t ht et
      refine r_finish ho h1 h2 (p := none) ht (fun q e => by cases e) y6 n6 fun S' f' e' => ⟨rfl, k6 S' (f6.trans f') ?_⟩
      rw [← et]
      exact e'
    refine ⟨fun z0 => ⟨fun z1 => ⟨fun z2 => go 6 (by decide) ?_, fun z2 => go 4 (by decide) ?_⟩, fun z1 => go 2 (by decide) ?_⟩, fun z0 => go 0 (by decide) ?_⟩
    · rw [if_pos z2, if_pos z1]
    · rw [if_neg (fun w => w z2), if_pos z1]
    · rw [if_neg (fun w : F.1 &&& (31 - q) ≠ 0 => w z1), if_pos ((t4 z0).resolve_right (fun w => w z1))]
    · rw [if_neg (fun w => w (t3 z0).1), if_neg (fun w => w (t3 z0).2)]
  refine r_placeOf ho h1 hb ⟨_, rfl, fun z => ?_, fun z => ?_⟩
  · rw [e2] at z
    have e0 := (rfI_n1 e4).mp z
    rw [e0] at hK
    exact tail S _ _ (ffr.refl _ _) hY hN hK
  · cases ep : F.2.1 with
    | none => rw [e2, ep] at z; exact absurd rfl z
    | some p =>
      have hp := e4 p ep
      rw [ep] at hK
      have pl : ∀ S6, ffr a S S6 → S6.1 30 b = nI p := fun S6 f6 => by rw [f6.1 30 b (by omega), e2, ep]; rfl
      refine r_placeOf ho h1 hb ⟨_, rfl, ?_⟩
      rw [pl S (ffr.refl _ _)]
      refine v_restrict ho (k1 := 27) (f1 := 36) (n1 := 5) (i := 0) rfl (by decide) (by decide) hq ⟨rfl, r_placeOf ho h1 hb ⟨_, rfl, ?_⟩⟩
      have f6 := ffr_w a S 36 (Or.inl rfl) (wRes (wv S 36 0) p q)
      have y6 : vw (wv (put S 36 0 5 (wRes (wv S 36 0) p q)) 36 0) (nRes g p q) := (hY.res hp).cong fun k hk => wv_in _ _ _ _ k hk
      have n6 : vw (wv (put S 36 0 5 (wRes (wv S 36 0) p q)) 37 0) g := hN.cong fun k hk => wv_out (Or.inl (by decide)) k hk
      rw [pl _ f6]
      generalize put S 36 0 5 (wRes (wv S 36 0) p q) = S6 at f6 y6 n6 ⊢
      have e31 : (31 : Int32) - nI q = nI (31 - q) := pk_sub (a := 31) (b := q) (by omega)
      rw [e31]
      refine v_restrict ho (k1 := 28) (f1 := 37) (n1 := 5) (i := 0) rfl (by decide) (by decide) (by omega) ⟨rfl, ?_⟩
      exact tail _ _ _ (f6.trans (ffr_w a S6 37 (Or.inr rfl) _)) (y6.cong fun k hk => wv_out (Or.inl (by decide)) k hk) ((n6.res hp).cong fun k hk => wv_in _ _ _ _ k hk) hK
theorem q_not (ho : rOK c) (h1 : hB B) (h2 : a < 64) {b : Nat} {F : nF} (h5 : S.1 5 (B + a) = nI (B + b)) (hb : b < 64) (hba : b ≠ a) (hF : fnd S b F)
    (hK : ∀ S', ffr a S S' → fnd S' a (nFin ((if nImp F.2.2.2 = true then 0 else 2) + (if nImp F.2.2.1 = true then 0 else 4)) none F.2.2.2 F.2.2.1) → K none S') : rM c (d + 3) eX10_concludeNot [.ref c.2.2.1, .int (nI (B + a))] S K := by
  have ir : am_ix (nI (B + a)) (B + a) 320 := am_ix_n (by rcases h1 with h | h | h | h | h <;> omega) (by decide)
  obtain ⟨e1, e2, e3, e4, e5, e6⟩ := hF
  refine w_X10_concludeNot ho (nI (B + a)) ⟨B + a, ir, ?_⟩
  rw [h5]
  refine r_five ho h1 hb ⟨_, rfl, ?_⟩
  refine v_copy ho (k1 := 19) (f1 := 28) (n1 := 320) (k2 := 27) (f2 := 36) (n2 := 5) (i := 5 * b) (j := 0) rfl rfl (by omega) (by decide) (by decide) (by decide) (Or.inl (by decide)) ⟨rfl, ?_⟩
  have f6 := ffr_w a S 36 (Or.inl rfl) (wv S 28 (5 * b))
  have y6 : vw (wv (put S 36 0 5 (wv S 28 (5 * b))) 36 0) F.2.2.2 := e6.cong fun k hk => wv_in _ _ _ _ k hk
  generalize put S 36 0 5 (wv S 28 (5 * b)) = S6 at f6 y6 ⊢
  have e5' : vw (wv S6 27 (5 * b)) F.2.2.1 := e5.f f6 (by omega) (by omega)
  refine v_copy ho (k1 := 18) (f1 := 27) (n1 := 320) (k2 := 28) (f2 := 37) (n2 := 5) (i := 5 * b) (j := 0) rfl rfl (by omega) (by decide) (by decide) (by decide) (Or.inl (by decide)) ⟨rfl, ?_⟩
  have f7 := f6.trans (ffr_w a S6 37 (Or.inr rfl) (wv S6 27 (5 * b)))
  have y7 : vw (wv (put S6 37 0 5 (wv S6 27 (5 * b))) 36 0) F.2.2.2 := y6.cong fun k hk => wv_out (Or.inl (by decide)) k hk
  have n7 : vw (wv (put S6 37 0 5 (wv S6 27 (5 * b))) 37 0) F.2.2.1 := e5'.cong fun k hk => wv_in _ _ _ _ k hk
  generalize put S6 37 0 5 (wv S6 27 (5 * b)) = S7 at f7 y7 n7 ⊢
  have e6' : vw (wv S7 28 (5 * b)) F.2.2.2 := e6.f f7 (by omega) (by omega)
  have e5'' : vw (wv S7 27 (5 * b)) F.2.2.1 := e5.f f7 (by omega) (by omega)
  have tail : ∀ u : Nat, (u = 0 ∨ u = 2) → u = (if nImp F.2.2.2 = true then 0 else 2) → rG c eX10_concludeNot (d + 2 + 1) (rQ c K) 55 [some (.ref c.2.2.1), none, some (.int (nI (5 * b)))] [.int (nI u), .int (nI (B + a)), .ref c.2.2.1] S7 := by
    intro u hu eu
    refine w_X10_concludeNot_55 ho (nI (5 * b)) (nI u) (nI (B + a)) (v_imp ho (k1 := 18) (f1 := 27) (n1 := 320) rfl (by omega) (by decide) e5''.1 ⟨_, rfl, fun z => ?_, fun z => ?_⟩)
    · rw [vw_imp e5''] at z
      have hn : ¬ nImp F.2.2.1 = true := fun w => by rw [if_pos w] at z; exact absurd z (by decide)
      have eo : nI u ||| 4 = nI (u + 4) := by rcases hu with h | h <;> subst h <;> decide
      rw [eo]
      refine r_finish ho h1 h2 (t := u + 4) (p := none) (by omega) (fun q e => by cases e) y7 n7 fun S' f' e' => ⟨rfl, hK S' (f7.trans f') ?_⟩
      rw [if_neg hn, ← eu]
      exact e'
    · rw [vw_imp e5''] at z
      have hn : nImp F.2.2.1 = true := by
        by_cases w : nImp F.2.2.1 = true
        · exact w
        · rw [if_neg w] at z; exact absurd rfl z
      have eo : nI u ||| 0 = nI (u + 0) := by rcases hu with h | h <;> subst h <;> decide
      rw [eo]
      refine r_finish ho h1 h2 (t := u + 0) (p := none) (by omega) (fun q e => by cases e) y7 n7 fun S' f' e' => ⟨rfl, hK S' (f7.trans f') ?_⟩
      rw [if_pos hn, ← eu]
      exact e'
  refine v_imp ho (k1 := 19) (f1 := 28) (n1 := 320) rfl (by omega) (by decide) e6'.1 ⟨_, rfl, fun z => ?_, fun z => ?_⟩
  · rw [vw_imp e6'] at z
    exact tail 2 (Or.inr rfl) (by
      by_cases w : nImp F.2.2.2 = true
      · rw [if_pos w] at z; exact absurd z (by decide)
      · rw [if_neg w])
  · rw [vw_imp e6'] at z
    exact tail 0 (Or.inl rfl) (by
      by_cases w : nImp F.2.2.2 = true
      · rw [if_pos w]
      · rw [if_neg w] at z; exact absurd rfl z)
theorem q_refuse (ho : rOK c) {r e : Nat} (hr : r < 320) (h9 : S.1 9 r = nI e) (hK : ∀ S', S'.2 = S.2 → (∀ f i, ¬ (f = 38 ∧ i = 0) → ¬ (f = 1 ∧ i = 0) → S'.1 f i = S.1 f i) → S'.1 38 0 = 1 → S'.1 1 0 = nI e → K none S') : rM c d eX10_refuse [.ref c.2.2.1, .int (nI r)] S K := by
  refine w_X10_refuse ho (nI r) ⟨r, am_ix_n hr (by decide), ?_⟩
  rw [h9]
  exact hK _ rfl (fun f i q1 q2 => by rw [rsi_ne _ _ q2, rsi_ne _ _ q1]) (by rw [rsi_ne _ _ (by omega), rsi_i]) (rsi_i _ _ _ _)
theorem r_further (ho : rOK c) {o : Option Nat} (hp : ∀ q, o = some q → q < 56) (isA : Bool) (hK : K (some (.int (rfI (o.bind fun p => rch p (if isA = true then 1 else 2))))) S) : rM c d eX10_further [.int (rfI o), .int (if isA = true then 1 else 0)] S K := by
  refine w_X10_further ho (rfI o) _ ⟨fun z => ?_, fun z => ?_⟩
  · rw [(rfI_n1 hp).mp z] at hK
    exact hK
  · cases o with
    | none => exact absurd rfl z
    | some p =>
      have h56 := hp p rfl
      have m7 : rfI (some p) - rfI (some p) / 7 * 7 = nI (p % 7) := pk_rem (d := 7) (by omega) (by decide) (by decide)
      have m : p % 7 < 7 := Nat.mod_lt _ (by decide)
      rw [m7]
      have sb : rfI (some p) - nI (p % 7) = nI (p - p % 7) := pk_sub (Nat.mod_le _ _)
      rw [sb]
      have i0 : (if isA = true then (1 : Int32) else 0) = 0 ↔ ¬ isA = true := by cases isA <;> simp
      have hK : K (some (.int (rfI (rch p (if isA = true then 1 else 2))))) S := hK
      unfold rch at hK
      have q0 : ¬ (if isA = true then 1 else 2) = 0 := by cases isA <;> simp
      rw [if_neg q0] at hK
      rw [i0]
      refine ⟨fun h2 => ⟨fun h0 => ⟨fun hA => ?_, fun hA => ?_⟩, fun h0 => ⟨fun hA => ?_, fun hA => ?_⟩⟩, fun h2 => ?_⟩
      · have n2 : p % 7 ≤ 2 := (nI_leI (b := 2) (by omega) (by decide)).mp h2
        have n0 : ¬ p % 7 = 0 := fun w => h0 (by rw [w]; rfl)
        rw [if_neg n0, if_neg hA, if_pos ⟨n2, by decide⟩] at hK
        have e : nI (p - p % 7) + (1 + 2 * nI (p % 7) + 1) = nI (p - p % 7 + 2 * (p % 7) + 2) := by
          rw [show (2 : Int32) * nI (p % 7) = nI (2 * (p % 7)) from pk_mul 2 _, show (1 : Int32) + nI (2 * (p % 7)) = nI (1 + 2 * (p % 7)) from nI_add 1 _, nI_1, nI_add]
          congr 1
          omega
        rw [e]
        exact hK
      · have n2 : p % 7 ≤ 2 := (nI_leI (b := 2) (by omega) (by decide)).mp h2
        have n0 : ¬ p % 7 = 0 := fun w => h0 (by rw [w]; rfl)
        have hA' : isA = true := by cases isA with
          | true => rfl
          | false => exact absurd (by decide) hA
        rw [if_neg n0, if_pos hA', if_pos ⟨n2, by decide⟩] at hK
        have e : nI (p - p % 7) + (1 + 2 * nI (p % 7) + 0) = nI (p - p % 7 + 2 * (p % 7) + 1) := by
          rw [show (2 : Int32) * nI (p % 7) = nI (2 * (p % 7)) from pk_mul 2 _, show (1 : Int32) + nI (2 * (p % 7)) = nI (1 + 2 * (p % 7)) from nI_add 1 _, show nI (1 + 2 * (p % 7)) + 0 = nI (1 + 2 * (p % 7) + 0) from nI_add _ 0, nI_add]
          congr 1
          omega
        rw [e]
        exact hK
      · have n0 : p % 7 = 0 := (nI_eq (by omega) (by decide)).mp (show nI (p % 7) = nI 0 from h0)
        rw [if_pos n0, if_neg hA] at hK
        have e : nI (p - p % 7) + 2 = nI (p + 2) := by
          rw [show nI (p - p % 7) + 2 = nI (p - p % 7 + 2) from nI_add _ 2]
          congr 1
          omega
        rw [e]
        exact hK
      · have n0 : p % 7 = 0 := (nI_eq (by omega) (by decide)).mp (show nI (p % 7) = nI 0 from h0)
        have hA' : isA = true := by cases isA with
          | true => rfl
          | false => exact absurd (by decide) hA
        rw [if_pos n0, if_pos hA'] at hK
        have e : nI (p - p % 7) + 1 = nI (p + 1) := by
          rw [nI_1]
          congr 1
          omega
        rw [e]
        exact hK
      · have n2 : ¬ p % 7 ≤ 2 := fun w => h2 ((nI_leI (b := 2) (by omega) (by decide)).mpr w)
        rw [if_neg (by omega), if_neg (fun w => n2 w.1)] at hK
        exact hK
end RCB
