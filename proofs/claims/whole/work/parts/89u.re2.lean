/-! The reference's machine: two operands; one step. -/
section REB
variable {c : rX} {d : Nat} {S : rS} {K : Option Value → rS → Prop} {L : cL}
theorem e_binary (ho : rOK c) {r op v w h s : Nat} (hr : r < 320) (h4 : S.1 4 r = nI op) (hop : op = 67 ∨ op = 43 ∨ op = 45 ∨ op = 60) (cl : clO L) (hL : RCL S L) (hv : v < L.1) (hw : w < L.1) (h49 : S.1 49 0 = nI h) (hh : 1 ≤ h)
    (k1 : ∀ e, ap2 op v w (s, L) = ((s, L), .inl e) → K none (rsi S 48 0 (nI e)))
    (k2 : ∀ L' x, ap2 op v w (s, L) = ((s, L'), .inr x) → ∀ S', S'.2 = S.2 → (∀ f i, ¬ (40 ≤ f ∧ f ≤ 44) → ¬ ((f = 49 ∨ f = 50) ∧ i = 0) → S'.1 f i = S.1 f i) → RCL S' L' → S'.1 50 0 = nI x → S'.1 49 0 = nI (h - 1) → K none S') : rM c (d + 1) eX10_binary [.ref c.2.2.1, .int (nI r), .int (nI v), .int (nI w)] S K := by
  have h64 := cl.2.1
  obtain ⟨V1, V2, V3, V4⟩ := hL.2 v hv
  obtain ⟨W1, W2, W3, W4⟩ := hL.2 w hw
  have kv := cl.k hv
  have kw := cl.k hw
  have ev1 : nI (L.2 v).1 = 1 ↔ (L.2 v).1 = 1 := nI_is (b := 1) (by omega) (by decide)
  have ew1 : nI (L.2 w).1 = 1 ↔ (L.2 w).1 = 1 := nI_is (b := 1) (by omega) (by decide)
  have o67 : nI op = 67 ↔ op = 67 := nI_is (b := 67) (by omega) (by decide)
  have o60 : nI op = 60 ↔ op = 60 := nI_is (b := 60) (by omega) (by decide)
  have o43 : nI op = 43 ↔ op = 43 := nI_is (b := 43) (by omega) (by decide)
  have e64 : nI L.1 = 64 ↔ L.1 = 64 := nI_is (b := 64) (by omega) (by decide)
  have ir : am_ix (nI r) r 320 := am_ix_n hr (by decide)
  have iv : am_ix (nI v) v 64 := am_ix_n (by omega) (by decide)
  have iw : am_ix (nI w) w 64 := am_ix_n (by omega) (by decide)
  have stop2 : ap2 op v w (s, L) = ((s, L), .inl 2) → rM c d eX10_stop (.ref c.2.2.1 :: [.int 2]) S (fun v S7 => v = none ∧ (K none S7)) := fun q => w_X10_stop ho 2 ⟨rfl, k1 2 q⟩
  have stop3 : ap2 op v w (s, L) = ((s, L), .inl 3) → rM c d eX10_stop (.ref c.2.2.1 :: [.int 3]) S (fun v S7 => v = none ∧ (K none S7)) := fun q => w_X10_stop ho 3 ⟨rfl, k1 3 q⟩
  have mk : ∀ (k : Nat) (x : Int32) (a b : Option Nat), L.1 < 64 → ap2 op v w (s, L) = ((s, cAdd L (k, x, a, b)), .inr L.1) → rM c d eX10_make (.ref c.2.2.1 :: [.int (nI k), .int x, .int (rfI a), .int (rfI b)]) S (fun v S9 => ∃ z10 : Int32, v = some (.int z10) ∧ (rM c d eX10_end (.ref c.2.2.1 :: [.int z10]) S9 (fun v S11 => v = none ∧ (K none S11)))) := by
    intro k x a b hl q
    refine e_make ho hL hl fun S1 a1 a2 a3 => ⟨_, rfl, e_end ho (h := h) (by rw [a2 49 0 (by omega)]; exact h49) hh fun S' b1 b2 b3 b4 => ⟨rfl, ?_⟩⟩
    exact k2 _ _ q S' (b1.trans a1) (fun f i q1 q2 => by rw [b2 f i q2, a2 f i q1]) (a3.q fun f i q1 q2 => b2 f i (by omega)) b3 b4
  have k43 : (op = 67 ∨ ((L.2 v).1 = 1 ∧ (L.2 w).1 = 1)) → rG c eX10_binary (d + 1) (rQ c K) 43 [some (.ref c.2.2.1), none, some (.int (nI v)), some (.int (nI w)), some (.int (nI op))] [] S := by
    intro hk
    refine w_X10_binary_43 ho (nI v) (nI w) (nI op) ?_
    rw [o60, o67, o43, hL.1, e64]
    refine ⟨fun n60 => ⟨fun n64 => ⟨fun n67 => ⟨fun n43 => ⟨v, iv, w, iw, ?_⟩, fun y43 => ⟨v, iv, w, iw, ?_⟩⟩, fun y67 => ?_⟩, fun y64 => ?_⟩, fun y60 => ⟨v, iv, w, iw, ?_⟩⟩
    · rw [V2, W2]
      refine mk 1 _ none none (by omega) ?_
      unfold ap2
      rw [if_neg n67, if_pos (show ((s, L).2.2 v).1 = 1 ∧ ((s, L).2.2 w).1 = 1 from hk.resolve_left n67), if_neg n60, if_neg (show ¬ (s, L).2.1 = 64 from n64), if_neg n43]
    · rw [V2, W2]
      refine mk 1 _ none none (by omega) ?_
      unfold ap2
      rw [if_neg n67, if_pos (show ((s, L).2.2 v).1 = 1 ∧ ((s, L).2.2 w).1 = 1 from hk.resolve_left n67), if_neg n60, if_neg (show ¬ (s, L).2.1 = 64 from n64), if_pos y43]
    · refine mk 16 0 (some v) (some w) (by omega) ?_
      unfold ap2
      rw [if_pos y67, if_neg (show ¬ (s, L).2.1 = 64 from n64)]
    · refine stop3 ?_
      unfold ap2
      by_cases q : op = 67
      · rw [if_pos q, if_pos (show (s, L).2.1 = 64 from y64)]
      · rw [if_neg q, if_pos (show ((s, L).2.2 v).1 = 1 ∧ ((s, L).2.2 w).1 = 1 from hk.resolve_left q), if_neg n60, if_pos (show (s, L).2.1 = 64 from y64)]
    · have ap : ap2 op v w (s, L) = ((s, L), .inr (if (L.2 w).2.1 ≤ (L.2 v).2.1 then 1 else 0)) := by
        unfold ap2
        rw [if_neg (by omega), if_pos (show ((s, L).2.2 v).1 = 1 ∧ ((s, L).2.2 w).1 = 1 from hk.resolve_left (by omega)), if_pos y60]
      rw [V2, W2]
      refine ⟨fun q => ?_, fun q => ?_⟩
      · rw [if_pos q] at ap
        exact e_truth ho (b := false) rfl h49 hh fun S' a1 a2 a3 a4 => k2 L 1 ap S' a1 (fun f i _ q2 => a2 f i q2) (hL.q fun f i q1 q2 => a2 f i (by omega)) a3 a4
      · rw [if_neg q] at ap
        exact e_truth ho (b := true) rfl h49 hh fun S' a1 a2 a3 a4 => k2 L 0 ap S' a1 (fun f i _ q2 => a2 f i q2) (hL.q fun f i q1 q2 => a2 f i (by omega)) a3 a4
  refine w_X10_binary ho (nI r) (nI v) (nI w) ⟨r, ir, ?_⟩
  rw [h4, o67]
  refine ⟨fun y67 => k43 (Or.inl y67), fun n67 => ⟨v, iv, ?_⟩⟩
  rw [V1, ev1]
  refine ⟨fun q => stop2 ?_, fun q => ⟨w, iw, ?_⟩⟩
  · unfold ap2
    rw [if_neg n67, if_neg (show ¬ (((s, L).2.2 v).1 = 1 ∧ ((s, L).2.2 w).1 = 1) from fun u => q u.1)]
  · rw [W1, ew1]
    refine ⟨fun q2 => k43 (Or.inr ⟨q, q2⟩), fun q2 => stop2 ?_⟩
    unfold ap2
    rw [if_neg n67, if_neg (show ¬ (((s, L).2.2 v).1 = 1 ∧ ((s, L).2.2 w).1 = 1) from fun u => q2 u.2)]
/-- a leaf's value -/
theorem e_leaf (ho : rOK c) {r l h : Nat} {x : nd} {sm : Nat → Option Nat} {ρ : Nat → Nat} (hr : r < 320) (hl : l ≤ 3) (h4 : S.1 4 r = nI (sgn x)) (h8 : S.1 8 r = nI (wht x)) (hx : x.1 < 65536) (hne : x.2.2.2.2 = []) (hk : x.2.2.2.1 = none → isK x.1) (hv : ∀ t, x.2.2.2.1 = some t → 97 ≤ x.1 ∧ x.1 < 105 ∧ sm (x.1 - 97) = some t) (hE : REV S l sm ρ) (h49 : S.1 49 0 = nI h) (hh : 1 ≤ h)
    (hK : ∀ S', S'.2 = S.2 → (∀ f i, ¬ ((f = 49 ∨ f = 50) ∧ i = 0) → S'.1 f i = S.1 f i) → S'.1 50 0 = nI (lfv x ρ) → S'.1 49 0 = nI (h - 1) → K none S') : rM c (d + 1) eX10_leaf [.ref c.2.2.1, .int (nI r), .int (nI l)] S K := by
  have ir : am_ix (nI r) r 320 := am_ix_n hr (by decide)
  have go : ∀ v : Nat, lfv x ρ = v → rM c d eX10_end (.ref c.2.2.1 :: [.int (nI v)]) S (fun v S3 => v = none ∧ (K none S3)) := fun v ev => e_end ho h49 hh fun S' a1 a2 a3 a4 => ⟨rfl, hK S' a1 a2 (by rw [ev]; exact a3) a4⟩
  refine w_X10_leaf ho (nI r) (nI l) ⟨r, ir, ?_⟩
  rw [h4]
  cases e : x.2.2.2.1 with
  | none =>
    have k := hk e
    unfold isK at k
    have sg : sgn x = if 48 ≤ x.1 ∧ x.1 ≤ 57 then 48 else x.1 := by unfold sgn; rw [if_pos hne, e]
    have wh : wht x = if 48 ≤ x.1 ∧ x.1 ≤ 57 then x.1 - 48 else 0 := by unfold wht; rw [if_pos hne, e]
    have lf : lfv x ρ = if x.1 = 35 then 0 else if x.1 = 126 then 1 else if x.1 = 46 then 2 else 3 + x.1 - 48 := by unfold lfv; rw [e]
    have s16 : sgn x < 65536 := by rw [sg]; split <;> omega
    have ei : ∀ b : Nat, b < 2 ^ 31 → (nI (sgn x) = nI b ↔ sgn x = b) := fun b hb => nI_is (by omega) hb
    have e35 : nI (sgn x) = 35 ↔ sgn x = 35 := ei 35 (by decide)
    have e46 : nI (sgn x) = 46 ↔ sgn x = 46 := ei 46 (by decide)
    have e48 : nI (sgn x) = 48 ↔ sgn x = 48 := ei 48 (by decide)
    have e126 : nI (sgn x) = 126 ↔ sgn x = 126 := ei 126 (by decide)
    rw [e35, e46, e48, e126]
    by_cases dg : 48 ≤ x.1 ∧ x.1 ≤ 57
    · rw [if_pos dg] at sg wh
      refine ⟨fun z => absurd z (by omega), fun z => absurd z (by omega), fun _ => ⟨r, ir, ?_⟩, fun z => absurd z (by omega), fun z => absurd sg z.2.2.1⟩
      rw [h8, wh, show (3 : Int32) + nI (x.1 - 48) = nI (3 + (x.1 - 48)) from nI_add 3 _]
      refine go _ ?_
      rw [lf, if_neg (by omega), if_neg (by omega), if_neg (by omega)]
      omega
    · rw [if_neg dg] at sg
      refine ⟨fun z => go 0 ?_, fun z => go 2 ?_, fun z => absurd z (by omega), fun z => go 1 ?_, fun z => absurd z (by omega)⟩
      · rw [lf, if_pos (by omega)]
      · rw [lf, if_neg (by omega), if_neg (by omega), if_pos (by omega)]
      · rw [lf, if_neg (by omega), if_pos (by omega)]
  | some t =>
    obtain ⟨v1, v2, v3⟩ := hv t e
    have sg : sgn x = 97 := by unfold sgn; rw [if_pos hne, e]
    have wh : wht x = x.1 - 97 := by unfold wht; rw [if_pos hne, e]
    have lf : lfv x ρ = ρ t := by unfold lfv; rw [e]
    obtain ⟨r1, r2, r3⟩ := hE _ _ v3
    rw [sg]
    refine ⟨fun z => absurd z (by decide), fun z => absurd z (by decide), fun z => absurd z (by decide), fun z => absurd z (by decide), fun _ => ⟨r, ir, ?_⟩⟩
    rw [h8, wh, show (2 : Int32) ≤ nI (x.1 - 97) ↔ 2 ≤ x.1 - 97 from nI_leI (a := 2) (by decide) (by omega)]
    refine ⟨fun q => ⟨r, ir, 8 * l + (x.1 - 97), ?_, ?_⟩, fun q => ⟨r, ir, x.1 - 97, ?_, ?_⟩⟩
    · rw [h8, wh, show (8 : Int32) * nI l = nI (8 * l) from pk_mul 8 l, nI_add]
      exact am_ix_n (by omega) (by decide)
    · rw [r3 q]; exact go _ lf
    · rw [h8, wh]; exact am_ix_n (by omega) (by decide)
    · rw [r2 (by omega)]; exact go _ lf
end REB
