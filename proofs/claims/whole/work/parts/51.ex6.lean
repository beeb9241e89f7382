/-! The checker's examine, by its levels. -/
section EX6
variable {D : Nat} {c : cX} {fx : fnT} {T : Nat → nd} {nb k : Nat} {C : cS} {K : Option Value → cS → Prop} {n lo sl sh dp tv : Nat} {sc : List Nat} {pl : Nat → Nat} {rm : Nat → Option (vT × vT)}
theorem ck_S (V : vT) (hv : V.1 = 0) : ck fx T (k + 1) n V pl rm =
    if (T n).1 = 78 ∨ (T n).1 = 66 ∨ (T n).1 = 69 ∨ (T n).1 = 80 then match ck fx T k (kid T n 0) V pl rm with
      | .inl e => .inl e
      | .inr f => .inr (gSet (ckTest f (tkd (T n).1) V))
    else if (T n).1 = 33 then match ck fx T k (kid T n 0) V pl rm with
      | .inl e => .inl e
      | .inr f => .inr (gSet (ckNot f))
    else if (T n).1 = 65 ∨ (T n).1 = 68 then match ck fx T k (kid T n 0) V pl rm with
      | .inl e => .inl e
      | .inr f => if f.1 &&& 15 ≠ 0 then .inl (T n).2.1 else .inr (gSet (ckHalf f (if (T n).1 = 65 then 1 else 2) V))
    else if (T n).1 = 67 ∨ (T n).1 = 43 ∨ (T n).1 = 45 ∨ (T n).1 = 60 then match ck fx T k (kid T n 0) V pl rm with
      | .inl e => .inl e
      | .inr f => match ck fx T k (kid T n 1) V pl rm with
        | .inl e => .inl e
        | .inr f2 => if (T n).1 ≠ 67 ∧ (f.1 ||| f2.1) &&& 30 ≠ 0 then .inl (T n).2.1 else .inr (gSet (if (T n).1 = 67 then 16 else if (T n).1 = 60 then 6 else 1, none, V, V))
    else if (T n).1 = 63 then match ck fx T k (kid T n 0) V pl rm with
      | .inl e => .inl e
      | .inr f => match ck fx T k (kid T n 1) f.2.2.1 pl rm with
        | .inl e => .inl e
        | .inr f2 => match ck fx T k (kid T n 2) f.2.2.2 pl rm with
          | .inl e => .inl e
          | .inr f3 => .inr (gSet (f2.1 ||| f3.1, none, vEither f2.2.2.1 f3.2.2.1, vEither f2.2.2.2 f3.2.2.2))
    else if (T n).1 = 38 then match ck fx T k (kid T n 0) V pl rm with
      | .inl e => .inl e
      | .inr f => match ck fx T k (kid T n 1) f.2.2.1 pl rm with
        | .inl e => .inl e
        | .inr f2 => .inr (gSet (f2.1 ||| (if f.2.2.2.1 ≠ 0 then 0 else 4), none, f2.2.2.1, vEither f2.2.2.2 f.2.2.2))
    else if (T n).1 = 124 then match ck fx T k (kid T n 0) V pl rm with
      | .inl e => .inl e
      | .inr f => match ck fx T k (kid T n 1) f.2.2.2 pl rm with
        | .inl e => .inl e
        | .inr f2 => .inr (gSet ((f.1 &&& 27) ||| f2.1, none, vEither f.2.2.1 f2.2.2.1, f2.2.2.2))
    else if (T n).1 = 58 then match ck fx T k (kid T n 0) V pl rm with
      | .inl e => .inl e
      | .inr f => match (T n).2.2.2.1 with
        | none => .inl (T n).2.1
        | some s => match ck fx T k (kid T n 1) (lV f s V) (up pl s (lP f s)) (up rm s (lR f)) with
            | .inl e => .inl e
            | .inr f2 => .inr (gSet (ckLet f2 s))
    else if (T n).1 = 71 ∨ (T n).1 = 72 ∨ (T n).1 = 73 then match ck fx T k (kid T n 0) V pl rm with
      | .inl e => .inl e
      | .inr f => match fx ((T n).1 - 71) with
        | none => .inl (T n).2.1
        | some (pt, kk, y, no) => if f.1 &&& (31 - pt) ≠ 0 then .inl (T n).2.1 else .inr (gSet (ckCall f kk y no V))
    else match (T n).2.2.2.1 with
      | none => .inr (gSet (ckConst (T n).1, none, V, V))
      | some s => .inr (gSet (ckVar V (pl s) (rm s))) := by
  rw [ck, if_neg (fun z => z hv)]
  by_cases h58 : (T n).1 = 58
  · simp only [h58]
    simp only [show ((58 : Nat) = 78 ∨ (58 : Nat) = 66 ∨ (58 : Nat) = 69 ∨ (58 : Nat) = 80) = False by simp, if_false]
    cases ck fx T k (kid T n 0) V pl rm with
    | inl e => rfl
    | inr f =>
      cases (T n).2.2.2.1 with
      | none => rfl
      | some s =>
        simp only [lV, lP, lR]
        cases f.2.1 <;> rfl
  · simp only [if_neg h58]
    rfl
/-- what examineKind leaves -/
def kOut (fx : fnT) (T : Nat → nd) (k : Nat) (C : cS) (K : Option Value → cS → Prop) (n lo sl sh : Nat) (V : vT) (pl : Nat → Nat) (rm : Nat → Option (vT × vT)) : Prop :=
  (∀ e, ck fx T (k + 1) n V pl rm = .inl e → ∀ C', xfr lo (n + 1) sl sh C C' → cI C' 5 6 = nI e → K (some (.int 0)) C') ∧
  ∀ g, ck fx T (k + 1) n V pl rm = .inr (gSet g) → ∀ C', xfr lo (n + 1) sl sh C C' → gf C' (12 + 5 * n) = toF g → gok g → K (some (.int 1)) C'
theorem e_kind (ih : exC D c fx T nb k) (hw : wt T (k + 1) n lo sl sh sc) (hB : exB C fx T nb lo n sl sc pl rm) (hV : exV C tv lo sl) (hv : (gvn C tv).1 = 0) (hd : dp + k ≤ 41) (hK : kOut fx T k C K n lo sl sh (gvn C tv) pl rm) :
    cM c (D + 3 * k + 7) eX1_examineKind [.ref 5, .ref (nb + n), .ref tv, .ref (12 + 5 * n), .int (nI dp)] C K := by
  obtain ⟨w1, w2, w3, w4, w5⟩ := wt_lt hw
  have hN := hB.2.2.1 n w2 (Nat.le_refl _)
  have e : ∀ b : Nat, b < 65536 → (nI (T n).1 = nI b ↔ (T n).1 = b) := fun b hb => nI_eq (by omega) (by omega)
  have e33 : (nI (T n).1 = 33 ↔ (T n).1 = 33) := e 33 (by decide)
  have e38 : (nI (T n).1 = 38 ↔ (T n).1 = 38) := e 38 (by decide)
  have e43 : (nI (T n).1 = 43 ↔ (T n).1 = 43) := e 43 (by decide)
  have e45 : (nI (T n).1 = 45 ↔ (T n).1 = 45) := e 45 (by decide)
  have e58 : (nI (T n).1 = 58 ↔ (T n).1 = 58) := e 58 (by decide)
  have e60 : (nI (T n).1 = 60 ↔ (T n).1 = 60) := e 60 (by decide)
  have e63 : (nI (T n).1 = 63 ↔ (T n).1 = 63) := e 63 (by decide)
  have e65 : (nI (T n).1 = 65 ↔ (T n).1 = 65) := e 65 (by decide)
  have e66 : (nI (T n).1 = 66 ↔ (T n).1 = 66) := e 66 (by decide)
  have e67 : (nI (T n).1 = 67 ↔ (T n).1 = 67) := e 67 (by decide)
  have e68 : (nI (T n).1 = 68 ↔ (T n).1 = 68) := e 68 (by decide)
  have e69 : (nI (T n).1 = 69 ↔ (T n).1 = 69) := e 69 (by decide)
  have e71 : (nI (T n).1 = 71 ↔ (T n).1 = 71) := e 71 (by decide)
  have e72 : (nI (T n).1 = 72 ↔ (T n).1 = 72) := e 72 (by decide)
  have e73 : (nI (T n).1 = 73 ↔ (T n).1 = 73) := e 73 (by decide)
  have e78 : (nI (T n).1 = 78 ↔ (T n).1 = 78) := e 78 (by decide)
  have e80 : (nI (T n).1 = 80 ↔ (T n).1 = 80) := e 80 (by decide)
  have e124 : (nI (T n).1 = 124 ↔ (T n).1 = 124) := e 124 (by decide)
  unfold kOut at hK
  rw [ck_S _ hv] at hK
  obtain ⟨hE, hG⟩ := hK
  refine w_X1_examineKind 5 (some (nb + n)) (some tv) (some (12 + 5 * n)) (nI dp) ⟨nb + n, rfl, hN.1, ?_⟩
  rw [hN.2.1, hN.2.2.2.2.1, e33, e38, e43, e45, e58, e60, e63, e65, e66, e67, e68, e69, e71, e72, e73, e78, e80, e124]
  refine ⟨fun h => ⟨hB.1.1, ?_⟩, fun h => ⟨hB.1.1, ?_⟩, fun h => ⟨hB.1.1, ?_⟩, fun h => ⟨hB.1.1, ?_⟩, fun h => ⟨hB.1.1, ?_⟩, fun h => ⟨hB.1.1, ?_⟩, fun h => ⟨hB.1.1, ?_⟩, fun h => ⟨hB.1.1, ?_⟩, fun h => ⟨hB.1.1, ?_⟩, fun h => ⟨fun h1 => ⟨hB.1.1, ?_⟩, fun h1 => ⟨hB.1.1, ?_⟩⟩⟩
  · rw [if_neg (by omega), if_pos h] at hE hG
    exact e_not ih hw hB hV hd h (fun e he C' x f => ⟨0, rfl, x.le, rB0, hE e (by rw [he]) C' x f⟩) (fun g hg C' x f o => ⟨1, rfl, x.le, rB1, hG _ (by rw [hg]) C' x f o⟩)
  · rw [if_neg (by omega), if_neg (by omega), if_neg (by omega), if_neg (by omega), if_neg (by omega), if_pos h] at hE hG
    exact e_and ih hw hB hV hd h (fun e he C' x f => ⟨0, rfl, x.le, rB0, hE e (by rw [he]) C' x f⟩) (fun f e he he2 C' x ff => ⟨0, rfl, x.le, rB0, hE e (by rw [he]; simp only; rw [he2]) C' x ff⟩) (fun f f2 he he2 C' x ff o => ⟨1, rfl, x.le, rB1, hG _ (by rw [he]; simp only; rw [he2]) C' x ff o⟩)
  · rw [if_neg (by omega), if_neg (by omega), if_neg (by omega), if_pos (by omega)] at hE hG
    exact e_two ih hw hB hV hd (by omega) (fun e he C' x f => ⟨0, rfl, x.le, rB0, hE e (by rw [he]) C' x f⟩) (fun f e he he2 C' x ff => ⟨0, rfl, x.le, rB0, hE e (by rw [he]; simp only; rw [he2]) C' x ff⟩) (fun f f2 he he2 hr C' x ff => ⟨0, rfl, x.le, rB0, hE _ (by rw [he]; simp only; rw [he2]; simp only; rw [if_pos hr]) C' x ff⟩) (fun f f2 he he2 hr C' x ff o => ⟨1, rfl, x.le, rB1, hG _ (by rw [he]; simp only; rw [he2]; simp only; rw [if_neg hr]) C' x ff o⟩)
  · rw [if_neg (by omega), if_neg (by omega), if_neg (by omega), if_neg (by omega), if_neg (by omega), if_neg (by omega), if_neg (by omega), if_pos h] at hE hG
    exact e_bind ih hw hB hV hd h (fun e he C' x f => ⟨0, rfl, x.le, rB0, hE e (by rw [he]) C' x f⟩) (fun f s e he hs he2 C' x ff => ⟨0, rfl, x.le, rB0, hE e (by rw [he]; simp only; rw [hs]; simp only; rw [he2]) C' x ff⟩) (fun f s f2 he hs he2 C' x ff o => ⟨1, rfl, x.le, rB1, hG _ (by rw [he]; simp only; rw [hs]; simp only; rw [he2]) C' x ff o⟩)
  · rw [if_neg (by omega), if_neg (by omega), if_neg (by omega), if_neg (by omega), if_pos h] at hE hG
    exact e_choice ih hw hB hV hd h (fun e he C' x f => ⟨0, rfl, x.le, rB0, hE e (by rw [he]) C' x f⟩) (fun f e he he2 C' x ff => ⟨0, rfl, x.le, rB0, hE e (by rw [he]; simp only; rw [he2]) C' x ff⟩) (fun f f2 e he he2 he3 C' x ff => ⟨0, rfl, x.le, rB0, hE e (by rw [he]; simp only; rw [he2]; simp only; rw [he3]) C' x ff⟩) (fun f f2 f3 he he2 he3 C' x ff o => ⟨1, rfl, x.le, rB1, hG _ (by rw [he]; simp only; rw [he2]; simp only; rw [he3]) C' x ff o⟩)
  · rw [if_neg (by omega), if_neg (by omega), if_pos h] at hE hG
    exact e_half ih hw hB hV hd h (fun e he C' x f => ⟨0, rfl, x.le, rB0, hE e (by rw [he]) C' x f⟩) (fun f he hr C' x ff => ⟨0, rfl, x.le, rB0, hE _ (by rw [he]; simp only; rw [if_pos hr]) C' x ff⟩) (fun f he hr C' x ff o => ⟨1, rfl, x.le, rB1, hG _ (by rw [he]; simp only; rw [if_neg (fun z => z hr)]) C' x ff o⟩)
  · rw [if_pos (by omega)] at hE hG
    exact e_test ih hw hB hV hd (by omega) (fun e he C' x f => ⟨0, rfl, x.le, rB0, hE e (by rw [he]) C' x f⟩) (fun g hg C' x f o => ⟨1, rfl, x.le, rB1, hG _ (by rw [hg]) C' x f o⟩)
  · rw [if_neg (by omega), if_neg (by omega), if_neg (by omega), if_neg (by omega), if_neg (by omega), if_neg (by omega), if_neg (by omega), if_neg (by omega), if_pos (by omega)] at hE hG
    exact e_call (i := (T n).1 - 71) ih hw hB hV hd (by omega) (by omega) (fun e he C' x f => ⟨0, rfl, x.le, rB0, hE e (by rw [he]) C' x f⟩) (fun f he hf C' x ff => ⟨0, rfl, x.le, rB0, hE _ (by rw [he]; simp only; rw [hf]) C' x ff⟩) (fun f pt kk y no he hf hr C' x ff => ⟨0, rfl, x.le, rB0, hE _ (by rw [he]; simp only; rw [hf]; simp only; rw [if_pos hr]) C' x ff⟩) (fun f pt kk y no he hf hr C' x ff o => ⟨1, rfl, x.le, rB1, hG _ (by rw [he]; simp only; rw [hf]; simp only; rw [if_neg (fun z => z hr)]) C' x ff o⟩)
  · rw [if_neg (by omega), if_neg (by omega), if_neg (by omega), if_neg (by omega), if_neg (by omega), if_neg (by omega), if_pos h] at hE hG
    exact e_or ih hw hB hV hd h (fun e he C' x f => ⟨0, rfl, x.le, rB0, hE e (by rw [he]) C' x f⟩) (fun f e he he2 C' x ff => ⟨0, rfl, x.le, rB0, hE e (by rw [he]; simp only; rw [he2]) C' x ff⟩) (fun f f2 he he2 C' x ff o => ⟨1, rfl, x.le, rB1, hG _ (by rw [he]; simp only; rw [he2]) C' x ff o⟩)
  · rw [if_neg (by omega), if_neg (by omega), if_neg (by omega), if_neg (by omega), if_neg (by omega), if_neg (by omega), if_neg (by omega), if_neg (by omega), if_neg (by omega)] at hE hG
    have hl := wt_leaf hw (by simp only [List.mem_cons, List.not_mem_nil, or_false]; omega)
    cases hs : (T n).2.2.2.1 with
    | none => rw [hs] at h1; exact absurd rfl h1
    | some s =>
      rw [hs] at hE hG
      exact e_var hw hB hV hs (hl.2.2 s hs) (fun C' x f o => ⟨1, rfl, x.le, rB1, hG _ rfl C' x f o⟩)
  · rw [if_neg (by omega), if_neg (by omega), if_neg (by omega), if_neg (by omega), if_neg (by omega), if_neg (by omega), if_neg (by omega), if_neg (by omega), if_neg (by omega)] at hE hG
    have hl := wt_leaf hw (by simp only [List.mem_cons, List.not_mem_nil, or_false]; omega)
    cases hs : (T n).2.2.2.1 with
    | none =>
      rw [hs] at hE hG
      exact e_const hw hB hV (fun C' x f o => ⟨1, rfl, x.le, rB1, hG _ rfl C' x f o⟩)
    | some s =>
      have q := (hB.2.2.2.2 s (hl.2.2 s hs)).1
      rw [hs] at h1
      have := (rfI_inj (r := some s) (fun p' h' => by cases h'; omega)).mp h1
      cases this
theorem ex_ok (D : Nat) (c : cX) (fx : fnT) (T : Nat → nd) (nb : Nat) : ∀ k, exC D c fx T nb k
  | 0 => fun _ _ _ _ _ _ _ _ _ _ _ hw => hw.elim
  | k + 1 => by
    intro C K n lo sl sh dp tv sc pl rm hw hB hV hd hK
    obtain ⟨w1, w2, w3, w4, w5⟩ := wt_lt hw
    have hN := hB.2.2.1 n w2 (Nat.le_refl _)
    have hF := hB.1.2.2.2.2.2.2.2.2.2.2.2.1 n w1
    have h1 : ∀ e, ck fx T (k + 1) n (gvn C tv) pl rm = .inl e → ∀ C', xfr lo (n + 1) sl sh C C' → cI C' 5 6 = nI e → K (some (va_rf none)) C' := by
      intro e he
      rw [he] at hK
      exact hK
    have h2 : ∀ g, ck fx T (k + 1) n (gvn C tv) pl rm = .inr g → ∀ C', xfr lo (n + 1) sl sh C C' → gf C' (12 + 5 * n) = toF g → gok g → K (some (va_rf (some (12 + 5 * n)))) C' := by
      intro e he
      rw [he] at hK
      exact hK
    show cM c (D + 3 * k + 7 + 1) eX1_examine _ C K
    refine w_X1_examine 5 (some (nb + n)) (some tv) (nI dp) ⟨fun h => (by cases h), fun y hy => ?_⟩
    cases hy
    refine ⟨hN.1, ?_⟩
    rw [hN.2.2.2.1]
    have i60 : ¬ (60 : Int32) ≤ nI n := fun h => by
      have h2 := Int32.le_iff_toInt_le.mp h
      rw [nI_toInt (by omega)] at h2
      have h3 : ((60 : Int32).toInt) = 60 := by decide
      omega
    have d40 : nI dp ≤ (40 : Int32) := by
      refine Int32.le_iff_toInt_le.mpr ?_
      rw [nI_toInt (by omega)]
      have h3 : ((40 : Int32).toInt) = 40 := by decide
      omega
    refine ⟨fun h => absurd h (nI_pos (by omega)), fun _ => ⟨fun h => absurd h i60, fun _ => ⟨fun _ => ⟨hB.1.1, 6, hB.1.2.1, 60, hB.1.2.2.2.2.2.2.1, n, am_ix_n w1 (by decide), tv, rfl, hV.1.1, ?_⟩, fun h => absurd d40 h⟩⟩⟩
    rw [hF.1]
    refine ⟨fun hv => ?_, fun hv => ⟨12 + 5 * n, rfl, hF.2.1, ?_⟩⟩
    · rw [show nI dp + 1 = nI (dp + 1) from nI_add dp 1]
      have hv' : (gvn C tv).1 = 0 := hv
      refine e_kind (ex_ok D c fx T nb k) hw hB hV hv' (by omega) ⟨fun e he C' x f => ⟨0, rfl, x.le, fun h => absurd rfl h, fun _ => h1 e he C' x f⟩, fun g hg C' x f o => ⟨1, rfl, x.le, fun _ => ?_, fun h => absurd h (by decide)⟩⟩
      have hF' := hF.2.x x (by omega)
      refine ⟨12 + 5 * n, rfl, hF'.1, r_settle hF' fun C2 k2 e2 => ⟨rfl, k2.le, h2 _ hg C2 (x.trans (ff_x k2 w2)) ?_ (gok_set o)⟩⟩
      rw [e2, f, fSet_toF o.1]
    · have hv' : (gvn C tv).1 ≠ 0 := hv
      have hc : ck fx T (k + 1) n (gvn C tv) pl rm = .inr (0, none, vNo, vNo) := by rw [ck, if_pos hv']
      exact r_unchecked hF.2 fun C2 k2 e2 => ⟨rfl, k2.le, h2 _ hc C2 (ff_x k2 w2) (by rw [e2]; rfl) ⟨by decide, fun p h => (by cases h), rB1, rB1⟩⟩
end EX6
