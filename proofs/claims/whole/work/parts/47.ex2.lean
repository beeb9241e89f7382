/-! The checker's methods: negation, halves, two parts, variables. -/
theorem gf_set {C : cS} {t : Nat} (z r : Int32) : gf (csi (csi C t 0 z) t 1 r) t = (z, r, gvn C (t + 1), gvn C (t + 3)) ∧ cfv (ff t) C (csi (csi C t 0 z) t 1 r) := by
  have v0 : cfv (fun b => b = t) C (csi (csi C t 0 z) t 1 r) := (cfv_csi C t 0 z).trans (cfv_csi _ t 1 r)
  refine ⟨?_, v0.mono eq_ff⟩
  unfold gf
  rw [cI_csi, cI_csi_ne _ _ (by omega), cI_csi, gvn_v v0 (by omega) (by omega), gvn_v v0 (by omega) (by omega)]
theorem gf_1 {C1 C2 : cS} {t : Nat} (k : cfv (fv (t + 1)) C1 C2) : gf C2 t = ((gf C1 t).1, (gf C1 t).2.1, gvn C2 (t + 1), (gf C1 t).2.2.2) := by
  unfold gf
  rw [(k.2.2.2.2 t (by rintro (q | q) <;> omega)).1, gvn_v (t := t + 3) k (by rintro (q | q) <;> omega) (by rintro (q | q) <;> omega)]
theorem gf_3 {C1 C2 : cS} {t : Nat} (k : cfv (fv (t + 3)) C1 C2) : gf C2 t = ((gf C1 t).1, (gf C1 t).2.1, (gf C1 t).2.2.1, gvn C2 (t + 3)) := by
  unfold gf
  rw [(k.2.2.2.2 t (by rintro (q | q) <;> omega)).1, gvn_v (t := t + 1) k (by rintro (q | q) <;> omega) (by rintro (q | q) <;> omega)]
theorem k_fl {v : Int32} (h : rB v) (z : Nat) : (if v ≠ 0 then 0 else z) = if v = 0 then z else 0 := by by_cases q : v = 0 <;> simp [q]
section EX2
variable {D : Nat} {c : cX} {fx : fnT} {T : Nat → nd} {nb k : Nat} {C : cS} {K : Option Value → cS → Prop} {n lo sl sh dp tv : Nat} {sc : List Nat} {pl : Nat → Nat} {rm : Nat → Option (vT × vT)}
theorem e_not (ih : exC D c fx T nb k) (hw : wt T (k + 1) n lo sl sh sc) (hB : exB C fx T nb lo n sl sc pl rm) (hV : exV C tv lo sl) (hd : dp + k ≤ 41) (ho : (T n).1 = 33)
    (hE : ∀ e, ck fx T k (kid T n 0) (gvn C tv) pl rm = .inl e → ∀ C', xfr lo (n + 1) sl sh C C' → cI C' 5 6 = nI e → K (some (.int 0)) C')
    (hG : ∀ f, ck fx T k (kid T n 0) (gvn C tv) pl rm = .inr f → ∀ C', xfr lo (n + 1) sl sh C C' → gf C' (12 + 5 * n) = toF (ckNot f) → gok (ckNot f) → K (some (.int 1)) C') :
    cM c (D + 3 * k + 6) eX1_examineNot [.ref 5, .ref (nb + n), .ref tv, .ref (12 + 5 * n), .int (nI dp)] C K := by
  obtain ⟨w1, w2, w3, w4, w5⟩ := wt_lt hw
  obtain ⟨a, ha, hna, hwa⟩ := wt_one hw (by simp only [List.mem_cons, List.not_mem_nil, or_false]; omega)
  obtain ⟨n1, n2, n3, n4, n5, n6⟩ := hB.2.2.1 n w2 (Nat.le_refl _)
  have hk : kid T n 0 = a := by unfold kid; rw [ha]; rfl
  rw [hk] at hE hG
  have n7 : cR C (nb + n) 4 = some (nb + a) := by have := n6 0 (by decide); rw [ha] at this; exact this
  obtain ⟨v1, v2, v3, v4, v5⟩ := wt_lt hwa
  refine w_X1_examineNot 5 (some (nb + n)) (some tv) (some (12 + 5 * n)) (nI dp) ⟨nb + n, rfl, n1, hB.1.1, ?_⟩
  rw [n7]
  refine ex_kid ih hwa hB (by omega) hV hd (fun e he C1 x1 f1 => ⟨none, rfl, x1.le, fun _ => hE e he C1 (x1.mono (Nat.le_refl _) (by omega) (Nat.le_refl _) (Nat.le_refl _)) f1, fun z hz => by cases hz⟩) (fun g hg C1 x1 f1 k1 => ⟨some (12 + 5 * a), rfl, x1.le, fun hz => (by cases hz), fun z hz => ?_⟩)
  cases hz
  have hB1 := hB.x x1 (by omega) w4 (by omega)
  have hF := (hB1.1.2.2.2.2.2.2.2.2.2.2.2.1 n w1).2
  have hFa := (hB1.1.2.2.2.2.2.2.2.2.2.2.2.1 a v1).2
  have gy : gvn C1 (12 + 5 * a + 1) = g.2.2.1 := congrArg (fun z : fT => z.2.2.1) f1
  have gn : gvn C1 (12 + 5 * a + 3) = g.2.2.2 := congrArg (fun z : fT => z.2.2.2) f1
  have iy : cI C1 (12 + 5 * a + 1) 1 = g.2.2.1.1 := congrArg Prod.fst gy
  have ino : cI C1 (12 + 5 * a + 3) 1 = g.2.2.2.1 := congrArg Prod.fst gn
  have x1' : xfr lo (n + 1) sl sh C C1 := x1.mono (Nat.le_refl _) (by omega) (Nat.le_refl _) (Nat.le_refl _)
  have last : ∀ p q : Nat, p ≤ 4 → q ≤ 2 → p = (if g.2.2.1.1 ≠ 0 then 0 else 4) → q = (if g.2.2.2.1 ≠ 0 then 0 else 2) → cG c eX1_examineNot (D + 3 * k + 5 + 1) (cQ K) 53 [none, none, none, some (va_rf (some (12 + 5 * n))), none, some (va_rf (some (12 + 5 * a)))] [.int (nI p), .int (nI q), va_rf (some (12 + 5 * n))] C1 := by
    intro p q p4 q2 hp hq
    refine w_X1_examineNot_53 (some (12 + 5 * n)) (some (12 + 5 * a)) (nI p) (nI q) (some (12 + 5 * n)) ⟨_, rfl, hF.1, _, rfl, hF.1, _, rfl, hFa.1, 12 + 5 * n + 1, hF.2.1, hF.2.2.2.1.1, ?_⟩
    rw [hFa.2.2.1, nI_add]
    obtain ⟨s1, s2⟩ := gf_set (C := C1) (t := 12 + 5 * n) (nI (q + p)) (-1)
    refine r_copy (hF.v s2).2.2.2.1 (hFa.v s2).2.2.2.2 (by omega) ?_ fun C2 k2 e2 => ⟨rfl, k2.le, 12 + 5 * n + 3, ((hF.v s2).v k2).2.2.1, ((hF.v s2).v k2).2.2.2.2.1, ?_⟩
    · rw [gvn_v s2 (fun q => by have := q.1; omega) (fun q => by have := q.1; omega), gn]; exact k1.2.2.2
    · rw [((hFa.v s2).v k2).2.1]
      have e2' : gvn C2 (12 + 5 * n + 1) = g.2.2.2 := by rw [e2, gvn_v s2 (fun q => by have := q.1; omega) (fun q => by have := q.1; omega), gn]
      have z2 : gvn C2 (12 + 5 * a + 1) = g.2.2.1 := by rw [gvn_v k2 (by rintro (q | q) <;> omega) (by rintro (q | q) <;> omega), gvn_v s2 (fun q => by have := q.1; omega) (fun q => by have := q.1; omega), gy]
      refine r_copy ((hF.v s2).v k2).2.2.2.2 ((hFa.v s2).v k2).2.2.2.1 (by omega) (by rw [z2]; exact k1.2.2.1) fun C3 k3 e3 => ⟨rfl, k3.le, hG g hg C3 (x1'.trans (ff_x ((s2.trans (k2.mono fv_ff1)).trans (k3.mono fv_ff3)) w2)) ?_ ⟨?_, fun p h => (by cases h), k1.2.2.2, k1.2.2.1⟩⟩
      · rw [gf_3 k3, gf_1 k2, s1, e3, z2, e2']
        unfold toF ckNot
        rw [hp, hq]
        rfl
      · show (if g.2.2.2.1 ≠ 0 then 0 else 2) + (if g.2.2.1.1 ≠ 0 then 0 else 4) < 32
        rw [← hp, ← hq]
        omega
  refine ⟨hFa.1, 12 + 5 * a + 3, hFa.2.2.1, hFa.2.2.2.2.1, ?_⟩
  rw [ino]
  refine ⟨fun h1 => ⟨12 + 5 * a + 1, hFa.2.1, hFa.2.2.2.1.1, ?_⟩, fun h1 => ⟨12 + 5 * a + 1, hFa.2.1, hFa.2.2.2.1.1, ?_⟩⟩
  · rw [iy]
    exact ⟨fun h2 => last 4 2 (by omega) (by omega) (by simp [h2]) (by simp [h1]), fun h2 => last 0 2 (by omega) (by omega) (by simp [h2]) (by simp [h1])⟩
  · rw [iy]
    exact ⟨fun h2 => last 4 0 (by omega) (by omega) (by simp [h2]) (by simp [h1]), fun h2 => last 0 0 (by omega) (by omega) (by simp [h2]) (by simp [h1])⟩
theorem xfr_ref {C1 : cS} {v : Int32} (x : xfr lo (n + 1) sl sh C C1) : xfr lo (n + 1) sl sh C (csi C1 5 6 v) := x.trans (xfr_refuse _ _ _ _ _ _)
theorem e_half (ih : exC D c fx T nb k) (hw : wt T (k + 1) n lo sl sh sc) (hB : exB C fx T nb lo n sl sc pl rm) (hV : exV C tv lo sl) (hd : dp + k ≤ 41) (ho : (T n).1 = 65 ∨ (T n).1 = 68)
    (hE : ∀ e, ck fx T k (kid T n 0) (gvn C tv) pl rm = .inl e → ∀ C', xfr lo (n + 1) sl sh C C' → cI C' 5 6 = nI e → K (some (.int 0)) C')
    (hR : ∀ f, ck fx T k (kid T n 0) (gvn C tv) pl rm = .inr f → f.1 &&& 15 ≠ 0 → ∀ C', xfr lo (n + 1) sl sh C C' → cI C' 5 6 = nI (T n).2.1 → K (some (.int 0)) C')
    (hG : ∀ f, ck fx T k (kid T n 0) (gvn C tv) pl rm = .inr f → f.1 &&& 15 = 0 → ∀ C', xfr lo (n + 1) sl sh C C' → gf C' (12 + 5 * n) = toF (ckHalf f (if (T n).1 = 65 then 1 else 2) (gvn C tv)) → gok (ckHalf f (if (T n).1 = 65 then 1 else 2) (gvn C tv)) → K (some (.int 1)) C') :
    cM c (D + 3 * k + 6) eX1_examineHalf [.ref 5, .ref (nb + n), .ref tv, .ref (12 + 5 * n), .int (nI dp)] C K := by
  obtain ⟨w1, w2, w3, w4, w5⟩ := wt_lt hw
  obtain ⟨a, ha, hna, hwa⟩ := wt_one hw (by simp only [List.mem_cons, List.not_mem_nil, or_false]; omega)
  obtain ⟨n1, n2, n3, n4, n5, n6⟩ := hB.2.2.1 n w2 (Nat.le_refl _)
  have hk : kid T n 0 = a := by unfold kid; rw [ha]; rfl
  rw [hk] at hE hR hG
  have n7 : cR C (nb + n) 4 = some (nb + a) := by have := n6 0 (by decide); rw [ha] at this; exact this
  obtain ⟨v1, v2, v3, v4, v5⟩ := wt_lt hwa
  refine w_X1_examineHalf 5 (some (nb + n)) (some tv) (some (12 + 5 * n)) (nI dp) ⟨nb + n, rfl, n1, hB.1.1, ?_⟩
  rw [n7]
  refine ex_kid ih hwa hB (by omega) hV hd (fun e he C1 x1 f1 => ⟨none, rfl, x1.le, fun _ => hE e he C1 (x1.mono (Nat.le_refl _) (by omega) (Nat.le_refl _) (Nat.le_refl _)) f1, fun z hz => by cases hz⟩) (fun g hg C1 x1 f1 k1 => ⟨some (12 + 5 * a), rfl, x1.le, fun hz => (by cases hz), fun z hz => ?_⟩)
  cases hz
  have hB1 := hB.x x1 (by omega) w4 (by omega)
  obtain ⟨hV1, eV1⟩ := hV.x x1 (by omega) (by omega) (by omega)
  have hF := (hB1.1.2.2.2.2.2.2.2.2.2.2.2.1 n w1).2
  have hFa := (hB1.1.2.2.2.2.2.2.2.2.2.2.2.1 a v1).2
  have hN := hB1.2.2.1 n w2 (Nat.le_refl _)
  have g0 : cI C1 (12 + 5 * a) 0 = nI g.1 := congrArg (fun z : fT => z.1) f1
  have g1 : cI C1 (12 + 5 * a) 1 = rfI g.2.1 := congrArg (fun z : fT => z.2.1) f1
  have x1' : xfr lo (n + 1) sl sh C C1 := x1.mono (Nat.le_refl _) (by omega) (Nat.le_refl _) (Nat.le_refl _)
  have gneg : ∀ p : Nat, p < 119 → rfI (some p) ≠ -1 := fun p hp h => by have := (rfI_inj (r := some p) (fun p' h' => by cases h'; omega)).mp h; cases this
  refine ⟨hFa.1, ?_⟩
  rw [g0, g1, k_m17 _ k1.1, hN.2.1]
  refine ⟨fun h15 => ?_, fun h15 => c_refuse hB1.1 hN ⟨0, rfl, cle_same rfl rfl, rB0, hR g hg h15 _ (xfr_ref x1') (cI_csi _ _ _ _)⟩⟩
  have plain : ∀ z : Nat, z < 32 → ckHalf g (if (T n).1 = 65 then 1 else 2) (gvn C tv) = (z, none, gvn C tv, gvn C tv) → cM c (D + 3 * k + 5) eX2_assign [.ref (12 + 5 * n), .int (nI z), .int (-1), .ref tv] C1 (fun v C7 => v = none ∧ cle C1 C7 ∧ K (some (.int 1)) C7) := by
    intro z z32 hz
    refine r_assign hF hV1.1 (hV1.ff w2 w1) hV1.2.1 fun C2 k2 e2 => ⟨rfl, k2.le, hG g hg h15 C2 (x1'.trans (ff_x k2 w2)) ?_ ?_⟩
    · rw [e2, eV1, hz]; rfl
    · rw [hz]; exact ⟨z32, fun p h => (by cases h), hV.2.1, hV.2.1⟩
  have tail : ∀ s : Option Nat, (∀ p, s = some p → p < 119) → (g.2.1.bind fun p => rch p (if (T n).1 = 65 then 1 else 2)) = s → cG c eX1_examineHalf (D + 3 * k + 5 + 1) (cQ K) 72 [some (.ref 5), none, some (va_rf (some tv)), some (va_rf (some (12 + 5 * n))), none, some (va_rf (some (12 + 5 * a))), none] [.int (rfI s)] C1 := by
    intro s hs hb
    have end88 : g.1 = 0 ∨ s = none → cG c eX1_examineHalf (D + 3 * k + 5 + 1) (cQ K) 88 [none, none, some (va_rf (some tv)), some (va_rf (some (12 + 5 * n))), none, some (va_rf (some (12 + 5 * a))), none] [] C1 := by
      intro hor
      refine w_X1_examineHalf_88 (some tv) (some (12 + 5 * n)) (some (12 + 5 * a)) ⟨_, rfl, hFa.1, ?_⟩
      rw [g0, k_0 _ k1.1]
      refine ⟨fun h => ⟨_, rfl, hF.1, plain 31 (by decide) ?_⟩, fun h => ⟨_, rfl, hF.1, plain 0 (by decide) ?_⟩⟩
      · have hs0 : s = none := hor.resolve_left h
        unfold ckHalf
        rw [hb, hs0]
        simp only [if_neg h]
      · unfold ckHalf
        rw [hb]
        cases s with
        | none => simp only [if_pos h]
        | some p => simp only [if_pos h]
    refine w_X1_examineHalf_72 5 (some tv) (some (12 + 5 * n)) (some (12 + 5 * a)) (rfI s) ⟨_, rfl, hFa.1, ?_⟩
    rw [g0, k_0 _ k1.1]
    refine ⟨fun h => end88 (Or.inl h), fun h => ⟨fun hn => ?_, fun hn => end88 (Or.inr ((rfI_inj fun p hp => by have := hs p hp; omega).mp hn))⟩⟩
    cases s with
    | none => exact absurd rfl hn
    | some p =>
      have hp := hs p rfl
      refine ⟨hB1.1.1, c_assignPlace hV1.1 hF (hV1.ff w2 w1) hV1.2.1 hp fun C2 k2 e2 => ⟨rfl, k2.le, hG g hg h15 C2 (x1'.trans (ff_x k2 w2)) ?_ ?_⟩⟩
      · rw [e2, eV1]
        unfold ckHalf
        rw [hb]
        simp only [if_neg h]
        rfl
      · unfold ckHalf
        rw [hb]
        simp only [if_neg h]
        exact gok_pl hp hV.2.1
  refine ⟨fun hne => ?_, fun he => ?_⟩
  · cases er : g.2.1 with
    | none => rw [er] at hne; exact absurd rfl hne
    | some p =>
      have hp := k1.2.1 p er
      have e65 : (nI (T n).1 = 65 ↔ (T n).1 = 65) := nI_eq (by omega) (by decide)
      rw [e65]
      refine ⟨fun h65 => c_reach (q := 2) hp (by decide) ⟨_, rfl, cle.refl _, ?_⟩, fun h65 => c_reach (q := 1) hp (by decide) ⟨_, rfl, cle.refl _, ?_⟩⟩
      · exact tail _ (fun p' h' => (rch_lt hp (by decide) h').1) (by rw [er, if_neg h65]; rfl)
      · exact tail _ (fun p' h' => (rch_lt hp (by decide) h').1) (by rw [er, if_pos h65]; rfl)
  · have er : g.2.1 = none := (rfI_inj fun p hp => by have := k1.2.1 p hp; omega).mp he
    exact tail none (fun p h => by cases h) (by rw [er]; rfl)
end EX2
