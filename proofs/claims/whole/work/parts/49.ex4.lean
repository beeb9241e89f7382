/-! The checker's methods: calls, choices, and, or. -/
section EX4
variable {D : Nat} {c : cX} {fx : fnT} {T : Nat → nd} {nb k : Nat} {C : cS} {K : Option Value → cS → Prop} {n lo sl sh dp tv : Nat} {sc : List Nat} {pl : Nat → Nat} {rm : Nat → Option (vT × vT)}
theorem c_fn {d i : Nat} (hX : FXr C fx) (hi : i < 3) (hK : K (some (va_rf (cR C 4 i))) C) : cM c (d + 1) eX9_functionOf [va_rf (cR C 5 5), .int (nI (71 + i))] C K := by
  rw [hX.2.1]
  have e1 : nI (71 + i) - 71 = nI i := by
    have := pk_sub (a := 71 + i) (b := 71) (by omega)
    rw [show 71 + i - 71 = i by omega] at this
    exact this
  have a1 : ¬ (73 : Int32) < nI (71 + i) := fun h => by
    have h2 : (73 : Nat) < 71 + i := (nI_ltI (a := 73) (b := 71 + i) (by decide) (by omega)).mp h
    omega
  have a2 : ¬ nI (71 + i) < (71 : Int32) := fun h => by
    have h2 : 71 + i < (71 : Nat) := (nI_ltI (a := 71 + i) (b := 71) (by omega) (by decide)).mp h
    omega
  refine w_X9_functionOf (some 4) (nI (71 + i)) (w_X9_functionIndex (nI (71 + i)) ⟨fun h => absurd h a2, fun _ => ⟨fun h => absurd h a1, fun _ => ?_⟩⟩)
  rw [e1]
  refine ⟨nI i, rfl, cle.refl _, fun h => ?_, fun _ => ⟨4, rfl, 3, hX.1, fun _ => ⟨i, am_ix_n hi (by decide), hK⟩, fun h => absurd ((nI_ltI (by omega) (by decide)).mpr hi) h⟩⟩
  exact absurd h (fun h => by
    have h2 := nI_pos (n := i) (by omega)
    rw [h] at h2
    exact h2 (by decide))
theorem e_call (ih : exC D c fx T nb k) (hw : wt T (k + 1) n lo sl sh sc) (hB : exB C fx T nb lo n sl sc pl rm) (hV : exV C tv lo sl) (hd : dp + k ≤ 41) {i : Nat} (hi : i < 3) (ho : (T n).1 = 71 + i)
    (hE : ∀ e, ck fx T k (kid T n 0) (gvn C tv) pl rm = .inl e → ∀ C', xfr lo (n + 1) sl sh C C' → cI C' 5 6 = nI e → K (some (.int 0)) C')
    (hR0 : ∀ f, ck fx T k (kid T n 0) (gvn C tv) pl rm = .inr f → fx i = none → ∀ C', xfr lo (n + 1) sl sh C C' → cI C' 5 6 = nI (T n).2.1 → K (some (.int 0)) C')
    (hR : ∀ f pt kk y no, ck fx T k (kid T n 0) (gvn C tv) pl rm = .inr f → fx i = some (pt, kk, y, no) → f.1 &&& (31 - pt) ≠ 0 → ∀ C', xfr lo (n + 1) sl sh C C' → cI C' 5 6 = nI (T n).2.1 → K (some (.int 0)) C')
    (hG : ∀ f pt kk y no, ck fx T k (kid T n 0) (gvn C tv) pl rm = .inr f → fx i = some (pt, kk, y, no) → f.1 &&& (31 - pt) = 0 → ∀ C', xfr lo (n + 1) sl sh C C' → gf C' (12 + 5 * n) = toF (ckCall f kk y no (gvn C tv)) → gok (ckCall f kk y no (gvn C tv)) → K (some (.int 1)) C') :
    cM c (D + 3 * k + 6) eX1_examineCall [.ref 5, .ref (nb + n), .ref tv, .ref (12 + 5 * n), .int (nI dp)] C K := by
  obtain ⟨w1, w2, w3, w4, w5⟩ := wt_lt hw
  obtain ⟨a, ha, hna, hwa⟩ := wt_one hw (by simp only [List.mem_cons, List.not_mem_nil, or_false]; omega)
  obtain ⟨n1, n2, n3, n4, n5, n6⟩ := hB.2.2.1 n w2 (Nat.le_refl _)
  have hk : kid T n 0 = a := by unfold kid; rw [ha]; rfl
  rw [hk] at hE hR0 hR hG
  have n7 : cR C (nb + n) 4 = some (nb + a) := by have := n6 0 (by decide); rw [ha] at this; exact this
  obtain ⟨v1, v2, v3, v4, v5⟩ := wt_lt hwa
  refine w_X1_examineCall 5 (some (nb + n)) (some tv) (some (12 + 5 * n)) (nI dp) ⟨nb + n, rfl, n1, hB.1.1, ?_⟩
  rw [n7]
  refine ex_kid ih hwa hB (by omega) hV hd (fun e he C1 x1 f1 => ⟨none, rfl, x1.le, fun _ => hE e he C1 (x1.mono (Nat.le_refl _) (by omega) (Nat.le_refl _) (Nat.le_refl _)) f1, fun z hz => by cases hz⟩) (fun g hg C1 x1 f1 k1 => ⟨some (12 + 5 * a), rfl, x1.le, fun hz => (by cases hz), fun z hz => ?_⟩)
  cases hz
  have hB1 := hB.x x1 (by omega) w4 (by omega)
  obtain ⟨hV1, eV1⟩ := hV.x x1 (by omega) (by omega) (by omega)
  have hF := (hB1.1.2.2.2.2.2.2.2.2.2.2.2.1 n w1).2
  have hFa := (hB1.1.2.2.2.2.2.2.2.2.2.2.2.1 a v1).2
  have hN := hB1.2.2.1 n w2 (Nat.le_refl _)
  have g0 : cI C1 (12 + 5 * a) 0 = nI g.1 := congrArg (fun z : fT => z.1) f1
  have g1 : cI C1 (12 + 5 * a) 1 = rfI g.2.1 := congrArg (fun z : fT => z.2.1) f1
  have x1' : xfr lo (n + 1) sl sh C C1 := x1.mono (Nat.le_refl _) (by omega) (Nat.le_refl _) (Nat.le_refl _)
  refine ⟨fun h => (by rw [hB1.2.1.2.1] at h; cases h), fun z hz => ?_⟩
  rw [hN.2.1, ho]
  refine c_fn hB1.2.1 hi ⟨_, rfl, cle.refl _, ?_⟩
  have h3 := hB1.2.1.2.2 i hi
  cases ef : fx i with
  | none =>
    rw [ef] at h3
    rw [show cR C1 4 i = none from h3]
    exact w_X1_examineCall_42 5 (some (nb + n)) (some tv) (some (12 + 5 * n)) (some (12 + 5 * a)) none ⟨fun _ => ⟨hB1.1.1, c_refuse hB1.1 hN ⟨0, rfl, cle_same rfl rfl, rB0, hR0 g hg ef _ (xfr_ref x1') (cI_csi _ _ _ _)⟩⟩, fun z hz => by cases hz⟩
  | some z =>
    obtain ⟨pt, kk, y, no⟩ := z
    rw [ef] at h3
    obtain ⟨p1, p2, fa, p3, p4, p5, p6, p7, p8, p9⟩ := h3
    rw [p4]
    refine w_X1_examineCall_42 5 (some (nb + n)) (some tv) (some (12 + 5 * n)) (some (12 + 5 * a)) (some fa) ⟨fun h => (by cases h), fun q hq => ⟨12 + 5 * a, rfl, hFa.1, ?_⟩⟩
    cases hq
    refine ⟨p5, ?_⟩
    rw [g0, p6, p7, k_x0 _ k1.1 _ p1]
    refine ⟨fun h => ⟨_, rfl, hF.1, ?_⟩, fun h => ⟨hB1.1.1, c_refuse hB1.1 hN ⟨0, rfl, cle_same rfl rfl, rB0, hR g pt kk y no hg ef h _ (xfr_ref x1') (cI_csi _ _ _ _)⟩⟩⟩
    refine r_assign hF hV1.1 (hV1.ff w2 w1) hV1.2.1 fun C2 k2 e2 => ⟨rfl, k2.le, ?_⟩
    have a1 : cI C2 (12 + 5 * a) 1 = rfI g.2.1 := by rw [(k2.2.2.2.2 (12 + 5 * a) (fun q => by have := q.1; omega)).1]; exact g1
    have hF2 := hF.v k2
    rw [a1]
    have y1 : gvn C2 (12 + 5 * n + 1) = gvn C tv := (congrArg (fun z : fT => z.2.2.1) e2).trans eV1
    have y3 : gvn C2 (12 + 5 * n + 3) = gvn C tv := (congrArg (fun z : fT => z.2.2.2) e2).trans eV1
    have x2 : xfr lo (n + 1) sl sh C C2 := x1'.trans (ff_x k2 w2)
    have hG' := hG g pt kk y no hg ef h
    unfold ckCall at hG'
    cases er : g.2.1 with
    | none =>
      rw [er] at hG'
      exact ⟨fun _ => hG' C2 x2 (by rw [e2, eV1]; rfl) ⟨p2, fun p h => (by cases h), hV.2.1, hV.2.1⟩, fun h => absurd rfl h⟩
    | some p =>
      rw [er] at hG'
      have hp := k1.2.1 p er
      have ne : rfI (some p) ≠ -1 := fun h => by have := (rfI_inj (r := some p) (fun p' h' => by cases h'; omega)).mp h; cases this
      refine ⟨fun h => absurd h ne, fun _ => ⟨12 + 5 * n + 1, hF2.2.1, hF2.2.2.2.1.1, ?_⟩⟩
      rw [(k2.2.2.2.2 fa (fun q => by have := q.2; omega)).2, p8]
      refine r_from hF2.2.2.2.1 hp fun C3 k3 e3 => ⟨rfl, k3.le, 12 + 5 * n + 3, (hF2.v k3).2.2.1, (hF2.v k3).2.2.2.2.1, ?_⟩
      have a3 : cI C3 (12 + 5 * a) 1 = rfI (some p) := by rw [(k3.2.2.2.2 (12 + 5 * a) (fun q => by rcases q with q | q <;> omega)).1, a1, er]
      rw [a3, (k3.2.2.2.2 fa (fun q => by rcases q with q | q <;> omega)).2, (k2.2.2.2.2 fa (fun q => by have := q.2; omega)).2, p9]
      refine r_from (hF2.v k3).2.2.2.2 hp fun C4 k4 e4 => ⟨rfl, k4.le, hG' C4 (x2.trans (ff_x ((k3.mono fv_ff1).trans (k4.mono fv_ff3)) w2)) ?_ ⟨p2, fun p h => (by cases h), rB_from hV.2.1 7, rB_from hV.2.1 7⟩⟩
      have b3 : gvn C3 (12 + 5 * n + 3) = gvn C2 (12 + 5 * n + 3) := gvn_v k3 (by rintro (q | q) <;> omega) (by rintro (q | q) <;> omega)
      rw [gf_3 k4, gf_1 k3, e2, e4, e3, y1, b3, y3]
      rfl
/-- what a finding's views are for a part that stands behind -/
theorem exV_y {m a : Nat} (hC : CHK C) (ha : a < 60) (hr : rB (gvn C (12 + 5 * a + 1)).1) : exV C (12 + 5 * a + 1) (a + 1) m := ⟨(hC.2.2.2.2.2.2.2.2.2.2.2.1 a ha).2.2.2.2.1, hr, by omega⟩
theorem exV_n {m a : Nat} (hC : CHK C) (ha : a < 60) (hr : rB (gvn C (12 + 5 * a + 3)).1) : exV C (12 + 5 * a + 3) (a + 1) m := ⟨(hC.2.2.2.2.2.2.2.2.2.2.2.1 a ha).2.2.2.2.2, hr, by omega⟩
theorem e_or (ih : exC D c fx T nb k) (hw : wt T (k + 1) n lo sl sh sc) (hB : exB C fx T nb lo n sl sc pl rm) (hV : exV C tv lo sl) (hd : dp + k ≤ 41) (ho : (T n).1 = 124)
    (hE : ∀ e, ck fx T k (kid T n 0) (gvn C tv) pl rm = .inl e → ∀ C', xfr lo (n + 1) sl sh C C' → cI C' 5 6 = nI e → K (some (.int 0)) C')
    (hE2 : ∀ f e, ck fx T k (kid T n 0) (gvn C tv) pl rm = .inr f → ck fx T k (kid T n 1) f.2.2.2 pl rm = .inl e → ∀ C', xfr lo (n + 1) sl sh C C' → cI C' 5 6 = nI e → K (some (.int 0)) C')
    (hG : ∀ f f2, ck fx T k (kid T n 0) (gvn C tv) pl rm = .inr f → ck fx T k (kid T n 1) f.2.2.2 pl rm = .inr f2 → ∀ C', xfr lo (n + 1) sl sh C C' → gf C' (12 + 5 * n) = toF ((f.1 &&& 27) ||| f2.1, none, vEither f.2.2.1 f2.2.2.1, f2.2.2.2) → gok ((f.1 &&& 27) ||| f2.1, none, vEither f.2.2.1 f2.2.2.1, f2.2.2.2) → K (some (.int 1)) C') :
    cM c (D + 3 * k + 6) eX1_examineOr [.ref 5, .ref (nb + n), .ref tv, .ref (12 + 5 * n), .int (nI dp)] C K := by
  obtain ⟨w1, w2, w3, w4, w5⟩ := wt_lt hw
  obtain ⟨a, b, m, ha, hnb, hab, hwa, hwb⟩ := wt_two hw (by simp only [List.mem_cons, List.not_mem_nil, or_false]; omega)
  obtain ⟨n1, n2, n3, n4, n5, n6⟩ := hB.2.2.1 n w2 (Nat.le_refl _)
  have hk : kid T n 0 = a := by unfold kid; rw [ha]; rfl
  have hk1 : kid T n 1 = b := by unfold kid; rw [ha]; rfl
  rw [hk] at hE
  rw [hk, hk1] at hE2 hG
  have n7 : cR C (nb + n) 4 = some (nb + a) := by have := n6 0 (by decide); rw [ha] at this; exact this
  obtain ⟨v1, v2, v3, v4, v5⟩ := wt_lt hwa
  obtain ⟨u1, u2, u3, u4, u5⟩ := wt_lt hwb
  refine w_X1_examineOr 5 (some (nb + n)) (some tv) (some (12 + 5 * n)) (nI dp) ⟨nb + n, rfl, n1, hB.1.1, ?_⟩
  rw [n7]
  refine ex_kid ih hwa hB (by omega) hV hd (fun e he C1 x1 f1 => ⟨none, rfl, x1.le, fun _ => ?_, fun z hz => by cases hz⟩) (fun g hg C1 x1 f1 k1 => ⟨some (12 + 5 * a), rfl, x1.le, fun hz => (by cases hz), fun z hz => ?_⟩)
  · exact w_X1_examineOr_37 _ none none ⟨fun _ => hE e he C1 (x1.mono (Nat.le_refl _) (by omega) (Nat.le_refl _) u3) f1, fun z hz => by cases hz⟩
  cases hz
  have x1' : xfr lo (n + 1) sl sh C C1 := x1.mono (Nat.le_refl _) (by omega) (Nat.le_refl _) u3
  have hB1 := hB.x x1 (by omega) (by omega) (by omega)
  have hFa1 := (hB1.1.2.2.2.2.2.2.2.2.2.2.2.1 a v1).2
  have gn1 : gvn C1 (12 + 5 * a + 3) = g.2.2.2 := congrArg (fun z : fT => z.2.2.2) f1
  have m7 : cR C1 (nb + n) 5 = some (nb + b) := by have := (hB1.2.2.1 n w2 (Nat.le_refl _)).2.2.2.2.2 1 (by decide); rw [ha] at this; exact this
  refine ⟨hFa1.1, ?_⟩
  rw [m7, hFa1.2.2.1]
  refine ex_kid ih hwb (hB1.nx (by omega) v3) (by omega) (exV_n hB1.1 v1 (by rw [gn1]; exact k1.2.2.2)) hd (fun e he C2 x2 f2 => ⟨none, rfl, x2.le, ?_⟩) (fun g2 hg2 C2 x2 f2 k2 => ⟨some (12 + 5 * b), rfl, x2.le, ?_⟩)
  · rw [gn1] at he
    exact w_X1_examineOr_37 _ (some (12 + 5 * a)) none ⟨fun hz => (by cases hz), fun z hz => ⟨fun _ => hE2 g e hg he C2 (x1'.trans (x2.mono (by omega) (by omega) v3 (Nat.le_refl _))) f2, fun z hz => by cases hz⟩⟩
  rw [gn1] at hg2
  have x2' : xfr lo (n + 1) sl sh C1 C2 := x2.mono (by omega) (by omega) v3 (Nat.le_refl _)
  have xx := x1'.trans x2'
  have hB2 := hB.x xx (by omega) (by omega) (by omega)
  have hF := (hB2.1.2.2.2.2.2.2.2.2.2.2.2.1 n w1).2
  have hFa := (hB2.1.2.2.2.2.2.2.2.2.2.2.2.1 a v1).2
  have hFb := (hB2.1.2.2.2.2.2.2.2.2.2.2.2.1 b u1).2
  have f1' : gf C2 (12 + 5 * a) = toF g := by rw [gf_x x2 (by omega) (by omega) (by omega)]; exact f1
  have ga : cI C2 (12 + 5 * a) 0 = nI g.1 := congrArg (fun z : fT => z.1) f1'
  have gb : cI C2 (12 + 5 * b) 0 = nI g2.1 := congrArg (fun z : fT => z.1) f2
  have gay : gvn C2 (12 + 5 * a + 1) = g.2.2.1 := congrArg (fun z : fT => z.2.2.1) f1'
  have gby : gvn C2 (12 + 5 * b + 1) = g2.2.2.1 := congrArg (fun z : fT => z.2.2.1) f2
  have gbn : gvn C2 (12 + 5 * b + 3) = g2.2.2.2 := congrArg (fun z : fT => z.2.2.2) f2
  refine w_X1_examineOr_37 (some (12 + 5 * n)) (some (12 + 5 * a)) (some (12 + 5 * b)) ⟨fun hz => (by cases hz), fun y hy => ⟨fun hz => (by cases hz), fun y2 hy2 => ?_⟩⟩
  cases hy
  cases hy2
  refine ⟨hFa.1, hFb.1, _, rfl, hF.1, 12 + 5 * n + 1, hF.2.1, hF.2.2.2.1.1, ?_⟩
  rw [ga, gb, hFa.2.1, show nI g.1 &&& 27 = nI (g.1 &&& 27) from k_and _ k1.1 27 (by decide), k_or _ (k_and_lt _ k1.1 27 (by decide)) _ k2.1]
  obtain ⟨s1, s2⟩ := gf_set (C := C2) (t := 12 + 5 * n) (nI ((g.1 &&& 27) ||| g2.1)) (-1)
  generalize csi (csi C2 (12 + 5 * n) 0 (nI ((g.1 &&& 27) ||| g2.1))) (12 + 5 * n) 1 (-1) = C3 at s1 s2 ⊢
  have out : ∀ t, t + 1 < 12 + 5 * n → gvn C3 t = gvn C2 t := fun t ht => gvn_v s2 (fun q => by have := q.1; omega) (fun q => by have := q.1; omega)
  have hF3 := hF.v s2
  have hFa3 := hFa.v s2
  have hFb3 := hFb.v s2
  refine r_copy hF3.2.2.2.1 hFa3.2.2.2.1 (by omega) (by rw [out _ (by omega), gay]; exact k1.2.2.1) fun C4 k4 e4 => ⟨rfl, k4.le, 12 + 5 * n + 1, (hF3.v k4).2.1, (hF3.v k4).2.2.2.1.1, ?_⟩
  rw [(hFb3.v k4).2.1]
  have o4 : ∀ t, t + 1 < 12 + 5 * n → gvn C4 t = gvn C2 t := fun t ht => (gvn_v k4 (by rintro (q | q) <;> omega) (by rintro (q | q) <;> omega)).trans (out t ht)
  refine r_either (hF3.v k4).2.2.2.1 (hFb3.v k4).2.2.2.1 (by omega) fun C5 k5 e5 => ⟨rfl, k5.le, 12 + 5 * n + 3, ((hF3.v k4).v k5).2.2.1, ((hF3.v k4).v k5).2.2.2.2.1, ?_⟩
  rw [((hFb3.v k4).v k5).2.2.1]
  have o5 : ∀ t, t + 1 < 12 + 5 * n → gvn C5 t = gvn C2 t := fun t ht => (gvn_v k5 (by rintro (q | q) <;> omega) (by rintro (q | q) <;> omega)).trans (o4 t ht)
  refine r_copy ((hF3.v k4).v k5).2.2.2.2 ((hFb3.v k4).v k5).2.2.2.2 (by omega) (by rw [o5 _ (by omega), gbn]; exact k2.2.2.2) fun C6 k6 e6 => ⟨rfl, k6.le, hG g g2 hg hg2 C6 (xx.trans (ff_x (((s2.trans (k4.mono fv_ff1)).trans (k5.mono fv_ff1)).trans (k6.mono fv_ff3)) w2)) ?_ ⟨k_or_lt _ (k_and_lt _ k1.1 27 (by decide)) _ k2.1, fun p h => (by cases h), rB_either _ _, k2.2.2.2⟩⟩
  have z5 : gvn C5 (12 + 5 * n + 1) = vEither g.2.2.1 g2.2.2.1 := by rw [e5, e4, out (12 + 5 * a + 1) (by omega), gay, o4 (12 + 5 * b + 1) (by omega), gby]
  have z6 : gvn C6 (12 + 5 * n + 3) = g2.2.2.2 := by rw [e6, o5 (12 + 5 * b + 3) (by omega), gbn]
  rw [gf_3 k6, gf_1 k5, gf_1 k4, s1, z6, z5]
  rfl
theorem e_and (ih : exC D c fx T nb k) (hw : wt T (k + 1) n lo sl sh sc) (hB : exB C fx T nb lo n sl sc pl rm) (hV : exV C tv lo sl) (hd : dp + k ≤ 41) (ho : (T n).1 = 38)
    (hE : ∀ e, ck fx T k (kid T n 0) (gvn C tv) pl rm = .inl e → ∀ C', xfr lo (n + 1) sl sh C C' → cI C' 5 6 = nI e → K (some (.int 0)) C')
    (hE2 : ∀ f e, ck fx T k (kid T n 0) (gvn C tv) pl rm = .inr f → ck fx T k (kid T n 1) f.2.2.1 pl rm = .inl e → ∀ C', xfr lo (n + 1) sl sh C C' → cI C' 5 6 = nI e → K (some (.int 0)) C')
    (hG : ∀ f f2, ck fx T k (kid T n 0) (gvn C tv) pl rm = .inr f → ck fx T k (kid T n 1) f.2.2.1 pl rm = .inr f2 → ∀ C', xfr lo (n + 1) sl sh C C' → gf C' (12 + 5 * n) = toF (f2.1 ||| (if f.2.2.2.1 ≠ 0 then 0 else 4), none, f2.2.2.1, vEither f2.2.2.2 f.2.2.2) → gok (f2.1 ||| (if f.2.2.2.1 ≠ 0 then 0 else 4), none, f2.2.2.1, vEither f2.2.2.2 f.2.2.2) → K (some (.int 1)) C') :
    cM c (D + 3 * k + 6) eX1_examineAnd [.ref 5, .ref (nb + n), .ref tv, .ref (12 + 5 * n), .int (nI dp)] C K := by
  obtain ⟨w1, w2, w3, w4, w5⟩ := wt_lt hw
  obtain ⟨a, b, m, ha, hnb, hab, hwa, hwb⟩ := wt_two hw (by simp only [List.mem_cons, List.not_mem_nil, or_false]; omega)
  obtain ⟨n1, n2, n3, n4, n5, n6⟩ := hB.2.2.1 n w2 (Nat.le_refl _)
  have hk : kid T n 0 = a := by unfold kid; rw [ha]; rfl
  have hk1 : kid T n 1 = b := by unfold kid; rw [ha]; rfl
  rw [hk] at hE
  rw [hk, hk1] at hE2 hG
  have n7 : cR C (nb + n) 4 = some (nb + a) := by have := n6 0 (by decide); rw [ha] at this; exact this
  obtain ⟨v1, v2, v3, v4, v5⟩ := wt_lt hwa
  obtain ⟨u1, u2, u3, u4, u5⟩ := wt_lt hwb
  refine w_X1_examineAnd 5 (some (nb + n)) (some tv) (some (12 + 5 * n)) (nI dp) ⟨nb + n, rfl, n1, hB.1.1, ?_⟩
  rw [n7]
  refine ex_kid ih hwa hB (by omega) hV hd (fun e he C1 x1 f1 => ⟨none, rfl, x1.le, fun _ => ?_, fun z hz => by cases hz⟩) (fun g hg C1 x1 f1 k1 => ⟨some (12 + 5 * a), rfl, x1.le, fun hz => (by cases hz), fun z hz => ?_⟩)
  · exact w_X1_examineAnd_37 _ none none ⟨fun _ => hE e he C1 (x1.mono (Nat.le_refl _) (by omega) (Nat.le_refl _) u3) f1, fun z hz => by cases hz⟩
  cases hz
  have x1' : xfr lo (n + 1) sl sh C C1 := x1.mono (Nat.le_refl _) (by omega) (Nat.le_refl _) u3
  have hB1 := hB.x x1 (by omega) (by omega) (by omega)
  have hFa1 := (hB1.1.2.2.2.2.2.2.2.2.2.2.2.1 a v1).2
  have gy1 : gvn C1 (12 + 5 * a + 1) = g.2.2.1 := congrArg (fun z : fT => z.2.2.1) f1
  have m7 : cR C1 (nb + n) 5 = some (nb + b) := by have := (hB1.2.2.1 n w2 (Nat.le_refl _)).2.2.2.2.2 1 (by decide); rw [ha] at this; exact this
  refine ⟨hFa1.1, ?_⟩
  rw [m7, hFa1.2.1]
  refine ex_kid ih hwb (hB1.nx (by omega) v3) (by omega) (exV_y hB1.1 v1 (by rw [gy1]; exact k1.2.2.1)) hd (fun e he C2 x2 f2 => ⟨none, rfl, x2.le, ?_⟩) (fun g2 hg2 C2 x2 f2 k2 => ⟨some (12 + 5 * b), rfl, x2.le, ?_⟩)
  · rw [gy1] at he
    exact w_X1_examineAnd_37 _ (some (12 + 5 * a)) none ⟨fun hz => (by cases hz), fun z hz => ⟨fun _ => hE2 g e hg he C2 (x1'.trans (x2.mono (by omega) (by omega) v3 (Nat.le_refl _))) f2, fun z hz => by cases hz⟩⟩
  rw [gy1] at hg2
  have x2' : xfr lo (n + 1) sl sh C1 C2 := x2.mono (by omega) (by omega) v3 (Nat.le_refl _)
  have xx := x1'.trans x2'
  have hB2 := hB.x xx (by omega) (by omega) (by omega)
  have hF := (hB2.1.2.2.2.2.2.2.2.2.2.2.2.1 n w1).2
  have hFa := (hB2.1.2.2.2.2.2.2.2.2.2.2.2.1 a v1).2
  have hFb := (hB2.1.2.2.2.2.2.2.2.2.2.2.2.1 b u1).2
  have f1' : gf C2 (12 + 5 * a) = toF g := by rw [gf_x x2 (by omega) (by omega) (by omega)]; exact f1
  have gb : cI C2 (12 + 5 * b) 0 = nI g2.1 := congrArg (fun z : fT => z.1) f2
  have gan : gvn C2 (12 + 5 * a + 3) = g.2.2.2 := congrArg (fun z : fT => z.2.2.2) f1'
  have gani : cI C2 (12 + 5 * a + 3) 1 = g.2.2.2.1 := congrArg Prod.fst gan
  have gby : gvn C2 (12 + 5 * b + 1) = g2.2.2.1 := congrArg (fun z : fT => z.2.2.1) f2
  have gbn : gvn C2 (12 + 5 * b + 3) = g2.2.2.2 := congrArg (fun z : fT => z.2.2.2) f2
  have last : ∀ q : Nat, q < 32 → q = (if g.2.2.2.1 ≠ 0 then 0 else 4) → cG c eX1_examineAnd (D + 3 * k + 5 + 1) (cQ K) 73 [none, none, none, some (va_rf (some (12 + 5 * n))), none, some (va_rf (some (12 + 5 * a))), some (va_rf (some (12 + 5 * b)))] [.int (nI q), .int (nI g2.1), va_rf (some (12 + 5 * n))] C2 := by
    intro q q32 hq
    refine w_X1_examineAnd_73 (some (12 + 5 * n)) (some (12 + 5 * a)) (some (12 + 5 * b)) (nI q) (nI g2.1) (some (12 + 5 * n)) ⟨_, rfl, hF.1, _, rfl, hF.1, _, rfl, hFb.1, 12 + 5 * n + 1, hF.2.1, hF.2.2.2.1.1, ?_⟩
    rw [hFb.2.1, k_or _ k2.1 _ q32]
    obtain ⟨s1, s2⟩ := gf_set (C := C2) (t := 12 + 5 * n) (nI (g2.1 ||| q)) (-1)
    generalize csi (csi C2 (12 + 5 * n) 0 (nI (g2.1 ||| q))) (12 + 5 * n) 1 (-1) = C3 at s1 s2 ⊢
    have out : ∀ t, t + 1 < 12 + 5 * n → gvn C3 t = gvn C2 t := fun t ht => gvn_v s2 (fun q => by have := q.1; omega) (fun q => by have := q.1; omega)
    have hF3 := hF.v s2
    have hFa3 := hFa.v s2
    have hFb3 := hFb.v s2
    refine r_copy hF3.2.2.2.1 hFb3.2.2.2.1 (by omega) (by rw [out _ (by omega), gby]; exact k2.2.2.1) fun C4 k4 e4 => ⟨rfl, k4.le, 12 + 5 * n + 3, (hF3.v k4).2.2.1, (hF3.v k4).2.2.2.2.1, ?_⟩
    rw [(hFb3.v k4).2.2.1]
    have o4 : ∀ t, t + 1 < 12 + 5 * n → gvn C4 t = gvn C2 t := fun t ht => (gvn_v k4 (by rintro (q | q) <;> omega) (by rintro (q | q) <;> omega)).trans (out t ht)
    refine r_copy (hF3.v k4).2.2.2.2 (hFb3.v k4).2.2.2.2 (by omega) (by rw [o4 _ (by omega), gbn]; exact k2.2.2.2) fun C5 k5 e5 => ⟨rfl, k5.le, 12 + 5 * a, rfl, ((hFa3.v k4).v k5).1, 12 + 5 * n + 3, ((hF3.v k4).v k5).2.2.1, ((hF3.v k4).v k5).2.2.2.2.1, ?_⟩
    rw [((hFa3.v k4).v k5).2.2.1]
    have o5 : ∀ t, t + 1 < 12 + 5 * n → gvn C5 t = gvn C2 t := fun t ht => (gvn_v k5 (by rintro (q | q) <;> omega) (by rintro (q | q) <;> omega)).trans (o4 t ht)
    refine r_either ((hF3.v k4).v k5).2.2.2.2 ((hFa3.v k4).v k5).2.2.2.2 (by omega) fun C6 k6 e6 => ⟨rfl, k6.le, hG g g2 hg hg2 C6 (xx.trans (ff_x (((s2.trans (k4.mono fv_ff1)).trans (k5.mono fv_ff3)).trans (k6.mono fv_ff3)) w2)) ?_ ⟨by rw [← hq]; exact k_or_lt _ k2.1 _ q32, fun p h => (by cases h), k2.2.2.1, rB_either _ _⟩⟩
    have z4 : gvn C4 (12 + 5 * n + 1) = g2.2.2.1 := by rw [e4, out (12 + 5 * b + 1) (by omega), gby]
    have z6 : gvn C6 (12 + 5 * n + 3) = vEither g2.2.2.2 g.2.2.2 := by rw [e6, o5 (12 + 5 * a + 3) (by omega), gan, e5, o4 (12 + 5 * b + 3) (by omega), gbn]
    rw [gf_3 k6, gf_3 k5, gf_1 k4, s1, z6, z4, ← hq]
    rfl
  refine w_X1_examineAnd_37 (some (12 + 5 * n)) (some (12 + 5 * a)) (some (12 + 5 * b)) ⟨fun hz => (by cases hz), fun y hy => ⟨fun hz => (by cases hz), fun y2 hy2 => ?_⟩⟩
  cases hy
  cases hy2
  refine ⟨hFb.1, hFa.1, 12 + 5 * a + 3, hFa.2.2.1, hFa.2.2.2.2.1, ?_⟩
  rw [gani, gb]
  exact ⟨fun h => last 4 (by decide) (by simp [h]), fun h => last 0 (by decide) (by simp [h])⟩
end EX4
