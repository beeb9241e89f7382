/-! The checker's methods: two parts, variables, calls. -/
theorem k_or30 : ∀ a, a < 32 → (nI a &&& (-2) = 0 ↔ a &&& 30 = 0) := k_m2
section EX3
variable {D : Nat} {c : cX} {fx : fnT} {T : Nat → nd} {nb k : Nat} {C : cS} {K : Option Value → cS → Prop} {n lo sl sh dp tv : Nat} {sc : List Nat} {pl : Nat → Nat} {rm : Nat → Option (vT × vT)}
theorem wt_two (h : wt T (k + 1) n lo sl sh sc) (ho : (T n).1 ∈ [67, 43, 45, 60, 38, 124]) : ∃ a b m, (T n).2.2.2.2 = [a, b] ∧ n = b + 1 ∧ a < b ∧ wt T k a lo sl m sc ∧ wt T k b (a + 1) m sh sc := by
  obtain ⟨h1, h2, h3, h4, h5, h6, h7⟩ := h
  have hx : ∀ l : List Nat, (T n).2.2.2.2 = l → ∃ a b m, l = [a, b] ∧ n = b + 1 ∧ a < b ∧ wt T k a lo sl m sc ∧ wt T k b (a + 1) m sh sc := by
    intro l e
    rw [e] at h7
    rcases l with _ | ⟨a, _ | ⟨b, _ | ⟨c', _ | ⟨d', l⟩⟩⟩⟩
    · refine absurd ?_ h7.2.2.2
      revert ho
      simp only [List.mem_cons, List.not_mem_nil, or_false]
      intro ho
      omega
    · revert ho
      have q := h7.1
      revert q
      simp only [List.mem_cons, List.not_mem_nil, or_false]
      intro q ho
      omega
    · rcases h7 with ⟨q1, q2, ⟨_, _, m, q3, q4⟩ | ⟨q, _⟩⟩
      · exact ⟨a, b, m, rfl, q1, q2, q3, q4⟩
      · revert ho
        simp only [List.mem_cons, List.not_mem_nil, or_false]
        intro ho
        omega
    · revert ho
      rcases h7 with ⟨q, _⟩
      simp only [List.mem_cons, List.not_mem_nil, or_false]
      intro ho
      omega
    · exact h7.elim
  exact hx _ rfl
theorem wt_three (h : wt T (k + 1) n lo sl sh sc) (ho : (T n).1 = 63) : ∃ a b d m m2, (T n).2.2.2.2 = [a, b, d] ∧ n = d + 1 ∧ a < b ∧ b < d ∧ wt T k a lo sl m sc ∧ wt T k b (a + 1) m m2 sc ∧ wt T k d (b + 1) m2 sh sc := by
  obtain ⟨h1, h2, h3, h4, h5, h6, h7⟩ := h
  have hx : ∀ l : List Nat, (T n).2.2.2.2 = l → ∃ a b d m m2, l = [a, b, d] ∧ n = d + 1 ∧ a < b ∧ b < d ∧ wt T k a lo sl m sc ∧ wt T k b (a + 1) m m2 sc ∧ wt T k d (b + 1) m2 sh sc := by
    intro l e
    rw [e] at h7
    rcases l with _ | ⟨a, _ | ⟨b, _ | ⟨c', _ | ⟨d', l⟩⟩⟩⟩
    · refine absurd ?_ h7.2.2.2
      rw [ho]
      decide
    · have q := h7.1
      rw [ho] at q
      exact absurd q (by decide)
    · rcases h7 with ⟨q1, q2, ⟨q, _⟩ | ⟨q, _⟩⟩
      · rw [ho] at q
        exact absurd q (by decide)
      · omega
    · obtain ⟨_, _, q1, q2, q3, m, m2, q4, q5, q6⟩ := h7
      exact ⟨a, b, c', m, m2, rfl, q1, q2, q3, q4, q5, q6⟩
    · exact h7.elim
  exact hx _ rfl
theorem wt_let (h : wt T (k + 1) n lo sl sh sc) (ho : (T n).1 = 58) : ∃ a b s, (T n).2.2.2.2 = [a, b] ∧ n = b + 1 ∧ a < b ∧ (T n).2.2.2.1 = some s ∧ wt T k a lo sl s sc ∧ wt T k b (a + 1) (s + 1) sh (s :: sc) := by
  obtain ⟨h1, h2, h3, h4, h5, h6, h7⟩ := h
  have hx : ∀ l : List Nat, (T n).2.2.2.2 = l → ∃ a b s, l = [a, b] ∧ n = b + 1 ∧ a < b ∧ (T n).2.2.2.1 = some s ∧ wt T k a lo sl s sc ∧ wt T k b (a + 1) (s + 1) sh (s :: sc) := by
    intro l e
    rw [e] at h7
    rcases l with _ | ⟨a, _ | ⟨b, _ | ⟨c', _ | ⟨d', l⟩⟩⟩⟩
    · refine absurd ?_ h7.2.2.2
      rw [ho]
      decide
    · have q := h7.1
      rw [ho] at q
      exact absurd q (by decide)
    · rcases h7 with ⟨q1, q2, ⟨q, _⟩ | ⟨_, s, q3, q4, q5⟩⟩
      · rw [ho] at q
        exact absurd q (by decide)
      · exact ⟨a, b, s, rfl, q1, q2, q3, q4, q5⟩
    · have q := h7.1
      omega
    · exact h7.elim
  exact hx _ rfl
theorem wt_leaf (h : wt T (k + 1) n lo sl sh sc) (ho : ¬ (T n).1 ∈ [78, 66, 69, 80, 33, 65, 68, 67, 43, 45, 60, 63, 38, 124, 58, 71, 72, 73]) : lo = n ∧ sl = sh ∧ ∀ s, (T n).2.2.2.1 = some s → s ∈ sc := by
  obtain ⟨h1, h2, h3, h4, h5, h6, h7⟩ := h
  have hx : ∀ l : List Nat, (T n).2.2.2.2 = l → lo = n ∧ sl = sh ∧ ∀ s, (T n).2.2.2.1 = some s → s ∈ sc := by
    intro l e
    rw [e] at h7
    simp only [List.mem_cons, List.not_mem_nil, or_false] at ho
    rcases l with _ | ⟨a, _ | ⟨b, _ | ⟨c', _ | ⟨d', l⟩⟩⟩⟩
    · exact ⟨h7.1, h7.2.1, h7.2.2.1⟩
    · have q := h7.1
      simp only [List.mem_cons, List.not_mem_nil, or_false] at q
      omega
    · rcases h7 with ⟨q1, q2, ⟨q, _⟩ | ⟨q, _⟩⟩
      · simp only [List.mem_cons, List.not_mem_nil, or_false] at q
        omega
      · omega
    · have q := h7.1
      omega
    · exact h7.elim
  exact hx _ rfl
/-- the base for a later part -/
theorem exB.nx {lo' sl' : Nat} (h : exB C fx T nb lo n sl sc pl rm) (h1 : lo ≤ lo') (h2 : sl ≤ sl') : exB C fx T nb lo' n sl' sc pl rm := ⟨h.1, h.2.1, fun m p q => h.2.2.1 m (by omega) q, h.2.2.2.1, h.2.2.2.2.mono h2 h1⟩
theorem e_two (ih : exC D c fx T nb k) (hw : wt T (k + 1) n lo sl sh sc) (hB : exB C fx T nb lo n sl sc pl rm) (hV : exV C tv lo sl) (hd : dp + k ≤ 41) (ho : (T n).1 = 67 ∨ (T n).1 = 43 ∨ (T n).1 = 45 ∨ (T n).1 = 60)
    (hE : ∀ e, ck fx T k (kid T n 0) (gvn C tv) pl rm = .inl e → ∀ C', xfr lo (n + 1) sl sh C C' → cI C' 5 6 = nI e → K (some (.int 0)) C')
    (hE2 : ∀ f e, ck fx T k (kid T n 0) (gvn C tv) pl rm = .inr f → ck fx T k (kid T n 1) (gvn C tv) pl rm = .inl e → ∀ C', xfr lo (n + 1) sl sh C C' → cI C' 5 6 = nI e → K (some (.int 0)) C')
    (hR : ∀ f f2, ck fx T k (kid T n 0) (gvn C tv) pl rm = .inr f → ck fx T k (kid T n 1) (gvn C tv) pl rm = .inr f2 → (T n).1 ≠ 67 ∧ (f.1 ||| f2.1) &&& 30 ≠ 0 → ∀ C', xfr lo (n + 1) sl sh C C' → cI C' 5 6 = nI (T n).2.1 → K (some (.int 0)) C')
    (hG : ∀ f f2, ck fx T k (kid T n 0) (gvn C tv) pl rm = .inr f → ck fx T k (kid T n 1) (gvn C tv) pl rm = .inr f2 → ¬ ((T n).1 ≠ 67 ∧ (f.1 ||| f2.1) &&& 30 ≠ 0) → ∀ C', xfr lo (n + 1) sl sh C C' → gf C' (12 + 5 * n) = toF (if (T n).1 = 67 then 16 else if (T n).1 = 60 then 6 else 1, none, gvn C tv, gvn C tv) → gok (if (T n).1 = 67 then 16 else if (T n).1 = 60 then 6 else 1, none, gvn C tv, gvn C tv) → K (some (.int 1)) C') :
    cM c (D + 3 * k + 6) eX1_examineTwo [.ref 5, .ref (nb + n), .ref tv, .ref (12 + 5 * n), .int (nI dp)] C K := by
  obtain ⟨w1, w2, w3, w4, w5⟩ := wt_lt hw
  obtain ⟨a, b, m, ha, hnb, hab, hwa, hwb⟩ := wt_two hw (by simp only [List.mem_cons, List.not_mem_nil, or_false]; omega)
  obtain ⟨n1, n2, n3, n4, n5, n6⟩ := hB.2.2.1 n w2 (Nat.le_refl _)
  have hk : kid T n 0 = a := by unfold kid; rw [ha]; rfl
  have hk1 : kid T n 1 = b := by unfold kid; rw [ha]; rfl
  rw [hk] at hE
  rw [hk, hk1] at hE2 hR hG
  have n7 : cR C (nb + n) 4 = some (nb + a) := by have := n6 0 (by decide); rw [ha] at this; exact this
  obtain ⟨v1, v2, v3, v4, v5⟩ := wt_lt hwa
  obtain ⟨u1, u2, u3, u4, u5⟩ := wt_lt hwb
  refine w_X1_examineTwo 5 (some (nb + n)) (some tv) (some (12 + 5 * n)) (nI dp) ⟨nb + n, rfl, n1, hB.1.1, ?_⟩
  rw [n7]
  refine ex_kid ih hwa hB (by omega) hV hd (fun e he C1 x1 f1 => ⟨none, rfl, x1.le, fun _ => ?_, fun z hz => by cases hz⟩) (fun g hg C1 x1 f1 k1 => ⟨some (12 + 5 * a), rfl, x1.le, fun hz => (by cases hz), fun z hz => ?_⟩)
  · exact w_X1_examineTwo_33 5 _ _ _ none none ⟨fun _ => hE e he C1 (x1.mono (Nat.le_refl _) (by omega) (Nat.le_refl _) u3) f1, fun z hz => by cases hz⟩
  have x1' : xfr lo (n + 1) sl sh C C1 := x1.mono (Nat.le_refl _) (by omega) (Nat.le_refl _) u3
  have hB1 := hB.x x1 (by omega) (by omega) (by omega)
  obtain ⟨hV1, eV1⟩ := hV.x x1 (by omega) (by omega) (by omega)
  have m7 : cR C1 (nb + n) 5 = some (nb + b) := by have := (hB1.2.2.1 n w2 (Nat.le_refl _)).2.2.2.2.2 1 (by decide); rw [ha] at this; exact this
  rw [m7]
  refine ex_kid ih hwb (hB1.nx (by omega) v3) (by omega) (hV1.mono (by omega) v3) hd (fun e he C2 x2 f2 => ⟨none, rfl, x2.le, ?_⟩) (fun g2 hg2 C2 x2 f2 k2 => ⟨some (12 + 5 * b), rfl, x2.le, ?_⟩)
  · rw [eV1] at he
    exact w_X1_examineTwo_33 5 _ _ _ (some (12 + 5 * a)) none ⟨fun hz => (by cases hz), fun z hz => ⟨fun _ => hE2 g e hg he C2 (x1'.trans (x2.mono (by omega) (by omega) v3 (Nat.le_refl _))) f2, fun z hz => by cases hz⟩⟩
  rw [eV1] at hg2
  have x2' : xfr lo (n + 1) sl sh C1 C2 := x2.mono (by omega) (by omega) v3 (Nat.le_refl _)
  have xx := x1'.trans x2'
  have hB2 := hB.x xx (by omega) (by omega) (by omega)
  obtain ⟨hV2, eV2⟩ := hV.x xx (by omega) (by omega) (by omega)
  have hF := (hB2.1.2.2.2.2.2.2.2.2.2.2.2.1 n w1).2
  have hFa := (hB2.1.2.2.2.2.2.2.2.2.2.2.2.1 a v1).2
  have hFb := (hB2.1.2.2.2.2.2.2.2.2.2.2.2.1 b u1).2
  have hN := hB2.2.2.1 n w2 (Nat.le_refl _)
  have f1' : gf C2 (12 + 5 * a) = toF g := by rw [gf_x x2 (by omega) (by omega) (by omega)]; exact f1
  have ga : cI C2 (12 + 5 * a) 0 = nI g.1 := congrArg (fun z : fT => z.1) f1'
  have gb : cI C2 (12 + 5 * b) 0 = nI g2.1 := congrArg (fun z : fT => z.1) f2
  have e67 : (nI (T n).1 = 67 ↔ (T n).1 = 67) := nI_eq (by omega) (by decide)
  have e60 : (nI (T n).1 = 60 ↔ (T n).1 = 60) := nI_eq (by omega) (by decide)
  have last : ¬ ((T n).1 ≠ 67 ∧ (g.1 ||| g2.1) &&& 30 ≠ 0) → cG c eX1_examineTwo (D + 3 * k + 5 + 1) (cQ K) 79 [none, some (va_rf (some (nb + n))), some (va_rf (some tv)), some (va_rf (some (12 + 5 * n))), none, none, none] [] C2 := by
    intro hq
    have fin : ∀ z : Nat, z < 32 → z = (if (T n).1 = 67 then 16 else if (T n).1 = 60 then 6 else 1) → cM c (D + 3 * k + 5) eX2_assign [.ref (12 + 5 * n), .int (nI z), .int (-1), .ref tv] C2 (fun v C7 => v = none ∧ cle C2 C7 ∧ K (some (.int 1)) C7) := by
      intro z z32 hz
      refine r_assign hF hV2.1 (hV2.ff w2 w1) hV2.2.1 fun C3 k3 e3 => ⟨rfl, k3.le, hG g g2 hg hg2 hq C3 (xx.trans (ff_x k3 w2)) ?_ ?_⟩
      · rw [e3, eV2, ← hz]; rfl
      · rw [← hz]; exact ⟨z32, fun p h => (by cases h), hV.2.1, hV.2.1⟩
    refine w_X1_examineTwo_79 (some (nb + n)) (some tv) (some (12 + 5 * n)) ⟨_, rfl, hN.1, ?_⟩
    rw [hN.2.1, e67, e60]
    refine ⟨fun h1 => ⟨fun h2 => ⟨_, rfl, hF.1, fin 1 (by decide) ?_⟩, fun h2 => ⟨_, rfl, hF.1, fin 6 (by decide) ?_⟩⟩, fun h1 => ⟨_, rfl, hF.1, fin 16 (by decide) ?_⟩⟩
    · rw [if_neg h1, if_neg h2]
    · rw [if_neg h1, if_pos h2]
    · rw [if_pos h1]
  refine w_X1_examineTwo_33 5 (some (nb + n)) (some tv) (some (12 + 5 * n)) (some (12 + 5 * a)) (some (12 + 5 * b)) ⟨fun hz => (by cases hz), fun y hy => ⟨fun hz => (by cases hz), fun y2 hy2 => ⟨_, rfl, hN.1, ?_⟩⟩⟩
  cases hy
  cases hy2
  rw [hN.2.1, e67, ga, gb, k_or _ k1.1 _ k2.1, k_m2 _ (k_or_lt _ k1.1 _ k2.1)]
  exact ⟨fun h => last fun z => z.1 h, fun h => ⟨hFa.1, hFb.1, fun h2 => last fun z => z.2 h2, fun h2 => ⟨hB2.1.1, c_refuse hB2.1 hN ⟨0, rfl, cle_same rfl rfl, rB0, hR g g2 hg hg2 ⟨h, h2⟩ _ (xfr_ref xx) (cI_csi _ _ _ _)⟩⟩⟩⟩
theorem e_var (hw : wt T (k + 1) n lo sl sh sc) (hB : exB C fx T nb lo n sl sc pl rm) (hV : exV C tv lo sl) {s : Nat} (hs : (T n).2.2.2.1 = some s) (hsc : s ∈ sc)
    (hG : ∀ C', xfr lo (n + 1) sl sh C C' → gf C' (12 + 5 * n) = toF (ckVar (gvn C tv) (pl s) (rm s)) → gok (ckVar (gvn C tv) (pl s) (rm s)) → K (some (.int 1)) C') :
    cM c (D + 3 * k + 6) eX1_examineVariable [.ref 5, .ref (nb + n), .ref tv, .ref (12 + 5 * n)] C K := by
  obtain ⟨w1, w2, w3, w4, w5⟩ := wt_lt hw
  obtain ⟨n1, n2, n3, n4, n5, n6⟩ := hB.2.2.1 n w2 (Nat.le_refl _)
  have hF := (hB.1.2.2.2.2.2.2.2.2.2.2.2.1 n w1).2
  obtain ⟨b1, b2, b3, b4⟩ := hB.2.2.2.2 s hsc
  have n5' : cI C (nb + n) 3 = nI s := by rw [n5, hs]; rfl
  have hs17 : nI s < 17 := (nI_ltI (by omega) (by decide)).mpr (show s < 17 by omega)
  have h400 := hB.2.2.2.1
  refine w_X1_examineVariable 5 (some (nb + n)) (some tv) (some (12 + 5 * n)) ⟨nb + n, rfl, n1, ?_⟩
  rw [n5']
  refine ⟨fun h => absurd h (nI_pos (by omega)), fun _ => ⟨fun _ => ⟨hB.1.1, 8, hB.1.2.2.2.1, 17, hB.1.2.2.2.2.2.2.2.2.1, s, am_ix_n (by omega) (by decide), ?_⟩, fun h => absurd hs17 h⟩⟩
  rw [b3]
  refine c_assignPlace hV.1 hF (hV.ff w2 w1) hV.2.1 b2 fun C1 k1 e1 => ⟨rfl, k1.le, 9, ?_, 17, k1.T hB.1.2.2.2.2.2.2.2.2.2.1, s, ?_, ?_⟩
  · rw [k1.2.2.2.1]; exact hB.1.2.2.2.2.1
  · rw [(k1.2.2.2.2 (nb + n) (fun q => by have := q.2; omega)).1, n5']; exact am_ix_n (by omega) (by decide)
  rw [k1.2.2.2.1]
  cases er : rm s with
  | none =>
    rw [er] at b4
    rw [er] at hG
    refine ⟨fun _ => hG C1 (ff_x k1 w2) e1 (gok_pl b2 hV.2.1), fun z hz => ?_⟩
    rw [b4] at hz
    cases hz
  | some z =>
    obtain ⟨Y, N⟩ := z
    rw [er] at b4 hG
    obtain ⟨m, m1, m2, m3, m4, m5⟩ := b4
    refine ⟨fun h => (by rw [m3] at h; cases h), fun y hy => ?_⟩
    rw [m3] at hy
    cases hy
    have hFm := (hB.1.2.2.2.2.2.2.2.2.2.2.2.1 m m2).2
    have d1 : gvn C1 (12 + 5 * m + 1) = Y := by rw [gvn_v k1 (fun q => by have := q.1; omega) (fun q => by have := q.1; omega)]; exact m4
    have d3 : gvn C1 (12 + 5 * m + 3) = N := by rw [gvn_v k1 (fun q => by have := q.1; omega) (fun q => by have := q.1; omega)]; exact m5
    refine ⟨12 + 5 * n, rfl, k1.T hF.1, k1.T hFm.1, 12 + 5 * n + 1, by rw [← k1.2.2.2.1]; exact (hF.v k1).2.1, (hF.v k1).2.2.2.1.1, ?_⟩
    rw [← k1.2.2.2.1, (hFm.v k1).2.1]
    refine r_both (hF.v k1).2.2.2.1 (hFm.v k1).2.2.2.1 (by omega) fun C2 k2 e2 => ⟨rfl, k2.le, 12 + 5 * n + 3, ((hF.v k1).v k2).2.2.1, ((hF.v k1).v k2).2.2.2.2.1, ?_⟩
    rw [((hFm.v k1).v k2).2.2.1]
    have d4 : gvn C2 (12 + 5 * m + 3) = N := by rw [gvn_v k2 (by rintro (q | q) <;> omega) (by rintro (q | q) <;> omega)]; exact d3
    refine r_both ((hF.v k1).v k2).2.2.2.2 ((hFm.v k1).v k2).2.2.2.2 (by omega) fun C3 k3 e3 => ⟨rfl, k3.le, hG C3 (ff_x ((k1.trans (k2.mono fv_ff1)).trans (k3.mono fv_ff3)) w2) ?_ ⟨kd_lt _ _, fun p h => by cases h; exact b2, rB_both _ _, rB_both _ _⟩⟩
    have y1 : gvn C1 (12 + 5 * n + 1) = vRes (gvn C tv) (pl s) 27 := congrArg (fun z : fT => z.2.2.1) e1
    have y3 : gvn C1 (12 + 5 * n + 3) = vRes (gvn C tv) (pl s) 4 := congrArg (fun z : fT => z.2.2.2) e1
    have y4 : gvn C2 (12 + 5 * n + 3) = gvn C1 (12 + 5 * n + 3) := gvn_v k2 (by rintro (q | q) <;> omega) (by rintro (q | q) <;> omega)
    rw [gf_3 k3, gf_1 k2, e1, e3, e2, y1, d1, y4, y3, d4]
    rfl
end EX3
