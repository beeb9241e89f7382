/-! The checker's methods, one by one: first those with one part. -/
theorem k_and : ∀ a, a < 32 → ∀ b, b < 32 → nI a &&& nI b = nI (a &&& b) := by decide +kernel
theorem k_or : ∀ a, a < 32 → ∀ b, b < 32 → nI a ||| nI b = nI (a ||| b) := by decide +kernel
theorem k_and_lt : ∀ a, a < 32 → ∀ b, b < 32 → a &&& b < 32 := by decide +kernel
theorem k_or_lt : ∀ a, a < 32 → ∀ b, b < 32 → a ||| b < 32 := by decide +kernel
theorem k_0 : ∀ a, a < 32 → (nI a = 0 ↔ a = 0) := by decide +kernel
theorem k_m17 : ∀ a, a < 32 → (nI a &&& (-17) = 0 ↔ a &&& 15 = 0) := by decide +kernel
theorem k_m2 : ∀ a, a < 32 → (nI a &&& (-2) = 0 ↔ a &&& 30 = 0) := by decide +kernel
theorem k_x0 : ∀ a, a < 32 → ∀ q, q < 32 → (nI a &&& (nI q ^^^ (-1)) = 0 ↔ a &&& (31 - q) = 0) := by decide +kernel
theorem k_x31 : ∀ q, q < 32 → (31 : Int32) &&& (nI q ^^^ (-1)) = nI (31 - q) := by decide +kernel
theorem k_a0 : ∀ a, a < 32 → ∀ b, b < 32 → (nI a &&& nI b = 0 ↔ a &&& b = 0) := by decide +kernel
theorem tkd_lt (op : Nat) : tkd op < 32 := by unfold tkd; (repeat' split) <;> decide
theorem rB0 : rB 0 := Or.inl rfl
theorem rB1 : rB 1 := Or.inr rfl
theorem rB_res {v : vT} {p k : Nat} (h : rB v.1) : rB (vRes v p k).1 := by
  unfold vRes
  split
  · exact rB1
  · exact h
theorem rB_from {v : vT} {p : Nat} {w : Int64} (h : rB v.1) : ∀ q, rB (vFrom v p w q).1
  | 0 => h
  | q + 1 => by
    unfold vFrom
    split
    · exact rB_from h q
    · exact rB_res (rB_from h q)
theorem rB_both (v o : vT) : rB (vBoth v o).1 := by
  unfold vBoth
  split
  · exact rB1
  · exact rB0
theorem rB_either (v o : vT) : rB (vEither v o).1 := by
  show rB (if _ then _ else _)
  split
  · exact rB1
  · exact rB0
theorem gok_set {g : gF} (h : gok g) : gok (gSet g) := by
  refine ⟨h.1, h.2.1, ?_, ?_⟩
  · show rB (if _ then _ else _ : vT).1
    split
    · exact rB1
    · exact h.2.2.1
  · show rB (if _ then _ else _ : vT).1
    split
    · exact rB1
    · exact h.2.2.2
theorem fSet_toF {g : gF} (h : g.1 < 32) : fSet (toF g) = toF (gSet g) := by
  unfold fSet toF gSet
  show ((nI g.1, rfI g.2.1, (if nI g.1 &&& nI 27 = 0 then vNo else g.2.2.1), (if nI g.1 &&& nI 4 = 0 then vNo else g.2.2.2)) : fT) = (nI g.1, rfI g.2.1, (if g.1 &&& 27 = 0 then vNo else g.2.2.1), (if g.1 &&& 4 = 0 then vNo else g.2.2.2))
  simp only [k_a0 _ h 27 (by decide), k_a0 _ h 4 (by decide)]
theorem gok_pl {V : vT} {p : Nat} (hp : p < 119) (h : rB V.1) : gok (gPl V p) := ⟨kd_lt _ _, fun q e => by cases e; exact hp, rB_res h, rB_res h⟩
section EX
variable {D : Nat} {c : cX} {fx : fnT} {T : Nat → nd} {nb k : Nat} {C : cS} {K : Option Value → cS → Prop} {n lo sl sh dp tv : Nat} {sc : List Nat} {pl : Nat → Nat} {rm : Nat → Option (vT × vT)}
theorem exV.x {C1 : cS} {hi : Nat} (h : exV C tv lo sl) (x : xfr lo hi sl sh C C1) (h1 : hi ≤ 60) (h2 : sl ≤ 17) (h3 : lo ≤ 60) : exV C1 tv lo sl ∧ gvn C1 tv = gvn C tv := by
  have e : gvn C1 tv = gvn C tv := gvn_x x (by rcases h.2.2 with q | q | q <;> omega) (by rcases h.2.2 with q | q | q <;> omega) (by rcases h.2.2 with q | q | q <;> omega)
  exact ⟨⟨h.1.x x (by rcases h.2.2 with q | q | q <;> omega), by rw [e]; exact h.2.1, h.2.2⟩, e⟩
theorem exV.mono {lo' sl' : Nat} (h : exV C tv lo sl) (h1 : lo ≤ lo') (h2 : sl ≤ sl') : exV C tv lo' sl' := ⟨h.1, h.2.1, by rcases h.2.2 with q | q | q <;> omega⟩
/-- a part is examined -/
theorem ex_kid (ih : exC D c fx T nb k) {a : Nat} (hw : wt T k a lo sl sh sc) (hB : exB C fx T nb lo n sl sc pl rm) (ha : a ≤ n) (hV : exV C tv lo sl) (hd : dp + k ≤ 41)
    (h1 : ∀ e, ck fx T k a (gvn C tv) pl rm = .inl e → ∀ C', xfr lo (a + 1) sl sh C C' → cI C' 5 6 = nI e → K (some (va_rf none)) C')
    (h2 : ∀ g, ck fx T k a (gvn C tv) pl rm = .inr g → ∀ C', xfr lo (a + 1) sl sh C C' → gf C' (12 + 5 * a) = toF g → gok g → K (some (va_rf (some (12 + 5 * a)))) C') :
    cM c (D + 3 * k + 5) eX1_examine [.ref 5, .ref (nb + a), .ref tv, .int (nI dp)] C K := by
  refine ih C K a lo sl sh dp tv sc pl rm hw ⟨hB.1, hB.2.1, fun m p q => hB.2.2.1 m p (by omega), hB.2.2.2.1, hB.2.2.2.2⟩ hV hd ?_
  cases e : ck fx T k a (gvn C tv) pl rm with
  | inl z => exact h1 z e
  | inr z => exact h2 z e
theorem wt_lt : ∀ {k n lo sl sh : Nat} {sc : List Nat}, wt T k n lo sl sh sc → n < 60 ∧ lo ≤ n ∧ sl ≤ sh ∧ sh ≤ 17 ∧ (T n).1 < 65536
  | 0, _, _, _, _, _, h => h.elim
  | _ + 1, _, _, _, _, _, h => ⟨h.1, h.2.1, h.2.2.1, h.2.2.2.1, h.2.2.2.2.1⟩
theorem wt_one (h : wt T (k + 1) n lo sl sh sc) (ho : (T n).1 ∈ [78, 66, 69, 80, 33, 65, 68, 71, 72, 73]) : ∃ a, (T n).2.2.2.2 = [a] ∧ n = a + 1 ∧ wt T k a lo sl sh sc := by
  obtain ⟨h1, h2, h3, h4, h5, h6, h7⟩ := h
  have hx : ∀ l : List Nat, (T n).2.2.2.2 = l → ∃ a, l = [a] ∧ n = a + 1 ∧ wt T k a lo sl sh sc := by
    intro l e
    rw [e] at h7
    rcases l with _ | ⟨a, _ | ⟨b, _ | ⟨c', _ | ⟨d', l⟩⟩⟩⟩
    · refine absurd ?_ h7.2.2.2
      revert ho
      simp only [List.mem_cons, List.not_mem_nil, or_false]
      intro ho
      omega
    · exact ⟨a, rfl, h7.2.2.1, h7.2.2.2⟩
    · revert ho
      rcases h7 with ⟨_, _, ⟨q, _⟩ | ⟨q, _⟩⟩
      · revert q
        simp only [List.mem_cons, List.not_mem_nil, or_false]
        intro q ho
        omega
      · simp only [List.mem_cons, List.not_mem_nil, or_false]
        intro ho
        omega
    · revert ho
      rcases h7 with ⟨q, _⟩
      simp only [List.mem_cons, List.not_mem_nil, or_false]
      intro ho
      omega
    · exact h7.elim
  exact hx _ rfl
/-- where the finding of n may be written -/
theorem ff_x {C1 : cS} (h : cfv (ff (12 + 5 * n)) C C1) (hl : lo ≤ n) : xfr lo (n + 1) sl sh C C1 := xfr.of h fun a q => Or.inl ⟨by have := q.1; omega, by have := q.2; omega⟩
theorem exV.ff {m : Nat} (h : exV C tv lo sl) (hl : lo ≤ m) (hm : m < 60) : ∀ b, fv tv b → ¬ ff (12 + 5 * m) b := by
  intro b hb q
  have q1 := q.1
  have q2 := q.2
  rcases h.2.2 with z | z | z <;> rcases hb with z2 | z2 <;> omega
theorem e_const (hw : wt T (k + 1) n lo sl sh sc) (hB : exB C fx T nb lo n sl sc pl rm) (hV : exV C tv lo sl)
    (hG : ∀ C', xfr lo (n + 1) sl sh C C' → gf C' (12 + 5 * n) = toF (ckConst (T n).1, none, gvn C tv, gvn C tv) → gok (ckConst (T n).1, none, gvn C tv, gvn C tv) → K (some (.int 1)) C') :
    cM c (D + 3 * k + 6) eX1_examineConstant [.ref 5, .ref (nb + n), .ref tv, .ref (12 + 5 * n)] C K := by
  obtain ⟨w1, w2, w3, w4, w5⟩ := wt_lt hw
  obtain ⟨n1, n2, n3, n4, n5, n6⟩ := hB.2.2.1 n w2 (Nat.le_refl _)
  have hF := (hB.1.2.2.2.2.2.2.2.2.2.2.2.1 n w1).2
  have e : ∀ b : Nat, b < 65536 → (nI (T n).1 = nI b ↔ (T n).1 = b) := fun b hb => nI_eq (by omega) (by omega)
  have e35 : (nI (T n).1 = 35 ↔ (T n).1 = 35) := e 35 (by decide)
  have e126 : (nI (T n).1 = 126 ↔ (T n).1 = 126) := e 126 (by decide)
  have e46 : (nI (T n).1 = 46 ↔ (T n).1 = 46) := e 46 (by decide)
  have fin : ∀ q : Nat, q = ckConst (T n).1 → cM c (D + 3 * k + 5) eX2_assign [.ref (12 + 5 * n), .int (nI q), .int (-1), .ref tv] C (fun v C9 => v = none ∧ cle C C9 ∧ K (some (.int 1)) C9) := by
    intro q hq
    refine r_assign hF hV.1 (hV.ff w2 w1) hV.2.1 fun C1 k1 e1 => ⟨rfl, k1.le, hG C1 (ff_x k1 w2) ?_ ⟨?_, fun p h => ?_, hV.2.1, hV.2.1⟩⟩
    · rw [e1, hq]; rfl
    · show ckConst _ < 32
      unfold ckConst
      (repeat' split) <;> decide
    · cases h
  refine w_X1_examineConstant 5 (some (nb + n)) (some tv) (some (12 + 5 * n)) ⟨nb + n, rfl, n1, ?_⟩
  rw [n2, e35, e126, e46]
  refine ⟨fun h1 => ⟨fun h2 => ⟨fun h3 => ⟨_, rfl, hF.1, ?_⟩, fun h3 => ⟨_, rfl, hF.1, ?_⟩⟩, fun h2 => ⟨_, rfl, hF.1, ?_⟩⟩, fun h1 => ⟨_, rfl, hF.1, ?_⟩⟩
  · exact fin 1 (by unfold ckConst; rw [if_neg h1, if_neg h2, if_neg h3])
  · exact fin 8 (by unfold ckConst; rw [if_neg h1, if_neg h2, if_pos h3])
  · exact fin 4 (by unfold ckConst; rw [if_neg h1, if_pos h2])
  · exact fin 2 (by unfold ckConst; rw [if_pos h1])
theorem e_test (ih : exC D c fx T nb k) (hw : wt T (k + 1) n lo sl sh sc) (hB : exB C fx T nb lo n sl sc pl rm) (hV : exV C tv lo sl) (hd : dp + k ≤ 41) (ho : (T n).1 = 78 ∨ (T n).1 = 66 ∨ (T n).1 = 69 ∨ (T n).1 = 80)
    (hE : ∀ e, ck fx T k (kid T n 0) (gvn C tv) pl rm = .inl e → ∀ C', xfr lo (n + 1) sl sh C C' → cI C' 5 6 = nI e → K (some (.int 0)) C')
    (hG : ∀ f, ck fx T k (kid T n 0) (gvn C tv) pl rm = .inr f → ∀ C', xfr lo (n + 1) sl sh C C' → gf C' (12 + 5 * n) = toF (ckTest f (tkd (T n).1) (gvn C tv)) → gok (ckTest f (tkd (T n).1) (gvn C tv)) → K (some (.int 1)) C') :
    cM c (D + 3 * k + 6) eX1_examineTest [.ref 5, .ref (nb + n), .ref tv, .ref (12 + 5 * n), .int (nI dp)] C K := by
  obtain ⟨w1, w2, w3, w4, w5⟩ := wt_lt hw
  obtain ⟨a, ha, hna, hwa⟩ := wt_one hw (by simp only [List.mem_cons, List.not_mem_nil, or_false]; omega)
  obtain ⟨n1, n2, n3, n4, n5, n6⟩ := hB.2.2.1 n w2 (Nat.le_refl _)
  have hk : kid T n 0 = a := by unfold kid; rw [ha]; rfl
  rw [hk] at hE hG
  have n7 : cR C (nb + n) 4 = some (nb + a) := by have := n6 0 (by decide); rw [ha] at this; exact this
  obtain ⟨v1, v2, v3, v4, v5⟩ := wt_lt hwa
  refine w_X1_examineTest 5 (some (nb + n)) (some tv) (some (12 + 5 * n)) (nI dp) ⟨nb + n, rfl, n1, hB.1.1, ?_⟩
  rw [n7]
  refine ex_kid ih hwa hB (by omega) hV hd (fun e he C1 x1 f1 => ⟨none, rfl, x1.le, fun _ => hE e he C1 (x1.mono (Nat.le_refl _) (by omega) (Nat.le_refl _) (Nat.le_refl _)) f1, fun z hz => by cases hz⟩) (fun g hg C1 x1 f1 k1 => ⟨some (12 + 5 * a), rfl, x1.le, fun hz => (by cases hz), fun z hz => ?_⟩)
  cases hz
  have hB1 := hB.x x1 (by omega) w4 (by omega)
  obtain ⟨hV1, eV1⟩ := hV.x x1 (by omega) (by omega) (by omega)
  have hF := (hB1.1.2.2.2.2.2.2.2.2.2.2.2.1 n w1).2
  have hFa := (hB1.1.2.2.2.2.2.2.2.2.2.2.2.1 a v1).2
  have m2 := (hB1.2.2.1 n w2 (Nat.le_refl _)).2.1
  have g0 : cI C1 (12 + 5 * a) 0 = nI g.1 := congrArg (fun z : fT => z.1) f1
  have g1 : cI C1 (12 + 5 * a) 1 = rfI g.2.1 := congrArg (fun z : fT => z.2.1) f1
  have hq := tkd_lt (T n).1
  rw [m2]
  refine c_tested w5 ⟨_, rfl, cle.refl _, hFa.1, ?_⟩
  rw [g0, k_a0 _ k1.1 _ hq]
  generalize eq : tkd (T n).1 = q at hq hG ⊢
  have last : ∀ z : Nat, z < 32 → z = (if g.1 &&& q ≠ 0 then 2 else 0) + (if g.1 &&& (31 - q) ≠ 0 then 4 else 0) → cG c eX1_examineTest (D + 3 * k + 5 + 1) (cQ K) 63 [none, none, some (va_rf (some tv)), some (va_rf (some (12 + 5 * n))), none, some (va_rf (some (12 + 5 * a))), some (.int (nI q)), some (.int (nI z))] [] C1 := by
    intro z hz32 hz
    refine w_X1_examineTest_63 (some tv) (some (12 + 5 * n)) (some (12 + 5 * a)) (nI q) (nI z) ⟨_, rfl, hF.1, ?_⟩
    refine r_assign hF hV1.1 (hV1.ff w2 w1) hV1.2.1 fun C2 k2 e2 => ⟨rfl, k2.le, _, rfl, k2.T hFa.1, ?_⟩
    have a1 : cI C2 (12 + 5 * a) 1 = rfI g.2.1 := by rw [(k2.2.2.2.2 (12 + 5 * a) (fun q => by have := q.1; omega)).1]; exact g1
    have hF2 := hF.v k2
    rw [a1]
    have ck0 : (ckTest g q (gvn C tv)).1 = z := hz.symm
    have y1 : gvn C2 (12 + 5 * n + 1) = gvn C tv := (congrArg (fun z : fT => z.2.2.1) e2).trans eV1
    have y3 : gvn C2 (12 + 5 * n + 3) = gvn C tv := (congrArg (fun z : fT => z.2.2.2) e2).trans eV1
    have y0 : cI C2 (12 + 5 * n) 0 = nI z := congrArg (fun z : fT => z.1) e2
    have yp : cI C2 (12 + 5 * n) 1 = -1 := congrArg (fun z : fT => z.2.1) e2
    have x2 : xfr lo (n + 1) sl sh C C2 := (x1.mono (Nat.le_refl _) (by omega) (Nat.le_refl _) (Nat.le_refl _)).trans (ff_x k2 w2)
    cases er : g.2.1 with
    | none =>
      refine ⟨fun _ => hG g hg C2 x2 ?_ ?_, fun h => absurd rfl h⟩
      · rw [e2, eV1]; unfold toF ckTest; rw [er, hz]; rfl
      · unfold ckTest; rw [er, ← hz]; exact ⟨hz32, fun p h => (by cases h), hV.2.1, hV.2.1⟩
    | some p =>
      have hp := k1.2.1 p er
      have ne : rfI (some p) ≠ -1 := fun h => by have := (rfI_inj (r := some p) (fun p' h' => by cases h'; omega)).mp h; cases this
      refine ⟨fun h => absurd h ne, fun _ => ⟨12 + 5 * n + 1, hF2.2.1, hF2.2.2.2.1.1, ?_⟩⟩
      refine r_restrict (k := q) hF2.2.2.2.1 hp hq fun C3 k3 e3 => ⟨rfl, k3.le, 12 + 5 * n + 3, (hF2.v k3).2.2.1, (hF2.v k3).2.2.2.2.1, ?_⟩
      have a3 : cI C3 (12 + 5 * a) 1 = rfI (some p) := by rw [(k3.2.2.2.2 (12 + 5 * a) (fun q => by rcases q with q | q <;> omega)).1, a1, er]
      rw [a3, k_x31 q hq]
      refine r_restrict (k := 31 - q) (hF2.v k3).2.2.2.2 hp (by omega) fun C4 k4 e4 => ⟨rfl, k4.le, hG g hg C4 (x2.trans (ff_x ((k3.mono fv_ff1).trans (k4.mono fv_ff3)) w2)) ?_ ?_⟩
      · have b0 : cI C4 (12 + 5 * n) = cI C2 (12 + 5 * n) := ((k4.2.2.2.2 _ (by rintro (q | q) <;> omega)).1).trans ((k3.2.2.2.2 _ (by rintro (q | q) <;> omega)).1)
        have b1 : gvn C4 (12 + 5 * n + 1) = gvn C3 (12 + 5 * n + 1) := gvn_v k4 (by rintro (q | q) <;> omega) (by rintro (q | q) <;> omega)
        have b3 : gvn C3 (12 + 5 * n + 3) = gvn C2 (12 + 5 * n + 3) := gvn_v k3 (by rintro (q | q) <;> omega) (by rintro (q | q) <;> omega)
        unfold gf toF ckTest
        rw [b0, y0, yp, b1, e3, y1, e4, b3, y3, er, hz]
        rfl
      · unfold ckTest; rw [er, ← hz]; exact ⟨hz32, fun p h => (by cases h), rB_res hV.2.1, rB_res hV.2.1⟩
  have mid : ∀ z : Nat, z ≤ 2 → z = (if g.1 &&& q ≠ 0 then 2 else 0) → cG c eX1_examineTest (D + 3 * k + 5 + 1) (cQ K) 45 [none, none, some (va_rf (some tv)), some (va_rf (some (12 + 5 * n))), none, some (va_rf (some (12 + 5 * a))), some (.int (nI q)), none] [.int (nI z)] C1 := by
    intro z hz2 hz
    refine w_X1_examineTest_45 (some tv) (some (12 + 5 * n)) (some (12 + 5 * a)) (nI q) (nI z) ⟨_, rfl, hFa.1, ?_⟩
    rw [g0, k_x0 _ k1.1 _ hq]
    refine ⟨fun h => last z (by omega) ?_, fun h => ?_⟩
    · rw [hz, if_neg (show ¬ (g.1 &&& (31 - q) ≠ 0) from fun z => z h)]; rfl
    · rw [show nI z + 4 = nI (z + 4) from nI_add z 4]
      exact last (z + 4) (by omega) (by rw [hz, if_pos (show g.1 &&& (31 - q) ≠ 0 from h)])
  refine ⟨fun h => mid 0 (by omega) ?_, fun h => mid 2 (by omega) ?_⟩
  · rw [if_neg (show ¬ (g.1 &&& q ≠ 0) from fun z => z h)]
  · rw [if_pos (show g.1 &&& q ≠ 0 from h)]
end EX
