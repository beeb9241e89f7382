/-! Views by slots, place by place. -/
def av (V : vT) (p : Nat) : Nat := kd (V.2 (p / 7)) (p % 7)
theorem av_lt (V : vT) (p : Nat) : av V p < 32 := kd_lt _ _
def vok (V : vT) : Prop := (V.1 = 0 ∧ ∀ p, p < 119 → av V p ≠ 0) ∨ (V.1 = 1 ∧ ∀ p, p < 119 → av V p = 0)
theorem kd_ext {a b : Nat} (ha : a < 32) (hb : b < 32) (h : ∀ j, j < 5 → a.testBit j = b.testBit j) : a = b := by
  refine Nat.eq_of_testBit_eq fun i => ?_
  by_cases q : i < 5
  · exact h i q
  · have p5 : 32 ≤ 2 ^ i := Nat.le_trans (show 32 ≤ 2 ^ 5 by decide) (Nat.pow_le_pow_right (by decide) (by omega))
    rw [Nat.testBit_lt_two_pow (Nat.lt_of_lt_of_le ha p5), Nat.testBit_lt_two_pow (Nat.lt_of_lt_of_le hb p5)]
theorem kd_and (a b : Int64) (p : Nat) : kd (a &&& b) p = kd a p &&& kd b p := by
  refine kd_ext (kd_lt _ _) (Nat.lt_of_le_of_lt Nat.and_le_left (kd_lt _ _)) fun j hj => ?_
  rw [kd_bit _ _ hj, xb_and, Nat.testBit_and, kd_bit _ _ hj, kd_bit _ _ hj]
theorem kd_or (a b : Int64) (p : Nat) : kd (a ||| b) p = kd a p ||| kd b p := by
  refine kd_ext (kd_lt _ _) (Nat.or_lt_two_pow (n := 5) (kd_lt _ _) (kd_lt _ _)) fun j hj => ?_
  rw [kd_bit _ _ hj, xb_or, Nat.testBit_or, kd_bit _ _ hj, kd_bit _ _ hj]
theorem kd_rw (w : Int64) {p k q : Nat} (hp : p < 7) (hq : q < 7) (hk : k < 32) : kd (vRw w p k) q = if q = p then kd w p &&& k else kd w q := by
  by_cases e : q = p
  · subst e
    rw [if_pos rfl]
    refine kd_ext (kd_lt _ _) (Nat.lt_of_le_of_lt Nat.and_le_left (kd_lt _ _)) fun j hj => ?_
    rw [kd_bit _ _ hj, vRw_bit _ hk (by omega), Nat.testBit_and, kd_bit _ _ hj, show 5 * q + j - 5 * q = j by omega]
    have a1 : decide (5 * q ≤ 5 * q + j) = true := decide_eq_true (by omega)
    have a2 : decide (5 * q + j < 5 * q + 5) = true := decide_eq_true (by omega)
    rw [a1, a2]
    simp
  · rw [if_neg e]
    refine kd_ext (kd_lt _ _) (kd_lt _ _) fun j hj => ?_
    rw [kd_bit _ _ hj, vRw_bit _ hk (by omega), kd_bit _ _ hj]
    have a1 : (decide (5 * p ≤ 5 * q + j) && decide (5 * q + j < 5 * p + 5)) = false := by
      by_cases z : 5 * p ≤ 5 * q + j
      · have z2 : ¬ 5 * q + j < 5 * p + 5 := by omega
        rw [decide_eq_false z2, Bool.and_false]
      · rw [decide_eq_false z, Bool.false_and]
    rw [a1]
    simp
theorem kd_zero (p : Nat) : kd 0 p = 0 := by unfold kd; simp
theorem av_res {V : vT} {p k : Nat} (hV : vok V) (hp : p < 119) (hk : k < 32) : vok (vRes V p k) ∧ ((av V p &&& k = 0 ∧ (vRes V p k).1 = 1) ∨ (av V p &&& k ≠ 0 ∧ (vRes V p k).1 = 0 ∧ ∀ q, q < 119 → av (vRes V p k) q = if q = p then av V p &&& k else av V q)) := by
  have m7 : p % 7 < 7 := Nat.mod_lt _ (by decide)
  have e0 : kd (vRw (V.2 (p / 7)) (p % 7) k) (p % 7) = av V p &&& k := by rw [kd_rw _ m7 m7 hk, if_pos rfl]; rfl
  unfold vRes
  rw [e0]
  by_cases z : av V p &&& k = 0
  · rw [if_pos z]
    refine ⟨Or.inr ⟨rfl, fun q hq => ?_⟩, Or.inl ⟨z, rfl⟩⟩
    show kd (vFill 0 _ (q / 7)) (q % 7) = 0
    unfold vFill
    rw [if_pos (by omega)]
    exact kd_zero _
  · rw [if_neg z]
    have v0 : V.1 = 0 := by
      rcases hV with h | h
      · exact h.1
      · rw [h.2 p hp, Nat.zero_and] at z; exact absurd rfl z
    have nz : ∀ q, q < 119 → av V q ≠ 0 := by
      rcases hV with h | h
      · exact h.2
      · rw [h.1] at v0; exact absurd v0 (by decide)
    have ea : ∀ q, q < 119 → av (V.1, fun i => if i = p / 7 then vRw (V.2 i) (p % 7) k else V.2 i) q = if q = p then av V p &&& k else av V q := by
      intro q hq
      show kd (if q / 7 = p / 7 then vRw (V.2 (q / 7)) (p % 7) k else V.2 (q / 7)) (q % 7) = _
      by_cases e1 : q / 7 = p / 7
      · rw [if_pos e1, kd_rw _ m7 (Nat.mod_lt _ (by decide)) hk]
        by_cases e2 : q % 7 = p % 7
        · have : q = p := by omega
          rw [if_pos e2, if_pos this, e1]
          rfl
        · rw [if_neg e2, if_neg (fun w => e2 (by rw [w]))]
          rfl
      · rw [if_neg e1, if_neg (fun w => e1 (by rw [w]))]
        rfl
    refine ⟨Or.inl ⟨v0, fun q hq => ?_⟩, Or.inr ⟨z, v0, ea⟩⟩
    rw [ea q hq]
    split
    · exact z
    · exact nz q hq
theorem av_or (V W : vT) (q : Nat) : av (vEither V W) q = av V q ||| av W q := kd_or _ _ _
theorem lk_t (w : Int64) : lk w = true ↔ ∃ p, p < 7 ∧ kd w p = 0 := by
  unfold lk
  rw [List.any_eq_true]
  constructor
  · rintro ⟨p, h1, h2⟩
    exact ⟨p, List.mem_range.mp h1, by simpa using h2⟩
  · rintro ⟨p, h1, h2⟩
    exact ⟨p, List.mem_range.mpr h1, by simpa using h2⟩
theorem av_both {V W : vT} (hV : vok V) (hW : vok W) : vok (vBoth V W) ∧ (((∃ q, q < 119 ∧ av V q &&& av W q = 0) ∧ (vBoth V W).1 = 1) ∨ ((∀ q, q < 119 → av V q &&& av W q ≠ 0) ∧ (vBoth V W).1 = 0 ∧ ∀ q, q < 119 → av (vBoth V W) q = av V q &&& av W q)) := by
  unfold vBoth
  have no : vok vNo := Or.inr ⟨rfl, fun p _ => kd_zero _⟩
  by_cases z : V.1 ≠ 0 ∨ W.1 ≠ 0 ∨ ∃ i, i < 17 ∧ lk (V.2 i &&& W.2 i) = true
  · rw [if_pos z]
    refine ⟨no, Or.inl ⟨?_, rfl⟩⟩
    rcases z with z | z | ⟨i, i1, i2⟩
    · rcases hV with h | h
      · exact absurd h.1 z
      · exact ⟨0, by decide, by rw [h.2 0 (by decide), Nat.zero_and]⟩
    · rcases hW with h | h
      · exact absurd h.1 z
      · exact ⟨0, by decide, by rw [h.2 0 (by decide), Nat.and_zero]⟩
    · obtain ⟨p, p1, p2⟩ := (lk_t _).mp i2
      refine ⟨7 * i + p, by omega, ?_⟩
      unfold av
      rw [show (7 * i + p) / 7 = i by omega, show (7 * i + p) % 7 = p by omega, ← kd_and]
      exact p2
  · rw [if_neg z]
    have z1 : ¬ ∃ i, i < 17 ∧ lk (V.2 i &&& W.2 i) = true := fun w => z (Or.inr (Or.inr w))
    have ea : ∀ q, av ((0, fun i => V.2 i &&& W.2 i) : vT) q = av V q &&& av W q := fun q => kd_and _ _ _
    have nz : ∀ q, q < 119 → av V q &&& av W q ≠ 0 := fun q hq w => z1 ⟨q / 7, by omega, (lk_t _).mpr ⟨q % 7, Nat.mod_lt _ (by decide), by rw [kd_and]; exact w⟩⟩
    exact ⟨Or.inl ⟨rfl, fun q hq => by rw [ea]; exact nz q hq⟩, Or.inr ⟨nz, rfl, fun q _ => ea q⟩⟩
theorem or_0 {a b : Nat} (h : a ||| b = 0) : a = 0 ∧ b = 0 := by
  have : ∀ x, (a ||| b) = x → x = 0 → a = 0 ∧ b = 0 := fun x hx h0 => by
    subst hx
    exact ⟨Nat.eq_zero_of_le_zero (h0 ▸ Nat.left_le_or), Nat.eq_zero_of_le_zero (h0 ▸ Nat.right_le_or)⟩
  exact this _ rfl h
