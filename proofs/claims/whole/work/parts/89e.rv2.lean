/-! The reference's views: its small methods. -/
theorem i5 {i : Nat} (hi : i < 5) : ¬ (5 : Int32) ≤ nI i := fun h => by
  have := (nI_leI (a := 5) (b := i) (by decide) (by omega)).mp h
  omega
theorem k_sh : ∀ kk, kk < 32 → ∀ k, k < 5 → ((nI kk >>> (nI k &&& 31)) &&& 1 = 0 ↔ kk.testBit k = false) ∧ ((nI kk >>> (nI k &&& 31)) &&& 1 = 1 ↔ kk.testBit k = true) := by decide +kernel
theorem k_acc : ∀ a, a < 32 → ∀ k, k < 5 → (nI a ||| ((1 : Int32) <<< (nI k &&& 31)) = nI (a ||| 2 ^ k)) ∧ (nI a ||| ((0 : Int32) <<< (nI k &&& 31)) = nI a) := by decide +kernel
section RVA
variable {c : rX} {d : Nat} {S : rS} {K : Option Value → rS → Prop} {k1 f1 n1 k2 f2 n2 i j : Nat}
theorem v_copy (ho : rOK c) (h1 : rT[k1]? = some (f1, 21, n1)) (h2 : rT[k2]? = some (f2, 21, n2)) (hi : i + 5 ≤ n1) (hj : j + 5 ≤ n2) (hn : n1 ≤ 400) (hm : n2 ≤ 400) (hd : f1 ≠ f2 ∨ i + 5 ≤ j ∨ j + 5 ≤ i) (hK : K none (put S f2 j 5 (wv S f1 i))) : rM c d eX10_copy [.ref (c.2.2.1 + (k1 + 1)), .int (nI i), .ref (c.2.2.1 + (k2 + 1)), .int (nI j)] S K := by
  refine w_X10_copy ho h1 (nI i) h2 (nI j) ?_
  have key : ∀ m n : Nat, n + m = 5 → rG c eX10_copy d (rQ c K) 3 [some (.ref (c.2.2.1 + (k1 + 1))), some (.int (nI i)), some (.ref (c.2.2.1 + (k2 + 1))), some (.int (nI j)), some (.int (nI n))] [] (put S f2 j n (wv S f1 i)) := by
    intro m
    induction m with
    | zero =>
      intro n hn'
      have : n = 5 := by omega
      subst this
      exact w_X10_copy_3 ho h1 (nI i) h2 (nI j) (nI 5) ⟨fun _ => hK, fun z => absurd (by decide) z⟩
    | succ m ih =>
      intro n hn'
      refine w_X10_copy_3 ho h1 (nI i) h2 (nI j) (nI n) ⟨fun z => absurd z (i5 (by omega)), fun _ => ⟨i + n, by rw [nI_add]; exact am_ix_n (by omega) (by omega), j + n, by rw [nI_add]; exact am_ix_n (by omega) (by omega), ?_⟩⟩
      rw [put_out _ _ (by omega), nI_1]
      have := ih (n + 1) (by omega)
      rw [← put_s] at this
      exact this
  have := key 5 0 rfl
  rw [put_0] at this
  exact this
theorem v_clear (ho : rOK c) (h1 : rT[k1]? = some (f1, 21, n1)) (hi : i + 5 ≤ n1) (hn : n1 ≤ 400) (hK : K none (put S f1 i 5 (fun _ => 0))) : rM c d eX10_clear [.ref (c.2.2.1 + (k1 + 1)), .int (nI i)] S K := by
  refine w_X10_clear ho h1 (nI i) ?_
  have key : ∀ m n : Nat, n + m = 5 → rG c eX10_clear d (rQ c K) 2 [some (.ref (c.2.2.1 + (k1 + 1))), some (.int (nI i)), some (.int (nI n))] [] (put S f1 i n (fun _ => 0)) := by
    intro m
    induction m with
    | zero =>
      intro n hn'
      have : n = 5 := by omega
      subst this
      exact w_X10_clear_2 ho h1 (nI i) (nI 5) ⟨fun _ => hK, fun z => absurd (by decide) z⟩
    | succ m ih =>
      intro n hn'
      refine w_X10_clear_2 ho h1 (nI i) (nI n) ⟨fun z => absurd z (i5 (by omega)), fun _ => ⟨i + n, by rw [nI_add]; exact am_ix_n (by omega) (by omega), ?_⟩⟩
      rw [nI_1]
      have := ih (n + 1) (by omega)
      rw [← put_s] at this
      exact this
  have := key 5 0 rfl
  rw [put_0] at this
  exact this
theorem v_both (ho : rOK c) (h1 : rT[k1]? = some (f1, 21, n1)) (h2 : rT[k2]? = some (f2, 21, n2)) (hi : i + 5 ≤ n1) (hj : j + 5 ≤ n2) (hn : n1 ≤ 400) (hm : n2 ≤ 400) (hd : f1 ≠ f2) (hK : K none (put S f1 i 5 (fun k => wv S f1 i k &&& wv S f2 j k))) : rM c d eX10_both [.ref (c.2.2.1 + (k1 + 1)), .int (nI i), .ref (c.2.2.1 + (k2 + 1)), .int (nI j)] S K := by
  refine w_X10_both ho h1 (nI i) h2 (nI j) ?_
  have key : ∀ m n : Nat, n + m = 5 → rG c eX10_both d (rQ c K) 3 [some (.ref (c.2.2.1 + (k1 + 1))), some (.int (nI i)), some (.ref (c.2.2.1 + (k2 + 1))), some (.int (nI j)), some (.int (nI n))] [] (put S f1 i n (fun k => wv S f1 i k &&& wv S f2 j k)) := by
    intro m
    induction m with
    | zero =>
      intro n hn'
      have : n = 5 := by omega
      subst this
      exact w_X10_both_3 ho h1 (nI i) h2 (nI j) (nI 5) ⟨fun _ => hK, fun z => absurd (by decide) z⟩
    | succ m ih =>
      intro n hn'
      have ix : am_ix (nI i + nI n) (i + n) n1 := by rw [nI_add]; exact am_ix_n (by omega) (by omega)
      refine w_X10_both_3 ho h1 (nI i) h2 (nI j) (nI n) ⟨fun z => absurd z (i5 (by omega)), fun _ => ⟨i + n, ix, j + n, by rw [nI_add]; exact am_ix_n (by omega) (by omega), i + n, ix, ?_⟩⟩
      rw [put_out _ _ (by omega), put_out _ _ (fun z => hd z.1.symm), nI_1]
      have := ih (n + 1) (by omega)
      rw [← put_s] at this
      exact this
  have := key 5 0 rfl
  rw [put_0] at this
  exact this
theorem v_either (ho : rOK c) (h1 : rT[k1]? = some (f1, 21, n1)) (h2 : rT[k2]? = some (f2, 21, n2)) (hi : i + 5 ≤ n1) (hj : j + 5 ≤ n2) (hn : n1 ≤ 400) (hm : n2 ≤ 400) (hd : f1 ≠ f2) (hK : K none (put S f1 i 5 (fun k => wv S f1 i k ||| wv S f2 j k))) : rM c d eX10_either [.ref (c.2.2.1 + (k1 + 1)), .int (nI i), .ref (c.2.2.1 + (k2 + 1)), .int (nI j)] S K := by
  refine w_X10_either ho h1 (nI i) h2 (nI j) ?_
  have key : ∀ m n : Nat, n + m = 5 → rG c eX10_either d (rQ c K) 3 [some (.ref (c.2.2.1 + (k1 + 1))), some (.int (nI i)), some (.ref (c.2.2.1 + (k2 + 1))), some (.int (nI j)), some (.int (nI n))] [] (put S f1 i n (fun k => wv S f1 i k ||| wv S f2 j k)) := by
    intro m
    induction m with
    | zero =>
      intro n hn'
      have : n = 5 := by omega
      subst this
      exact w_X10_either_3 ho h1 (nI i) h2 (nI j) (nI 5) ⟨fun _ => hK, fun z => absurd (by decide) z⟩
    | succ m ih =>
      intro n hn'
      have ix : am_ix (nI i + nI n) (i + n) n1 := by rw [nI_add]; exact am_ix_n (by omega) (by omega)
      refine w_X10_either_3 ho h1 (nI i) h2 (nI j) (nI n) ⟨fun z => absurd z (i5 (by omega)), fun _ => ⟨i + n, ix, j + n, by rw [nI_add]; exact am_ix_n (by omega) (by omega), i + n, ix, ?_⟩⟩
      rw [put_out _ _ (by omega), put_out _ _ (fun z => hd z.1.symm), nI_1]
      have := ih (n + 1) (by omega)
      rw [← put_s] at this
      exact this
  have := key 5 0 rfl
  rw [put_0] at this
  exact this
theorem v_restrict (ho : rOK c) {p kk : Nat} (h1 : rT[k1]? = some (f1, 21, n1)) (hi : i + 5 ≤ n1) (hn : n1 ≤ 400) (hk : kk < 32) (hK : K none (put S f1 i 5 (wRes (wv S f1 i) p kk))) : rM c d eX10_restrict [.ref (c.2.2.1 + (k1 + 1)), .int (nI i), .int (nI p), .int (nI kk)] S K := by
  refine w_X10_restrict ho h1 (nI i) (nI p) (nI kk) ?_
  have key : ∀ m n : Nat, n + m = 5 → rG c eX10_restrict d (rQ c K) 3 [some (.ref (c.2.2.1 + (k1 + 1))), some (.int (nI i)), some (.int (nI p)), some (.int (nI kk)), some (.int (nI n))] [] (put S f1 i n (wRes (wv S f1 i) p kk)) := by
    intro m
    induction m with
    | zero =>
      intro n hn'
      have : n = 5 := by omega
      subst this
      exact w_X10_restrict_3 ho h1 (nI i) (nI p) (nI kk) (nI 5) ⟨fun _ => hK, fun z => absurd (by decide) z⟩
    | succ m ih =>
      intro n hn'
      have ix : am_ix (nI i + nI n) (i + n) n1 := by rw [nI_add]; exact am_ix_n (by omega) (by omega)
      have nx := ih (n + 1) (by omega)
      rw [← put_s, ← nI_1] at nx
      refine w_X10_restrict_3 ho h1 (nI i) (nI p) (nI kk) (nI n) ⟨fun z => absurd z (i5 (by omega)), fun _ => ⟨fun z => ?_, fun z => ⟨i + n, ix, i + n, ix, ?_⟩⟩⟩
      · have b : kk.testBit n = true := by
          cases h : kk.testBit n with
          | true => rfl
          | false => exact absurd ((k_sh kk hk n (by omega)).1.mpr h) z
        have e : rsj (put S f1 i n (wRes (wv S f1 i) p kk)) f1 (i + n) (wRes (wv S f1 i) p kk n) = put S f1 i n (wRes (wv S f1 i) p kk) := by
          have ew : wRes (wv S f1 i) p kk n = S.2 f1 (i + n) := by unfold wRes; rw [if_pos b]; rfl
          rw [ew]
          refine Prod.ext rfl (funext fun f' => funext fun i' => ?_)
          show (if f' = f1 then (if i' = i + n then S.2 f1 (i + n) else (put S f1 i n (wRes (wv S f1 i) p kk)).2 f1 i') else _) = _
          by_cases e1 : f' = f1
          · subst e1
            rw [if_pos rfl]
            by_cases e2 : i' = i + n
            · subst e2; rw [if_pos rfl, put_out _ _ (by omega)]
            · rw [if_neg e2]
          · rw [if_neg e1]
        rw [e] at nx
        exact nx
      · have b : kk.testBit n = false := (k_sh kk hk n (by omega)).1.mp z
        have ew : wRes (wv S f1 i) p kk n = S.2 f1 (i + n) &&& (((1 : Int64) <<< ((nI p).toInt64 &&& 63)) ^^^ (-1)) := by
          unfold wRes
          rw [if_neg (by rw [b]; decide)]
          rfl
        rw [put_out _ _ (by omega)]
        rw [ew] at nx
        exact nx
  have := key 5 0 rfl
  rw [put_0] at this
  exact this
theorem v_say (ho : rOK c) {p kk : Nat} (h1 : rT[k1]? = some (f1, 21, n1)) (hi : i + 5 ≤ n1) (hn : n1 ≤ 400) (hk : kk < 32) (hK : K none (put S f1 i 5 (wSay (wv S f1 i) p kk))) : rM c d eX10_say [.ref (c.2.2.1 + (k1 + 1)), .int (nI i), .int (nI p), .int (nI kk)] S K := by
  refine w_X10_say ho h1 (nI i) (nI p) (nI kk) ?_
  have key : ∀ m n : Nat, n + m = 5 → rG c eX10_say d (rQ c K) 3 [some (.ref (c.2.2.1 + (k1 + 1))), some (.int (nI i)), some (.int (nI p)), some (.int (nI kk)), some (.int (nI n))] [] (put S f1 i n (wSay (wv S f1 i) p kk)) := by
    intro m
    induction m with
    | zero =>
      intro n hn'
      have : n = 5 := by omega
      subst this
      exact w_X10_say_3 ho h1 (nI i) (nI p) (nI kk) (nI 5) ⟨fun _ => hK, fun z => absurd (by decide) z⟩
    | succ m ih =>
      intro n hn'
      have ix : am_ix (nI i + nI n) (i + n) n1 := by rw [nI_add]; exact am_ix_n (by omega) (by omega)
      have nx := ih (n + 1) (by omega)
      rw [← put_s, ← nI_1] at nx
      refine w_X10_say_3 ho h1 (nI i) (nI p) (nI kk) (nI n) ⟨fun z => absurd z (i5 (by omega)), fun _ => ⟨fun z => ⟨i + n, ix, i + n, ix, ?_⟩, fun z => ⟨i + n, ix, i + n, ix, ?_⟩⟩⟩
      · have b : ¬ kk.testBit n = true := fun w => z ((k_sh kk hk n (by omega)).2.mpr w)
        have ew : wSay (wv S f1 i) p kk n = S.2 f1 (i + n) &&& (((1 : Int64) <<< ((nI p).toInt64 &&& 63)) ^^^ (-1)) := by
          unfold wSay
          rw [if_neg b]
          rfl
        rw [put_out _ _ (by omega)]
        rw [ew] at nx
        exact nx
      · have b : kk.testBit n = true := (k_sh kk hk n (by omega)).2.mp z
        have ew : wSay (wv S f1 i) p kk n = S.2 f1 (i + n) ||| ((1 : Int64) <<< ((nI p).toInt64 &&& 63)) := by
          unfold wSay
          rw [if_pos b]
          rfl
        rw [put_out _ _ (by omega)]
        rw [ew] at nx
        exact nx
  have := key 5 0 rfl
  rw [put_0] at this
  exact this
theorem v_said (ho : rOK c) {p : Nat} (h1 : rT[k1]? = some (f1, 21, n1)) (hi : i + 5 ≤ n1) (hn : n1 ≤ 400) (hp : p < 56) (hK : K (some (.int (nI (gk (wv S f1 i) p)))) S) : rM c d eX10_said [.ref (c.2.2.1 + (k1 + 1)), .int (nI i), .int (nI p)] S K := by
  refine w_X10_said ho h1 (nI i) (nI p) ?_
  have key : ∀ m n a : Nat, n + m = 5 → a < 32 → (∀ k, k < 5 → a.testBit k = (decide (k < n) && xb (wv S f1 i k) p)) → rG c eX10_said d (rQ c K) 5 [some (.ref (c.2.2.1 + (k1 + 1))), some (.int (nI i)), some (.int (nI p)), some (.int (nI a)), some (.int (nI n))] [] S := by
    intro m
    induction m with
    | zero =>
      intro n a hn' ha hb
      have : n = 5 := by omega
      subst this
      have e : a = gk (wv S f1 i) p := (gk_ext ha fun k hk => by rw [hb k hk, decide_eq_true hk, Bool.true_and]).symm
      subst e
      exact w_X10_said_5 ho h1 (nI i) (nI p) (nI _) (nI 5) ⟨fun _ => hK, fun z => absurd (by decide) z⟩
    | succ m ih =>
      intro n a hn' ha hb
      refine w_X10_said_5 ho h1 (nI i) (nI p) (nI a) (nI n) ⟨fun z => absurd z (i5 (by omega)), fun _ => ⟨i + n, by rw [nI_add]; exact am_ix_n (by omega) (by omega), ?_⟩⟩
      rw [shr_bit _ hp, nI_1]
      by_cases b : xb (S.2 f1 (i + n)) p = true
      · rw [if_pos b, (k_acc a ha n (by omega)).1]
        have lt : a ||| 2 ^ n < 32 := Nat.or_lt_two_pow (n := 5) ha (Nat.pow_lt_pow_right (by decide) (by omega))
        refine ih (n + 1) _ (by omega) lt fun k hk => ?_
        rw [Nat.testBit_or, hb k hk, Nat.testBit_two_pow]
        by_cases e : k = n
        · subst e
          rw [decide_eq_true rfl, Bool.or_true, decide_eq_true (Nat.lt_succ_self _), Bool.true_and]
          exact b.symm
        · rw [decide_eq_false (show ¬ n = k from fun z => e z.symm), Bool.or_false]
          have : decide (k < n) = decide (k < n + 1) := by
            by_cases q : k < n
            · rw [decide_eq_true q, decide_eq_true (by omega)]
            · rw [decide_eq_false q, decide_eq_false (by omega)]
          rw [this]
      · rw [if_neg b, (k_acc a ha n (by omega)).2]
        refine ih (n + 1) a (by omega) ha fun k hk => ?_
        rw [hb k hk]
        by_cases e : k = n
        · subst e
          have b' : xb (wv S f1 i k) p = false := by
            have b2 : xb (S.2 f1 (i + k)) p = false := by simpa using b
            exact b2
          rw [b', Bool.and_false, Bool.and_false]
        · have : decide (k < n) = decide (k < n + 1) := by
            by_cases q : k < n
            · rw [decide_eq_true q, decide_eq_true (by omega)]
            · rw [decide_eq_false q, decide_eq_false (by omega)]
          rw [this]
  exact key 5 0 0 rfl (by decide) fun k hk => by simp
theorem v_imp (ho : rOK c) (h1 : rT[k1]? = some (f1, 21, n1)) (hi : i + 5 ≤ n1) (hn : n1 ≤ 400) (hw : okw (wv S f1 i)) (hK : K (some (.int (if nImp (gk (wv S f1 i)) = true then 1 else 0))) S) : rM c d eX10_isImpossible [.ref (c.2.2.1 + (k1 + 1)), .int (nI i)] S K := by
  have ix : ∀ k, k < 5 → am_ix (nI i + nI k) (i + k) n1 := fun k hk => by rw [nI_add]; exact am_ix_n (by omega) (by omega)
  refine w_X10_isImpossible ho h1 (nI i) ⟨i, am_ix_n (by omega) (by omega), i + 1, ix 1 (by decide), i + 2, ix 2 (by decide), i + 3, ix 3 (by decide), i + 4, ix 4 (by decide), ?_⟩
  rw [lg_cmp_eq]
  have e := every_is hw
  have e : ((((S.2 f1 i ||| S.2 f1 (i + 1)) ||| S.2 f1 (i + 2)) ||| S.2 f1 (i + 3)) ||| S.2 f1 (i + 4)) = 72057594037927935 ↔ ¬ nImp (gk (wv S f1 i)) = true := e
  rw [e]
  refine ⟨fun z => ?_, fun z => ?_⟩
  · rw [if_neg z] at hK; exact hK
  · rw [if_pos (by simpa using z)] at hK; exact hK
def nrmW (w : Nat → Int64) : Nat → Int64 := if nImp (gk w) = true then fun _ => 0 else w
theorem v_settle (ho : rOK c) (h1 : rT[k1]? = some (f1, 21, n1)) (hi : i + 5 ≤ n1) (hn : n1 ≤ 400) (hw : okw (wv S f1 i)) (hK : K none (put S f1 i 5 (nrmW (wv S f1 i)))) : rM c (d + 1) eX10_settle [.ref (c.2.2.1 + (k1 + 1)), .int (nI i)] S K := by
  refine w_X10_settle ho h1 (nI i) (v_imp ho h1 hi hn hw ⟨_, rfl, fun z => ?_, fun z => ?_⟩)
  · have n : ¬ nImp (gk (wv S f1 i)) = true := fun w => by rw [if_pos w] at z; exact absurd z (by decide)
    have e : put S f1 i 5 (nrmW (wv S f1 i)) = S := by
      unfold nrmW
      rw [if_neg n]
      refine Prod.ext rfl (funext fun f' => funext fun i' => ?_)
      show (if f' = f1 ∧ i ≤ i' ∧ i' < i + 5 then S.2 f1 (i + (i' - i)) else S.2 f' i') = S.2 f' i'
      by_cases q : f' = f1 ∧ i ≤ i' ∧ i' < i + 5
      · rw [if_pos q, q.1, show i + (i' - i) = i' by omega]
      · rw [if_neg q]
    rw [e] at hK
    exact hK
  · have n : nImp (gk (wv S f1 i)) = true := by
      by_cases w : nImp (gk (wv S f1 i)) = true
      · exact w
      · rw [if_neg w] at z; exact absurd rfl z
    have e : nrmW (wv S f1 i) = fun _ => 0 := if_pos n
    rw [e] at hK
    exact v_clear ho h1 hi hn ⟨rfl, hK⟩
end RVA
