/-! The reference's views: five longs each; a bit for each place. -/
def put (S : rS) (f j n : Nat) (w : Nat → Int64) : rS := (S.1, fun f' i' => if f' = f ∧ j ≤ i' ∧ i' < j + n then w (i' - j) else S.2 f' i')
theorem put_0 (S : rS) (f j : Nat) (w : Nat → Int64) : put S f j 0 w = S := by
  refine Prod.ext rfl (funext fun f' => funext fun i' => ?_)
  show (if f' = f ∧ j ≤ i' ∧ i' < j + 0 then _ else _) = _
  rw [if_neg (by omega)]
theorem put_s (S : rS) (f j n : Nat) (w : Nat → Int64) : rsj (put S f j n w) f (j + n) (w n) = put S f j (n + 1) w := by
  refine Prod.ext rfl (funext fun f' => funext fun i' => ?_)
  show (if f' = f then (if i' = j + n then w n else (put S f j n w).2 f i') else (put S f j n w).2 f' i') = (if f' = f ∧ j ≤ i' ∧ i' < j + (n + 1) then w (i' - j) else S.2 f' i')
  by_cases e : f' = f
  · subst e
    rw [if_pos rfl]
    by_cases e2 : i' = j + n
    · rw [if_pos e2, if_pos ⟨rfl, by omega, by omega⟩, e2]
      congr 1
      omega
    · rw [if_neg e2]
      show (if f' = f' ∧ j ≤ i' ∧ i' < j + n then w (i' - j) else S.2 f' i') = _
      by_cases e3 : j ≤ i' ∧ i' < j + n
      · rw [if_pos ⟨rfl, e3⟩, if_pos ⟨rfl, e3.1, by omega⟩]
      · rw [if_neg (fun z => e3 z.2), if_neg (fun z => e3 ⟨z.2.1, by omega⟩)]
  · rw [if_neg e]
    show (if f' = f ∧ j ≤ i' ∧ i' < j + n then w (i' - j) else S.2 f' i') = _
    rw [if_neg (fun z => e z.1), if_neg (fun z => e z.1)]
theorem put_out (S : rS) {f j n f' i' : Nat} (w : Nat → Int64) (h : ¬ (f' = f ∧ j ≤ i' ∧ i' < j + n)) : (put S f j n w).2 f' i' = S.2 f' i' := if_neg h
theorem put_in (S : rS) {f j n k : Nat} (w : Nat → Int64) (h : k < n) : (put S f j n w).2 f (j + k) = w k := by
  show (if f = f ∧ j ≤ j + k ∧ j + k < j + n then w (j + k - j) else _) = _
  rw [if_pos ⟨rfl, by omega, by omega⟩]
  congr 1
  omega
def wv (S : rS) (f i : Nat) : Nat → Int64 := fun k => S.2 f (i + k)
theorem put_cong (S : rS) (f j n : Nat) {w w' : Nat → Int64} (h : ∀ k, k < n → w k = w' k) : put S f j n w = put S f j n w' := by
  refine Prod.ext rfl (funext fun f' => funext fun i' => ?_)
  show (if f' = f ∧ j ≤ i' ∧ i' < j + n then w (i' - j) else S.2 f' i') = (if f' = f ∧ j ≤ i' ∧ i' < j + n then w' (i' - j) else S.2 f' i')
  by_cases e : f' = f ∧ j ≤ i' ∧ i' < j + n
  · rw [if_pos e, if_pos e, h _ (by omega)]
  · rw [if_neg e, if_neg e]
def bt (b : Bool) (n : Nat) : Nat := if b = true then n else 0
def gk (w : Nat → Int64) : nV := fun p => bt (xb (w 0) p) 1 + bt (xb (w 1) p) 2 + bt (xb (w 2) p) 4 + bt (xb (w 3) p) 8 + bt (xb (w 4) p) 16
theorem bt5 : ∀ a b c d e : Bool, (bt a 1 + bt b 2 + bt c 4 + bt d 8 + bt e 16 < 32) ∧ ∀ k, k < 5 → (bt a 1 + bt b 2 + bt c 4 + bt d 8 + bt e 16).testBit k = (if k = 0 then a else if k = 1 then b else if k = 2 then c else if k = 3 then d else e) := by decide
theorem gk_lt (w : Nat → Int64) (p : Nat) : gk w p < 32 := (bt5 _ _ _ _ _).1
theorem gk_bit (w : Nat → Int64) (p : Nat) {k : Nat} (hk : k < 5) : (gk w p).testBit k = xb (w k) p := by
  have h := (bt5 (xb (w 0) p) (xb (w 1) p) (xb (w 2) p) (xb (w 3) p) (xb (w 4) p)).2 k hk
  unfold gk
  rw [h]
  by_cases e0 : k = 0
  · subst e0; rfl
  · rw [if_neg e0]
    by_cases e1 : k = 1
    · subst e1; rfl
    · rw [if_neg e1]
      by_cases e2 : k = 2
      · subst e2; rfl
      · rw [if_neg e2]
        by_cases e3 : k = 3
        · subst e3; rfl
        · have e4 : k = 4 := by omega
          subst e4; rfl
theorem gk_ext {w : Nat → Int64} {p n : Nat} (hn : n < 32) (h : ∀ k, k < 5 → xb (w k) p = n.testBit k) : gk w p = n := kd_ext (gk_lt _ _) hn fun k hk => by rw [gk_bit _ _ hk]; exact h k hk
theorem gk_and (a b : Nat → Int64) (p : Nat) : gk (fun k => a k &&& b k) p = gk a p &&& gk b p := by
  refine gk_ext (Nat.lt_of_le_of_lt Nat.and_le_left (gk_lt _ _)) fun k hk => ?_
  rw [xb_and, Nat.testBit_and, gk_bit _ _ hk, gk_bit _ _ hk]
theorem gk_or (a b : Nat → Int64) (p : Nat) : gk (fun k => a k ||| b k) p = gk a p ||| gk b p := by
  refine gk_ext (Nat.or_lt_two_pow (n := 5) (gk_lt _ _) (gk_lt _ _)) fun k hk => ?_
  rw [xb_or, Nat.testBit_or, gk_bit _ _ hk, gk_bit _ _ hk]
theorem gk_0 (p : Nat) : gk (fun _ => 0) p = 0 := by
  refine gk_ext (by decide) fun k hk => ?_
  rw [xb_0]
  simp
theorem gk_cong {w w' : Nat → Int64} (h : ∀ k, k < 5 → w k = w' k) : gk w = gk w' := by
  funext p
  unfold gk
  rw [h 0 (by decide), h 1 (by decide), h 2 (by decide), h 3 (by decide), h 4 (by decide)]
/-- no bit above the places -/
def okw (w : Nat → Int64) : Prop := ∀ k, k < 5 → ∀ n, 56 ≤ n → n < 64 → xb (w k) n = false
theorem okw_and {a b : Nat → Int64} (h : okw a) : okw (fun k => a k &&& b k) := fun k hk n h1 h2 => by rw [xb_and, h k hk n h1 h2, Bool.false_and]
theorem okw_or {a b : Nat → Int64} (h : okw a) (h' : okw b) : okw (fun k => a k ||| b k) := fun k hk n h1 h2 => by rw [xb_or, h k hk n h1 h2, h' k hk n h1 h2, Bool.false_or]
theorem okw_0 : okw (fun _ => 0) := fun k hk n h1 h2 => xb_0 n
theorem okw_cong {w w' : Nat → Int64} (h : okw w) (e : ∀ k, k < 5 → w' k = w k) : okw w' := fun k hk n h1 h2 => by rw [e k hk]; exact h k hk n h1 h2
theorem sh_is : ∀ p, p < 56 → (1 : Int64) <<< ((nI p).toInt64 &&& 63) = lN (2 ^ p) := by decide +kernel
theorem xb_sh {p n : Nat} (hp : p < 56) (hn : n < 64) : xb ((1 : Int64) <<< ((nI p).toInt64 &&& 63)) n = decide (n = p) := by
  rw [sh_is p hp, xb_lN _ hn, Nat.testBit_two_pow]
  by_cases e : n = p
  · rw [decide_eq_true e, decide_eq_true e.symm]
  · rw [decide_eq_false e, decide_eq_false (fun z => e z.symm)]
def wRes (w : Nat → Int64) (p kk : Nat) : Nat → Int64 := fun k => if kk.testBit k = true then w k else w k &&& (((1 : Int64) <<< ((nI p).toInt64 &&& 63)) ^^^ (-1))
def wSay (w : Nat → Int64) (p kk : Nat) : Nat → Int64 := fun k => if kk.testBit k = true then w k ||| ((1 : Int64) <<< ((nI p).toInt64 &&& 63)) else w k &&& (((1 : Int64) <<< ((nI p).toInt64 &&& 63)) ^^^ (-1))
theorem gk_res (w : Nat → Int64) {p kk q : Nat} (hp : p < 56) (hq : q < 56) : gk (wRes w p kk) q = nRes (gk w) p kk q := by
  unfold nRes
  by_cases e : q = p
  · subst e
    rw [if_pos rfl]
    refine gk_ext (Nat.lt_of_le_of_lt Nat.and_le_left (gk_lt _ _)) fun k hk => ?_
    unfold wRes
    rw [Nat.testBit_and, gk_bit _ _ hk]
    by_cases b : kk.testBit k = true
    · rw [if_pos b, b, Bool.and_true]
    · rw [if_neg b, xb_and, xb_not _ (by omega), xb_sh hp (by omega), decide_eq_true rfl, show kk.testBit k = false by simpa using b]
      rfl
  · rw [if_neg e]
    refine gk_ext (gk_lt _ _) fun k hk => ?_
    unfold wRes
    rw [gk_bit _ _ hk]
    by_cases b : kk.testBit k = true
    · rw [if_pos b]
    · rw [if_neg b, xb_and, xb_not _ (by omega), xb_sh hp (by omega), decide_eq_false e, Bool.not_false, Bool.and_true]
theorem gk_say (w : Nat → Int64) {p kk q : Nat} (hp : p < 56) (hq : q < 56) (hk : kk < 32) : gk (wSay w p kk) q = if q = p then kk else gk w q := by
  by_cases e : q = p
  · subst e
    rw [if_pos rfl]
    refine gk_ext hk fun k hk => ?_
    unfold wSay
    by_cases b : kk.testBit k = true
    · rw [if_pos b, xb_or, xb_sh hp (by omega), decide_eq_true rfl, Bool.or_true, b]
    · rw [if_neg b, xb_and, xb_not _ (by omega), xb_sh hp (by omega), decide_eq_true rfl, Bool.not_true, Bool.and_false]
      simpa using (show kk.testBit k = false by simpa using b).symm
  · rw [if_neg e]
    refine gk_ext (gk_lt _ _) fun k hk => ?_
    unfold wSay
    rw [gk_bit _ _ hk]
    by_cases b : kk.testBit k = true
    · rw [if_pos b, xb_or, xb_sh hp (by omega), decide_eq_false e, Bool.or_false]
    · rw [if_neg b, xb_and, xb_not _ (by omega), xb_sh hp (by omega), decide_eq_false e, Bool.not_false, Bool.and_true]
theorem okw_res {w : Nat → Int64} (h : okw w) (p kk : Nat) : okw (wRes w p kk) := fun k hk n h1 h2 => by
  unfold wRes
  split
  · exact h k hk n h1 h2
  · rw [xb_and, h k hk n h1 h2, Bool.false_and]
theorem okw_say {w : Nat → Int64} (h : okw w) {p : Nat} (kk : Nat) (hp : p < 56) : okw (wSay w p kk) := fun k hk n h1 h2 => by
  unfold wSay
  split
  · rw [xb_or, h k hk n h1 h2, xb_sh hp h2, decide_eq_false (by omega), Bool.or_false]
  · rw [xb_and, h k hk n h1 h2, Bool.false_and]
theorem every_bit : ∀ n, n < 64 → xb 72057594037927935 n = decide (n < 56) := by decide +kernel
theorem w_ext {a b : Int64} (h : ∀ n, n < 64 → xb a n = xb b n) : a = b := Int64.toBitVec_inj.mp (BitVec.eq_of_getLsbD_eq h)
theorem every_is {w : Nat → Int64} (h : okw w) : ((((w 0 ||| w 1) ||| w 2) ||| w 3) ||| w 4) = 72057594037927935 ↔ ¬ nImp (gk w) = true := by
  rw [nImp_f]
  constructor
  · intro e p hp z
    have b := congrArg (fun x => xb x p) e
    simp only [xb_or] at b
    rw [every_bit p (by omega), decide_eq_true hp] at b
    have g : ∀ k, k < 5 → xb (w k) p = false := fun k hk => by rw [← gk_bit w p hk, z]; simp
    rw [g 0 (by decide), g 1 (by decide), g 2 (by decide), g 3 (by decide), g 4 (by decide)] at b
    cases b
  · intro hz
    refine w_ext fun n hn => ?_
    rw [every_bit n hn]
    simp only [xb_or]
    by_cases q : n < 56
    · rw [decide_eq_true q]
      by_cases all : xb (w 0) n = false ∧ xb (w 1) n = false ∧ xb (w 2) n = false ∧ xb (w 3) n = false ∧ xb (w 4) n = false
      · exfalso
        refine hz n q (gk_ext (by decide) fun k hk => ?_)
        have : xb (w k) n = false := by
          by_cases e0 : k = 0
          · subst e0; exact all.1
          · by_cases e1 : k = 1
            · subst e1; exact all.2.1
            · by_cases e2 : k = 2
              · subst e2; exact all.2.2.1
              · by_cases e3 : k = 3
                · subst e3; exact all.2.2.2.1
                · have e4 : k = 4 := by omega
                  subst e4; exact all.2.2.2.2
        rw [this]; simp
      · cases h0 : xb (w 0) n <;> cases h1 : xb (w 1) n <;> cases h2 : xb (w 2) n <;> cases h3 : xb (w 3) n <;> cases h4 : xb (w 4) n <;> first | rfl | exact absurd ⟨h0, h1, h2, h3, h4⟩ all
    · rw [decide_eq_false q, h 0 (by decide) n (by omega) hn, h 1 (by decide) n (by omega) hn, h 2 (by decide) n (by omega) hn, h 3 (by decide) n (by omega) hn, h 4 (by decide) n (by omega) hn]
      rfl
theorem shr_am : ∀ p, p < 56 → (((nI p).toInt64 &&& 63).toBitVec.smod 64).toNat = p := by decide +kernel
theorem shr_bit (w : Int64) {p : Nat} (hp : p < 56) : Int64.toInt32 ((w >>> ((nI p).toInt64 &&& 63)) &&& 1) = if xb w p = true then 1 else 0 := by
  have key : (w >>> ((nI p).toInt64 &&& 63)) &&& 1 = if xb w p = true then 1 else 0 := by
    refine w_ext fun n hn => ?_
    rw [xb_and]
    have s : xb (w >>> ((nI p).toInt64 &&& 63)) 0 = xb w p := by
      show (w.toBitVec.sshiftRight' (((nI p).toInt64 &&& 63).toBitVec.smod 64)).getLsbD 0 = w.toBitVec.getLsbD p
      rw [BitVec.sshiftRight', shr_am p hp, BitVec.getLsbD_sshiftRight]
      simp
      omega
    by_cases e : n = 0
    · subst e
      rw [s]
      cases xb w p <;> simp [xb]
    · have one : xb 1 n = false := by
        have := xb_lN 1 hn
        rw [show (1 : Int64) = lN 1 from rfl, this, show (1 : Nat) = 2 ^ 0 from rfl, Nat.testBit_two_pow]
        simp
        omega
      rw [one, Bool.and_false]
      cases xb w p
      · exact (xb_0 n).symm
      · exact one.symm
  rw [key]
  cases xb w p <;> rfl
