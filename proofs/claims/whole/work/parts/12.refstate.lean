/-! The reference's state: ints and booleans by field and place, longs by field and place; its cells stand from M on. -/
abbrev rS : Type := (Nat → Nat → Int32) × (Nat → Nat → Int64)
/-- the machine's places, the launch, the reference's first cell, the heap around -/
abbrev rX : Type := am_P × Launch × Nat × am_H
/-- its arrays: field, tag, length -/
def rT : List (Nat × Nat × Nat) := [(3, 20, 60), (4, 20, 320), (5, 20, 320), (6, 20, 320), (7, 20, 320), (8, 20, 320), (9, 20, 320), (10, 20, 5), (11, 20, 5), (12, 22, 3), (13, 20, 3), (14, 20, 3), (15, 20, 3), (16, 20, 21), (17, 20, 21), (24, 20, 8), (25, 20, 80), (26, 21, 320), (27, 21, 320), (28, 21, 320), (29, 20, 64), (30, 20, 64), (31, 20, 80), (32, 20, 8), (33, 22, 8), (34, 21, 40), (35, 21, 40), (36, 21, 5), (37, 21, 5), (41, 20, 64), (42, 20, 64), (43, 20, 64), (44, 20, 64), (45, 20, 2), (51, 20, 80), (52, 20, 80), (53, 20, 80), (54, 20, 80), (55, 20, 40), (56, 21, 5), (57, 21, 5), (58, 21, 5)]
def rsi (S : rS) (f i : Nat) (v : Int32) : rS := (fun f' i' => if f' = f then (if i' = i then v else S.1 f i') else S.1 f' i', S.2)
def rsj (S : rS) (f i : Nat) (v : Int64) : rS := (S.1, fun f' i' => if f' = f then (if i' = i then v else S.2 f i') else S.2 f' i')
def rV (M : Nat) (S : rS) (f : Nat) : Value := match rT.findIdx? (fun q => q.1 == f) with
  | some k => .ref (M + (k + 1))
  | none => .int (S.1 f 0)
def rC (M : Nat) (S : rS) : Nat → am_C
  | 0 => (10, 59, fun f => rV M S f)
  | k + 1 => match rT[k]? with
    | some (f, t, n) => (t, n, fun i => if t = 21 then .long (S.2 f i) else .int (S.1 f i))
    | none => (99, 0, fun _ => .null)
def rH (M : Nat) (S : rS) (hp : am_H) : am_H := (hp.1, hp.2.1, fun a => if M ≤ a ∧ a < M + 43 then rC M S (a - M) else hp.2.2 a)
def rOK (c : rX) : Prop := c.2.2.1 ≠ 0 ∧ c.2.2.1 + 43 ≤ c.2.2.2.1
abbrev rG (c : rX) (e : am_E) (d : Nat) (Q : am_R → am_H → Prop) (pc : Nat) (lv : am_L) (st : List Value) (S : rS) : Prop := am_G c.1 c.2.1 e d Q pc lv st (rH c.2.2.1 S c.2.2.2)
def rQ (c : rX) (K : Option Value → rS → Prop) : am_R → am_H → Prop := fun r h' => ∃ v, r = .inl v ∧ ∃ S', h' = rH c.2.2.1 S' c.2.2.2 ∧ K v S'
def rM (c : rX) (d : Nat) (e : am_E) (as : List Value) (S : rS) (K : Option Value → rS → Prop) : Prop := am_Mt c.2.1 c.1 d e as (rH c.2.2.1 S c.2.2.2) (fun v h' => ∃ S', h' = rH c.2.2.1 S' c.2.2.2 ∧ K v S')
theorem rM.mono {c : rX} {d : Nat} {e : am_E} {as : List Value} {S : rS} {K K' : Option Value → rS → Prop} (k : rM c d e as S K) (f : ∀ v S', K v S' → K' v S') : rM c d e as S K' := am_Mt.mono k fun _ _ ⟨S', h1, h2⟩ => ⟨S', h1, f _ _ h2⟩
theorem rM.of {c : rX} {d : Nat} {e : am_E} {as : List Value} {S : rS} {K : Option Value → rS → Prop} (hy : plainName e.1.cls = true) (hlen : (am_sl as).length ≤ e.2.2.1) (k : rG c e d (rQ c K) 0 (am_en e.2.2.1 as) [] S) : rM c d e as S K := am_Mt.of hy hlen k
/-- a boolean -/
def rB (x : Int32) : Prop := x = 0 ∨ x = 1
theorem rB_ok {x : Int32} (h : rB x) : ∀ g : am_P, narrow .boolean (am_tv g (.int x)) = am_tv g (.int x) ∧ fits .boolean (am_tv g (.int x)) = true := by
  intro g
  rcases h with rfl | rfl <;> exact ⟨rfl, rfl⟩
theorem rB_n {x : Int32} (h : rB x) : narrow .boolean (.int x) = .int x := by rcases h with rfl | rfl <;> rfl
theorem rH_0 (M : Nat) (S : rS) (hp : am_H) : (rH M S hp).2.2 M = (10, 59, fun f => rV M S f) := by
  show (if M ≤ M ∧ M < M + 43 then rC M S (M - M) else hp.2.2 M) = _
  rw [if_pos ⟨Nat.le_refl _, by omega⟩, Nat.sub_self]
  rfl
theorem rH_k {M k f t n : Nat} {S : rS} {hp : am_H} (hk : rT[k]? = some (f, t, n)) : (rH M S hp).2.2 (M + (k + 1)) = (t, n, fun i => if t = 21 then .long (S.2 f i) else .int (S.1 f i)) := by
  have h1 : k < 42 := (List.getElem?_eq_some_iff.mp hk).1
  show (if M ≤ M + (k + 1) ∧ M + (k + 1) < M + 43 then rC M S (M + (k + 1) - M) else hp.2.2 _) = _
  rw [if_pos ⟨by omega, by omega⟩, Nat.add_sub_cancel_left]
  show (match rT[k]? with | some (f, t, n) => _ | none => _) = _
  rw [hk]
theorem rT_inj : ∀ k, k < 42 → ∀ k', k' < 42 → (rT.getD k (0, 0, 0)).1 = (rT.getD k' (0, 0, 0)).1 → k = k' := by decide +kernel
theorem rT_inj' {k k' f t t' n n' : Nat} (h : rT[k]? = some (f, t, n)) (h' : rT[k']? = some (f, t', n')) : k = k' := by
  have h1 : k < 42 := (List.getElem?_eq_some_iff.mp h).1
  have h2 : k' < 42 := (List.getElem?_eq_some_iff.mp h').1
  refine rT_inj k h1 k' h2 ?_
  rw [List.getD_eq_getElem?_getD, List.getD_eq_getElem?_getD, h, h']
  rfl
theorem rT_find {k f t n : Nat} (h : rT[k]? = some (f, t, n)) : ∃ j, rT.findIdx? (fun q => q.1 == f) = some j := by
  cases e : rT.findIdx? (fun q => q.1 == f) with
  | some j => exact ⟨j, rfl⟩
  | none =>
    have := List.findIdx?_eq_none_iff.mp e _ (List.mem_of_getElem? h)
    simp at this
/-- a place of an array is written -/
theorem rH_wi {M k f n t j : Nat} {v : Int32} {S : rS} {hp : am_H} (hk : rT[k]? = some (f, t, n)) (ht : t ≠ 21) : am_wr (rH M S hp) (M + (k + 1)) j (.int v) = rH M (rsi S f j v) hp := by
  have h1 : k < 42 := (List.getElem?_eq_some_iff.mp hk).1
  refine Prod.ext rfl (Prod.ext rfl (funext fun b => ?_))
  show (if b = M + (k + 1) then _ else (rH M S hp).2.2 b) = (rH M (rsi S f j v) hp).2.2 b
  by_cases e : b = M + (k + 1)
  · subst e
    rw [if_pos rfl, rH_k hk, rH_k hk]
    refine Prod.ext rfl (Prod.ext rfl (funext fun i => ?_))
    show (if i = j then Value.int v else if t = 21 then _ else _) = (if t = 21 then _ else Value.int (if f = f then (if i = j then v else S.1 f i) else _))
    rw [if_neg ht, if_neg ht, if_pos rfl]
    split <;> rfl
  · rw [if_neg e]
    show (if M ≤ b ∧ b < M + 43 then rC M S (b - M) else hp.2.2 b) = (if M ≤ b ∧ b < M + 43 then rC M (rsi S f j v) (b - M) else hp.2.2 b)
    by_cases hb : M ≤ b ∧ b < M + 43
    · rw [if_pos hb, if_pos hb]
      cases hz : b - M with
      | zero =>
        refine Prod.ext rfl (Prod.ext rfl (funext fun f' => ?_))
        show rV M S f' = rV M (rsi S f j v) f'
        unfold rV
        split
        · rfl
        · rename_i hn
          by_cases ef : f' = f
          · subst ef
            obtain ⟨q, hq⟩ := rT_find hk
            rw [hn] at hq
            cases hq
          · show Value.int (S.1 f' 0) = Value.int (if f' = f then _ else S.1 f' 0)
            rw [if_neg ef]
      | succ q =>
        show (match rT[q]? with | some (f, t, n) => _ | none => _) = (match rT[q]? with | some (f, t, n) => _ | none => _)
        cases hq : rT[q]? with
        | none => rfl
        | some z =>
          obtain ⟨f', t', n'⟩ := z
          by_cases ef : f' = f
          · subst ef
            exact absurd (rT_inj' hk hq) (by omega)
          · refine Prod.ext rfl (Prod.ext rfl (funext fun i => ?_))
            show (if t' = 21 then Value.long (S.2 f' i) else Value.int (S.1 f' i)) = (if t' = 21 then Value.long (S.2 f' i) else Value.int (if f' = f then _ else S.1 f' i))
            rw [if_neg ef]
    · rw [if_neg hb, if_neg hb]
theorem rH_wj {M k f n j : Nat} {v : Int64} {S : rS} {hp : am_H} (hk : rT[k]? = some (f, 21, n)) : am_wr (rH M S hp) (M + (k + 1)) j (.long v) = rH M (rsj S f j v) hp := by
  have h1 : k < 42 := (List.getElem?_eq_some_iff.mp hk).1
  refine Prod.ext rfl (Prod.ext rfl (funext fun b => ?_))
  show (if b = M + (k + 1) then _ else (rH M S hp).2.2 b) = (rH M (rsj S f j v) hp).2.2 b
  by_cases e : b = M + (k + 1)
  · subst e
    rw [if_pos rfl, rH_k hk, rH_k hk]
    refine Prod.ext rfl (Prod.ext rfl (funext fun i => ?_))
    show (if i = j then Value.long v else Value.long (S.2 f i)) = Value.long (if f = f then (if i = j then v else S.2 f i) else _)
    rw [if_pos rfl]
    split <;> rfl
  · rw [if_neg e]
    show (if M ≤ b ∧ b < M + 43 then rC M S (b - M) else hp.2.2 b) = (if M ≤ b ∧ b < M + 43 then rC M (rsj S f j v) (b - M) else hp.2.2 b)
    by_cases hb : M ≤ b ∧ b < M + 43
    · rw [if_pos hb, if_pos hb]
      cases hz : b - M with
      | zero => rfl
      | succ q =>
        show (match rT[q]? with | some (f, t, n) => _ | none => _) = (match rT[q]? with | some (f, t, n) => _ | none => _)
        cases hq : rT[q]? with
        | none => rfl
        | some z =>
          obtain ⟨f', t', n'⟩ := z
          by_cases ef : f' = f
          · subst ef
            exact absurd (rT_inj' hk hq) (by omega)
          · refine Prod.ext rfl (Prod.ext rfl (funext fun i => ?_))
            show (if t' = 21 then Value.long (S.2 f' i) else Value.int (S.1 f' i)) = (if t' = 21 then Value.long (if f' = f then _ else S.2 f' i) else Value.int (S.1 f' i))
            rw [if_neg ef]
    · rw [if_neg hb, if_neg hb]
/-- a scalar is written -/
theorem rH_ws {M f : Nat} {v : Int32} {S : rS} {hp : am_H} (hf : rT.findIdx? (fun q => q.1 == f) = none) : am_wr (rH M S hp) M f (.int v) = rH M (rsi S f 0 v) hp := by
  refine Prod.ext rfl (Prod.ext rfl (funext fun b => ?_))
  show (if b = M then _ else (rH M S hp).2.2 b) = (rH M (rsi S f 0 v) hp).2.2 b
  by_cases e : b = M
  · subst e
    rw [if_pos rfl, rH_0, rH_0]
    refine Prod.ext rfl (Prod.ext rfl (funext fun f' => ?_))
    show (if f' = f then Value.int v else rV b S f') = rV b (rsi S f 0 v) f'
    by_cases ef : f' = f
    · subst ef
      rw [if_pos rfl]
      unfold rV
      rw [hf]
      show _ = Value.int (if f' = f' then (if 0 = 0 then v else _) else _)
      rw [if_pos rfl, if_pos rfl]
    · rw [if_neg ef]
      unfold rV
      split
      · rfl
      · show Value.int (S.1 f' 0) = Value.int (if f' = f then _ else S.1 f' 0)
        rw [if_neg ef]
  · rw [if_neg e]
    show (if M ≤ b ∧ b < M + 43 then rC M S (b - M) else hp.2.2 b) = (if M ≤ b ∧ b < M + 43 then rC M (rsi S f 0 v) (b - M) else hp.2.2 b)
    by_cases hb : M ≤ b ∧ b < M + 43
    · rw [if_pos hb, if_pos hb]
      cases hz : b - M with
      | zero => omega
      | succ q =>
        show (match rT[q]? with | some (f, t, n) => _ | none => _) = (match rT[q]? with | some (f, t, n) => _ | none => _)
        cases hq : rT[q]? with
        | none => rfl
        | some z =>
          obtain ⟨f', t', n'⟩ := z
          by_cases ef : f' = f
          · subst ef
            obtain ⟨q9, hq9⟩ := rT_find hq
            rw [hf] at hq9
            cases hq9
          · refine Prod.ext rfl (Prod.ext rfl (funext fun i => ?_))
            show (if t' = 21 then Value.long (S.2 f' i) else Value.int (S.1 f' i)) = (if t' = 21 then Value.long (S.2 f' i) else Value.int (if f' = f then _ else S.1 f' i))
            rw [if_neg ef]
    · rw [if_neg hb, if_neg hb]
section RR
variable {c : rX} {e : am_E} {d : Nat} {Q : am_R → am_H → Prop} {pc : Nat} {lv : am_L} {st : List Value} {S : rS}
theorem rr_get (ho : rOK c) {i f : Nat} {v : Value} (hd : decode e.2.1 pc = .ok (.getfield i, 3)) (hf : am_fw e.1.cls i 10 f) (hv : rV c.2.2.1 S f = v) (kk : rG c e d Q (pc + 3) lv (v :: st) S) : rG c e d Q pc lv (.ref c.2.2.1 :: st) S :=
  ag_get hd hf (by show c.2.2.1 < c.2.2.2.1; have := ho.2; omega) (rH_0 _ _ _) hv kk
theorem rr_put (ho : rOK c) {i f : Nat} {v : Int32} {ty : FieldType} {S2 : rS} (hd : decode e.2.1 pc = .ok (.putfield i, 3)) (hf : am_pw e.1.cls i 10 f false ty) (hn : rT.findIdx? (fun q => q.1 == f) = none) (hv : ∀ g : am_P, narrow ty (am_tv g (.int v)) = am_tv g (.int v) ∧ fits ty (am_tv g (.int v)) = true) (hs : rsi S f 0 v = S2) (kk : rG c e d Q (pc + 3) lv st S2) : rG c e d Q pc lv (.int v :: .ref c.2.2.1 :: st) S := by
  subst hs
  refine ag_put hd hf (by show c.2.2.1 < c.2.2.2.1; have := ho.2; omega) ho.1 (rH_0 _ _ _) hv ?_
  rw [rH_ws hn]
  exact kk
theorem rk_lt (ho : rOK c) {k : Nat} {z : Nat × Nat × Nat} (hk : rT[k]? = some z) : c.2.2.1 + (k + 1) < c.2.2.2.1 := by
  have h1 : k < 42 := (List.getElem?_eq_some_iff.mp hk).1
  have := ho.2
  omega
theorem rr_il (ho : rOK c) {x : Int32} {k f n j : Nat} {v : Int32} (hd : decode e.2.1 pc = .ok (.iaload, 1)) (hk : rT[k]? = some (f, 20, n)) (hi : am_ix x j n) (hv : S.1 f j = v) (kk : rG c e d Q (pc + 1) lv (.int v :: st) S) : rG c e d Q pc lv (.int x :: .ref (c.2.2.1 + (k + 1)) :: st) S := by
  subst hv
  exact ag_iald hd (rk_lt ho hk) (rH_k hk) hi rfl kk
theorem rr_zl (ho : rOK c) {x : Int32} {k f n j : Nat} {v : Int32} (hd : decode e.2.1 pc = .ok (.baload, 1)) (hk : rT[k]? = some (f, 22, n)) (hi : am_ix x j n) (hv : S.1 f j = v) (kk : rG c e d Q (pc + 1) lv (.int v :: st) S) : rG c e d Q pc lv (.int x :: .ref (c.2.2.1 + (k + 1)) :: st) S := by
  subst hv
  exact ag_zald hd (rk_lt ho hk) (rH_k hk) hi rfl kk
theorem rr_ll (ho : rOK c) {x : Int32} {k f n j : Nat} {v : Int64} (hd : decode e.2.1 pc = .ok (.laload, 1)) (hk : rT[k]? = some (f, 21, n)) (hi : am_ix x j n) (hv : S.2 f j = v) (kk : rG c e d Q (pc + 1) lv (.long v :: st) S) : rG c e d Q pc lv (.int x :: .ref (c.2.2.1 + (k + 1)) :: st) S := by
  subst hv
  exact ag_lald hd (rk_lt ho hk) (rH_k hk) hi rfl kk
theorem rr_is (ho : rOK c) {x v : Int32} {k f n j : Nat} {S2 : rS} (hd : decode e.2.1 pc = .ok (.iastore, 1)) (hk : rT[k]? = some (f, 20, n)) (hi : am_ix x j n) (hs : rsi S f j v = S2) (kk : rG c e d Q (pc + 1) lv st S2) : rG c e d Q pc lv (.int v :: .int x :: .ref (c.2.2.1 + (k + 1)) :: st) S := by
  subst hs
  refine ag_iast hd (rk_lt ho hk) (by omega) (rH_k hk) hi ?_
  rw [rH_wi hk (by decide)]
  exact kk
theorem rr_zs (ho : rOK c) {x v : Int32} {k f n j : Nat} {S2 : rS} (hd : decode e.2.1 pc = .ok (.bastore, 1)) (hk : rT[k]? = some (f, 22, n)) (hi : am_ix x j n) (hb : rB v) (hs : rsi S f j v = S2) (kk : rG c e d Q (pc + 1) lv st S2) : rG c e d Q pc lv (.int v :: .int x :: .ref (c.2.2.1 + (k + 1)) :: st) S := by
  subst hs
  refine ag_zast hd (rk_lt ho hk) (by omega) (rH_k hk) hi (rB_n hb) ?_
  rw [rH_wi hk (by decide)]
  exact kk
theorem rr_ls (ho : rOK c) {x : Int32} {v : Int64} {k f n j : Nat} {S2 : rS} (hd : decode e.2.1 pc = .ok (.lastore, 1)) (hk : rT[k]? = some (f, 21, n)) (hi : am_ix x j n) (hs : rsj S f j v = S2) (kk : rG c e d Q (pc + 1) lv st S2) : rG c e d Q pc lv (.long v :: .int x :: .ref (c.2.2.1 + (k + 1)) :: st) S := by
  subst hs
  refine ag_last hd (rk_lt ho hk) (by omega) (rH_k hk) hi ?_
  rw [rH_wj hk]
  exact kk
/-- a call of a method of its own, and of a static one -/
theorem rr_call (ho : rOK c) {i n : Nat} {e2 : am_E} {as rest : List Value} (hd : decode e.2.1 pc = .ok (.invokevirtual i, 3)) (hm : am_me e2 n) (hi : am_mi e2 10) (hl : am_lk e.1.cls i e2) (hn : as.length = n) (hst : as.reverse ++ .ref c.2.2.1 :: rest = st) (hcat : (rest.map fun v => v.category).sum ≤ 8)
    (k : rM c d e2 (.ref c.2.2.1 :: as) S (fun v S' => rG c e (d + 1) Q (pc + 3) lv (v.toList ++ rest) S')) : rG c e (d + 1) Q pc lv st S :=
  ag_callV hd hm hi hl (by show c.2.2.1 < c.2.2.2.1; have := ho.2; omega) (by rw [rH_0]) hn hst hcat (am_Mt.mono k fun v h' ⟨S', h1, h2⟩ => by subst h1; exact h2)
theorem rr_calls {i n : Nat} {e2 : am_E} {as rest : List Value} (hd : decode e.2.1 pc = .ok (.invokestatic i, 3)) (hm : am_me e2 n) (hs : Cond.static e2.1 ∈ am_tbl) (hl : am_lk e.1.cls i e2) (hn : as.length = n) (hst : as.reverse ++ rest = st) (hcat : (rest.map fun v => v.category).sum ≤ 8)
    (k : rM c d e2 as S (fun v S' => rG c e (d + 1) Q (pc + 3) lv (v.toList ++ rest) S')) : rG c e (d + 1) Q pc lv st S :=
  ag_callS hd hm hs hl hn hst hcat (am_Mt.mono k fun v h' ⟨S', h1, h2⟩ => by subst h1; exact h2)
end RR
/-- a local that isn't needed any more -/
theorem ag_drop {g : am_P} {l : Launch} {e : am_E} {d : Nat} {Q : am_R → am_H → Prop} {pc : Nat} {lv : am_L} {st : List Value} {h : am_H} (i : Nat) (k : am_G g l e d Q pc (lv.set i none) st h) : am_G g l e d Q pc lv st h := by
  refine am_pure ?_ k
  intro x C H ls locs cells slots QQ hl kk
  exact kk ls hl.drop
