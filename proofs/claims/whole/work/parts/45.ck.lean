/-! What the class's checker finds, as a function of tables. -/
/-- kinds, perhaps a place, the two views -/
abbrev gF : Type := Nat × Option Nat × vT × vT
def toF (g : gF) : fT := (nI g.1, rfI g.2.1, g.2.2.1, g.2.2.2)
def gSet (g : gF) : gF := (g.1, g.2.1, if g.1 &&& 27 = 0 then vNo else g.2.2.1, if g.1 &&& 4 = 0 then vNo else g.2.2.2)
/-- a function as the checker knows it: its parameter's type, its kinds, what its views say of the parameter -/
abbrev fnT : Type := Nat → Option (Nat × Nat × Int64 × Int64)
def kid (T : Nat → nd) (n i : Nat) : Nat := (T n).2.2.2.2.getD i 0
def ckTest (f : gF) (q : Nat) (V : vT) : gF := ((if f.1 &&& q ≠ 0 then 2 else 0) + (if f.1 &&& (31 - q) ≠ 0 then 4 else 0), none, match f.2.1 with
  | none => V
  | some p => vRes V p q, match f.2.1 with
  | none => V
  | some p => vRes V p (31 - q))
def ckNot (f : gF) : gF := ((if f.2.2.2.1 ≠ 0 then 0 else 2) + (if f.2.2.1.1 ≠ 0 then 0 else 4), none, f.2.2.2, f.2.2.1)
def gPl (V : vT) (p : Nat) : gF := (kd (V.2 (p / 7)) (p % 7), some p, vRes V p 27, vRes V p 4)
def ckHalf (f : gF) (q : Nat) (V : vT) : gF := match f.2.1.bind fun p => rch p q with
  | none => (if f.1 = 0 then 0 else 31, none, V, V)
  | some p => if f.1 = 0 then (0, none, V, V) else gPl V p
def ckVar (V : vT) (p : Nat) (m : Option (vT × vT)) : gF := match m with
  | none => gPl V p
  | some (Y, N) => ((gPl V p).1, some p, vBoth (vRes V p 27) Y, vBoth (vRes V p 4) N)
def ckLet (f : gF) (s : Nat) : gF := (f.1, match f.2.1 with
  | none => none
  | some p => if p / 7 = s then none else some p, f.2.2.1, f.2.2.2)
def ckCall (f : gF) (k : Nat) (y n : Int64) (V : vT) : gF := (k, none, match f.2.1 with
  | none => V
  | some p => vFrom V p y 7, match f.2.1 with
  | none => V
  | some p => vFrom V p n 7)
def ckConst (op : Nat) : Nat := if op = 35 then 2 else if op = 126 then 4 else if op = 46 then 8 else 1
def up {α : Type} (f : Nat → α) (i : Nat) (v : α) : Nat → α := fun j => if j = i then v else f j
/-- the checker: a fault's place, or what it finds -/
def ck (fx : fnT) (T : Nat → nd) : Nat → Nat → vT → (Nat → Nat) → (Nat → Option (vT × vT)) → Nat ⊕ gF
  | 0, n, _, _, _ => .inl (T n).2.1
  | k + 1, n, V, pl, rm =>
    if V.1 ≠ 0 then .inr (0, none, vNo, vNo) else
    if (T n).1 = 78 ∨ (T n).1 = 66 ∨ (T n).1 = 69 ∨ (T n).1 = 80 then match ck fx T k (kid T n 0) V pl rm with
      | .inl e => .inl e
      | .inr f => .inr (gSet (ckTest f (tkd (T n).1) V))
    else if (T n).1 = 33 then match ck fx T k (kid T n 0) V pl rm with
      | .inl e => .inl e
      | .inr f => .inr (gSet (ckNot f))
    else if (T n).1 = 65 ∨ (T n).1 = 68 then match ck fx T k (kid T n 0) V pl rm with
      | .inl e => .inl e
      | .inr f => if f.1 &&& 15 ≠ 0 then .inl (T n).2.1 else .inr (gSet (ckHalf f (if (T n).1 = 65 then 1 else 2) V))
    else if (T n).1 = 67 ∨ (T n).1 = 43 ∨ (T n).1 = 45 ∨ (T n).1 = 60 then match ck fx T k (kid T n 0) V pl rm with
      | .inl e => .inl e
      | .inr f => match ck fx T k (kid T n 1) V pl rm with
        | .inl e => .inl e
        | .inr f2 => if (T n).1 ≠ 67 ∧ (f.1 ||| f2.1) &&& 30 ≠ 0 then .inl (T n).2.1 else .inr (gSet (if (T n).1 = 67 then 16 else if (T n).1 = 60 then 6 else 1, none, V, V))
    else if (T n).1 = 63 then match ck fx T k (kid T n 0) V pl rm with
      | .inl e => .inl e
      | .inr f => match ck fx T k (kid T n 1) f.2.2.1 pl rm with
        | .inl e => .inl e
        | .inr f2 => match ck fx T k (kid T n 2) f.2.2.2 pl rm with
          | .inl e => .inl e
          | .inr f3 => .inr (gSet (f2.1 ||| f3.1, none, vEither f2.2.2.1 f3.2.2.1, vEither f2.2.2.2 f3.2.2.2))
    else if (T n).1 = 38 then match ck fx T k (kid T n 0) V pl rm with
      | .inl e => .inl e
      | .inr f => match ck fx T k (kid T n 1) f.2.2.1 pl rm with
        | .inl e => .inl e
        | .inr f2 => .inr (gSet (f2.1 ||| (if f.2.2.2.1 ≠ 0 then 0 else 4), none, f2.2.2.1, vEither f2.2.2.2 f.2.2.2))
    else if (T n).1 = 124 then match ck fx T k (kid T n 0) V pl rm with
      | .inl e => .inl e
      | .inr f => match ck fx T k (kid T n 1) f.2.2.2 pl rm with
        | .inl e => .inl e
        | .inr f2 => .inr (gSet ((f.1 &&& 27) ||| f2.1, none, vEither f.2.2.1 f2.2.2.1, f2.2.2.2))
    else if (T n).1 = 58 then match ck fx T k (kid T n 0) V pl rm with
      | .inl e => .inl e
      | .inr f => match (T n).2.2.2.1 with
        | none => .inl (T n).2.1
        | some s => match f.2.1 with
          | none => match ck fx T k (kid T n 1) (vRes V (7 * s) f.1) (up pl s (7 * s)) (up rm s (some (f.2.2.1, f.2.2.2))) with
            | .inl e => .inl e
            | .inr f2 => .inr (gSet (ckLet f2 s))
          | some p => match ck fx T k (kid T n 1) V (up pl s p) (up rm s none) with
            | .inl e => .inl e
            | .inr f2 => .inr (gSet (ckLet f2 s))
    else if (T n).1 = 71 ∨ (T n).1 = 72 ∨ (T n).1 = 73 then match ck fx T k (kid T n 0) V pl rm with
      | .inl e => .inl e
      | .inr f => match fx ((T n).1 - 71) with
        | none => .inl (T n).2.1
        | some (pt, kk, y, no) => if f.1 &&& (31 - pt) ≠ 0 then .inl (T n).2.1 else .inr (gSet (ckCall f kk y no V))
    else match (T n).2.2.2.1 with
      | none => .inr (gSet (ckConst (T n).1, none, V, V))
      | some s => .inr (gSet (ckVar V (pl s) (rm s)))
/-- a table as the reader makes it: the node n, whose parts are the nodes from lo on, binds the slots sl .. sh - 1; the slots sc are in scope -/
def wt (T : Nat → nd) : Nat → Nat → Nat → Nat → Nat → List Nat → Prop
  | 0, _, _, _, _, _ => False
  | k + 1, n, lo, sl, sh, sc => n < 60 ∧ lo ≤ n ∧ sl ≤ sh ∧ sh ≤ 17 ∧ (T n).1 < 65536 ∧ (T n).2.1 < 100 ∧ match (T n).2.2.2.2 with
    | [] => lo = n ∧ sl = sh ∧ (∀ s, (T n).2.2.2.1 = some s → s ∈ sc) ∧ ¬ (T n).1 ∈ [78, 66, 69, 80, 33, 65, 68, 67, 43, 45, 60, 63, 38, 124, 58, 71, 72, 73]
    | [a] => (T n).1 ∈ [78, 66, 69, 80, 33, 65, 68, 71, 72, 73] ∧ (T n).2.2.2.1 = none ∧ n = a + 1 ∧ wt T k a lo sl sh sc
    | [a, b] => n = b + 1 ∧ a < b ∧ (((T n).1 ∈ [67, 43, 45, 60, 38, 124] ∧ (T n).2.2.2.1 = none ∧ ∃ m, wt T k a lo sl m sc ∧ wt T k b (a + 1) m sh sc) ∨ ((T n).1 = 58 ∧ ∃ s, (T n).2.2.2.1 = some s ∧ wt T k a lo sl s sc ∧ wt T k b (a + 1) (s + 1) sh (s :: sc)))
    | [a, b, c] => (T n).1 = 63 ∧ (T n).2.2.2.1 = none ∧ n = c + 1 ∧ a < b ∧ b < c ∧ ∃ m m2, wt T k a lo sl m sc ∧ wt T k b (a + 1) m m2 sc ∧ wt T k c (b + 1) m2 sh sc
    | _ => False
/-- the functions stand in the cell 4 -/
def FXr (C : cS) (fx : fnT) : Prop := cT C 4 26 3 ∧ cR C 5 5 = some 4 ∧ ∀ i, i < 3 → match fx i with
  | none => cR C 4 i = none
  | some (pt, k, y, n) => pt < 32 ∧ k < 32 ∧ ∃ fa, 400 ≤ fa ∧ cR C 4 i = some fa ∧ cT C fa 3 5 ∧ cI C fa 1 = nI pt ∧ cI C fa 2 = nI k ∧ cJ C fa 3 = y ∧ cJ C fa 4 = n
theorem FXr.x {fx : fnT} {lo hi sl sh : Nat} {A B : cS} (h : FXr A fx) (k : xfr lo hi sl sh A B) (hh : hi ≤ 60 ∧ sh ≤ 17) : FXr B fx := by
  refine ⟨k.T h.1, by rw [k.2.2.2.1 5 5 (by omega)]; exact h.2.1, fun i hi => ?_⟩
  have h3 := h.2.2 i hi
  cases e : fx i with
  | none =>
    rw [e] at h3
    show cR B 4 i = none
    rw [k.2.2.2.1 4 i (by omega)]
    exact h3
  | some z =>
    obtain ⟨pt, kk, y, n⟩ := z
    rw [e] at h3
    obtain ⟨p1, p2, fa, p3, p4, p5, p6, p7, p8, p9⟩ := h3
    exact ⟨p1, p2, fa, p3, by rw [k.2.2.2.1 4 i (by omega)]; exact p4, k.T p5, by rw [k.2.2.2.2.1 fa 1 (by omega) (by omega) (by omega) (by omega)]; exact p6, by rw [k.2.2.2.2.1 fa 2 (by omega) (by omega) (by omega) (by omega)]; exact p7, by rw [k.2.2.2.2.2 fa 3 (by omega) (by omega)]; exact p8, by rw [k.2.2.2.2.2 fa 4 (by omega) (by omega)]; exact p9⟩
/-- the slots in scope: their places, what they remember (of nodes below lo) -/
def ENV (C : cS) (sc : List Nat) (sl lo : Nat) (pl : Nat → Nat) (rm : Nat → Option (vT × vT)) : Prop := ∀ s, s ∈ sc → s < sl ∧ pl s < 119 ∧ cI C 8 s = nI (pl s) ∧ match rm s with
  | none => cR C 9 s = none
  | some (Y, N) => ∃ m, m < lo ∧ m < 60 ∧ cR C 9 s = some (12 + 5 * m) ∧ gvn C (12 + 5 * m + 1) = Y ∧ gvn C (12 + 5 * m + 3) = N
theorem ENV.x {sc : List Nat} {sl lo lo' hi sl' sh : Nat} {pl : Nat → Nat} {rm : Nat → Option (vT × vT)} {A B : cS} (h : ENV A sc sl lo pl rm) (k : xfr lo' hi sl' sh A B) (hl : lo ≤ lo') (hs' : sl ≤ sl') (hh : sl ≤ 17) : ENV B sc sl lo pl rm := by
  intro s hs
  obtain ⟨h0, h1, h2, h3⟩ := h s hs
  refine ⟨h0, h1, by rw [k.2.2.2.2.1 8 s (by omega) (by omega) (by omega) (by omega)]; exact h2, ?_⟩
  cases e : rm s with
  | none =>
    rw [e] at h3
    show cR B 9 s = none
    rw [k.2.2.2.1 9 s (by omega)]
    exact h3
  | some z =>
    obtain ⟨Y, N⟩ := z
    rw [e] at h3
    obtain ⟨m, m1, m2, m3, m4, m5⟩ := h3
    exact ⟨m, m1, m2, by rw [k.2.2.2.1 9 s (by omega)]; exact m3, by rw [gvn_x k (by omega) (by omega) (by omega)]; exact m4, by rw [gvn_x k (by omega) (by omega) (by omega)]; exact m5⟩
theorem ENV.mono {sc : List Nat} {sl sl' lo lo' : Nat} {pl : Nat → Nat} {rm : Nat → Option (vT × vT)} {A : cS} (h : ENV A sc sl lo pl rm) (h1 : sl ≤ sl') (h2 : lo ≤ lo') : ENV A sc sl' lo' pl rm := by
  intro s hs
  obtain ⟨q0, q1, q2, q3⟩ := h s hs
  refine ⟨by omega, q1, q2, ?_⟩
  cases e : rm s with
  | none => rw [e] at q3; exact q3
  | some z =>
    rw [e] at q3
    obtain ⟨m, m1, m2⟩ := q3
    exact ⟨m, by omega, m2⟩
/-- what holds of a finding -/
def gok (g : gF) : Prop := g.1 < 32 ∧ (∀ p, g.2.1 = some p → p < 119) ∧ rB g.2.2.1.1 ∧ rB g.2.2.2.1
/-- what a check stands on -/
def exB (C : cS) (fx : fnT) (T : Nat → nd) (nb lo n sl : Nat) (sc : List Nat) (pl : Nat → Nat) (rm : Nat → Option (vT × vT)) : Prop := CHK C ∧ FXr C fx ∧ (∀ m, lo ≤ m → m ≤ n → nAt C nb T m) ∧ 400 ≤ nb ∧ ENV C sc sl lo pl rm
theorem exB.x {C C1 : cS} {fx : fnT} {T : Nat → nd} {nb lo n sl hi sh : Nat} {sc : List Nat} {pl : Nat → Nat} {rm : Nat → Option (vT × vT)} (h : exB C fx T nb lo n sl sc pl rm) (k : xfr lo hi sl sh C C1) (h1 : hi ≤ 60) (h2 : sh ≤ 17) (h3 : sl ≤ 17) : exB C1 fx T nb lo n sl sc pl rm :=
  ⟨h.1.x k, h.2.1.x k ⟨h1, h2⟩, fun m a b => (h.2.2.1 m a b).x k h.2.2.2.1 ⟨h1, h2⟩, h.2.2.2.1, h.2.2.2.2.x k (Nat.le_refl _) (Nat.le_refl _) h3⟩
/-- where a view may stand that a check reads -/
def exV (C : cS) (tv lo sl : Nat) : Prop := VA C tv ∧ rB (gvn C tv).1 ∧ (tv = 10 ∨ (12 ≤ tv ∧ tv + 1 < 12 + 5 * lo) ∨ (312 ≤ tv ∧ tv + 1 < 312 + 2 * sl))
/-- the contract of examine at k levels -/
def exC (D : Nat) (c : cX) (fx : fnT) (T : Nat → nd) (nb k : Nat) : Prop := ∀ (C : cS) (K : Option Value → cS → Prop) (n lo sl sh dp tv : Nat) (sc : List Nat) (pl : Nat → Nat) (rm : Nat → Option (vT × vT)), wt T k n lo sl sh sc → exB C fx T nb lo n sl sc pl rm → exV C tv lo sl → dp + k ≤ 41 →
  (match ck fx T k n (gvn C tv) pl rm with
    | .inl e => ∀ C', xfr lo (n + 1) sl sh C C' → cI C' 5 6 = nI e → K (some (va_rf none)) C'
    | .inr g => ∀ C', xfr lo (n + 1) sl sh C C' → gf C' (12 + 5 * n) = toF g → gok g → K (some (va_rf (some (12 + 5 * n)))) C') →
  cM c (D + 3 * k + 5) eX1_examine [.ref 5, .ref (nb + n), .ref tv, .int (nI dp)] C K
