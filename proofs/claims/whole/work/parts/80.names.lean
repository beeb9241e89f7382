/-! The reference's checker as a function: views by names. -/
abbrev nV : Type := Nat → Nat
def nImp (g : nV) : Bool := (List.range 56).any fun p => g p == 0
def nZ : nV := fun _ => 0
def nNrm (g : nV) : nV := if nImp g = true then nZ else g
def nRes (g : nV) (p k : Nat) : nV := fun q => if q = p then g q &&& k else g q
def nAnd (g h : nV) : nV := fun q => g q &&& h q
def nOr (g h : nV) : nV := fun q => g q ||| h q
abbrev nF : Type := Nat × Option Nat × nV × nV
def nFin (t : Nat) (p : Option Nat) (y n : nV) : nF := (t, p, if t &&& 27 = 0 then nZ else nNrm y, if t &&& 4 = 0 then nZ else nNrm n)
def nDrop (g : nV) (x : Nat) : nV := if nImp g = true then g else fun q => if q / 7 = x then 31 else g q
def nFrom (g : nV) (P : Nat) (w : Int64) : Nat → nV
  | 0 => g
  | q + 1 => match rch P q with
    | none => nFrom g P w q
    | some p => nRes (nFrom g P w q) p (kd w q)
def nResO (g : nV) (o : Option Nat) (k : Nat) : nV := match o with
  | none => g
  | some p => nRes g p k
def nFromO (g : nV) (o : Option Nat) (w : Int64) : nV := match o with
  | none => g
  | some p => nFrom g p w 7
def nOwn (g : nV) (o : Option nV) : nV := match o with
  | none => g
  | some y => nAnd g y
def nIn (g : nV) (x t : Nat) : nV := fun q => if q / 7 = x then (if q = 7 * x then t else 31) else g q
def nHalf (f : nF) (q : Nat) (g : nV) : nF := match f.2.1.bind fun p => rch p q with
  | none => nFin (if f.1 = 0 then 0 else 31) none g g
  | some p => nFin (if f.1 = 0 then 0 else g p) (some p) (nRes g p 27) (nRes g p 4)
def nGone (o : Option Nat) (x : Nat) : Option Nat := match o with
  | none => none
  | some p => if p / 7 = x then none else some p
def nk (fx : fnT) (T : Nat → nd) : Nat → Nat → nV → (Nat → Nat) → (Nat → Option (nV × nV)) → Nat ⊕ nF
  | 0, n, _, _, _ => .inl (T n).2.1
  | k + 1, n, g, nm, ow =>
    if nImp g = true then .inr (0, none, nZ, nZ) else
    if (T n).1 = 78 ∨ (T n).1 = 66 ∨ (T n).1 = 69 ∨ (T n).1 = 80 then match nk fx T k (kid T n 0) g nm ow with
      | .inl e => .inl e
      | .inr f => .inr (nFin ((if f.1 &&& tkd (T n).1 ≠ 0 then 2 else 0) + (if f.1 &&& (31 - tkd (T n).1) ≠ 0 then 4 else 0)) none (nResO g f.2.1 (tkd (T n).1)) (nResO g f.2.1 (31 - tkd (T n).1)))
    else if (T n).1 = 33 then match nk fx T k (kid T n 0) g nm ow with
      | .inl e => .inl e
      | .inr f => .inr (nFin ((if nImp f.2.2.2 = true then 0 else 2) + (if nImp f.2.2.1 = true then 0 else 4)) none f.2.2.2 f.2.2.1)
    else if (T n).1 = 65 ∨ (T n).1 = 68 then match nk fx T k (kid T n 0) g nm ow with
      | .inl e => .inl e
      | .inr f => if f.1 &&& 15 ≠ 0 then .inl (T n).2.1 else .inr (nHalf f (if (T n).1 = 65 then 1 else 2) g)
    else if (T n).1 = 67 ∨ (T n).1 = 43 ∨ (T n).1 = 45 ∨ (T n).1 = 60 then match nk fx T k (kid T n 0) g nm ow with
      | .inl e => .inl e
      | .inr f => match nk fx T k (kid T n 1) g nm ow with
        | .inl e => .inl e
        | .inr f2 => if (T n).1 ≠ 67 ∧ (f.1 ||| f2.1) &&& 30 ≠ 0 then .inl (T n).2.1 else .inr (nFin (if (T n).1 = 67 then 16 else if (T n).1 = 60 then 6 else 1) none g g)
    else if (T n).1 = 63 then match nk fx T k (kid T n 0) g nm ow with
      | .inl e => .inl e
      | .inr f => match nk fx T k (kid T n 1) f.2.2.1 nm ow with
        | .inl e => .inl e
        | .inr f2 => match nk fx T k (kid T n 2) f.2.2.2 nm ow with
          | .inl e => .inl e
          | .inr f3 => .inr (nFin (f2.1 ||| f3.1) none (nOr f2.2.2.1 f3.2.2.1) (nOr f2.2.2.2 f3.2.2.2))
    else if (T n).1 = 38 then match nk fx T k (kid T n 0) g nm ow with
      | .inl e => .inl e
      | .inr f => match nk fx T k (kid T n 1) f.2.2.1 nm ow with
        | .inl e => .inl e
        | .inr f2 => .inr (nFin (f2.1 ||| (if nImp f.2.2.2 = true then 0 else 4)) none f2.2.2.1 (nOr f2.2.2.2 f.2.2.2))
    else if (T n).1 = 124 then match nk fx T k (kid T n 0) g nm ow with
      | .inl e => .inl e
      | .inr f => match nk fx T k (kid T n 1) f.2.2.2 nm ow with
        | .inl e => .inl e
        | .inr f2 => .inr (nFin ((f.1 &&& 27) ||| f2.1) none (nOr f.2.2.1 f2.2.2.1) f2.2.2.2)
    else if (T n).1 = 58 then match nk fx T k (kid T n 0) g nm ow with
      | .inl e => .inl e
      | .inr f => match f.2.1 with
        | none => match nk fx T k (kid T n 1) (nIn g (T n).2.2.1 f.1) (up nm (T n).2.2.1 (7 * (T n).2.2.1)) (up ow (T n).2.2.1 (some (f.2.2.1, f.2.2.2))) with
          | .inl e => .inl e
          | .inr f2 => .inr (nFin f2.1 (nGone f2.2.1 (T n).2.2.1) (nDrop f2.2.2.1 (T n).2.2.1) (nDrop f2.2.2.2 (T n).2.2.1))
        | some p => match nk fx T k (kid T n 1) g (up nm (T n).2.2.1 p) (up ow (T n).2.2.1 none) with
          | .inl e => .inl e
          | .inr f2 => .inr (nFin f2.1 f2.2.1 f2.2.2.1 f2.2.2.2)
    else if (T n).1 = 71 ∨ (T n).1 = 72 ∨ (T n).1 = 73 then match nk fx T k (kid T n 0) g nm ow with
      | .inl e => .inl e
      | .inr f => match fx ((T n).1 - 71) with
        | none => .inl (T n).2.1
        | some (pt, kk, y, no) => if f.1 &&& (31 - pt) ≠ 0 then .inl (T n).2.1 else .inr (nFin kk none (nFromO g f.2.1 y) (nFromO g f.2.1 no))
    else match (T n).2.2.2.1 with
      | none => .inr (nFin (ckConst (T n).1) none g g)
      | some _ => .inr (nFin (g (nm ((T n).1 - 97))) (some (nm ((T n).1 - 97))) (nOwn (nRes g (nm ((T n).1 - 97)) 27) ((ow ((T n).1 - 97)).map Prod.fst)) (nOwn (nRes g (nm ((T n).1 - 97)) 4) ((ow ((T n).1 - 97)).map Prod.snd)))
/-! Views by slots and views by names. -/
theorem nImp_t {g : nV} : nImp g = true ↔ ∃ p, p < 56 ∧ g p = 0 := by
  unfold nImp
  rw [List.any_eq_true]
  constructor
  · rintro ⟨p, h1, h2⟩
    exact ⟨p, List.mem_range.mp h1, by simpa using h2⟩
  · rintro ⟨p, h1, h2⟩
    exact ⟨p, List.mem_range.mpr h1, by simpa using h2⟩
theorem nImp_f {g : nV} : ¬ nImp g = true ↔ ∀ p, p < 56 → g p ≠ 0 := by
  rw [nImp_t]
  constructor
  · intro h p h1 h2; exact h ⟨p, h1, h2⟩
  · rintro h ⟨p, h1, h2⟩; exact h p h1 h2
def rlS (sv : Nat → Option Nat) (V : vT) (x q : Nat) : Nat := match sv x with
  | some s => av V (7 * s + q)
  | none => 31
def Rs (sv : Nat → Option Nat) (V : vT) (g : nV) : Prop := ∀ x, x < 8 → ∀ q, q < 7 → g (7 * x + q) = rlS sv V x q
def Rl (sv : Nat → Option Nat) (V : vT) (g : nV) : Prop := (V.1 = 1 ∧ ∀ p, p < 56 → g p = 0) ∨ (V.1 = 0 ∧ Rs sv V g)
def Rp (sv : Nat → Option Nat) (V : vT) (g : nV) : Prop := (V.1 = 1 ∧ nImp g = true) ∨ (V.1 = 0 ∧ Rs sv V g)
def svO (sv : Nat → Option Nat) : Prop := (∀ x s, sv x = some s → x < 8 ∧ s < 17) ∧ ∀ x y s, sv x = some s → sv y = some s → x = y
section REL
variable {sv : Nat → Option Nat} {V W : vT} {g h : nV}
theorem Rs.nz (hs : svO sv) (hV : vok V) (h0 : V.1 = 0) (hr : Rs sv V g) : ¬ nImp g = true := by
  rw [nImp_f]
  intro p hp
  have e := hr (p / 7) (by omega) (p % 7) (Nat.mod_lt _ (by decide))
  rw [show 7 * (p / 7) + p % 7 = p by omega] at e
  rw [e]
  unfold rlS
  cases hx : sv (p / 7) with
  | none => exact (show (31 : Nat) ≠ 0 by decide)
  | some s =>
    have := hs.1 _ _ hx
    rcases hV with hV | hV
    · exact hV.2 _ (by omega)
    · rw [hV.1] at h0; exact absurd h0 (by decide)
theorem Rl.imp (hs : svO sv) (hV : vok V) (hr : Rl sv V g) : V.1 = 1 ↔ nImp g = true := by
  rcases hr with ⟨h1, h2⟩ | ⟨h1, h2⟩
  · exact ⟨fun _ => nImp_t.mpr ⟨0, by decide, h2 0 (by decide)⟩, fun _ => h1⟩
  · refine ⟨fun z => ?_, fun z => absurd z (Rs.nz hs hV h1 h2)⟩
    rw [h1] at z; exact absurd z (by decide)
theorem Rl.p (hr : Rl sv V g) : Rp sv V g := by
  rcases hr with ⟨h1, h2⟩ | h2
  · exact Or.inl ⟨h1, nImp_t.mpr ⟨0, by decide, h2 0 (by decide)⟩⟩
  · exact Or.inr h2
theorem Rp.n (hs : svO sv) (hV : vok V) (hr : Rp sv V g) : Rl sv V (nNrm g) := by
  unfold nNrm
  rcases hr with ⟨h1, h2⟩ | ⟨h1, h2⟩
  · rw [if_pos h2]; exact Or.inl ⟨h1, fun _ _ => rfl⟩
  · rw [if_neg (Rs.nz hs hV h1 h2)]; exact Or.inr ⟨h1, h2⟩
theorem vok_no : vok vNo := Or.inr ⟨rfl, fun p _ => by unfold av vNo kd; simp⟩
theorem Rl_no : Rl sv vNo nZ := Or.inl ⟨rfl, fun _ _ => rfl⟩
theorem vok.c (h : vok V) : V.1 = 0 ∨ V.1 = 1 := by rcases h with h | h; exact Or.inl h.1; exact Or.inr h.1
theorem vok.nz (h : vok V) (h0 : V.1 = 0) : ∀ p, p < 119 → av V p ≠ 0 := by
  rcases h with h | h
  · exact h.2
  · rw [h.1] at h0; exact absurd h0 (by decide)
theorem vok.z (h : vok V) (h0 : V.1 = 1) : ∀ p, p < 119 → av V p = 0 := by
  rcases h with h | h
  · rw [h.1] at h0; exact absurd h0 (by decide)
  · exact h.2
/-- a place of a slot in view and the same by name -/
def pR (sv : Nat → Option Nat) (p p' : Nat) : Prop := ∃ x s q, sv x = some s ∧ q < 7 ∧ p = 7 * s + q ∧ p' = 7 * x + q
theorem pR.lt (hs : svO sv) {p p' : Nat} (h : pR sv p p') : p < 119 ∧ p' < 56 := by
  obtain ⟨x, s, q, h1, h2, h3, h4⟩ := h
  have := hs.1 _ _ h1
  omega
theorem Rs.at (hr : Rs sv V g) (hs : svO sv) {p p' : Nat} (h : pR sv p p') : g p' = av V p := by
  obtain ⟨x, s, q, h1, h2, h3, h4⟩ := h
  have := hs.1 _ _ h1
  rw [h4, h3, hr x (by omega) q h2]
  unfold rlS
  rw [h1]
theorem Rp.res (hs : svO sv) (hV : vok V) (hr : Rp sv V g) {p p' k : Nat} (hp : pR sv p p') (hk : k < 32) : vok (vRes V p k) ∧ Rp sv (vRes V p k) (nRes g p' k) := by
  have hlt := hp.lt hs
  obtain ⟨r1, r2⟩ := av_res hV hlt.1 hk
  refine ⟨r1, ?_⟩
  rcases hr with ⟨h1, h2⟩ | ⟨h1, h2⟩
  · have z := hV.z h1 p hlt.1
    rcases r2 with ⟨_, b⟩ | ⟨a, _⟩
    · refine Or.inl ⟨b, ?_⟩
      obtain ⟨q, q1, q2⟩ := nImp_t.mp h2
      refine nImp_t.mpr ⟨q, q1, ?_⟩
      unfold nRes
      split
      · rw [q2]; exact Nat.zero_and _
      · exact q2
    · rw [z, Nat.zero_and] at a; exact absurd rfl a
  · have ep := h2.at hs hp
    rcases r2 with ⟨a, b⟩ | ⟨a, b, c⟩
    · refine Or.inl ⟨b, nImp_t.mpr ⟨p', hlt.2, ?_⟩⟩
      unfold nRes
      rw [if_pos rfl, ep]
      exact a
    · refine Or.inr ⟨b, fun x hx q hq => ?_⟩
      obtain ⟨x0, s0, q0, e1, e2, e3, e4⟩ := hp
      have l0 := hs.1 _ _ e1
      have ex := h2 x hx q hq
      unfold nRes rlS
      unfold rlS at ex
      cases hx' : sv x with
      | none =>
        rw [hx'] at ex
        have : ¬ 7 * x + q = p' := by
          intro z
          have : x = x0 := by omega
          subst this
          rw [hx'] at e1; cases e1
        rw [if_neg this]
        exact ex
      | some s =>
        rw [hx'] at ex
        simp only at ex
        have l1 := hs.1 _ _ hx'
        simp only
        rw [c _ (by omega)]
        by_cases z : 7 * x + q = p'
        · have z1 : x = x0 := by omega
          subst z1
          rw [hx'] at e1
          injection e1 with e1
          rw [if_pos z, if_pos (by omega), ex, show 7 * s + q = p by omega]
        · have z2 : ¬ 7 * s + q = p := by
            intro w
            have : s = s0 := by omega
            subst this
            have := hs.2 _ _ _ hx' e1
            omega
          rw [if_neg z, if_neg z2]
          exact ex
theorem Rl.or (hV : vok V) (hW : vok W) (hr : Rl sv V g) (hr2 : Rl sv W h) (hs : svO sv) : vok (vEither V W) ∧ Rl sv (vEither V W) (nOr g h) := by
  have e := av_or V W
  rcases hr with ⟨h1, h2⟩ | ⟨h1, h2⟩
  · rcases hr2 with ⟨k1, k2⟩ | ⟨k1, k2⟩
    · have f : (vEither V W).1 = 1 := by show (if _ then (1 : Int32) else 0) = 1; rw [if_pos ⟨by rw [h1]; decide, by rw [k1]; decide⟩]
      refine ⟨Or.inr ⟨f, fun p hp => ?_⟩, Or.inl ⟨f, fun p hp => ?_⟩⟩
      · rw [e, hV.z h1 p hp, hW.z k1 p hp]; rfl
      · show g p ||| h p = 0
        rw [h2 p hp, k2 p hp]; rfl
    · have f : (vEither V W).1 = 0 := by show (if _ then (1 : Int32) else 0) = 0; rw [if_neg (fun z => z.2 k1)]
      refine ⟨Or.inl ⟨f, fun p hp => ?_⟩, Or.inr ⟨f, fun x hx q hq => ?_⟩⟩
      · rw [e, hV.z h1 p hp, Nat.zero_or]; exact hW.nz k1 p hp
      · show g _ ||| h _ = _
        rw [h2 _ (by omega), Nat.zero_or, k2 x hx q hq]
        unfold rlS
        cases hx' : sv x with
        | none => rfl
        | some s =>
          have l1 := hs.1 _ _ hx'
          simp only
          rw [e, hV.z h1 _ (by omega), Nat.zero_or]
  · have f : (vEither V W).1 = 0 := by show (if _ then (1 : Int32) else 0) = 0; rw [if_neg (fun z => z.1 h1)]
    refine ⟨Or.inl ⟨f, fun p hp z => ?_⟩, Or.inr ⟨f, fun x hx q hq => ?_⟩⟩
    · rw [e] at z
      exact hV.nz h1 p hp ((or_0 z).1)
    · show g _ ||| h _ = _
      rcases hr2 with ⟨k1, k2⟩ | ⟨k1, k2⟩
      · rw [k2 _ (by omega), Nat.or_zero, h2 x hx q hq]
        unfold rlS
        cases hx' : sv x with
        | none => rfl
        | some s =>
          have l1 := hs.1 _ _ hx'
          simp only
          rw [e, hW.z k1 _ (by omega), Nat.or_zero]
      · rw [k2 x hx q hq, h2 x hx q hq]
        unfold rlS
        cases hx' : sv x with
        | none => exact (show (31 : Nat) ||| 31 = 31 by decide)
        | some s => exact (e _).symm
end REL
