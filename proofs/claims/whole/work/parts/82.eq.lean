/-! The checker by slots and the checker by names agree. -/
/-- names and slots agree in a text -/
def wn (T : Nat → nd) : Nat → Nat → (Nat → Option Nat) → Prop
  | 0, _, _ => False
  | k + 1, n, sm => match (T n).2.2.2.2 with
    | [] => ∀ s, (T n).2.2.2.1 = some s → sm ((T n).1 - 97) = some s
    | [a] => wn T k a sm
    | [a, b] => wn T k a sm ∧ (((T n).1 ≠ 58 ∧ wn T k b sm) ∨ ((T n).1 = 58 ∧ (T n).2.2.1 < 8 ∧ sm (T n).2.2.1 = none ∧ wn T k b (up sm (T n).2.2.1 (T n).2.2.2.1)))
    | [a, b, c] => wn T k a sm ∧ wn T k b sm ∧ wn T k c sm
    | _ => False
def oR (sv : Nat → Option Nat) (o o' : Option Nat) : Prop := (o = none ∧ o' = none) ∨ ∃ p p', o = some p ∧ o' = some p' ∧ pR sv p p'
/-- what both find of a node -/
def FR (sv : Nat → Option Nat) (sl sh : Nat) (τ : tiT) (F : gF) (F' : nF) : Prop := F.1 = F'.1 ∧ F.1 < 32 ∧ oR sv F.2.1 F'.2.1 ∧ (F.1 = 0 → F.2.1 = none) ∧ WR sv sl sh τ F.2.2.1 F'.2.2.1 ∧ WR sv sl sh τ F.2.2.2 F'.2.2.2
def fnO (fx : fnT) : Prop := ∀ i pt kk y n, fx i = some (pt, kk, y, n) → pt < 32 ∧ kk < 32
section EQS
variable {sm sv : Nat → Option Nat} {sl sh m : Nat} {τ : tiT} {pl : Nat → Nat} {rm : Nat → Option (vT × vT)} {nm : Nat → Nat} {ow : Nat → Option (nV × nV)} {V W Y N : vT} {g h Y' N' : nV}
theorem FR.fin (hX : CX sm sv sl τ pl rm nm ow) {t : Nat} {o o' : Option Nat} (ht : t < 32) (ho : oR sv o o') (h0 : t = 0 → o = none) (hY : WP sv sl sh τ Y Y') (hN : WP sv sl sh τ N N') : FR sv sl sh τ (gSet (t, o, Y, N)) (nFin t o' Y' N') := by
  refine ⟨rfl, ht, ho, h0, ?_, ?_⟩
  · show WR sv sl sh τ (if t &&& 27 = 0 then vNo else Y) (if t &&& 27 = 0 then nZ else nNrm Y')
    split
    · exact WR_no hX.t
    · exact hY.n hX.1
  · show WR sv sl sh τ (if t &&& 4 = 0 then vNo else N) (if t &&& 4 = 0 then nZ else nNrm N')
    split
    · exact WR_no hX.t
    · exact hN.n hX.1
theorem WP.wide (k : WP sv sl sh τ V g) (h : sh ≤ m) : WP sv sl m τ V g := ⟨k.1, k.2.1, fun z p p1 p2 => k.2.2.1 z p (by omega) p2, k.2.2.2⟩
theorem WR.wide (k : WR sv sl sh τ V g) (h : sh ≤ m) : WR sv sl m τ V g := ⟨k.1, k.2.1, fun z p p1 p2 => k.2.2.1 z p (by omega) p2, k.2.2.2⟩
/-- slots that were bound and left: they say what they say -/
def tiC (τ : tiT) (sl : Nat) (A : Nat → Nat) : tiT := fun p => if p < 7 * sl then τ p else (0, A p, A p)
theorem CX.step (hX : CX sm sv sl τ pl rm nm ow) (h1 : sl ≤ m) (h2 : m ≤ 17) {A : Nat → Nat} (hA : ∀ p, A p ≠ 0 ∧ A p < 32) : CX sm sv m (tiC τ sl A) pl rm nm ow := by
  obtain ⟨x1, x2, x3, x4, x5, x6⟩ := hX
  have old : ∀ p, p < 7 * sl → tiC τ sl A p = τ p := fun p hp => if_pos hp
  have new : ∀ p, ¬ p < 7 * sl → tiC τ sl A p = (0, A p, A p) := fun p hp => if_neg hp
  have own : ∀ s sel Y Y', s ≠ 0 → OW sv sl τ s sel Y Y' → OW sv m (tiC τ sl A) s sel Y Y' := by
    intro s sel Y Y' hs0 k
    refine ⟨k.1, k.2.1, fun z p p1 p2 => k.2.2.1 z p (by omega) p2, fun p hp => ?_⟩
    by_cases q : p < 7 * sl
    · rw [old p q]; exact k.2.2.2 p ⟨q, hp.2⟩
    · rw [new p q]
      have p119 : p < 119 := by have := hp.1; omega
      refine ⟨fun z => absurd z.symm hs0, fun _ => ?_⟩
      rcases k.1.c with w | w
      · have e := k.2.2.1 w p (by omega) p119
        unfold LBp
        rw [e]
        exact ⟨fun _ => k_31 _ (hA p).2, fun _ => k_31 _ (hA p).2⟩
      · exact LB_z k.1 w _ (show 0 < 17 by decide) p
  refine ⟨x1, h2, fun x s e => ⟨by have := (x3 x s e).1; omega, (x3 x s e).2⟩, x4, fun p hp => ?_, fun x s e => ?_⟩
  · by_cases q : p < 7 * sl
    · rw [old p q]; exact x5 p ⟨q, hp.2⟩
    · rw [new p q]; exact ⟨(hA p).1, (hA p).1, x4⟩
  · obtain ⟨a1, a2, a3, a4⟩ := x6 x s e
    refine ⟨a1, by omega, a3, ?_⟩
    rcases a4 with a4 | ⟨Y, N, Y', N', b1, b2, b3, b4, b5, b6, b7, b8⟩
    · exact Or.inl a4
    · exact Or.inr ⟨Y, N, Y', N', b1, b2, b3, b4, b5, b6, own s _ Y Y' b6 b7, own s _ N N' b6 b8⟩
theorem WP.step (k : WP sv sl m τ V g) {A : Nat → Nat} (hA : ∀ p, 7 * sl ≤ p → p < 7 * m → LBp (0, A p, A p) V p) : WP sv m m (tiC τ sl A) V g := by
  refine ⟨k.1, k.2.1, k.2.2.1, fun p hp => ?_⟩
  by_cases q : p < 7 * sl
  · rw [show tiC τ sl A p = τ p from if_pos q]; exact k.2.2.2 p ⟨q, hp.2⟩
  · rw [show tiC τ sl A p = (0, A p, A p) from if_neg q]; exact hA p (by omega) hp.1
theorem WR.back {A : Nat → Nat} (k : WR sv m sh (tiC τ sl A) V g) (h1 : sl ≤ m) : WR sv sl sh τ V g := ⟨k.1, k.2.1, k.2.2.1, fun p hp => by
  have := k.2.2.2 p ⟨by have := hp.1; omega, hp.2⟩
  rw [show tiC τ sl A p = τ p from if_pos hp.1] at this
  exact this⟩
theorem FR.back {F : gF} {F' : nF} {A : Nat → Nat} (k : FR sv m sh (tiC τ sl A) F F') (h1 : sl ≤ m) : FR sv sl sh τ F F' := ⟨k.1, k.2.1, k.2.2.1, k.2.2.2.1, k.2.2.2.2.1.back h1, k.2.2.2.2.2.back h1⟩
def avA (V : vT) : Nat → Nat := fun p => if V.1 = 0 ∧ p < 119 then av V p else 31
theorem avA_ok (hV : vok V) (p : Nat) : avA V p ≠ 0 ∧ avA V p < 32 := by
  unfold avA
  split
  · rename_i q; exact ⟨hV.nz q.1 p q.2, av_lt _ _⟩
  · exact ⟨by decide, by decide⟩
theorem avA_lb (hV : vok V) {p : Nat} (hp : p < 119) : LBp (0, avA V p, avA V p) V p := by
  rcases hV.c with w | w
  · have e : avA V p = av V p := if_pos ⟨w, hp⟩
    rw [e]
    exact ⟨fun _ => Nat.and_self _, fun _ => Nat.and_self _⟩
  · exact LB_z hV w _ (show 0 < 17 by decide) p
/-- a name bound to a place -/
theorem CX.kin (hX : CX sm sv sl τ pl rm nm ow) (h1 : sl ≤ m) (h2 : m < 17) {x p p' : Nat} (hx : x < 8) (hn : sm x = none) (hp : pR sv p p') : CX (up sm x (some m)) sv (m + 1) (tiC τ sl fun _ => 31) (up pl m p) (up rm m none) (up nm x p') (up ow x none) := by
  obtain ⟨x1, x2, x3, x4, x5, x6⟩ := CX.step hX (m := m + 1) (by omega) (by omega) (A := fun _ => 31) (fun _ => ⟨by decide, by decide⟩)
  refine ⟨x1, x2, fun y s e => ⟨(x3 y s e).1, ?_⟩, x4, x5, fun y s e => ?_⟩
  · have := (x3 y s e).2
    by_cases z : y = x
    · subst z; rw [hn] at this; cases this
    · rw [up_ne _ _ z]; exact this
  · by_cases z : y = x
    · subst z
      rw [up_same] at e
      injection e with e
      subst e
      exact ⟨hx, by omega, by rw [up_same, up_same]; exact hp, Or.inl ⟨up_same _ _ _, up_same _ _ _⟩⟩
    · rw [up_ne _ _ z] at e
      have hs : s < sl := (hX.2.2.2.2.2 y s e).2.1
      have z2 : s ≠ m := by omega
      rw [up_ne _ _ z, up_ne _ _ z, up_ne _ _ z2, up_ne _ _ z2]
      exact x6 y s e
def tiO (τ : tiT) (sl m : Nat) (Y N : vT) : tiT := fun p => if p < 7 * sl then τ p else (m, avA Y p, avA N p)
/-- a name of its own -/
theorem CX.own (hX : CX sm sv sl τ pl rm nm ow) (h1 : sl ≤ m) (h2 : m < 17) {x : Nat} (hx : x < 8) (hn : sm x = none) (hm0 : m ≠ 0) (hY : WR sv sl m τ Y Y') (hN : WR sv sl m τ N N') : CX (up sm x (some m)) (up sv x (some m)) (m + 1) (tiO τ sl m Y N) (up pl m (7 * m)) (up rm m (some (Y, N))) (up nm x (7 * x)) (up ow x (some (Y', N'))) := by
  obtain ⟨x1, x2, x3, x4, x5, x6⟩ := hX
  have svn : sv x = none := by
    cases e : sv x with
    | none => rfl
    | some s => have := (x3 x s e).2; rw [hn] at this; cases this
  have old : ∀ p, p < 7 * sl → tiO τ sl m Y N p = τ p := fun p hp => if_pos hp
  have new : ∀ p, ¬ p < 7 * sl → tiO τ sl m Y N p = (m, avA Y p, avA N p) := fun p hp => if_neg hp
  have svo : svO (up sv x (some m)) := by
    refine ⟨fun y s e => ?_, fun y z s e1 e2 => ?_⟩
    · by_cases q : y = x
      · subst q; rw [up_same] at e; injection e with e; subst e; exact ⟨hx, h2⟩
      · rw [up_ne _ _ q] at e; exact x1.1 y s e
    · by_cases q : y = x
      · subst q
        rw [up_same] at e1
        injection e1 with e1
        subst e1
        by_cases q2 : z = y
        · exact q2.symm
        · rw [up_ne _ _ q2] at e2
          have := (x3 z m e2).1
          omega
      · rw [up_ne _ _ q] at e1
        by_cases q2 : z = x
        · subst q2
          rw [up_same] at e2
          injection e2 with e2
          subst e2
          have := (x3 y m e1).1
          omega
        · rw [up_ne _ _ q2] at e2
          exact x1.2 y z s e1 e2
  -- a view that says everything of slots from sl on, in the wider scope
  have gh : ∀ p, gho (up sv x (some m)) (m + 1) p → p < 7 * m ∧ ∀ y, sv y ≠ some (p / 7) := by
    intro p hp
    have hne : p / 7 ≠ m := fun z => hp.2 x (by rw [up_same, z])
    refine ⟨by have := hp.1; omega, fun y e => ?_⟩
    by_cases q : y = x
    · subst q; rw [svn] at e; cases e
    · exact hp.2 y (by rw [up_ne _ _ q]; exact e)
  have rl : ∀ (Z : vT) (Z' : nV), fullV m Z → Rl sv Z Z' → Rl (up sv x (some m)) Z Z' := by
    intro Z Z' fz r
    rcases r with r | ⟨r1, r2⟩
    · exact Or.inl r
    · refine Or.inr ⟨r1, fun y hy q hq => ?_⟩
      have e := r2 y hy q hq
      unfold rlS at e ⊢
      by_cases z : y = x
      · subst z
        rw [svn] at e
        rw [up_same]
        rw [e]
        exact (fz r1 _ (by omega) (by omega)).symm
      · rw [up_ne _ _ z]; exact e
  have own : ∀ s sel Z Z', s < sl → s ≠ 0 → OW sv sl τ s sel Z Z' → OW (up sv x (some m)) (m + 1) (tiO τ sl m Y N) s sel Z Z' := by
    intro s sel Z Z' hsl hs0 k
    have fz : fullV m Z := fun z p p1 p2 => k.2.2.1 z p (by omega) p2
    refine ⟨k.1, rl Z Z' fz k.2.1, fun z p p1 p2 => k.2.2.1 z p (by omega) p2, fun p hp => ?_⟩
    obtain ⟨g1, g2⟩ := gh p hp
    by_cases q : p < 7 * sl
    · rw [old p q]; exact k.2.2.2 p ⟨q, g2⟩
    · rw [new p q]
      refine ⟨fun z => ?_, fun _ => ?_⟩
      · have z : m = s := z
        omega
      · rcases k.1.c with w | w
        · have e := k.2.2.1 w p (by omega) (by omega)
          unfold LBp
          rw [e]
          exact ⟨fun _ => k_31 _ (avA_ok hY.1 p).2, fun _ => k_31 _ (avA_ok hN.1 p).2⟩
        · exact LB_z k.1 w _ h2 p
  refine ⟨svo, by omega, fun y s e => ?_, ?_, fun p hp => ?_, fun y s e => ?_⟩
  · by_cases q : y = x
    · subst q; rw [up_same] at e ⊢; injection e with e; subst e; exact ⟨by omega, rfl⟩
    · rw [up_ne _ _ q] at e ⊢
      have := x3 y s e
      exact ⟨by omega, this.2⟩
  · obtain ⟨y, hy⟩ := x4
    refine ⟨y, ?_⟩
    rw [up_ne _ _ (fun q => by subst q; rw [svn] at hy; cases hy)]
    exact hy
  · obtain ⟨g1, g2⟩ := gh p hp
    by_cases q : p < 7 * sl
    · rw [old p q]
      obtain ⟨a1, a2, y, a3⟩ := x5 p ⟨q, g2⟩
      refine ⟨a1, a2, y, ?_⟩
      rw [up_ne _ _ (fun z => by subst z; rw [svn] at a3; cases a3)]
      exact a3
    · rw [new p q]
      exact ⟨(avA_ok hY.1 p).1, (avA_ok hN.1 p).1, x, up_same _ _ _⟩
  · by_cases z : y = x
    · subst z
      rw [up_same] at e
      injection e with e
      subst e
      have wy : ∀ (sel : Nat × Nat → Nat) (Z : vT) (Z' : nV), WR sv sl m τ Z Z' → (∀ p, 7 * sl ≤ p → p < 7 * m → sel (avA Y p, avA N p) = avA Z p) → OW (up sv y (some m)) (m + 1) (tiO τ sl m Y N) m sel Z Z' := by
        intro sel Z Z' k hsel
        refine ⟨k.1, rl Z Z' k.2.2.1 k.2.1, fun z p p1 p2 => k.2.2.1 z p (by omega) p2, fun p hp => ?_⟩
        obtain ⟨g1, g2⟩ := gh p hp
        by_cases q : p < 7 * sl
        · rw [old p q]
          refine ⟨fun z => ?_, fun _ => k.2.2.2 p ⟨q, g2⟩⟩
          obtain ⟨_, _, w, a3⟩ := x5 p ⟨q, g2⟩
          have := (x3 _ _ a3).1
          omega
        · rw [new p q]
          refine ⟨fun _ z0 => ?_, fun z => absurd rfl z⟩
          show sel (avA Y p, avA N p) &&& av Z p = sel (avA Y p, avA N p)
          rw [hsel p (by omega) g1, show avA Z p = av Z p from if_pos ⟨z0, by omega⟩]
          exact Nat.and_self _
      refine ⟨hx, by omega, ⟨y, m, 0, up_same _ _ _, by decide, by rw [up_same]; rfl, by rw [up_same]; rfl⟩, Or.inr ⟨Y, N, Y', N', up_same _ _ _, up_same _ _ _, up_same _ _ _, up_same _ _ _, up_same _ _ _, hm0, wy _ Y Y' hY (fun _ _ _ => rfl), wy _ N N' hN (fun _ _ _ => rfl)⟩⟩
    · rw [up_ne _ _ z] at e
      obtain ⟨a1, a2, a3, a4⟩ := x6 y s e
      have z2 : s ≠ m := by omega
      rw [up_ne _ _ z, up_ne _ _ z, up_ne _ _ z2, up_ne _ _ z2]
      refine ⟨a1, by omega, ?_, ?_⟩
      · obtain ⟨y0, s0, q, c1, c2, c3, c4⟩ := a3
        refine ⟨y0, s0, q, ?_, c2, c3, c4⟩
        rw [up_ne _ _ (fun w => by subst w; rw [svn] at c1; cases c1)]
        exact c1
      · rcases a4 with a4 | ⟨Z, M, Z', M', b1, b2, b3, b4, b5, b6, b7, b8⟩
        · exact Or.inl a4
        · exact Or.inr ⟨Z, M, Z', M', b1, b2, by rw [up_ne _ _ z]; exact b3, b4, b5, b6, own s _ Z Z' a2 b6 b7, own s _ M M' a2 b6 b8⟩
end EQS
