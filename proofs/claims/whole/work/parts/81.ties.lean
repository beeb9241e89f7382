/-! What a view by slots may still say of slots that have left their scope. -/
abbrev tiT : Type := Nat → Nat × Nat × Nat
def LBp (t : Nat × Nat × Nat) (V : vT) (p : Nat) : Prop := (av V (7 * t.1) &&& 27 ≠ 0 → t.2.1 &&& av V p = t.2.1) ∧ (av V (7 * t.1) &&& 4 ≠ 0 → t.2.2 &&& av V p = t.2.2)
def gho (sv : Nat → Option Nat) (sl p : Nat) : Prop := p < 7 * sl ∧ ∀ x, sv x ≠ some (p / 7)
def fullV (sh : Nat) (V : vT) : Prop := V.1 = 0 → ∀ p, 7 * sh ≤ p → p < 119 → av V p = 31
def LBa (sv : Nat → Option Nat) (sl : Nat) (τ : tiT) (V : vT) : Prop := ∀ p, gho sv sl p → LBp (τ p) V p
def WR (sv : Nat → Option Nat) (sl sh : Nat) (τ : tiT) (V : vT) (g : nV) : Prop := vok V ∧ Rl sv V g ∧ fullV sh V ∧ LBa sv sl τ V
def WP (sv : Nat → Option Nat) (sl sh : Nat) (τ : tiT) (V : vT) (g : nV) : Prop := vok V ∧ Rp sv V g ∧ fullV sh V ∧ LBa sv sl τ V
def OW (sv : Nat → Option Nat) (sl : Nat) (τ : tiT) (s : Nat) (sel : Nat × Nat → Nat) (Y : vT) (Y' : nV) : Prop := vok Y ∧ Rl sv Y Y' ∧ fullV sl Y ∧ ∀ p, gho sv sl p → ((τ p).1 = s → Y.1 = 0 → sel (τ p).2 &&& av Y p = sel (τ p).2) ∧ ((τ p).1 ≠ s → LBp (τ p) Y p)
def CX (sm sv : Nat → Option Nat) (sl : Nat) (τ : tiT) (pl : Nat → Nat) (rm : Nat → Option (vT × vT)) (nm : Nat → Nat) (ow : Nat → Option (nV × nV)) : Prop :=
  svO sv ∧ sl ≤ 17 ∧ (∀ x s, sv x = some s → s < sl ∧ sm x = some s) ∧ (∃ x, sv x = some 0) ∧
  (∀ p, gho sv sl p → (τ p).2.1 ≠ 0 ∧ (τ p).2.2 ≠ 0 ∧ ∃ x, sv x = some (τ p).1) ∧
  ∀ x s, sm x = some s → x < 8 ∧ s < sl ∧ pR sv (pl s) (nm x) ∧ ((rm s = none ∧ ow x = none) ∨ ∃ Y N Y' N', rm s = some (Y, N) ∧ ow x = some (Y', N') ∧ sv x = some s ∧ pl s = 7 * s ∧ nm x = 7 * x ∧ s ≠ 0 ∧ OW sv sl τ s Prod.fst Y Y' ∧ OW sv sl τ s Prod.snd N N')
theorem sub_and {a u v : Nat} (h1 : a &&& u = a) (h2 : a &&& v = a) : a &&& (u &&& v) = a := by rw [← Nat.and_assoc, h1, h2]
theorem sub_or1 {a u v : Nat} (h1 : a &&& u = a) : a &&& (u ||| v) = a := by
  rw [Nat.and_or_distrib_left, h1]
  refine Nat.eq_of_testBit_eq fun i => ?_
  simp only [Nat.testBit_or, Nat.testBit_and]
  cases a.testBit i <;> simp
theorem sub_or2 {a u v : Nat} (h1 : a &&& v = a) : a &&& (u ||| v) = a := by rw [Nat.or_comm]; exact sub_or1 h1
theorem and_nz {u v c : Nat} (h : (u &&& v) &&& c ≠ 0) : u &&& c ≠ 0 ∧ v &&& c ≠ 0 := by
  refine ⟨fun z => h ?_, fun z => h ?_⟩
  · rw [Nat.and_assoc, Nat.and_comm v c, ← Nat.and_assoc, z, Nat.zero_and]
  · rw [Nat.and_assoc, z, Nat.and_zero]
theorem or_nz {u v c : Nat} (h : (u ||| v) &&& c ≠ 0) : u &&& c ≠ 0 ∨ v &&& c ≠ 0 := by
  by_cases z : u &&& c = 0
  · refine Or.inr fun w => h ?_
    rw [Nat.and_or_distrib_right, z, w]; rfl
  · exact Or.inl z
theorem bit_c0 : ∀ a, a < 32 → ∀ b, b < 32 → a &&& b = 0 ∨ (¬ a &&& 27 = 0 ∧ ¬ b &&& 27 = 0) ∨ (¬ a &&& 4 = 0 ∧ ¬ b &&& 4 = 0) := by decide +kernel
theorem bit_c (a : Nat) (ha : a < 32) (b : Nat) (hb : b < 32) (h : a &&& b ≠ 0) : (a &&& 27 ≠ 0 ∧ b &&& 27 ≠ 0) ∨ (a &&& 4 ≠ 0 ∧ b &&& 4 ≠ 0) := (bit_c0 a ha b hb).resolve_left h
theorem k_31 : ∀ a, a < 32 → a &&& 31 = a := by decide
theorem k_27_4 : ∀ a, a < 32 → ((a &&& 27) &&& 4 = 0) ∧ ((a &&& 4) &&& 27 = 0) := by decide
section TIE
variable {sm sv : Nat → Option Nat} {sl sh : Nat} {τ : tiT} {pl : Nat → Nat} {rm : Nat → Option (vT × vT)} {nm : Nat → Nat} {ow : Nat → Option (nV × nV)} {V W : vT} {g h : nV}
theorem WR.p (k : WR sv sl sh τ V g) : WP sv sl sh τ V g := ⟨k.1, k.2.1.p, k.2.2⟩
theorem LB_z (hV : vok V) (h1 : V.1 = 1) (t : Nat × Nat × Nat) (ht : t.1 < 17) (p : Nat) : LBp t V p := by
  have := hV.z h1 (7 * t.1) (by omega)
  exact ⟨fun z => absurd (by rw [this, Nat.zero_and]) z, fun z => absurd (by rw [this, Nat.zero_and]) z⟩
theorem WR_no (hc : ∀ p, gho sv sl p → (τ p).1 < 17) : WR sv sl sh τ vNo nZ := ⟨vok_no, Rl_no, fun z => absurd z (by decide), fun p hp => LB_z vok_no rfl _ (hc p hp) p⟩
theorem WP.n (hs : svO sv) (k : WP sv sl sh τ V g) : WR sv sl sh τ V (nNrm g) := ⟨k.1, k.2.1.n hs k.1, k.2.2⟩
theorem CX.t (hX : CX sm sv sl τ pl rm nm ow) : ∀ p, gho sv sl p → (τ p).1 < 17 := fun p hp => by
  obtain ⟨_, _, x, hx⟩ := hX.2.2.2.2.1 p hp
  exact (hX.1.1 _ _ hx).2
/-- one place in view is restricted -/
theorem WP.res (hX : CX sm sv sl τ pl rm nm ow) (hh : sl ≤ sh) (k : WP sv sl sh τ V g) {p p' c : Nat} (hp : pR sv p p') (hc : c < 32) : WP sv sl sh τ (vRes V p c) (nRes g p' c) := by
  obtain ⟨k1, k2, k3, k4⟩ := k
  obtain ⟨r1, r2⟩ := k2.res hX.1 k1 hp hc
  have hlt := hp.lt hX.1
  have hr := (av_res k1 hlt.1 hc).2
  have hpl : p < 7 * sl := by
    obtain ⟨x, s, q, h1, h2, h3, h4⟩ := hp
    have := (hX.2.2.1 _ _ h1).1
    omega
  refine ⟨r1, r2, fun z q q1 q2 => ?_, fun q hq => ?_⟩
  · rcases hr with ⟨_, b⟩ | ⟨a, b, e⟩
    · rw [b] at z; exact absurd z (by decide)
    · have v0 : V.1 = 0 := by
        rcases k1.c with w | w
        · exact w
        · have := k1.z w p hlt.1
          rw [this, Nat.zero_and] at a
          exact absurd rfl a
      rw [e q q2, if_neg (by omega)]
      exact k3 v0 q q1 q2
  · have tl := hX.t q hq
    rcases r1.c with w | w
    · rcases hr with ⟨_, b⟩ | ⟨a, b, e⟩
      · rw [b] at w; exact absurd w (by decide)
      · have q119 : q < 119 := by have := hq.1; have := hX.2.1; omega
        have qp : q ≠ p := by
          obtain ⟨x, s, q', h1, h2, h3, h4⟩ := hp
          intro z
          exact hq.2 x (by rw [h1]; congr 1; omega)
        have e1 : av (vRes V p c) q = av V q := by rw [e q q119, if_neg qp]
        have e2 : ∀ m, av (vRes V p c) (7 * (τ q).1) &&& m ≠ 0 → av V (7 * (τ q).1) &&& m ≠ 0 := fun m hm => by
          rw [e _ (by omega)] at hm
          split at hm
          · rename_i z
            rw [z]
            exact (and_nz hm).1
          · exact hm
        unfold LBp
        rw [e1]
        exact ⟨fun z => (k4 q hq).1 (e2 _ z), fun z => (k4 q hq).2 (e2 _ z)⟩
    · exact LB_z r1 w _ tl q
theorem WR.or (hX : CX sm sv sl τ pl rm nm ow) (k : WR sv sl sh τ V g) (k' : WR sv sl sh τ W h) : WR sv sl sh τ (vEither V W) (nOr g h) := by
  obtain ⟨k1, k2, k3, k4⟩ := k
  obtain ⟨j1, j2, j3, j4⟩ := k'
  obtain ⟨r1, r2⟩ := Rl.or k1 j1 k2 j2 hX.1
  refine ⟨r1, r2, fun z p p1 p2 => ?_, fun p hp => ?_⟩
  · rw [av_or]
    rcases k1.c with w | w
    · rw [k3 w p p1 p2]
      rcases j1.c with w' | w'
      · rw [j3 w' p p1 p2]; decide
      · rw [j1.z w' p p2]; decide
    · rw [k1.z w p p2]
      rcases j1.c with w' | w'
      · rw [j3 w' p p1 p2]; decide
      · have : (vEither V W).1 = 1 := by show (if _ then (1 : Int32) else 0) = 1; rw [if_pos ⟨by rw [w]; decide, by rw [w']; decide⟩]
        rw [this] at z; exact absurd z (by decide)
  · unfold LBp
    rw [av_or, av_or]
    refine ⟨fun z => ?_, fun z => ?_⟩
    · rcases or_nz z with w | w
      · exact sub_or1 ((k4 p hp).1 w)
      · exact sub_or2 ((j4 p hp).1 w)
    · rcases or_nz z with w | w
      · exact sub_or1 ((k4 p hp).2 w)
      · exact sub_or2 ((j4 p hp).2 w)
theorem Rs.nz2 (hs : svO sv) (hg : Rs sv V g) (hh : Rs sv W h) : nImp (nAnd g h) = true ↔ ∃ x s q, sv x = some s ∧ q < 7 ∧ av V (7 * s + q) &&& av W (7 * s + q) = 0 := by
  rw [nImp_t]
  constructor
  · rintro ⟨p, p1, p2⟩
    have e1 := hg (p / 7) (by omega) (p % 7) (Nat.mod_lt _ (by decide))
    have e2 := hh (p / 7) (by omega) (p % 7) (Nat.mod_lt _ (by decide))
    rw [show 7 * (p / 7) + p % 7 = p by omega] at e1 e2
    have p2 : g p &&& h p = 0 := p2
    rw [e1, e2] at p2
    unfold rlS at p2
    cases hx : sv (p / 7) with
    | none => rw [hx] at p2; exact absurd p2 (show ¬ (31 : Nat) &&& 31 = 0 by decide)
    | some s => rw [hx] at p2; exact ⟨p / 7, s, p % 7, hx, Nat.mod_lt _ (by decide), p2⟩
  · rintro ⟨x, s, q, h1, h2, h3⟩
    have l := hs.1 _ _ h1
    refine ⟨7 * x + q, by omega, ?_⟩
    show g _ &&& h _ = 0
    rw [hg x l.1 q h2, hh x l.1 q h2]
    unfold rlS
    rw [h1]
    exact h3
/-- a variable that remembers -/
theorem WP_both (hX : CX sm sv sl τ pl rm nm ow) (k : WP sv sl sl τ V g) {x s : Nat} {Y : vT} {Y' : nV} (hx : sv x = some s) (yes : Bool) (hY : OW sv sl τ s (if yes = true then Prod.fst else Prod.snd) Y Y') : WP sv sl sl τ (vBoth (vRes V (7 * s) (if yes = true then 27 else 4)) Y) (nAnd (nRes g (7 * x) (if yes = true then 27 else 4)) Y') := by
  have hs := hX.1
  have l := hs.1 _ _ hx
  have hp : pR sv (7 * s) (7 * x) := ⟨x, s, 0, hx, by decide, rfl, rfl⟩
  have hcc : (if yes = true then 27 else 4) < 32 := by split <;> decide
  have K1 := k.res hX (Nat.le_refl _) hp hcc
  have hr := (av_res k.1 (hp.lt hs).1 hcc).2
  generalize hV1 : vRes V (7 * s) (if yes = true then 27 else 4) = V1 at K1 hr
  generalize hg1 : nRes g (7 * x) (if yes = true then 27 else 4) = g1 at K1
  obtain ⟨k1, k2, k3, k4⟩ := K1
  obtain ⟨y1, y2, y3, y4⟩ := hY
  obtain ⟨b1, b2⟩ := av_both k1 y1
  have zero : (vBoth V1 Y).1 = 1 → nImp (nAnd g1 Y') = true → WP sv sl sl τ (vBoth V1 Y) (nAnd g1 Y') := fun z w => ⟨b1, Or.inl ⟨z, w⟩, fun z' => (by rw [z] at z'; exact absurd z' (by decide)), fun p hq => LB_z b1 z _ (hX.t p hq) p⟩
  rcases k2 with ⟨i1, i2⟩ | ⟨i1, i2⟩
  · have z0 := k1.z i1
    refine zero ?_ ?_
    · rcases b2 with ⟨_, b⟩ | ⟨a, _⟩
      · exact b
      · exact absurd (by rw [z0 0 (by decide), Nat.zero_and]) (a 0 (by decide))
    · obtain ⟨p, p1, p2⟩ := nImp_t.mp i2
      exact nImp_t.mpr ⟨p, p1, by show g1 p &&& Y' p = 0; rw [p2, Nat.zero_and]⟩
  · rcases y2 with ⟨j1, j2⟩ | ⟨j1, j2⟩
    · have z0 := y1.z j1
      refine zero ?_ ?_
      · rcases b2 with ⟨_, b⟩ | ⟨a, _⟩
        · exact b
        · exact absurd (by rw [z0 0 (by decide), Nat.and_zero]) (a 0 (by decide))
      · exact nImp_t.mpr ⟨0, by decide, by show g1 0 &&& Y' 0 = 0; rw [j2 0 (by decide), Nat.and_zero]⟩
    · rcases hr with ⟨_, b⟩ | ⟨na, nb', ne⟩
      · rw [b] at i1; exact absurd i1 (by decide)
      · have v0 : V.1 = 0 := by
          rcases k.1.c with w | w
          · exact w
          · have := k.1.z w (7 * s) (by omega)
            rw [this, Nat.zero_and] at na
            exact absurd rfl na
        -- what a slot that has left is bound by
        have bnd : ∀ p, gho sv sl p → ∀ c', (c' = 27 ∨ c' = 4) → av V1 (7 * (τ p).1) &&& c' ≠ 0 → av Y (7 * (τ p).1) &&& c' ≠ 0 → ∃ a, a ≠ 0 ∧ a &&& av V1 p = a ∧ a &&& av Y p = a ∧ (c' = 27 → a = (τ p).2.1) ∧ (c' = 4 → a = (τ p).2.2) := by
          intro p hq c' hc' h1 h2
          obtain ⟨t1, t2, xt, t3⟩ := hX.2.2.2.2.1 p hq
          have lt := hs.1 _ _ t3
          have q119 : p < 119 := by have := hq.1; have := hX.2.1; omega
          by_cases es : (τ p).1 = s
          · rw [es] at h1
            rw [ne _ (by omega), if_pos rfl] at h1
            have av32 := av_lt V (7 * s)
            have own := (y4 p hq).1 es j1
            have hb := k4 p hq
            cases yes with
            | true =>
              have hc2 : c' = 27 := by
                rcases hc' with w | w
                · exact w
                · subst w
                  exact absurd ((k_27_4 _ av32).1) h1
              subst hc2
              refine ⟨(τ p).2.1, t1, hb.1 ?_, own, fun _ => rfl, fun z => absurd z (by decide)⟩
              rw [es, ne _ (by omega), if_pos rfl]
              exact h1
            | false =>
              have hc2 : c' = 4 := by
                rcases hc' with w | w
                · subst w
                  exact absurd ((k_27_4 _ av32).2) h1
                · exact w
              subst hc2
              refine ⟨(τ p).2.2, t2, hb.2 ?_, own, fun z => absurd z (by decide), fun _ => rfl⟩
              rw [es, ne _ (by omega), if_pos rfl]
              exact h1
          · have ly := (y4 p hq).2 es
            have lv := k4 p hq
            rcases hc' with w | w
            · subst w
              exact ⟨(τ p).2.1, t1, lv.1 h1, ly.1 h2, fun _ => rfl, fun z => absurd z (by decide)⟩
            · subst w
              exact ⟨(τ p).2.2, t2, lv.2 h1, ly.2 h2, fun z => absurd z (by decide), fun _ => rfl⟩
        by_cases hI : nImp (nAnd g1 Y') = true
        · refine zero ?_ hI
          obtain ⟨x0, s0, q0, e1, e2, e3⟩ := (Rs.nz2 hs i2 j2).mp hI
          have l0 := hs.1 _ _ e1
          rcases b2 with ⟨_, b⟩ | ⟨a, _⟩
          · exact b
          · exact absurd e3 (a _ (by omega))
        · have hN := fun x0 s0 q0 e1 e2 e3 => hI ((Rs.nz2 hs i2 j2).mpr ⟨x0, s0, q0, e1, e2, e3⟩)
          have nzq : ∀ q, q < 119 → av V1 q &&& av Y q ≠ 0 := by
            intro q hq
            by_cases r1 : ∃ x0, sv x0 = some (q / 7)
            · obtain ⟨x0, e1⟩ := r1
              intro z
              refine hN x0 (q / 7) (q % 7) e1 (Nat.mod_lt _ (by decide)) ?_
              rw [show 7 * (q / 7) + q % 7 = q by omega]
              exact z
            · by_cases r2 : q < 7 * sl
              · have gh : gho sv sl q := ⟨r2, fun x0 e1 => r1 ⟨x0, e1⟩⟩
                obtain ⟨t1, t2, xt, t3⟩ := hX.2.2.2.2.1 q gh
                have nz := fun z => hN xt _ 0 t3 (by decide) z
                have nz : ¬ av V1 (7 * (τ q).1) &&& av Y (7 * (τ q).1) = 0 := nz
                have fin : ∀ c', (c' = 27 ∨ c' = 4) → av V1 (7 * (τ q).1) &&& c' ≠ 0 → av Y (7 * (τ q).1) &&& c' ≠ 0 → av V1 q &&& av Y q ≠ 0 := by
                  intro c' hc' h1 h2 z
                  obtain ⟨a, a1, a2, a3, _⟩ := bnd q gh c' hc' h1 h2
                  have := sub_and a2 a3
                  rw [z, Nat.and_zero] at this
                  exact a1 this.symm
                rcases bit_c _ (av_lt _ _) _ (av_lt _ _) nz with ⟨h1, h2⟩ | ⟨h1, h2⟩
                · exact fin 27 (Or.inl rfl) h1 h2
                · exact fin 4 (Or.inr rfl) h1 h2
              · rw [k3 i1 q (by omega) hq, y3 j1 q (by omega) hq]; decide
          rcases b2 with ⟨⟨q, q1, q2⟩, _⟩ | ⟨_, b, e⟩
          · exact absurd q2 (nzq q q1)
          · refine ⟨b1, Or.inr ⟨b, fun x0 hx0 q hq => ?_⟩, fun _ p p1 p2 => ?_, fun p hq => ?_⟩
            · show g1 _ &&& Y' _ = _
              rw [i2 x0 hx0 q hq, j2 x0 hx0 q hq]
              unfold rlS
              cases e1 : sv x0 with
              | none => exact (show (31 : Nat) &&& 31 = 31 by decide)
              | some s0 =>
                have l0 := hs.1 _ _ e1
                exact (e _ (by omega)).symm
            · rw [e p p2, k3 i1 p p1 p2, y3 j1 p p1 p2]; decide
            · obtain ⟨t1, t2, xt, t3⟩ := hX.2.2.2.2.1 p hq
              have lt := hs.1 _ _ t3
              have q119 : p < 119 := by have := hq.1; have := hX.2.1; omega
              unfold LBp
              rw [e p q119, e _ (by omega)]
              refine ⟨fun z => ?_, fun z => ?_⟩
              · obtain ⟨h1, h2⟩ := and_nz z
                obtain ⟨a, a1, a2, a3, a4, a5⟩ := bnd p hq 27 (Or.inl rfl) h1 h2
                rw [← a4 rfl]
                exact sub_and a2 a3
              · obtain ⟨h1, h2⟩ := and_nz z
                obtain ⟨a, a1, a2, a3, a4, a5⟩ := bnd p hq 4 (Or.inr rfl) h1 h2
                rw [← a5 rfl]
                exact sub_and a2 a3
end TIE
