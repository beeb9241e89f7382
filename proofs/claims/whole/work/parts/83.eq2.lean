/-! The checker by slots and the checker by names agree: by levels. -/
section EQT
variable {sm sv : Nat → Option Nat} {sl sh m : Nat} {τ : tiT} {pl : Nat → Nat} {rm : Nat → Option (vT × vT)} {nm : Nat → Nat} {ow : Nat → Option (nV × nV)} {V W Y N : vT} {g h Y' N' : nV}
theorem rch_pR {p p' q : Nat} (hp : pR sv p p') (hq : q < 7) : (rch p q = none ∧ rch p' q = none) ∨ ∃ r r', rch p q = some r ∧ rch p' q = some r' ∧ pR sv r r' := by
  obtain ⟨x, s, q0, h1, h2, h3, h4⟩ := hp
  have e1 : p % 7 = q0 := by omega
  have e2 : p' % 7 = q0 := by omega
  unfold rch
  rw [e1, e2]
  by_cases a : q = 0
  · rw [if_pos a, if_pos a]
    exact Or.inr ⟨p, p', rfl, rfl, x, s, q0, h1, h2, h3, h4⟩
  · rw [if_neg a, if_neg a]
    by_cases b : q0 = 0
    · rw [if_pos b, if_pos b]
      exact Or.inr ⟨_, _, rfl, rfl, x, s, q, h1, hq, by omega, by omega⟩
    · rw [if_neg b, if_neg b]
      by_cases c : q0 ≤ 2 ∧ q ≤ 2
      · rw [if_pos c, if_pos c]
        exact Or.inr ⟨_, _, rfl, rfl, x, s, 2 * q0 + q, h1, by omega, by omega, by omega⟩
      · rw [if_neg c, if_neg c]
        exact Or.inl ⟨rfl, rfl⟩
theorem WP.from (hX : CX sm sv sl τ pl rm nm ow) (hh : sl ≤ sh) (k : WP sv sl sh τ V g) {p p' : Nat} (hp : pR sv p p') (w : Int64) : ∀ q, q ≤ 7 → WP sv sl sh τ (vFrom V p w q) (nFrom g p' w q)
  | 0, _ => k
  | q + 1, hq => by
    have ih := WP.from hX hh k hp w q (by omega)
    unfold vFrom nFrom
    rcases rch_pR hp (show q < 7 by omega) with ⟨e1, e2⟩ | ⟨r, r', e1, e2, e3⟩
    · rw [e1, e2]; exact ih
    · rw [e1, e2]; exact ih.res hX hh e3 (kd_lt _ _)
theorem WP.resO (hX : CX sm sv sl τ pl rm nm ow) (hh : sl ≤ sh) (k : WP sv sl sh τ V g) {o o' : Option Nat} {c : Nat} (hc : c < 32) : oR sv o o' → WP sv sl sh τ (match o with | none => V | some p => vRes V p c) (nResO g o' c) := by
  intro ho
  rcases ho with ⟨e1, e2⟩ | ⟨p, p', e1, e2, e3⟩
  · subst e1; subst e2; exact k
  · subst e1; subst e2; exact k.res hX hh e3 hc
theorem WP.fromO (hX : CX sm sv sl τ pl rm nm ow) (hh : sl ≤ sh) (k : WP sv sl sh τ V g) {o o' : Option Nat} (w : Int64) : oR sv o o' → WP sv sl sh τ (match o with | none => V | some p => vFrom V p w 7) (nFromO g o' w) := by
  intro ho
  rcases ho with ⟨e1, e2⟩ | ⟨p, p', e1, e2, e3⟩
  · subst e1; subst e2; exact k
  · subst e1; subst e2; exact k.from hX hh e3 w 7 (Nat.le_refl _)
theorem WP.imp (hs : svO sv) (k : WP sv sl sh τ V g) : V.1 ≠ 0 ↔ nImp g = true := by
  rcases k.2.1 with ⟨a, b⟩ | ⟨a, b⟩
  · exact ⟨fun _ => b, fun _ => by rw [a]; decide⟩
  · exact ⟨fun z => absurd a z, fun z => absurd z (Rs.nz hs k.1 a b)⟩
theorem WP.at (hs : svO sv) (k : WP sv sl sh τ V g) (h0 : V.1 = 0) {p p' : Nat} (hp : pR sv p p') : g p' = av V p ∧ av V p ≠ 0 := by
  rcases k.2.1 with ⟨a, b⟩ | ⟨a, b⟩
  · rw [a] at h0; exact absurd h0 (by decide)
  · exact ⟨b.at hs hp, k.1.nz h0 p (hp.lt hs).1⟩
theorem FR.place (hX : CX sm sv sl τ pl rm nm ow) (hh : sl ≤ sh) (k : WP sv sl sh τ V g) (h0 : V.1 = 0) {p p' : Nat} (hp : pR sv p p') : FR sv sl sh τ (gSet (gPl V p)) (nFin (g p') (some p') (nRes g p' 27) (nRes g p' 4)) := by
  obtain ⟨a1, a2⟩ := k.at hX.1 h0 hp
  rw [a1]
  exact FR.fin hX (av_lt _ _) (Or.inr ⟨p, p', rfl, rfl, hp⟩) (fun z => absurd z a2) (k.res hX hh hp (by decide)) (k.res hX hh hp (by decide))
theorem nImp_no (hs : svO sv) (k : WR sv sl sh τ V g) : V.1 ≠ 0 ↔ nImp g = true := k.p.imp hs
theorem if_iff {a b : Prop} [Decidable a] [Decidable b] (h : a ↔ b) (x y : Nat) : (if a then x else y) = if b then x else y := by
  by_cases q : a
  · rw [if_pos q, if_pos (h.mp q)]
  · rw [if_neg q, if_neg (fun z => q (h.mpr z))]
theorem two_lt : ∀ (a b : Prop) [Decidable a] [Decidable b], (if a then 2 else 0) + (if b then 4 else 0) < 32 := by
  intro a b _ _
  split <;> split <;> decide
theorem k_or32 : ∀ a, a < 32 → ∀ b, b < 32 → a ||| b < 32 := by decide +kernel
theorem tkd32 (op : Nat) : tkd op < 32 ∧ 31 - tkd op < 32 := by
  unfold tkd
  (repeat' split) <;> exact ⟨by omega, by omega⟩
/-- the context of a second part -/
theorem CX.nx (hX : CX sm sv sl τ pl rm nm ow) (h1 : sl ≤ m) (h2 : m ≤ 17) (k : WR sv sl m τ V g) : CX sm sv m (tiC τ sl (avA V)) pl rm nm ow ∧ WP sv m m (tiC τ sl (avA V)) V g :=
  ⟨hX.step h1 h2 (avA_ok k.1), k.p.step fun p _ p2 => avA_lb k.1 (by omega)⟩
theorem EQ {fx : fnT} {T : Nat → nd} (hf : fnO fx) : ∀ (k n lo sl sh : Nat) (sc : List Nat) (sm sv : Nat → Option Nat) (τ : tiT) (V : vT) (g : nV) (pl : Nat → Nat) (rm : Nat → Option (vT × vT)) (nm : Nat → Nat) (ow : Nat → Option (nV × nV)), wt T k n lo sl sh sc → wn T k n sm → CX sm sv sl τ pl rm nm ow → 2 ≤ sl → WP sv sl sl τ V g →
    (∃ e, ck fx T k n V pl rm = .inl e ∧ nk fx T k n g nm ow = .inl e) ∨ ∃ F F', ck fx T k n V pl rm = .inr F ∧ nk fx T k n g nm ow = .inr F' ∧ FR sv sl sh τ F F' := by
  intro k
  induction k with
  | zero => intro n lo sl sh sc sm sv τ V g pl rm nm ow w; exact absurd w id
  | succ k ih =>
    intro n lo sl sh sc sm sv τ V g pl rm nm ow w wN hX h2 kV
    have hs := hX.1
    have wl := wt_lt w
    have hsl : sl ≤ sh := wl.2.2.1
    have himp := kV.imp hs
    rw [ck, nk]
    by_cases hV : V.1 ≠ 0
    · rw [if_pos hV, if_pos (himp.mp hV)]
      exact Or.inr ⟨_, _, rfl, rfl, rfl, (show (0 : Nat) < 32 by decide), Or.inl ⟨rfl, rfl⟩, fun _ => rfl, WR_no hX.t, WR_no hX.t⟩
    · rw [if_neg hV, if_neg (fun z => hV (himp.mpr z))]
      have hV0 : V.1 = 0 := by
        rcases kV.1.c with z | z
        · exact z
        · exact absurd (by rw [z]; decide) hV
      have kVh : WP sv sl sh τ V g := kV.wide hsl
      by_cases ne : (T n).2.2.2.2 = []
      · -- a leaf
        have w7 := w.2.2.2.2.2.2
        rw [ne] at w7
        have nl := w7.2.2.2
        simp only [List.mem_cons, List.not_mem_nil, or_false, not_or] at nl
        rw [if_neg (by omega), if_neg (by omega), if_neg (by omega), if_neg (by omega), if_neg (by omega), if_neg (by omega), if_neg (by omega), if_neg (by omega), if_neg (by omega)]
        rw [if_neg (by omega), if_neg (by omega), if_neg (by omega), if_neg (by omega), if_neg (by omega), if_neg (by omega), if_neg (by omega), if_neg (by omega), if_neg (by omega)]
        have wN' : ∀ s, (T n).2.2.2.1 = some s → sm ((T n).1 - 97) = some s := by
          unfold wn at wN
          rw [ne] at wN
          exact wN
        cases e : (T n).2.2.2.1 with
        | none =>
          refine Or.inr ⟨_, _, rfl, rfl, FR.fin hX ?_ (Or.inl ⟨rfl, rfl⟩) (fun _ => rfl) kVh kVh⟩
          unfold ckConst
          (repeat' split) <;> decide
        | some s =>
          obtain ⟨a1, a2, a3, a4⟩ := hX.2.2.2.2.2 _ s (wN' s e)
          refine Or.inr ⟨_, _, rfl, rfl, ?_⟩
          rcases a4 with ⟨b1, b2⟩ | ⟨Y, N, Y', N', b1, b2, b3, b4, b5, b6, b7, b8⟩
          · rw [b1, b2]
            exact FR.place hX hsl kVh hV0 a3
          · rw [b1, b2]
            obtain ⟨c1, c2⟩ := kV.at hs hV0 a3
            rw [c1]
            refine FR.fin hX (av_lt _ _) (Or.inr ⟨_, _, rfl, rfl, a3⟩) (fun z => absurd z c2) ?_ ?_
            · rw [b4, b5]
              exact (WP_both hX kV b3 true b7).wide hsl
            · rw [b4, b5]
              exact (WP_both hX kV b3 false b8).wide hsl
      · obtain ⟨m, m1, m2, m3, m4, m5⟩ := wt_inv w ne
        have h17 : sh ≤ 17 := wl.2.2.2.1
        have wn0 : wn T k (kid T n 0) sm := by
          unfold wn at wN
          rcases m5 with ⟨_, b1⟩ | ⟨_, b1, _⟩ | ⟨_, b1, _⟩ | ⟨_, b1, _⟩
          · rw [b1] at wN; exact wN
          · rw [b1] at wN; exact wN.1
          · rw [b1] at wN; exact wN.1
          · rw [b1] at wN; exact wN.1
        have r0 := ih (kid T n 0) lo sl m sc sm sv τ V g pl rm nm ow m2 wn0 hX h2 kV
        by_cases c1 : (T n).1 = 78 ∨ (T n).1 = 66 ∨ (T n).1 = 69 ∨ (T n).1 = 80
        · rw [if_pos c1, if_pos c1]
          rcases r0 with ⟨e, e1, e2⟩ | ⟨F, F', e1, e2, f1, f2, f3, f4, f5, f6⟩
          · rw [e1, e2]; exact Or.inl ⟨e, rfl, rfl⟩
          · rw [e1, e2]
            simp only
            rw [← f1]
            exact Or.inr ⟨_, _, rfl, rfl, FR.fin hX (two_lt _ _) (Or.inl ⟨rfl, rfl⟩) (fun _ => rfl) (kVh.resO hX hsl (tkd32 _).1 f3) (kVh.resO hX hsl (tkd32 _).2 f3)⟩
        · rw [if_neg c1, if_neg c1]
          by_cases c2 : (T n).1 = 33
          · rw [if_pos c2, if_pos c2]
            rcases r0 with ⟨e, e1, e2⟩ | ⟨F, F', e1, e2, f1, f2, f3, f4, f5, f6⟩
            · rw [e1, e2]; exact Or.inl ⟨e, rfl, rfl⟩
            · rw [e1, e2]
              have i5 := nImp_no hs f5
              have i6 := nImp_no hs f6
              have et : (if F.2.2.2.1 ≠ 0 then 0 else 2) + (if F.2.2.1.1 ≠ 0 then 0 else 4) = (if nImp F'.2.2.2 = true then 0 else 2) + (if nImp F'.2.2.1 = true then 0 else 4) := by
                congr 1
                · exact if_iff i6 _ _
                · exact if_iff i5 _ _
              simp only
              rw [← et]
              refine Or.inr ⟨_, _, rfl, rfl, FR.fin hX ?_ (Or.inl ⟨rfl, rfl⟩) (fun _ => rfl) (f6.p.wide m4) (f5.p.wide m4)⟩
              split <;> split <;> decide
          · rw [if_neg c2, if_neg c2]
            by_cases c3 : (T n).1 = 65 ∨ (T n).1 = 68
            · rw [if_pos c3, if_pos c3]
              rcases r0 with ⟨e, e1, e2⟩ | ⟨F, F', e1, e2, f1, f2, f3, f4, f5, f6⟩
              · rw [e1, e2]; exact Or.inl ⟨e, rfl, rfl⟩
              · rw [e1, e2]
                simp only
                rw [← f1]
                by_cases c : F.1 &&& 15 ≠ 0
                · rw [if_pos c, if_pos c]; exact Or.inl ⟨_, rfl, rfl⟩
                · rw [if_neg c, if_neg c]
                  refine Or.inr ⟨_, _, rfl, rfl, ?_⟩
                  have q7 : (if (T n).1 = 65 then 1 else 2) < 7 := by split <;> decide
                  generalize (if (T n).1 = 65 then 1 else 2) = q at q7 ⊢
                  unfold ckHalf nHalf
                  rw [← f1]
                  have non : F.2.1.bind (fun p => rch p q) = none → F'.2.1.bind (fun p => rch p q) = none → FR sv sl sh τ (gSet (match F.2.1.bind fun p => rch p q with
                      | none => (if F.1 = 0 then 0 else 31, none, V, V)
                      | some p => if F.1 = 0 then (0, none, V, V) else gPl V p)) (match F'.2.1.bind fun p => rch p q with
                      | none => nFin (if F.1 = 0 then 0 else 31) none g g
                      | some p => nFin (if F.1 = 0 then 0 else g p) (some p) (nRes g p 27) (nRes g p 4)) := by
                    intro z1 z2
                    rw [z1, z2]
                    exact FR.fin hX (by split <;> decide) (Or.inl ⟨rfl, rfl⟩) (fun _ => rfl) kVh kVh
                  rcases f3 with ⟨o1, o2⟩ | ⟨p, p', o1, o2, o3⟩
                  · exact non (by rw [o1]; rfl) (by rw [o2]; rfl)
                  · have F0 : ¬ F.1 = 0 := fun z => by rw [f4 z] at o1; cases o1
                    rcases rch_pR o3 q7 with ⟨d1, d2⟩ | ⟨r, r', d1, d2, d3⟩
                    · exact non (by rw [o1]; exact d1) (by rw [o2]; exact d2)
                    · rw [o1, o2]
                      simp only [Option.bind_some]
                      rw [d1, d2]
                      simp only
                      rw [if_neg F0, if_neg F0]
                      exact FR.place hX hsl kVh hV0 d3
            · rw [if_neg c3, if_neg c3]
              by_cases c4 : (T n).1 = 67 ∨ (T n).1 = 43 ∨ (T n).1 = 45 ∨ (T n).1 = 60
              · rw [if_pos c4, if_pos c4]
                rcases m5 with ⟨a, _⟩ | ⟨a, b1, b2, b3⟩ | ⟨a, _⟩ | ⟨a, _⟩
                · simp at a; omega
                · have wn1 : wn T k (kid T n 1) sm := by
                    unfold wn at wN
                    rw [b1] at wN
                    rcases wN.2 with z | z
                    · exact z.2
                    · have := z.1; omega
                  rcases r0 with ⟨e, e1, e2⟩ | ⟨F, F', e1, e2, f1, f2, f3, f4, f5, f6⟩
                  · rw [e1, e2]; exact Or.inl ⟨e, rfl, rfl⟩
                  · rw [e1, e2]
                    simp only
                    have stp := hX.step m3 (by omega) (A := fun _ => 31) (fun _ => ⟨by decide, by decide⟩)
                    have kV2 : WP sv m m (tiC τ sl fun _ => 31) V g := (kV.wide m3).step fun p p1 p2 => by
                      have e31 := kV.2.2.1 hV0 p p1 (by omega)
                      unfold LBp
                      rw [e31]
                      exact ⟨fun _ => by decide, fun _ => by decide⟩
                    rcases ih (kid T n 1) _ m sh sc sm sv _ V g pl rm nm ow b3 wn1 stp (by omega) kV2 with ⟨e, e3, e4⟩ | ⟨G, G', e3, e4, g1, g2, g3, g4, g5, g6⟩
                    · rw [e3, e4]; exact Or.inl ⟨e, rfl, rfl⟩
                    · rw [e3, e4]
                      simp only
                      rw [← f1, ← g1]
                      by_cases c : (T n).1 ≠ 67 ∧ (F.1 ||| G.1) &&& 30 ≠ 0
                      · rw [if_pos c, if_pos c]; exact Or.inl ⟨_, rfl, rfl⟩
                      · rw [if_neg c, if_neg c]
                        exact Or.inr ⟨_, _, rfl, rfl, FR.fin hX (by (repeat' split) <;> decide) (Or.inl ⟨rfl, rfl⟩) (fun _ => rfl) kVh kVh⟩
                · omega
                · omega
              · rw [if_neg c4, if_neg c4]
                by_cases c5 : (T n).1 = 63
                · rw [if_pos c5, if_pos c5]
                  rcases m5 with ⟨a, _⟩ | ⟨a, _⟩ | ⟨a, _⟩ | ⟨a, b1, b2, b3, m', b4, b5, b6, b7⟩
                  · rw [c5] at a; exact absurd a (by decide)
                  · rw [c5] at a; exact absurd a (by decide)
                  · omega
                  · have wn1 : wn T k (kid T n 1) sm ∧ wn T k (kid T n 2) sm := by
                      unfold wn at wN
                      rw [b1] at wN
                      exact wN.2
                    rcases r0 with ⟨e, e1, e2⟩ | ⟨F, F', e1, e2, f1, f2, f3, f4, f5, f6⟩
                    · rw [e1, e2]; exact Or.inl ⟨e, rfl, rfl⟩
                    · rw [e1, e2]
                      simp only
                      obtain ⟨x1, x2⟩ := hX.nx m3 (by omega) f5
                      rcases ih (kid T n 1) _ m m' sc sm sv _ _ _ pl rm nm ow b6 wn1.1 x1 (by omega) x2 with ⟨e, e3, e4⟩ | ⟨G, G', e3, e4, gg⟩
                      · rw [e3, e4]; exact Or.inl ⟨e, rfl, rfl⟩
                      · rw [e3, e4]
                        simp only
                        obtain ⟨g1, g2, g3, g4, g5, g6⟩ := gg.back m3
                        obtain ⟨y1, y2⟩ := hX.nx (m := m') (by omega) (by omega) (f6.wide b4)
                        rcases ih (kid T n 2) _ m' sh sc sm sv _ _ _ pl rm nm ow b7 wn1.2 y1 (by omega) y2 with ⟨e, e5, e6⟩ | ⟨H, H', e5, e6, hh⟩
                        · rw [e5, e6]; exact Or.inl ⟨e, rfl, rfl⟩
                        · rw [e5, e6]
                          simp only
                          obtain ⟨h1, h2', h3, h4, h5, h6⟩ := hh.back (by omega)
                          rw [← g1, ← h1]
                          exact Or.inr ⟨_, _, rfl, rfl, FR.fin hX (k_or32 _ g2 _ h2') (Or.inl ⟨rfl, rfl⟩) (fun _ => rfl) (WR.or hX (g5.wide b5) h5).p (WR.or hX (g6.wide b5) h6).p⟩
                · rw [if_neg c5, if_neg c5]
                  by_cases c6 : (T n).1 = 38
                  · rw [if_pos c6, if_pos c6]
                    rcases m5 with ⟨a, _⟩ | ⟨a, b1, b2, b3⟩ | ⟨a, _⟩ | ⟨a, _⟩
                    · rw [c6] at a; exact absurd a (by decide)
                    · have wn1 : wn T k (kid T n 1) sm := by
                        unfold wn at wN
                        rw [b1] at wN
                        rcases wN.2 with z | z
                        · exact z.2
                        · have := z.1; omega
                      rcases r0 with ⟨e, e1, e2⟩ | ⟨F, F', e1, e2, f1, f2, f3, f4, f5, f6⟩
                      · rw [e1, e2]; exact Or.inl ⟨e, rfl, rfl⟩
                      · rw [e1, e2]
                        simp only
                        obtain ⟨x1, x2⟩ := hX.nx m3 (by omega) f5
                        rcases ih (kid T n 1) _ m sh sc sm sv _ _ _ pl rm nm ow b3 wn1 x1 (by omega) x2 with ⟨e, e3, e4⟩ | ⟨G, G', e3, e4, gg⟩
                        · rw [e3, e4]; exact Or.inl ⟨e, rfl, rfl⟩
                        · rw [e3, e4]
                          simp only
                          obtain ⟨g1, g2, g3, g4, g5, g6⟩ := gg.back m3
                          have et : (if F.2.2.2.1 ≠ 0 then 0 else 4) = (if nImp F'.2.2.2 = true then 0 else 4) := if_iff (nImp_no hs f6) _ _
                          rw [← g1, ← et]
                          exact Or.inr ⟨_, _, rfl, rfl, FR.fin hX (k_or32 _ g2 _ (by split <;> decide)) (Or.inl ⟨rfl, rfl⟩) (fun _ => rfl) g5.p (WR.or hX g6 (f6.wide m4)).p⟩
                    · omega
                    · omega
                  · rw [if_neg c6, if_neg c6]
                    by_cases c7 : (T n).1 = 124
                    · rw [if_pos c7, if_pos c7]
                      rcases m5 with ⟨a, _⟩ | ⟨a, b1, b2, b3⟩ | ⟨a, _⟩ | ⟨a, _⟩
                      · rw [c7] at a; exact absurd a (by decide)
                      · have wn1 : wn T k (kid T n 1) sm := by
                          unfold wn at wN
                          rw [b1] at wN
                          rcases wN.2 with z | z
                          · exact z.2
                          · have := z.1; omega
                        rcases r0 with ⟨e, e1, e2⟩ | ⟨F, F', e1, e2, f1, f2, f3, f4, f5, f6⟩
                        · rw [e1, e2]; exact Or.inl ⟨e, rfl, rfl⟩
                        · rw [e1, e2]
                          simp only
                          obtain ⟨x1, x2⟩ := hX.nx m3 (by omega) f6
                          rcases ih (kid T n 1) _ m sh sc sm sv _ _ _ pl rm nm ow b3 wn1 x1 (by omega) x2 with ⟨e, e3, e4⟩ | ⟨G, G', e3, e4, gg⟩
                          · rw [e3, e4]; exact Or.inl ⟨e, rfl, rfl⟩
                          · rw [e3, e4]
                            simp only
                            obtain ⟨g1, g2, g3, g4, g5, g6⟩ := gg.back m3
                            rw [← g1, ← f1]
                            exact Or.inr ⟨_, _, rfl, rfl, FR.fin hX (k_or32 _ (Nat.lt_of_le_of_lt Nat.and_le_left f2) _ g2) (Or.inl ⟨rfl, rfl⟩) (fun _ => rfl) (WR.or hX (f5.wide m4) g5).p g6.p⟩
                      · omega
                      · omega
                    · rw [if_neg c7, if_neg c7]
                      by_cases c8 : (T n).1 = 58
                      · rw [if_pos c8, if_pos c8]
                        rcases m5 with ⟨a, _⟩ | ⟨a, _⟩ | ⟨a, b1, b2, b3, b4, b5, b6⟩ | ⟨a, _⟩
                        · rw [c8] at a; exact absurd a (by decide)
                        · rw [c8] at a; exact absurd a (by decide)
                        · have wn1 : (T n).2.2.1 < 8 ∧ sm (T n).2.2.1 = none ∧ wn T k (kid T n 1) (up sm (T n).2.2.1 (some m)) := by
                            unfold wn at wN
                            rw [b1] at wN
                            rcases wN.2 with z | z
                            · exact absurd c8 z.1
                            · rw [b2] at z; exact z.2
                          obtain ⟨n1, n2, n3⟩ := wn1
                          generalize hx : (T n).2.2.1 = x at n1 n2 n3 ⊢
                          rcases r0 with ⟨e, e1, e2⟩ | ⟨F, F', e1, e2, f1, f2, f3, f4, f5, f6⟩
                          · rw [e1, e2]; exact Or.inl ⟨e, rfl, rfl⟩
                          · rw [e1, e2, b2]
                            simp only
                            have svn : sv x = none := by
                              cases e : sv x with
                              | none => rfl
                              | some s => have := (hX.2.2.1 x s e).2; rw [n2] at this; cases this
                            rcases f3 with ⟨o1, o2⟩ | ⟨p, p', o1, o2, o3⟩
                            · rw [o1, o2]
                              simp only
                              have x1 := hX.own m3 (by omega) n1 n2 (by omega) f5 f6
                              have x2 : WP (up sv x (some m)) (m + 1) (m + 1) (tiO τ sl m F.2.2.1 F.2.2.2) (vRes V (7 * m) F.1) (nIn g x F'.1) := by
                                rw [← f1]
                                obtain ⟨v1, v2⟩ := av_res kV.1 (show 7 * m < 119 by omega) f2
                                have rsV : Rs sv V g := by
                                  rcases kV.2.1 with z | z
                                  · rw [z.1] at hV0; exact absurd hV0 (by decide)
                                  · exact z.2
                                have full := kV.2.2.1 hV0
                                have a31 : av V (7 * m) = 31 := full _ (by omega) (by omega)
                                have k31 : 31 &&& F.1 = F.1 := by rw [Nat.and_comm]; exact k_31 _ f2
                                rw [a31, k31] at v2
                                refine ⟨v1, ?_, fun z p p1 p2 => ?_, fun p hp => ?_⟩
                                · rcases v2 with ⟨z1, z2⟩ | ⟨z1, z2, z3⟩
                                  · refine Or.inl ⟨z2, nImp_t.mpr ⟨7 * x, by omega, ?_⟩⟩
                                    show (if 7 * x / 7 = x then (if 7 * x = 7 * x then F.1 else 31) else g (7 * x)) = 0
                                    rw [if_pos (by omega), if_pos rfl]
                                    exact z1
                                  · refine Or.inr ⟨z2, fun y hy q hq => ?_⟩
                                    show (if (7 * y + q) / 7 = x then (if 7 * y + q = 7 * x then F.1 else 31) else g (7 * y + q)) = _
                                    unfold rlS
                                    by_cases yx : y = x
                                    · subst yx
                                      rw [if_pos (by omega), up_same]
                                      simp only
                                      rw [z3 _ (by omega)]
                                      by_cases q0 : q = 0
                                      · subst q0; rw [if_pos (by omega), if_pos (by omega)]
                                      · rw [if_neg (by omega), if_neg (by omega), full _ (by omega) (by omega)]
                                    · rw [if_neg (by omega), up_ne _ _ yx, rsV y hy q hq]
                                      unfold rlS
                                      cases ey : sv y with
                                      | none => rfl
                                      | some s =>
                                        have l1 := hX.2.2.1 y s ey
                                        simp only
                                        rw [z3 _ (by omega), if_neg (by omega)]
                                · rcases v2 with ⟨z1, z2⟩ | ⟨z1, z2, z3⟩
                                  · rw [z2] at z; exact absurd z (by decide)
                                  · rw [z3 p p2, if_neg (by omega)]
                                    exact full p (by omega) p2
                                · have tl := x1.t p hp
                                  rcases v2 with ⟨z1, z2⟩ | ⟨z1, z2, z3⟩
                                  · exact LB_z v1 z2 _ tl p
                                  · have pm : p / 7 ≠ m := fun z => hp.2 x (by rw [up_same, z])
                                    have p7 : p < 7 * m := by have := hp.1; omega
                                    have ep : av (vRes V (7 * m) F.1) p = av V p := by rw [z3 p (by omega), if_neg (by omega)]
                                    by_cases q : p < 7 * sl
                                    · have et : tiO τ sl m F.2.2.1 F.2.2.2 p = τ p := if_pos q
                                      have gp : gho sv sl p := ⟨q, fun y e => by
                                        by_cases yx : y = x
                                        · subst yx; rw [svn] at e; cases e
                                        · exact hp.2 y (by rw [up_ne _ _ yx]; exact e)⟩
                                      obtain ⟨_, _, xt, t3⟩ := hX.2.2.2.2.1 p gp
                                      have lt := (hX.2.2.1 _ _ t3).1
                                      rw [et] at tl ⊢
                                      unfold LBp
                                      rw [ep, z3 _ (by omega), if_neg (by omega)]
                                      exact kV.2.2.2 p gp
                                    · have et : tiO τ sl m F.2.2.1 F.2.2.2 p = (m, avA F.2.2.1 p, avA F.2.2.2 p) := if_neg q
                                      rw [et]
                                      unfold LBp
                                      rw [ep, full p (by omega) (by omega)]
                                      exact ⟨fun _ => k_31 _ (avA_ok f5.1 p).2, fun _ => k_31 _ (avA_ok f6.1 p).2⟩
                              rcases ih (kid T n 1) _ (m + 1) sh _ _ _ _ _ _ _ _ _ _ b6 n3 x1 (by omega) x2 with ⟨e, e3, e4⟩ | ⟨G, G', e3, e4, g1, g2, g3, g4, g5, g6⟩
                              · rw [show 7 * m = 7 * m from rfl] at e3
                                rw [e3, e4]; exact Or.inl ⟨e, rfl, rfl⟩
                              · rw [e3, e4]
                                simp only
                                rw [← g1]
                                have dr : ∀ (Z : vT) (Z' : nV), WR (up sv x (some m)) (m + 1) sh (tiO τ sl m F.2.2.1 F.2.2.2) Z Z' → WP sv sl sh τ Z (nDrop Z' x) := by
                                  intro Z Z' kz
                                  refine ⟨kz.1, ?_, kz.2.2.1, fun p hp => ?_⟩
                                  · unfold nDrop
                                    rcases kz.2.1 with ⟨z1, z2⟩ | ⟨z1, z2⟩
                                    · have zi : nImp Z' = true := nImp_t.mpr ⟨0, by decide, z2 0 (by decide)⟩
                                      rw [if_pos zi]; exact Or.inl ⟨z1, zi⟩
                                    · rw [if_neg (Rs.nz x1.1 kz.1 z1 z2)]
                                      refine Or.inr ⟨z1, fun y hy q hq => ?_⟩
                                      have ey := z2 y hy q hq
                                      show (if (7 * y + q) / 7 = x then 31 else Z' (7 * y + q)) = _
                                      unfold rlS at ey ⊢
                                      by_cases yx : y = x
                                      · subst yx
                                        rw [svn, if_pos (by omega)]
                                      · rw [up_ne _ _ yx] at ey
                                        rw [if_neg (by omega)]
                                        exact ey
                                  · have et : tiO τ sl m F.2.2.1 F.2.2.2 p = τ p := if_pos hp.1
                                    rw [← et]
                                    refine kz.2.2.2 p ⟨by have := hp.1; omega, fun y e => ?_⟩
                                    by_cases yx : y = x
                                    · subst yx
                                      rw [up_same] at e
                                      injection e with e
                                      have := hp.1
                                      omega
                                    · rw [up_ne _ _ yx] at e
                                      exact hp.2 y e
                                have hpl : oR sv (ckLet G m).2.1 (nGone G'.2.1 x) := by
                                  unfold ckLet nGone
                                  rcases g3 with ⟨q1, q2⟩ | ⟨p, p', q1, q2, y, s, q, r1, r2, r3, r4⟩
                                  · rw [q1, q2]; exact Or.inl ⟨rfl, rfl⟩
                                  · rw [q1, q2]
                                    simp only
                                    by_cases yx : y = x
                                    · subst yx
                                      rw [up_same] at r1
                                      injection r1 with r1
                                      rw [if_pos (by omega), if_pos (by omega)]
                                      exact Or.inl ⟨rfl, rfl⟩
                                    · rw [up_ne _ _ yx] at r1
                                      have l1 := hX.2.2.1 y s r1
                                      rw [if_neg (by omega), if_neg (by omega)]
                                      exact Or.inr ⟨p, p', rfl, rfl, y, s, q, r1, r2, r3, r4⟩
                                refine Or.inr ⟨_, _, rfl, rfl, FR.fin hX g2 hpl (fun z => ?_) (dr _ _ g5) (dr _ _ g6)⟩
                                show (ckLet G m).2.1 = none
                                unfold ckLet
                                rw [g4 z]
                            · rw [o1, o2]
                              simp only
                              have x1 := hX.kin m3 (by omega) n1 n2 o3
                              have x2 : WP sv (m + 1) (m + 1) (tiC τ sl fun _ => 31) V g := (kV.wide (show sl ≤ m + 1 by omega)).step fun p p1 p2 => by
                                have e31 := kV.2.2.1 hV0 p p1 (by omega)
                                unfold LBp
                                rw [e31]
                                exact ⟨fun _ => by decide, fun _ => by decide⟩
                              rcases ih (kid T n 1) _ (m + 1) sh _ _ _ _ _ _ _ _ _ _ b6 n3 x1 (by omega) x2 with ⟨e, e3, e4⟩ | ⟨G, G', e3, e4, gg⟩
                              · rw [e3, e4]; exact Or.inl ⟨e, rfl, rfl⟩
                              · rw [e3, e4]
                                simp only
                                obtain ⟨g1, g2, g3, g4, g5, g6⟩ := gg.back (by omega)
                                rw [← g1]
                                have hpl : (ckLet G m).2.1 = G.2.1 := by
                                  unfold ckLet
                                  rcases g3 with ⟨q1, q2⟩ | ⟨p, p', q1, q2, y, s, q, r1, r2, r3, r4⟩
                                  · rw [q1]
                                  · rw [q1]
                                    have l1 := hX.2.2.1 y s r1
                                    simp only
                                    rw [if_neg (by omega)]
                                have hle : ckLet G m = (G.1, G.2.1, G.2.2.1, G.2.2.2) := by
                                  rw [← hpl]; rfl
                                rw [hle]
                                exact Or.inr ⟨_, _, rfl, rfl, FR.fin hX g2 g3 g4 g5.p g6.p⟩
                        · omega
                      · rw [if_neg c8, if_neg c8]
                        by_cases c9 : (T n).1 = 71 ∨ (T n).1 = 72 ∨ (T n).1 = 73
                        · rw [if_pos c9, if_pos c9]
                          rcases r0 with ⟨e, e1, e2⟩ | ⟨F, F', e1, e2, f1, f2, f3, f4, f5, f6⟩
                          · rw [e1, e2]; exact Or.inl ⟨e, rfl, rfl⟩
                          · rw [e1, e2]
                            simp only
                            cases ef : fx ((T n).1 - 71) with
                            | none => exact Or.inl ⟨_, rfl, rfl⟩
                            | some z =>
                              obtain ⟨pt, kk, y, no⟩ := z
                              simp only
                              rw [← f1]
                              obtain ⟨hpt, hkk⟩ := hf _ _ _ _ _ ef
                              by_cases c : F.1 &&& (31 - pt) ≠ 0
                              · rw [if_pos c, if_pos c]; exact Or.inl ⟨_, rfl, rfl⟩
                              · rw [if_neg c, if_neg c]
                                exact Or.inr ⟨_, _, rfl, rfl, FR.fin hX hkk (Or.inl ⟨rfl, rfl⟩) (fun _ => rfl) (kVh.fromO hX hsl y f3) (kVh.fromO hX hsl no f3)⟩
                        · exfalso
                          rcases m5 with ⟨a, _⟩ | ⟨a, _⟩ | ⟨a, _⟩ | ⟨a, _⟩
                          · simp at a; omega
                          · simp at a; omega
                          · omega
                          · omega
end EQT
