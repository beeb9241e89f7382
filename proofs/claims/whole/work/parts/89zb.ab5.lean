/-! The state of both sides stays well formed. -/
theorem pEnd_r {ch : Nat → Option Nat} {r : Nat ⊕ pS} {s : pS} (h : pEnd ch r = .inr s) : r = .inr s := by
  unfold pEnd at h
  (repeat' split at h) <;> first | (cases h; done) | (cases h; rfl) | (cases h; assumption)
theorem cnt_le (fx : fnT) : cnt fx ≤ 3 := by
  unfold cnt
  (repeat' split) <;> omega
theorem cnt_up {fx : fnT} {j : Nat} {v : Nat × Nat × Int64 × Int64} (hj : j < 3) (h : (fx j).isSome = false) : cnt (up fx j (some v)) = cnt fx + 1 := by
  unfold cnt
  have : j = 0 ∨ j = 1 ∨ j = 2 := by omega
  rcases this with rfl | rfl | rfl
  · rw [up_same, up_ne _ _ (by decide), up_ne _ _ (by decide), h]
    rw [Option.isSome_some, if_pos rfl, if_neg (by decide : ¬ false = true)]
    all_goals omega
  · rw [up_same, up_ne _ _ (by decide), up_ne _ _ (by decide), h]
    rw [Option.isSome_some, if_pos (rfl : true = true), if_neg (by decide : ¬ false = true)]
    all_goals omega
  · rw [up_same, up_ne _ _ (by decide), up_ne _ _ (by decide), h]
    rw [Option.isSome_some, if_pos (rfl : true = true), if_neg (by decide : ¬ false = true)]
    all_goals omega
section ABS
variable {A : xA}
theorem tx_np {F : xF} (a : AF F) {R : Nat} (hR : cnt F.1 ≤ R) {T : Nat → nd} {n : Nat} (np : ∀ m, m ≤ n → nP (fdO F.1) (T m)) : txO F.2.1 F.2.2.2 R T n := by
  intro m hm
  obtain ⟨n1, n2, _⟩ := np m hm
  refine ⟨fun q1 q2 => ?_, n1⟩
  have hs : (F.1 ((T m).1 - 71)).isSome = true := n2 q1 q2
  have l3 : (T m).1 - 71 < 3 := by omega
  exact ⟨by rw [a.2.1 _ l3]; exact hs, Nat.lt_of_lt_of_le (a.2.2.2 _ l3 hs) hR⟩
theorem tx_up {F : xF} {R j r : Nat} {b : (Nat → nd) × Nat} {T : Nat → nd} {n : Nat} (hj : (F.2.1 j).isSome = false) (h : txO F.2.1 F.2.2.2 R T n) : txO (up F.2.1 j (some b)) (up F.2.2.2 j r) R T n := by
  intro m hm
  obtain ⟨h1, h2⟩ := h m hm
  refine ⟨fun q1 q2 => ?_, h2⟩
  obtain ⟨h3, h4⟩ := h1 q1 q2
  have e : (T m).1 - 71 ≠ j := fun z => by rw [z, hj] at h3; cases h3
  rw [up_ne _ _ e, up_ne _ _ e]
  exact ⟨h3, h4⟩
theorem AI.type (a : AI A) {x : Nat} (hx : x < 65536) (hl : A.1.2 < 60) : AI ((up A.1.1 A.1.2 (some x), A.1.2 + 1), A.2) := by
  refine ⟨⟨by show A.1.2 + 1 ≤ 60; omega, fun i hi => ?_, fun i y e => ?_⟩, a.2⟩
  · have hi' : A.1.2 + 1 ≤ i := hi
    show up _ _ _ i = none
    rw [up_ne _ _ (by omega)]
    exact a.1.2.1 i (by omega)
  · have e' : up A.1.1 A.1.2 (some x) i = some y := e
    by_cases q : i = A.1.2
    · subst q; rw [up_same] at e'; cases e'; exact hx
    · rw [up_ne _ _ q] at e'; exact a.1.2.2 i y e'
theorem AI.wipe (a : AI A) : AI ((fun _ => none, 0), A.2) := ⟨⟨Nat.zero_le _, fun _ _ => rfl, fun _ _ e => (by cases e)⟩, a.2⟩
theorem AI.fl (a : AI A) (v : Int32) : AI (A.1, A.2.1, (A.2.2.1.1, A.2.2.1.2.1, v, A.2.2.1.2.2.2), A.2.2.2) := a
theorem AI.forget (a : AI A) : AI (A.1, (fun _ => none, fun _ => none, A.2.1.2.2), (none, false, A.2.2.1.2.2), A.2.2.2) :=
  ⟨a.1, ⟨fun _ _ _ _ _ e => (by cases e), fun _ _ => rfl, fun _ _ _ e => (by cases e), fun _ _ e => (by cases e)⟩, ⟨fun _ e => (by cases e), fun e => (by cases e)⟩, a.2.2.2⟩
theorem AI.clear (a : AI A) {st v : Int32} : AI (A.1, A.2.1, A.2.2.1, 0, (13, A.2.2.2.2.1.2), 2, 2, st, v) :=
  ⟨a.1, a.2.1, a.2.2.1, ⟨Nat.le_refl _, (by show 13 ≤ 64; decide), fun i hi => a.2.2.2.1.2.2 i (by have := a.2.2.2.1.1; have : i < 13 := hi; omega)⟩, (by show 13 + 0 ≤ 13; decide), Nat.zero_le _, (by show 2 < 13 + 0; decide), (by show 2 < 13 + 0; decide)⟩
theorem AI.keep (a : AI A) {x : cE} {st v : Int32} (h : A.2.2.2.1 < 40) (hx : (x.1 = 1 ∧ x.2.2.1 = none ∧ x.2.2.2 = none) ∨ (x.1 = 16 ∧ ∃ n m, n < 13 + A.2.2.2.1 ∧ m < 13 + A.2.2.2.1 ∧ x.2.2.1 = some n ∧ x.2.2.2 = some m)) : AI (A.1, A.2.1, A.2.2.1, A.2.2.2.1 + 1, cAdd (cutL A.2.2.2) x, A.2.2.2.2.2.1, A.2.2.2.2.2.2.1, st, v) := by
  have c := clO.cut a.2.2.2
  obtain ⟨a1, a2, a3, a4, a5⟩ := a.2.2.2
  exact ⟨a.1, a.2.1, a.2.2.1, c.add (show 13 + A.2.2.2.1 < 64 by omega) hx, (by show 13 + (A.2.2.2.1 + 1) ≤ 13 + A.2.2.2.1 + 1; omega), (by show A.2.2.2.1 + 1 ≤ 40; omega), (by show A.2.2.2.2.2.1 < 13 + (A.2.2.2.1 + 1); omega), (by show A.2.2.2.2.2.2.1 < 13 + (A.2.2.2.1 + 1); omega)⟩
theorem AI.input (a : AI A) {n m : Nat} (hm : m < 13 + A.2.2.2.1) : AI (A.1, A.2.1, A.2.2.1, A.2.2.2.1, A.2.2.2.2.1, (if n = 0 then m else A.2.2.2.2.2.1), (if n = 0 then A.2.2.2.2.2.2.1 else m), A.2.2.2.2.2.2.2) := by
  obtain ⟨a1, a2, a3, a4, a5⟩ := a.2.2.2
  refine ⟨a.1, a.2.1, a.2.2.1, a1, a2, a3, ?_, ?_⟩
  · show (if n = 0 then m else A.2.2.2.2.2.1) < 13 + A.2.2.2.1
    split
    · exact hm
    · exact a4
  · show (if n = 0 then A.2.2.2.2.2.2.1 else m) < 13 + A.2.2.2.1
    split
    · exact a5
    · exact hm
theorem AI.run (a : AI A) {b : (Nat → nd) × Nat} {n : Nat} (hb : A.2.2.1.1 = some b) {st : Nat × cL} {x : Nat ⊕ Nat} (he : evA A.2.1.2.1 n b A.2.2.2.2.2.1 A.2.2.2.2.2.2.1 (cutL A.2.2.2) = (st, x)) {s v : Int32} : AI (A.1, A.2.1, A.2.2.1, A.2.2.2.1, st.2, A.2.2.2.2.2.1, A.2.2.2.2.2.2.1, s, v) := by
  obtain ⟨⟨sh, hw⟩, hwn, htx, hnp⟩ := a.2.2.1.1 b hb
  have c := clO.cut a.2.2.2
  obtain ⟨a1, a2, a3, a4, a5⟩ := a.2.2.2
  have P := ev_ok (lim := n) a.2.1.2.2.1 28 b.1 7 b.2 0 2 sh [0, 1] (fun s => if s = 0 then A.2.2.2.2.2.1 else A.2.2.2.2.2.2.1) (0, cutL A.2.2.2) 3 hw htx (by decide) c (fun s _ => by
    show (if s = 0 then _ else _) < 13 + A.2.2.2.1
    split
    · exact a4
    · exact a5)
  unfold evA at he
  rw [he] at P
  exact ⟨a.1, a.2.1, a.2.2.1, P.1, P.2.1, a3, a4, a5⟩
theorem AI.check (a : AI A) {s : pS} (h : pExpr A.1.1 (fdO A.2.1.1) = .inr s) (k : Bool) (v : Int32) (y n : Nat → Int32) : AI (A.1, A.2.1, (some (s.2.2.2, s.2.2.1 - 1), k, v, y, n), A.2.2.2) := by
  obtain ⟨w, z, z60, wN, np⟩ := rd_wt a.1 smE_sc (pEnd_r h)
  refine ⟨a.1, a.2.1, ⟨fun b hb => ?_, fun _ => rfl⟩, a.2.2.2⟩
  cases hb
  exact ⟨⟨_, w⟩, wN, tx_np a.2.1 (cnt_le _) (fun m hm => np m (by omega)), fun m hm => (np m (by have : m ≤ s.2.2.1 - 1 := hm; omega)).2.2⟩
theorem AI.define (a : AI A) {j ty x : Nat} {s : pS} {g : gF} (h : pDef A.1.1 (fdO A.2.1.1) = .inr (j, ty, x, s)) (hg : g.1 < 32) (v : Int32) : AI (A.1, fAdd A.2.1 j ty x s g, (A.2.2.1.1, A.2.2.1.2.1, v, A.2.2.1.2.2.2), A.2.2.2) := by
  obtain ⟨d1, d2, d3, d4, d5, d6⟩ := pDef_ok h
  obtain ⟨w, z, z60, wN, np⟩ := rd_wt a.1 (smD_sc x) (pEnd_r d6)
  have hj : (A.2.1.1 j).isSome = false := d2
  have hb : (A.2.1.2.1 j).isSome = false := by rw [a.2.1.2.1 j d1]; exact hj
  have cu : cnt (fAdd A.2.1 j ty x s g).1 = cnt A.2.1.1 + 1 := cnt_up d1 hj
  refine ⟨a.1, ⟨fun i pt kk y n e => ?_, fun i hi => ?_, fun i hi b e => ?_, fun i hi e => ?_⟩, ⟨fun b e => ?_, a.2.2.1.2⟩, a.2.2.2⟩
  · have e' : up A.2.1.1 j (some (ty, g.1, g.2.2.1.2 0, g.2.2.2.2 0)) i = some (pt, kk, y, n) := e
    by_cases q : i = j
    · subst q; rw [up_same] at e'; cases e'; exact ⟨d3, hg⟩
    · rw [up_ne _ _ q] at e'; exact a.2.1.1 i pt kk y n e'
  · show (up A.2.1.2.1 j _ i).isSome = (up A.2.1.1 j _ i).isSome
    by_cases q : i = j
    · subst q; rw [up_same, up_same]; rfl
    · rw [up_ne _ _ q, up_ne _ _ q]; exact a.2.1.2.1 i hi
  · have e' : up A.2.1.2.1 j (some (s.2.2.2, s.2.2.1 - 1)) i = some b := e
    show _ ∧ txO (up A.2.1.2.1 j (some (s.2.2.2, s.2.2.1 - 1))) (up A.2.1.2.2.2 j (cnt A.2.1.1)) (up A.2.1.2.2.2 j (cnt A.2.1.1) i) b.1 b.2
    by_cases q : i = j
    · subst q
      rw [up_same] at e'
      cases e'
      rw [up_same]
      exact ⟨⟨_, w⟩, tx_up hb (tx_np a.2.1 (Nat.le_refl _) (fun m hm => np m (by omega)))⟩
    · rw [up_ne _ _ q] at e'
      rw [up_ne _ _ q]
      obtain ⟨b1, b2⟩ := a.2.1.2.2.1 i hi b e'
      exact ⟨b1, tx_up hb b2⟩
  · rw [cu]
    show up A.2.1.2.2.2 j (cnt A.2.1.1) i < _
    by_cases q : i = j
    · subst q; rw [up_same]; omega
    · rw [up_ne _ _ q]
      have e' : (up A.2.1.1 j (some (ty, g.1, g.2.2.1.2 0, g.2.2.2.2 0)) i).isSome = true := e
      rw [up_ne _ _ q] at e'
      have := a.2.1.2.2.2 i hi e'
      omega
  · obtain ⟨b1, b2, b3, b4⟩ := a.2.2.1.1 b e
    exact ⟨b1, b2, tx_up hb b3, b4⟩
end ABS
