/-! The machine as a function. -/
abbrev eR : Type := (Nat × cL) × (Nat ⊕ Nat)
abbrev bT : Type := Nat → Option ((Nat → nd) × Nat)
def lfv (x : nd) (ρ : Nat → Nat) : Nat := match x.2.2.2.1 with
  | some s => ρ s
  | none => if x.1 = 35 then 0 else if x.1 = 126 then 1 else if x.1 = 46 then 2 else 3 + x.1 - 48
def ap1 (op v : Nat) (st : Nat × cL) : eR :=
  if op = 33 then (st, .inr (if v = 1 then 0 else 1))
  else if op = 65 ∨ op = 68 then (if (st.2.2 v).1 = 16 then (st, .inr ((if op = 65 then (st.2.2 v).2.2.1 else (st.2.2 v).2.2.2).getD 0)) else (st, .inl 2))
  else (st, .inr (if (st.2.2 v).1 &&& tkd op = 0 then 1 else 0))
def ap2 (op v w : Nat) (st : Nat × cL) : eR :=
  if op = 67 then (if st.2.1 = 64 then (st, .inl 3) else ((st.1, cAdd st.2 (16, 0, some v, some w)), .inr st.2.1))
  else if (st.2.2 v).1 = 1 ∧ (st.2.2 w).1 = 1 then (if op = 60 then (st, .inr (if (st.2.2 w).2.1 ≤ (st.2.2 v).2.1 then 1 else 0))
    else if st.2.1 = 64 then (st, .inl 3) else ((st.1, cAdd st.2 (1, if op = 43 then (st.2.2 v).2.1 + (st.2.2 w).2.1 else (st.2.2 v).2.1 - (st.2.2 w).2.1, none, none)), .inr st.2.1))
  else (st, .inl 2)
def evTwo (r : eR) (op v : Nat) : eR := match r.2 with
  | .inl e => (r.1, .inl e)
  | .inr w => ap2 op v w r.1
def evOp (e : (Nat → nd) → Nat → (Nat → Nat) → Nat × cL → eR) (bf : bT) (T : Nat → nd) (n : Nat) (ρ : Nat → Nat) (v : Nat) (st : Nat × cL) : eR :=
  if (T n).1 = 63 then e T (if v = 1 then kid T n 2 else kid T n 1) ρ st
  else if (T n).1 = 38 then (if v = 1 then (st, .inr 1) else e T (kid T n 1) ρ st)
  else if (T n).1 = 124 then (if v = 1 then e T (kid T n 1) ρ st else (st, .inr v))
  else if (T n).1 = 58 then (match (T n).2.2.2.1 with
    | none => (st, .inl 0)
    | some s => e T (kid T n 1) (up ρ s v) st)
  else if 71 ≤ (T n).1 ∧ (T n).1 ≤ 73 then (match bf ((T n).1 - 71) with
    | none => (st, .inl 0)
    | some b => e b.1 b.2 (fun _ => v) st)
  else if (T n).1 = 67 ∨ (T n).1 = 43 ∨ (T n).1 = 45 ∨ (T n).1 = 60 then evTwo (e T (kid T n 1) ρ st) (T n).1 v
  else ap1 (T n).1 v st
def evNx (r : eR) (f : Nat → Nat × cL → eR) : eR := match r.2 with
  | .inl e => (r.1, .inl e)
  | .inr v => f v r.1
/-- one evaluation: how many were begun, the cells; why it stopped, or its cell -/
def ev (bf : bT) (lim : Nat) : Nat → (Nat → nd) → Nat → (Nat → Nat) → Nat × cL → eR
  | 0, _, _, _, st => (st, .inl 0)
  | k + 1, T, n, ρ, st => if lim ≤ st.1 then (st, .inl 0) else if (T n).2.2.2.2 = [] then ((st.1 + 1, st.2), .inr (lfv (T n) ρ)) else
    evNx (ev bf lim k T (kid T n 0) ρ (st.1 + 1, st.2)) (evOp (ev bf lim k) bf T n ρ)
def cbd (bf : bT) (rk : Nat → Nat) (R op : Nat) : Prop := 71 ≤ op → op ≤ 73 → (bf (op - 71)).isSome = true ∧ rk (op - 71) < R
/-- a text calls functions of lower rank only, its constants are constants -/
def txO (bf : bT) (rk : Nat → Nat) (R : Nat) (T : Nat → nd) (n : Nat) : Prop := ∀ m, m ≤ n → cbd bf rk R (T m).1 ∧ ((T m).2.2.2.2 = [] → (T m).2.2.2.1 = none → isK (T m).1)
theorem txO.le {bf : bT} {rk : Nat → Nat} {R n n' : Nat} {T : Nat → nd} (h : txO bf rk R T n) (hn : n' ≤ n) : txO bf rk R T n' := fun m hm => h m (by omega)
def bfO (bf : bT) (rk : Nat → Nat) : Prop := ∀ i, i < 3 → ∀ b, bf i = some b → (∃ sh, wt b.1 7 b.2 0 2 sh [0]) ∧ txO bf rk (rk i) b.1 b.2
/-- the parts of a node -/
theorem wt_inv {T : Nat → nd} {h n lo sl sh : Nat} {sc : List Nat} (w : wt T (h + 1) n lo sl sh sc) (ne : ¬ (T n).2.2.2.2 = []) :
    ∃ m, kid T n 0 < n ∧ wt T h (kid T n 0) lo sl m sc ∧ sl ≤ m ∧ m ≤ sh ∧
      (((T n).1 ∈ [78, 66, 69, 80, 33, 65, 68, 71, 72, 73] ∧ (T n).2.2.2.2 = [kid T n 0]) ∨
       ((T n).1 ∈ [67, 43, 45, 60, 38, 124] ∧ (T n).2.2.2.2 = [kid T n 0, kid T n 1] ∧ kid T n 1 < n ∧ wt T h (kid T n 1) (kid T n 0 + 1) m sh sc) ∨
       ((T n).1 = 58 ∧ (T n).2.2.2.2 = [kid T n 0, kid T n 1] ∧ (T n).2.2.2.1 = some m ∧ m < sh ∧ sh ≤ 17 ∧ kid T n 1 < n ∧ wt T h (kid T n 1) (kid T n 0 + 1) (m + 1) sh (m :: sc)) ∨
       ((T n).1 = 63 ∧ (T n).2.2.2.2 = [kid T n 0, kid T n 1, kid T n 2] ∧ kid T n 1 < n ∧ kid T n 2 < n ∧ ∃ m2, m ≤ m2 ∧ m2 ≤ sh ∧ wt T h (kid T n 1) (kid T n 0 + 1) m m2 sc ∧ wt T h (kid T n 2) (kid T n 1 + 1) m2 sh sc)) := by
  obtain ⟨w1, w2, w3, w4, w5, w6, w7⟩ := w
  unfold kid
  generalize hl : (T n).2.2.2.2 = l at w7 ne ⊢
  rcases l with _ | ⟨a, _ | ⟨b, _ | ⟨c', _ | ⟨d', l⟩⟩⟩⟩
  · exact absurd rfl ne
  · obtain ⟨q1, q2, q3, q4⟩ := w7
    exact ⟨sh, (by show a < n; omega), q4, w3, Nat.le_refl _, Or.inl ⟨q1, rfl⟩⟩
  · obtain ⟨q1, q2, ⟨q3, q4, m, q5, q6⟩ | ⟨q3, s, q4, q5, q6⟩⟩ := w7
    · have l1 := wt_lt q5
      have l2 := wt_lt q6
      exact ⟨m, (by show a < n; omega), q5, (by omega), (by omega), Or.inr (Or.inl ⟨q3, rfl, (by show b < n; omega), q6⟩)⟩
    · have l1 := wt_lt q5
      have l2 := wt_lt q6
      exact ⟨s, (by show a < n; omega), q5, (by omega), (by omega), Or.inr (Or.inr (Or.inl ⟨q3, rfl, q4, (by omega), w4, (by show b < n; omega), q6⟩))⟩
  · obtain ⟨q0, q1, q2, q3, q4, m, m2, q5, q6, q7⟩ := w7
    have l1 := wt_lt q5
    have l2 := wt_lt q6
    have l3 := wt_lt q7
    exact ⟨m, (by show a < n; omega), q5, (by omega), (by omega), Or.inr (Or.inr (Or.inr ⟨q0, rfl, (by show b < n; omega), (by show c' < n; omega), m2, (by omega), (by omega), q6, q7⟩))⟩
  · exact absurd w7 id
/-- what an evaluation gives -/
def evR (lim : Nat) (st : Nat × cL) (r : eR) : Prop := clO r.1.2 ∧ st.2.1 ≤ r.1.2.1 ∧ (∀ i, i < st.2.1 → r.1.2.2 i = st.2.2 i) ∧ st.1 ≤ r.1.1 ∧ (st.1 ≤ lim → r.1.1 ≤ lim) ∧ (∀ e, r.2 = .inl e → e ≤ 3) ∧ ∀ v, r.2 = .inr v → v < r.1.2.1
theorem evR.trans {lim : Nat} {st : Nat × cL} {r r2 : eR} (h : evR lim st r) (k : evR lim r.1 r2) : evR lim st r2 := by
  obtain ⟨h1, h2, h3, h4, h5, h6, h7⟩ := h
  obtain ⟨k1, k2, k3, k4, k5, k6, k7⟩ := k
  exact ⟨k1, by omega, fun i hi => (k3 i (by omega)).trans (h3 i hi), by omega, fun q => k5 (h5 q), k6, k7⟩
theorem evR.stop {lim : Nat} {st : Nat × cL} {e : Nat} (h : clO st.2) (he : e ≤ 3) : evR lim st (st, .inl e) := ⟨h, Nat.le_refl _, fun _ _ => rfl, Nat.le_refl _, id, fun x z => (by cases z; exact he), fun x z => (by cases z)⟩
theorem evR.val {lim : Nat} {st : Nat × cL} {v : Nat} (h : clO st.2) (hv : v < st.2.1) : evR lim st (st, .inr v) := ⟨h, Nat.le_refl _, fun _ _ => rfl, Nat.le_refl _, id, fun x z => (by cases z), fun x z => (by cases z; exact hv)⟩
theorem evR.add {lim : Nat} {st : Nat × cL} {x : cE} (h : clO st.2) (hL : ¬ st.2.1 = 64) (hx : (x.1 = 1 ∧ x.2.2.1 = none ∧ x.2.2.2 = none) ∨ (x.1 = 16 ∧ ∃ a b, a < st.2.1 ∧ b < st.2.1 ∧ x.2.2.1 = some a ∧ x.2.2.2 = some b)) : evR lim st ((st.1, cAdd st.2 x), .inr st.2.1) := by
  have h64 := h.2.1
  exact ⟨h.add (by omega) hx, Nat.le_succ _, fun i hi => up_ne _ _ (by omega), Nat.le_refl _, id, fun y z => (by cases z), fun y z => (by cases z; exact Nat.lt_succ_self _)⟩
theorem ap1_ok {lim op v : Nat} {st : Nat × cL} (h : clO st.2) (hv : v < st.2.1) : evR lim st (ap1 op v st) := by
  have h13 := h.1
  unfold ap1
  split
  · exact evR.val h (by split <;> omega)
  · split
    · split
      · rename_i q
        obtain ⟨c1, c2, c3, c4, c5⟩ := h.2.2 v hv
        obtain ⟨d1, d2⟩ := c5 q
        refine evR.val h ?_
        split
        · obtain ⟨a, ha⟩ := Option.isSome_iff_exists.mp d1
          rw [ha]
          have := c3 a ha
          show a < _
          omega
        · obtain ⟨a, ha⟩ := Option.isSome_iff_exists.mp d2
          rw [ha]
          have := c4 a ha
          show a < _
          omega
      · exact evR.stop h (by decide)
    · exact evR.val h (by split <;> omega)
theorem ap2_ok {lim op v w : Nat} {st : Nat × cL} (h : clO st.2) (hv : v < st.2.1) (hw : w < st.2.1) : evR lim st (ap2 op v w st) := by
  have h13 := h.1
  unfold ap2
  split
  · split
    · exact evR.stop h (by decide)
    · rename_i q
      exact evR.add h q (Or.inr ⟨rfl, v, w, hv, hw, rfl, rfl⟩)
  · split
    · split
      · exact evR.val h (by split <;> omega)
      · split
        · exact evR.stop h (by decide)
        · rename_i q
          exact evR.add h q (Or.inl ⟨rfl, rfl, rfl⟩)
    · exact evR.stop h (by decide)
theorem evR.tick {lim : Nat} {st : Nat × cL} {r : eR} (hl : ¬ lim ≤ st.1) (h : evR lim (st.1 + 1, st.2) r) : evR lim st r := by
  obtain ⟨h1, h2, h3, h4, h5, h6, h7⟩ := h
  exact ⟨h1, h2, h3, Nat.le_trans (Nat.le_succ _) h4, fun _ => h5 (by show st.1 + 1 ≤ lim; omega), h6, h7⟩
theorem ev_ok {bf : bT} {rk : Nat → Nat} {lim : Nat} (bO : bfO bf rk) : ∀ (k : Nat) (T : Nat → nd) (h n lo sl sh : Nat) (sc : List Nat) (ρ : Nat → Nat) (st : Nat × cL) (R : Nat), wt T h n lo sl sh sc → txO bf rk R T n → h + 7 * R ≤ k → clO st.2 → (∀ s, s ∈ sc → ρ s < st.2.1) → evR lim st (ev bf lim k T n ρ st) := by
  intro k
  induction k with
  | zero =>
    intro T h n lo sl sh sc ρ st R w _ hk _ _
    have h0 : h = 0 := by omega
    subst h0
    exact absurd w id
  | succ k ih =>
    intro T h n lo sl sh sc ρ st R w tx hk cl hρ
    rcases h with _ | h
    · exact absurd w id
    show evR lim st (if lim ≤ st.1 then _ else _)
    by_cases q : lim ≤ st.1
    · rw [if_pos q]; exact evR.stop cl (by decide)
    · rw [if_neg q]
      refine evR.tick q ?_
      have h13 := cl.1
      by_cases ne : (T n).2.2.2.2 = []
      · rw [if_pos ne]
        refine evR.val (st := (st.1 + 1, st.2)) cl ?_
        show lfv (T n) ρ < st.2.1
        obtain ⟨w1, w2, w3, w4, w5, w6, w7⟩ := w
        rw [ne] at w7
        cases e : (T n).2.2.2.1 with
        | some s =>
          have e2 : lfv (T n) ρ = ρ s := by unfold lfv; rw [e]
          rw [e2]
          exact hρ s (w7.2.2.1 s e)
        | none =>
          have hK := (tx n (Nat.le_refl _)).2 ne e
          have e2 : lfv (T n) ρ = if (T n).1 = 35 then 0 else if (T n).1 = 126 then 1 else if (T n).1 = 46 then 2 else 3 + (T n).1 - 48 := by unfold lfv; rw [e]
          rw [e2]
          unfold isK at hK
          (repeat' split) <;> omega
      · rw [if_neg ne]
        obtain ⟨m, m1, m2, m3, m4, m5⟩ := wt_inv w ne
        have r1 := ih T h (kid T n 0) lo sl m sc ρ (st.1 + 1, st.2) R m2 (tx.le (by omega)) (by omega) cl hρ
        generalize ev bf lim k T (kid T n 0) ρ (st.1 + 1, st.2) = r at r1 ⊢
        obtain ⟨st2, x⟩ := r
        cases x with
        | inl e => exact r1
        | inr v =>
          have hv := r1.2.2.2.2.2.2 v rfl
          have hv : v < st2.2.1 := hv
          have cl2 : clO st2.2 := r1.1
          have hρ2 : ∀ s, s ∈ sc → ρ s < st2.2.1 := fun s hs => Nat.lt_of_lt_of_le (hρ s hs) r1.2.1
          refine r1.trans ?_
          show evR lim st2 (evOp (ev bf lim k) bf T n ρ v st2)
          have h13b := cl2.1
          unfold evOp
          by_cases c63 : (T n).1 = 63
          · rw [if_pos c63]
            rcases m5 with ⟨a, _⟩ | ⟨a, _⟩ | ⟨a, _⟩ | ⟨a, b1, b2, b3, m2', b4, b5, b6, b7⟩
            · rw [c63] at a; exact absurd a (by decide)
            · rw [c63] at a; exact absurd a (by decide)
            · omega
            · split
              · exact ih T h _ _ _ _ sc ρ st2 R b7 (tx.le (by omega)) (by omega) cl2 hρ2
              · exact ih T h _ _ _ _ sc ρ st2 R b6 (tx.le (by omega)) (by omega) cl2 hρ2
          · rw [if_neg c63]
            by_cases c38 : (T n).1 = 38
            · rw [if_pos c38]
              rcases m5 with ⟨a, _⟩ | ⟨a, b1, b2, b3⟩ | ⟨a, _⟩ | ⟨a, _⟩
              · rw [c38] at a; exact absurd a (by decide)
              · split
                · exact evR.val cl2 (by omega)
                · exact ih T h _ _ _ _ sc ρ st2 R b3 (tx.le (by omega)) (by omega) cl2 hρ2
              · omega
              · omega
            · rw [if_neg c38]
              by_cases c124 : (T n).1 = 124
              · rw [if_pos c124]
                rcases m5 with ⟨a, _⟩ | ⟨a, b1, b2, b3⟩ | ⟨a, _⟩ | ⟨a, _⟩
                · rw [c124] at a; exact absurd a (by decide)
                · split
                  · exact ih T h _ _ _ _ sc ρ st2 R b3 (tx.le (by omega)) (by omega) cl2 hρ2
                  · exact evR.val cl2 hv
                · omega
                · omega
              · rw [if_neg c124]
                by_cases c58 : (T n).1 = 58
                · rw [if_pos c58]
                  rcases m5 with ⟨a, _⟩ | ⟨a, b1, b2, b3⟩ | ⟨a, b1, b2, b3, b4, b5, b6⟩ | ⟨a, _⟩
                  · rw [c58] at a; exact absurd a (by decide)
                  · rw [c58] at a; exact absurd a (by decide)
                  · rw [b2]
                    refine ih T h _ _ _ _ _ (up ρ m v) st2 R b6 (tx.le (by omega)) (by omega) cl2 fun s hs => ?_
                    by_cases z : s = m
                    · subst z; rw [up_same]; exact hv
                    · rw [up_ne _ _ z]
                      rcases List.mem_cons.mp hs with z' | z'
                      · exact absurd z' z
                      · exact hρ2 s z'
                  · omega
                · rw [if_neg c58]
                  by_cases cf : 71 ≤ (T n).1 ∧ (T n).1 ≤ 73
                  · rw [if_pos cf]
                    obtain ⟨f1, f2⟩ := (tx n (Nat.le_refl _)).1 cf.1 cf.2
                    obtain ⟨b, hb⟩ := Option.isSome_iff_exists.mp f1
                    rw [hb]
                    obtain ⟨⟨sh', g1⟩, g2⟩ := bO _ (by omega) b hb
                    exact ih b.1 7 b.2 0 2 sh' [0] (fun _ => v) st2 _ g1 g2 (by omega) cl2 (fun _ _ => hv)
                  · rw [if_neg cf]
                    by_cases c2 : (T n).1 = 67 ∨ (T n).1 = 43 ∨ (T n).1 = 45 ∨ (T n).1 = 60
                    · rw [if_pos c2]
                      rcases m5 with ⟨a, _⟩ | ⟨a, b1, b2, b3⟩ | ⟨a, _⟩ | ⟨a, _⟩
                      · simp at a; omega
                      · have r2 := ih T h _ _ _ _ sc ρ st2 R b3 (tx.le (by omega)) (by omega) cl2 hρ2
                        generalize ev bf lim k T (kid T n 1) ρ st2 = r' at r2 ⊢
                        obtain ⟨st3, y⟩ := r'
                        cases y with
                        | inl e => exact r2
                        | inr w' =>
                          refine r2.trans ?_
                          have l1 : st2.2.1 ≤ st3.2.1 := r2.2.1
                          exact ap2_ok r2.1 (by show v < st3.2.1; omega) (r2.2.2.2.2.2.2 w' rfl)
                      · omega
                      · omega
                    · rw [if_neg c2]
                      exact ap1_ok cl2 hv
