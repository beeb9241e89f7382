/-! The class's object: where its things stand, what a whole call may change. -/
/-- below n nothing changes but what checks write and the object's own fields from the seventh on -/
def ufr (u n : Nat) (C C' : cS) : Prop := cle C C' ∧ (∀ a i, a < n → ¬ (a = 9 ∧ i < 17) → ¬ (a = 5 ∧ i = 5) → ¬ (a = 1 ∧ i = 7) → cR C' a i = cR C a i) ∧
  (∀ a i, a < n → ¬ (10 ≤ a ∧ a < u) → ¬ (a = 8 ∧ i < 17) → ¬ (a = 5 ∧ i = 6) → ¬ (a = 1 ∧ 7 ≤ i) → cI C' a i = cI C a i) ∧ ∀ a i, a < n → ¬ (10 ≤ a ∧ a < u) → cJ C' a i = cJ C a i
abbrev tfr (n : Nat) (C C' : cS) : Prop := ufr 350 n C C'
theorem ufr.trans {u n : Nat} {A B C : cS} (h : ufr u n A B) (k : ufr u n B C) : ufr u n A C :=
  ⟨h.1.trans k.1, fun a i q0 q1 q2 q3 => (k.2.1 a i q0 q1 q2 q3).trans (h.2.1 a i q0 q1 q2 q3), fun a i q0 q1 q2 q3 q4 => (k.2.2.1 a i q0 q1 q2 q3 q4).trans (h.2.2.1 a i q0 q1 q2 q3 q4), fun a i q0 q1 => (k.2.2.2 a i q0 q1).trans (h.2.2.2 a i q0 q1)⟩
theorem dfr.t {n : Nat} {A B : cS} (h : dfr n A B) : tfr n A B := ⟨h.1, fun a i q _ _ _ => (h.2 a q).2.2 i, fun a i q _ _ _ _ => (h.2 a q).1 i, fun a i q _ => (h.2 a q).2.1 i⟩
theorem pfr.t {n : Nat} {A B : cS} (h : pfr n A B) : tfr n A B := h.d.t
theorem ofr.t {A B : cS} (h : ofr A B) : tfr A.1 A B := ⟨h.1, fun a i q _ _ _ => (h.2 a q).2.2 i, fun a i q _ _ _ _ => (h.2 a q).1 i, fun a i q _ => (h.2 a q).2.1 i⟩
theorem afr.t {A B : cS} (h : afr A B) (n : Nat) : tfr n A B := ⟨h.le, fun a i _ q1 q2 _ => h.2.2.2.1 a i q1 q2, fun a i _ q1 q2 q3 _ => h.2.2.2.2.1 a i (by omega) q2 q3, fun a i _ q => h.2.2.2.2.2 a i (by omega)⟩
theorem VA.t {A B : cS} {n t : Nat} (h : VA A t) {u : Nat} (k : ufr u n A B) (ht : t ≠ 9 ∧ t ≠ 5 ∧ t ≠ 1 ∧ t < n) (hu : u ≤ 356 := by decide) : VA B t := ⟨h.1.le k.1, by rw [k.2.1 t 0 ht.2.2.2 (by omega) (by omega) (by omega)]; exact h.2.1, h.2.2.le k.1⟩
theorem FA.t {A B : cS} {n t : Nat} (h : FA A t) {u : Nat} (k : ufr u n A B) (ht : 12 ≤ t) (hn : t + 5 ≤ n) (hu : u ≤ 356 := by decide) : FA B t := ⟨h.1.le k.1, by rw [k.2.1 t 2 (by omega) (by omega) (by omega) (by omega)]; exact h.2.1, by rw [k.2.1 t 3 (by omega) (by omega) (by omega) (by omega)]; exact h.2.2.1, h.2.2.2.1.t k (by omega) hu, h.2.2.2.2.t k (by omega) hu⟩
theorem CHK.t {A B : cS} {n : Nat} (h : CHK A) {u : Nat} (k : ufr u n A B) (hn : 400 ≤ n) (hu : u ≤ 356 := by decide) : CHK B := by
  obtain ⟨h1, h2, h3, h4, h5, h6, h7, h8, h9, h10, h11, h12, h13⟩ := h
  refine ⟨h1.le k.1, ?_, ?_, ?_, ?_, ?_, h7.le k.1, h8.le k.1, h9.le k.1, h10.le k.1, h11.t k (by omega) hu, fun i hi => ⟨?_, (h12 i hi).2.t k (by omega) (by omega) hu⟩, fun s hs => ⟨?_, (h13 s hs).2.t k (by omega) hu⟩⟩
  · rw [k.2.1 5 0 (by omega) (by omega) (by omega) (by omega)]; exact h2
  · rw [k.2.1 5 1 (by omega) (by omega) (by omega) (by omega)]; exact h3
  · rw [k.2.1 5 2 (by omega) (by omega) (by omega) (by omega)]; exact h4
  · rw [k.2.1 5 3 (by omega) (by omega) (by omega) (by omega)]; exact h5
  · rw [k.2.1 5 4 (by omega) (by omega) (by omega) (by omega)]; exact h6
  · rw [k.2.1 6 i (by omega) (by omega) (by omega) (by omega)]; exact (h12 i hi).1
  · rw [k.2.1 7 s (by omega) (by omega) (by omega) (by omega)]; exact (h13 s hs).1
theorem TXT.t {A B : cS} {n : Nat} {ch : Nat → Option Nat} {len : Nat} (h : TXT A ch len) {u : Nat} (k : ufr u n A B) (hn : 400 ≤ n) (hu : u ≤ 356 := by decide) : TXT B ch len := by
  obtain ⟨h1, h2, h3, h4, h5⟩ := h
  refine ⟨h1.le k.1, by rw [k.2.1 2 0 (by omega) (by omega) (by omega) (by omega)]; exact h2, h3.le k.1, by rw [k.2.2.1 2 1 (by omega) (by omega) (by omega) (by omega) (by omega)]; exact h4, fun i hi => ?_⟩
  obtain ⟨c, e1, e2⟩ := h5 i hi
  exact ⟨c, e1, by rw [k.2.2.1 3 i (by omega) (by omega) (by omega) (by omega) (by omega)]; exact e2⟩
/-- the object stands -/
def TOP (C : cS) (ch : Nat → Option Nat) (len : Nat) : Prop := cT C 1 9 12 ∧ cR C 1 0 = some 2 ∧ cR C 1 1 = some 4 ∧ cR C 1 2 = some 5 ∧ cR C 1 3 = some 346 ∧ cR C 1 4 = some 348 ∧ VA C 346 ∧ VA C 348 ∧ CHK C ∧ TXT C ch len ∧ 400 ≤ C.1
theorem TOP.t {A B : cS} {n : Nat} {ch : Nat → Option Nat} {len : Nat} (h : TOP A ch len) {u : Nat} (k : ufr u n A B) (hn : 400 ≤ n) (hu : u ≤ 356 := by decide) : TOP B ch len := by
  obtain ⟨h1, h2, h3, h4, h5, h6, h7, h8, h9, h10, h11⟩ := h
  have r : ∀ i, i < 7 → cR B 1 i = cR A 1 i := fun i hi => k.2.1 1 i (by omega) (by omega) (by omega) (by omega)
  exact ⟨h1.le k.1, by rw [r 0 (by decide)]; exact h2, by rw [r 1 (by decide)]; exact h3, by rw [r 2 (by decide)]; exact h4, by rw [r 3 (by decide)]; exact h5, by rw [r 4 (by decide)]; exact h6, h7.t k (by omega) hu, h8.t k (by omega) hu, h9.t k hn hu, h10.t k hn hu, Nat.le_trans h11 k.1.1⟩
