/-! The class's checker: where its things stand, what a check may change, its small methods. -/
/-- a node: its character, its place in the text, its number (a variable's, a digit's), its slot, its parts -/
abbrev nd : Type := Nat × Nat × Nat × Option Nat × List Nat
/-- the node n of the table T stands at nb + n -/
def nAt (C : cS) (nb : Nat) (T : Nat → nd) (n : Nat) : Prop := cT C (nb + n) 5 7 ∧ cI C (nb + n) 0 = nI (T n).1 ∧ cI C (nb + n) 1 = nI (T n).2.1 ∧ cI C (nb + n) 2 = nI n ∧ cI C (nb + n) 3 = rfI (T n).2.2.2.1 ∧ ∀ i, i < 3 → cR C (nb + n) (4 + i) = ((T n).2.2.2.2[i]?).map fun m => nb + m
def CHK (C : cS) : Prop := cT C 5 1 7 ∧ cR C 5 0 = some 6 ∧ cR C 5 1 = some 7 ∧ cR C 5 2 = some 8 ∧ cR C 5 3 = some 9 ∧ cR C 5 4 = some 10 ∧ cT C 6 25 60 ∧ cT C 7 27 17 ∧ cT C 8 20 17 ∧ cT C 9 25 17 ∧ VA C 10 ∧ (∀ i, i < 60 → cR C 6 i = some (12 + 5 * i) ∧ FA C (12 + 5 * i)) ∧ ∀ s, s < 17 → cR C 7 s = some (312 + 2 * s) ∧ VA C (312 + 2 * s)
/-- what a check of the nodes lo .. hi - 1, which bind the slots sl .. sh - 1, may change -/
def xfr (lo hi sl sh : Nat) (C C' : cS) : Prop := C'.1 = C.1 ∧ C'.2.1 = C.2.1 ∧ C'.2.2.1 = C.2.2.1 ∧
  (∀ a i, ¬ (a = 9 ∧ sl ≤ i ∧ i < sh) → cR C' a i = cR C a i) ∧
  (∀ a i, ¬ (12 + 5 * lo ≤ a ∧ a < 12 + 5 * hi) → ¬ (312 + 2 * sl ≤ a ∧ a < 312 + 2 * sh) → ¬ (a = 8 ∧ sl ≤ i ∧ i < sh) → ¬ (a = 5 ∧ i = 6) → cI C' a i = cI C a i) ∧
  ∀ a i, ¬ (12 + 5 * lo ≤ a ∧ a < 12 + 5 * hi) → ¬ (312 + 2 * sl ≤ a ∧ a < 312 + 2 * sh) → cJ C' a i = cJ C a i
theorem xfr.refl (lo hi sl sh : Nat) (C : cS) : xfr lo hi sl sh C C := ⟨rfl, rfl, rfl, fun _ _ _ => rfl, fun _ _ _ _ _ _ => rfl, fun _ _ _ _ => rfl⟩
theorem xfr.trans {lo hi sl sh : Nat} {A B C : cS} (h : xfr lo hi sl sh A B) (k : xfr lo hi sl sh B C) : xfr lo hi sl sh A C :=
  ⟨k.1.trans h.1, k.2.1.trans h.2.1, k.2.2.1.trans h.2.2.1, fun a i q => (k.2.2.2.1 a i q).trans (h.2.2.2.1 a i q), fun a i q1 q2 q3 q4 => (k.2.2.2.2.1 a i q1 q2 q3 q4).trans (h.2.2.2.2.1 a i q1 q2 q3 q4), fun a i q1 q2 => (k.2.2.2.2.2 a i q1 q2).trans (h.2.2.2.2.2 a i q1 q2)⟩
theorem xfr.mono {lo hi sl sh lo' hi' sl' sh' : Nat} {A B : cS} (h : xfr lo hi sl sh A B) (h1 : lo' ≤ lo) (h2 : hi ≤ hi') (h3 : sl' ≤ sl) (h4 : sh ≤ sh') : xfr lo' hi' sl' sh' A B :=
  ⟨h.1, h.2.1, h.2.2.1, fun a i q => h.2.2.2.1 a i (by omega), fun a i q1 q2 q3 q4 => h.2.2.2.2.1 a i (by omega) (by omega) (by omega) q4, fun a i q1 q2 => h.2.2.2.2.2 a i (by omega) (by omega)⟩
theorem xfr.le {lo hi sl sh : Nat} {A B : cS} (h : xfr lo hi sl sh A B) : cle A B := cle_same h.1 h.2.2.1
theorem xfr.T {lo hi sl sh : Nat} {A B : cS} (h : xfr lo hi sl sh A B) {a t n : Nat} (hT : cT A a t n) : cT B a t n := hT.le h.le
/-- a change of views and findings alone -/
theorem xfr.of {lo hi sl sh : Nat} {P : Nat → Prop} {A B : cS} (h : cfv P A B) (hP : ∀ a, P a → (12 + 5 * lo ≤ a ∧ a < 12 + 5 * hi) ∨ (312 + 2 * sl ≤ a ∧ a < 312 + 2 * sh)) : xfr lo hi sl sh A B :=
  ⟨h.1, h.2.1, h.2.2.1, fun a i _ => by rw [h.2.2.2.1], fun a i q1 q2 _ _ => by rw [(h.2.2.2.2 a fun z => (hP a z).elim q1 q2).1], fun a i q1 q2 => by rw [(h.2.2.2.2 a fun z => (hP a z).elim q1 q2).2]⟩
theorem VA.x {lo hi sl sh t : Nat} {A B : cS} (h : VA A t) (k : xfr lo hi sl sh A B) (ht : t ≠ 9) : VA B t := ⟨k.T h.1, by rw [k.2.2.2.1 t 0 (by omega)]; exact h.2.1, k.T h.2.2⟩
theorem gvn_x {lo hi sl sh t : Nat} {A B : cS} (k : xfr lo hi sl sh A B) (h1 : t + 1 < 12 + 5 * lo ∨ 12 + 5 * hi ≤ t) (h2 : t + 1 < 312 + 2 * sl ∨ 312 + 2 * sh ≤ t) (h3 : t ≠ 8 ∧ t ≠ 5) : gvn B t = gvn A t := by
  unfold gvn
  refine Prod.ext (k.2.2.2.2.1 t 1 (by omega) (by omega) (by omega) (by omega)) (funext fun i => ?_)
  show (if i < 17 then cJ B (t + 1) i else 0) = (if i < 17 then cJ A (t + 1) i else 0)
  rw [k.2.2.2.2.2 (t + 1) i (by omega) (by omega)]
theorem FA.x {lo hi sl sh t : Nat} {A B : cS} (h : FA A t) (k : xfr lo hi sl sh A B) (ht : 12 ≤ t) : FA B t := ⟨k.T h.1, by rw [k.2.2.2.1 t 2 (by omega)]; exact h.2.1, by rw [k.2.2.2.1 t 3 (by omega)]; exact h.2.2.1, h.2.2.2.1.x k (by omega), h.2.2.2.2.x k (by omega)⟩
theorem gf_x {lo hi sl sh t : Nat} {A B : cS} (k : xfr lo hi sl sh A B) (h1 : t + 5 ≤ 12 + 5 * lo ∨ 12 + 5 * hi ≤ t) (h2 : t + 5 ≤ 312 + 2 * sl ∨ 312 + 2 * sh ≤ t) (h3 : 12 ≤ t) : gf B t = gf A t := by
  unfold gf
  rw [k.2.2.2.2.1 t 0 (by omega) (by omega) (by omega) (by omega), k.2.2.2.2.1 t 1 (by omega) (by omega) (by omega) (by omega), gvn_x k (by omega) (by omega) (by omega), gvn_x k (by omega) (by omega) (by omega)]
theorem CHK.x {lo hi sl sh : Nat} {A B : cS} (h : CHK A) (k : xfr lo hi sl sh A B) : CHK B := by
  obtain ⟨h1, h2, h3, h4, h5, h6, h7, h8, h9, h10, h11, h12, h13⟩ := h
  refine ⟨k.T h1, ?_, ?_, ?_, ?_, ?_, k.T h7, k.T h8, k.T h9, k.T h10, h11.x k (by decide), fun i hi => ⟨?_, (h12 i hi).2.x k (by omega)⟩, fun s hs => ⟨?_, (h13 s hs).2.x k (by omega)⟩⟩
  · rw [k.2.2.2.1 5 0 (by omega)]; exact h2
  · rw [k.2.2.2.1 5 1 (by omega)]; exact h3
  · rw [k.2.2.2.1 5 2 (by omega)]; exact h4
  · rw [k.2.2.2.1 5 3 (by omega)]; exact h5
  · rw [k.2.2.2.1 5 4 (by omega)]; exact h6
  · rw [k.2.2.2.1 6 i (by omega)]; exact (h12 i hi).1
  · rw [k.2.2.2.1 7 s (by omega)]; exact (h13 s hs).1
theorem nAt.x {lo hi sl sh nb n : Nat} {T : Nat → nd} {A B : cS} (h : nAt A nb T n) (k : xfr lo hi sl sh A B) (hb : 400 ≤ nb) (hh : hi ≤ 60 ∧ sh ≤ 17) : nAt B nb T n := by
  obtain ⟨h1, h2, h3, h4, h5, h6⟩ := h
  have ki : ∀ i, cI B (nb + n) i = cI A (nb + n) i := fun i => k.2.2.2.2.1 (nb + n) i (by omega) (by omega) (by omega) (by omega)
  exact ⟨k.T h1, by rw [ki]; exact h2, by rw [ki]; exact h3, by rw [ki]; exact h4, by rw [ki]; exact h5, fun i hi => by rw [k.2.2.2.1 (nb + n) (4 + i) (by omega)]; exact h6 i hi⟩
section CC
variable {c : cX} {d : Nat} {C : cS} {K : Option Value → cS → Prop}
/-- a refusal tells the node's place -/
theorem c_refuse {nb n : Nat} {T : Nat → nd} (hC : CHK C) (hn : nAt C nb T n) (hK : K (some (.int 0)) (csi C 5 6 (nI (T n).2.1))) : cM c d eX1_refuse [.ref 5, .ref (nb + n)] C K := by
  refine w_X1_refuse 5 (some (nb + n)) ⟨nb + n, rfl, hn.1, hC.1, ?_⟩
  rw [hn.2.2.1]
  exact hK
theorem xfr_refuse (lo hi sl sh : Nat) (C : cS) (v : Int32) : xfr lo hi sl sh C (csi C 5 6 v) :=
  ⟨rfl, rfl, rfl, fun _ _ _ => rfl, fun a i _ _ _ q => cI_csi_ne C v q, fun _ _ _ _ => rfl⟩
/-- what a test asks for -/
def tkd (op : Nat) : Nat := if op = 78 then 1 else if op = 66 then 6 else if op = 69 then 8 else 16
theorem nI_is {a b : Nat} (ha : a < 2 ^ 31) (hb : b < 2 ^ 31) : nI a = nI b ↔ a = b := nI_eq ha hb
theorem c_tested {op : Nat} (h : op < 65536) (hK : K (some (.int (nI (tkd op)))) C) : cM c d eX9_testedKinds [.int (nI op)] C K := by
  have e : ∀ b : Nat, b < 65536 → (nI op = nI b ↔ op = b) := fun b hb => nI_eq (by omega) (by omega)
  have e78 : (nI op = 78 ↔ op = 78) := e 78 (by decide)
  have e66 : (nI op = 66 ↔ op = 66) := e 66 (by decide)
  have e69 : (nI op = 69 ↔ op = 69) := e 69 (by decide)
  unfold tkd at hK
  refine w_X9_testedKinds (nI op) ⟨fun h1 => ⟨fun h2 => ⟨fun h3 => ?_, fun h3 => ?_⟩, fun h2 => ?_⟩, fun h1 => ?_⟩
  · rw [if_neg (fun z => h1 (e78.mpr z)), if_neg (fun z => h2 (e66.mpr z)), if_neg (fun z => h3 (e69.mpr z))] at hK
    exact hK
  · rw [if_neg (fun z => h1 (e78.mpr z)), if_neg (fun z => h2 (e66.mpr z)), if_pos (e69.mp h3)] at hK
    exact hK
  · rw [if_neg (fun z => h1 (e78.mpr z)), if_pos (e66.mp h2)] at hK
    exact hK
  · rw [if_pos (e78.mp h1)] at hK
    exact hK
/-- a place's finding: its kinds, the place, the view with and without FALSE there -/
def aPl (V : vT) (p : Nat) : fT := (nI (kd (V.2 (p / 7)) (p % 7)), nI p, vRes V p 27, vRes V p 4)
theorem c_assignPlace {p t f : Nat} (hV : VA C t) (hF : FA C f) (ht : ∀ b, fv t b → ¬ ff f b) (hb : rB (gvn C t).1) (hp : p < 119) (hK : ∀ C', cfv (ff f) C C' → gf C' f = aPl (gvn C t) p → K none C') : cM c (d + 2) eX1_assignPlace [.ref 5, .int (nI p), .ref t, .ref f] C K := by
  refine w_X1_assignPlace 5 (nI p) (some t) (some f) ⟨t, rfl, hV.1, r_says hV hp ⟨_, rfl, cle.refl _, f, rfl, hF.1, ?_⟩⟩
  refine r_assign hF hV ht hb fun C1 k1 e1 => ⟨rfl, k1.le, f + 1, (hF.v k1).2.1, (hF.v k1).2.2.2.1.1, ?_⟩
  have g1 : gvn C1 (f + 1) = gvn C t := congrArg (fun z : fT => z.2.2.1) e1
  have g3 : gvn C1 (f + 3) = gvn C t := congrArg (fun z : fT => z.2.2.2) e1
  refine r_restrict (k := 27) (hF.v k1).2.2.2.1 hp (by decide) fun C2 k2 e2 => ⟨rfl, k2.le, f + 3, ((hF.v k1).v k2).2.2.1, ((hF.v k1).v k2).2.2.2.2.1, ?_⟩
  refine r_restrict (k := 4) ((hF.v k1).v k2).2.2.2.2 hp (by decide) fun C3 k3 e3 => ⟨rfl, k3.le, hK C3 ((k1.trans (k2.mono fv_ff1)).trans (k3.mono fv_ff3)) ?_⟩
  have a0 : cI C3 f = cI C1 f := ((k3.2.2.2.2 f (by rintro (q | q) <;> omega)).1).trans ((k2.2.2.2.2 f (by rintro (q | q) <;> omega)).1)
  have b1 : gvn C3 (f + 1) = gvn C2 (f + 1) := gvn_v k3 (by rintro (q | q) <;> omega) (by rintro (q | q) <;> omega)
  have b3 : gvn C2 (f + 3) = gvn C1 (f + 3) := gvn_v k2 (by rintro (q | q) <;> omega) (by rintro (q | q) <;> omega)
  unfold gf aPl
  rw [a0, b1, e2, g1, e3, b3, g3]
  have c0 : cI C1 f 0 = nI (kd ((gvn C t).2 (p / 7)) (p % 7)) := congrArg (fun z : fT => z.1) e1
  have c1 : cI C1 f 1 = nI p := congrArg (fun z : fT => z.2.1) e1
  rw [c0, c1]
end CC
