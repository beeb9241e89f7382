/-! Places behind places, and what a checker finds of one expression. -/
/-- the place behind P by one of seven paths; none if that is more than two letters -/
def rch (P q : Nat) : Option Nat := if q = 0 then some P else if P % 7 = 0 then some (P + q) else if P % 7 ≤ 2 ∧ q ≤ 2 then some (P - P % 7 + 2 * (P % 7) + q) else none
def rfI (r : Option Nat) : Int32 := match r with
  | none => -1
  | some p => nI p
theorem rfI_inj {r : Option Nat} (h : ∀ p, r = some p → p < 2 ^ 31) : rfI r = -1 ↔ r = none := by
  cases r with
  | none => simp [rfI]
  | some p =>
    have hp := h p rfl
    constructor
    · intro q
      have h1 : nI p = -1 := q
      have h2 := nI_pos hp
      rw [h1] at h2
      exact absurd (by decide) h2
    · intro q; cases q
theorem rch_lt {P q p : Nat} (hP : P < 119) (hq : q < 7) (h : rch P q = some p) : p < 119 ∧ p / 7 = P / 7 := by
  unfold rch at h
  split at h
  · cases h; exact ⟨hP, rfl⟩
  · split at h
    · cases h; omega
    · split at h
      · cases h; omega
      · cases h
section CF
variable {c : cX} {d : Nat} {C : cS} {K : Option Value → cS → Prop} {t : Nat}
theorem nI_lt_lit {a : Nat} (b : Nat) (hb : b < 2 ^ 31) (ha : a < 2 ^ 31) : (nI b < nI a) ↔ b < a := nI_ltI hb ha
theorem c_reach {P q : Nat} (hP : P < 119) (hq : q < 7) (hK : K (some (.int (rfI (rch P q)))) C) : cM c d eX9_reach [.int (nI P), .int (nI q)] C K := by
  have m7 := nI_mod7 (show P < 2 ^ 31 by omega)
  have hm : P % 7 < 7 := Nat.mod_lt _ (by decide)
  refine w_X9_reach (nI P) (nI q) ⟨fun h => ?_, fun h => ?_⟩
  · have hq0 : q ≠ 0 := fun z => h (by rw [z]; rfl)
    rw [m7]
    refine ⟨fun h1 => ?_, fun h1 => ?_⟩
    · have hp0 : P % 7 ≠ 0 := fun z => h1 (by rw [z]; rfl)
      have l2 : ∀ a : Nat, a < 7 → ((2 : Int32) < nI a ↔ 2 < a) := fun a ha => nI_lt_lit 2 (by decide) (by omega)
      refine ⟨fun h2 => ?_, fun h2 => ⟨fun h3 => ?_, fun h3 => ?_⟩⟩
      · have h4 := (l2 _ hm).mp h2
        have e : rch P q = none := by unfold rch; rw [if_neg hq0, if_neg hp0, if_neg (by omega)]
        rw [e] at hK; exact hK
      · have h4 := (l2 _ hq).mp h3
        have e : rch P q = none := by unfold rch; rw [if_neg hq0, if_neg hp0, if_neg (by omega)]
        rw [e] at hK; exact hK
      · have h4 : ¬ 2 < P % 7 := fun z => h2 ((l2 _ hm).mpr z)
        have h5 : ¬ 2 < q := fun z => h3 ((l2 _ hq).mpr z)
        have e : rch P q = some (P - P % 7 + 2 * (P % 7) + q) := by unfold rch; rw [if_neg hq0, if_neg hp0, if_pos (by omega)]
        rw [e] at hK
        have e1 : nI P - nI (P % 7) + 2 * nI (P % 7) + nI q = nI (P - P % 7 + 2 * (P % 7) + q) := by
          rw [pk_sub (Nat.mod_le _ _), show (2 : Int32) * nI (P % 7) = nI (2 * (P % 7)) from pk_mul 2 _, nI_add, nI_add]
        rw [e1]
        exact hK
    · have hp0 : P % 7 = 0 := (nI_eq (by omega) (by decide)).mp (show nI (P % 7) = nI 0 from h1)
      have e : rch P q = some (P + q) := by unfold rch; rw [if_neg hq0, if_pos hp0]
      rw [e] at hK
      rw [nI_add]
      exact hK
  · have hq0 : q = 0 := (nI_eq (by omega) (by decide)).mp (show nI q = nI 0 from h)
    have e : rch P q = some P := by unfold rch; rw [if_pos hq0]
    rw [e] at hK
    exact hK
/-- restrictFrom: each place behind P is restricted to what the word says of that path -/
def vFrom (v : vT) (P : Nat) (w : Int64) : Nat → vT
  | 0 => v
  | q + 1 => match rch P q with
    | none => vFrom v P w q
    | some p => vRes (vFrom v P w q) p (kd w q)
theorem r_from {P : Nat} {w : Int64} (hV : VA C t) (hP : P < 119) (hK : ∀ C', cfv (fv t) C C' → gvn C' t = vFrom (gvn C t) P w 7 → K none C') : cM c (d + 2) eX8_restrictFrom [.ref t, .int (nI P), .long w] C K := by
  refine w_X8_restrictFrom t (nI P) w ?_
  have key : ∀ n i : Nat, i + n = 7 → ∀ C1, cfv (fv t) C C1 → gvn C1 t = vFrom (gvn C t) P w i → cG c eX8_restrictFrom (d + 1 + 1) (cQ K) 3 [some (.ref t), some (.int (nI P)), some (.long w), none, some (.int (nI i)), none] [] C1 := by
    intro n
    induction n with
    | zero =>
      intro i hi C1 k1 k3
      have : i = 7 := by omega
      subst this
      exact w_X8_restrictFrom_3 t (nI P) w (nI 7) ⟨fun _ => hK C1 k1 k3, fun h => absurd (by decide) h⟩
    | succ n ih =>
      intro i hi C1 k1 k3
      have k2 := hV.v k1
      refine w_X8_restrictFrom_3 t (nI P) w (nI i) ⟨fun h => absurd h (i7 (by omega)), fun _ => c_reach hP (by omega) ⟨_, rfl, cle.refl _, fun hz => ?_, fun hz => ?_⟩⟩
      · have hr : rch P i = none := (rfI_inj (fun p hp => by have := (rch_lt hP (by omega) hp).1; omega)).mp hz
        rw [nI_1]
        refine ih (i + 1) (by omega) C1 k1 ?_
        rw [k3]
        simp only [vFrom, hr]
      · cases hr : rch P i with
        | none => rw [hr] at hz; exact absurd rfl hz
        | some p =>
          have hp := (rch_lt hP (by omega) hr).1
          refine c_kindsN (by omega) ⟨_, rfl, cle.refl _, k2.1, r_restrict k2 hp (kd_lt _ _) fun C2 j1 j3 => ⟨rfl, j1.le, ?_⟩⟩
          rw [nI_1]
          refine ih (i + 1) (by omega) C2 (k1.trans j1) ?_
          rw [j3, k3]
          simp only [vFrom, hr]
  exact key 7 0 rfl C (cfv.refl _ _) rfl
/-- a finding stands at t: its views behind it -/
def FA (C : cS) (t : Nat) : Prop := cT C t 2 4 ∧ cR C t 2 = some (t + 1) ∧ cR C t 3 = some (t + 3) ∧ VA C (t + 1) ∧ VA C (t + 3)
abbrev fT : Type := Int32 × Int32 × vT × vT
def gf (C : cS) (t : Nat) : fT := (cI C t 0, cI C t 1, gvn C (t + 1), gvn C (t + 3))
abbrev ff (t : Nat) : Nat → Prop := fun b => t ≤ b ∧ b < t + 5
theorem fv_ff1 {t : Nat} : ∀ b, fv (t + 1) b → ff t b := fun b h => by rcases h with h | h <;> constructor <;> omega
theorem fv_ff3 {t : Nat} : ∀ b, fv (t + 3) b → ff t b := fun b h => by rcases h with h | h <;> constructor <;> omega
theorem eq_ff {t : Nat} : ∀ b, b = t → ff t b := fun b h => by constructor <;> omega
theorem FA.v {C C' : cS} {A : Nat → Prop} (h : FA C t) (k : cfv A C C') : FA C' t := ⟨k.T h.1, by rw [k.2.2.2.1]; exact h.2.1, by rw [k.2.2.2.1]; exact h.2.2.1, h.2.2.2.1.v k, h.2.2.2.2.v k⟩
theorem gf_v {C C' : cS} {A : Nat → Prop} (k : cfv A C C') (h : ∀ b, ff t b → ¬ A b) : gf C' t = gf C t := by
  unfold gf
  rw [(k.2.2.2.2 t (h t ⟨by omega, by omega⟩)).1, gvn_v k (h (t + 1) ⟨by omega, by omega⟩) (h (t + 2) ⟨by omega, by omega⟩), gvn_v k (h (t + 3) ⟨by omega, by omega⟩) (h (t + 4) ⟨by omega, by omega⟩)]
theorem cI_csi (C : cS) (a i : Nat) (v : Int32) : cI (csi C a i v) a i = v := by simp [csi, cI]
theorem cI_csi_ne (C : cS) {a i b j : Nat} (v : Int32) (h : ¬ (b = a ∧ j = i)) : cI (csi C a i v) b j = cI C b j := by
  simp only [csi, cI]
  by_cases h1 : j = i
  · by_cases h2 : b = a
    · exact absurd ⟨h2, h1⟩ h
    · subst h1; simp [h2]
  · simp [h1]
/-- assign: kinds, place, both views are copies of one -/
theorem r_assign {k p : Int32} {s : Nat} (hF : FA C t) (hS : VA C s) (hs : ∀ b, fv s b → ¬ ff t b) (hb : rB (gvn C s).1) (hK : ∀ C', cfv (ff t) C C' → gf C' t = (k, p, gvn C s, gvn C s) → K none C') : cM c (d + 1) eX2_assign [.ref t, .int k, .int p, .ref s] C K := by
  have n1 : s ≠ t + 1 := fun q => hs s (Or.inl rfl) ⟨by omega, by omega⟩
  have n3 : s ≠ t + 3 := fun q => hs s (Or.inl rfl) ⟨by omega, by omega⟩
  have nA : ∀ b, fv s b → b ≠ t := fun b hb q => hs b hb ⟨by omega, by omega⟩
  have v0 : cfv (fun b => b = t) C (csi (csi C t 0 k) t 1 p) := (cfv_csi C t 0 k).trans (cfv_csi _ t 1 p)
  have g0 : gvn (csi (csi C t 0 k) t 1 p) s = gvn C s := gvn_v v0 (nA s (Or.inl rfl)) (nA (s + 1) (Or.inr rfl))
  refine w_X2_assign t k p (some s) ⟨hF.1, t + 1, hF.2.1, hF.2.2.2.1.1, ?_⟩
  refine r_copy (C := csi (csi C t 0 k) t 1 p) (hF.2.2.2.1.v v0) (hS.v v0) n1 (by rw [g0]; exact hb) fun C1 k1 e1 => ⟨rfl, k1.le, t + 3, ?_, k1.T (v0.T hF.2.2.2.2.1), ?_⟩
  · rw [k1.2.2.2.1, v0.2.2.2.1]; exact hF.2.2.1
  · have v1 : cfv (ff t) C C1 := (v0.mono eq_ff).trans (k1.mono fv_ff1)
    have gs1 : gvn C1 s = gvn C s := gvn_v v1 (hs s (Or.inl rfl)) (hs (s + 1) (Or.inr rfl))
    refine r_copy (C := C1) (hF.2.2.2.2.v v1) (hS.v v1) n3 (by rw [gs1]; exact hb) fun C2 k2 e2 => ⟨rfl, k2.le, hK C2 (v1.trans (k2.mono fv_ff3)) ?_⟩
    unfold gf
    have a0 : cI C2 t = cI C1 t := (k2.2.2.2.2 t (by rintro (q | q) <;> omega)).1
    have a1 : cI C1 t = cI (csi (csi C t 0 k) t 1 p) t := (k1.2.2.2.2 t (by rintro (q | q) <;> omega)).1
    have b1 : gvn C2 (t + 1) = gvn C1 (t + 1) := gvn_v k2 (by rintro (q | q) <;> omega) (by rintro (q | q) <;> omega)
    rw [a0, a1, b1, e2, gs1, e1, g0]
    refine Prod.ext ?_ (Prod.ext ?_ rfl)
    · show cI (csi (csi C t 0 k) t 1 p) t 0 = k
      rw [cI_csi_ne _ _ (by omega), cI_csi]
    · exact cI_csi (csi C t 0 _) t 1 _
theorem r_unchecked (hF : FA C t) (hK : ∀ C', cfv (ff t) C C' → gf C' t = (0, -1, vNo, vNo) → K none C') : cM c (d + 1) eX2_beUnchecked [.ref t] C K := by
  have v0 : cfv (fun b => b = t) C (csi (csi C t 0 0) t 1 (-1)) := (cfv_csi C t 0 0).trans (cfv_csi _ t 1 (-1))
  refine w_X2_beUnchecked t ⟨hF.1, t + 1, hF.2.1, hF.2.2.2.1.1, ?_⟩
  refine r_no (C := csi (csi C t 0 0) t 1 (-1)) (hF.2.2.2.1.v v0) fun C1 k1 e1 => ⟨rfl, k1.le, t + 3, ?_, k1.T (v0.T hF.2.2.2.2.1), ?_⟩
  · rw [k1.2.2.2.1, v0.2.2.2.1]; exact hF.2.2.1
  · have v1 : cfv (ff t) C C1 := (v0.mono eq_ff).trans (k1.mono fv_ff1)
    refine r_no (C := C1) (hF.2.2.2.2.v v1) fun C2 k2 e2 => ⟨rfl, k2.le, hK C2 (v1.trans (k2.mono fv_ff3)) ?_⟩
    unfold gf
    have a0 : cI C2 t = cI C1 t := (k2.2.2.2.2 t (by rintro (q | q) <;> omega)).1
    have a1 : cI C1 t = cI (csi (csi C t 0 0) t 1 (-1)) t := (k1.2.2.2.2 t (by rintro (q | q) <;> omega)).1
    have b1 : gvn C2 (t + 1) = gvn C1 (t + 1) := gvn_v k2 (by rintro (q | q) <;> omega) (by rintro (q | q) <;> omega)
    rw [a0, a1, b1, e2, e1]
    refine Prod.ext ?_ (Prod.ext ?_ rfl)
    · show cI (csi (csi C t 0 0) t 1 (-1)) t 0 = 0
      rw [cI_csi_ne _ _ (by omega), cI_csi]
    · exact cI_csi (csi C t 0 _) t 1 _
/-- settle: where there is no FALSE the second view is impossible, where there is nothing else the first -/
def fSet (f : fT) : fT := (f.1, f.2.1, if f.1 &&& 27 = 0 then vNo else f.2.2.1, if f.1 &&& 4 = 0 then vNo else f.2.2.2)
theorem r_settle (hF : FA C t) (hK : ∀ C', cfv (ff t) C C' → gf C' t = fSet (gf C t) → K none C') : cM c (d + 1) eX2_settle [.ref t] C K := by
  have second : ∀ C1, cfv (ff t) C C1 → cI C1 t = cI C t → gvn C1 (t + 1) = gvn C (t + 1) → gvn C1 (t + 3) = (if cI C t 0 &&& 4 = 0 then vNo else gvn C (t + 3)) → cG c eX2_settle (d + 1) (cQ K) 16 [some (.ref t)] [] C1 := by
    intro C1 k1 a1 b1 c1
    have hF1 := hF.v k1
    refine w_X2_settle_16 t ⟨hF1.1, fun h => ?_, fun h => ⟨t + 1, hF1.2.1, hF1.2.2.2.1.1, r_no hF1.2.2.2.1 fun C2 k2 e2 => ⟨rfl, k2.le, hK C2 (k1.trans (k2.mono fv_ff1)) ?_⟩⟩⟩
    · refine hK C1 k1 ?_
      rw [a1] at h
      unfold gf fSet
      rw [a1, b1, c1]
      show _ = (_, _, (if cI C t 0 &&& 27 = 0 then vNo else _), _)
      rw [if_neg h]
    · rw [a1] at h
      have a0 : cI C2 t = cI C1 t := (k2.2.2.2.2 t (by rintro (q | q) <;> omega)).1
      have b2 : gvn C2 (t + 3) = gvn C1 (t + 3) := gvn_v k2 (by rintro (q | q) <;> omega) (by rintro (q | q) <;> omega)
      unfold gf fSet
      rw [a0, a1, b2, c1, e2]
      show _ = (_, _, (if cI C t 0 &&& 27 = 0 then vNo else _), _)
      rw [if_pos h]
  refine w_X2_settle t ⟨hF.1, fun h => second C (cfv.refl _ _) rfl rfl (by rw [if_neg h]), fun h => ⟨t + 3, hF.2.2.1, hF.2.2.2.2.1, r_no hF.2.2.2.2 fun C1 k1 e1 => ⟨rfl, k1.le, second C1 (k1.mono fv_ff3) ?_ ?_ ?_⟩⟩⟩
  · exact (k1.2.2.2.2 t (by rintro (q | q) <;> omega)).1
  · exact gvn_v k1 (by rintro (q | q) <;> omega) (by rintro (q | q) <;> omega)
  · rw [e1, if_pos h]
end CF
