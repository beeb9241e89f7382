/-! The class's views: their methods as functions of a flag and of words. -/
/-- a row of longs is written -/
def cwr (C : cS) (a : Nat) (f : Nat → Int64) : cS := (C.1, C.2.1, C.2.2.1, C.2.2.2.1, fun a' i' => if a' = a then f i' else C.2.2.2.2.1 a' i', C.2.2.2.2.2)
theorem cS_ext {A B : cS} (h1 : A.1 = B.1) (h2 : A.2.1 = B.2.1) (h3 : A.2.2.1 = B.2.2.1) (h4 : A.2.2.2.1 = B.2.2.2.1) (h5 : A.2.2.2.2.1 = B.2.2.2.2.1) (h6 : A.2.2.2.2.2 = B.2.2.2.2.2) : A = B := by
  obtain ⟨a1, a2, a3, a4, a5, a6⟩ := A
  obtain ⟨b1, b2, b3, b4, b5, b6⟩ := B
  cases h1; cases h2; cases h3; cases h4; cases h5; cases h6
  rfl
theorem csj_cwr (C : cS) (a j : Nat) (f : Nat → Int64) (v : Int64) : csj (cwr C a f) a j v = cwr C a (fun i => if i = j then v else f i) := by
  refine cS_ext rfl rfl rfl rfl (funext fun b => funext fun i => ?_) rfl
  simp only [csj, cwr]
  by_cases h1 : b = a <;> by_cases h2 : i = j <;> simp [h1, h2]
theorem cwr_self (C : cS) (a : Nat) : cwr C a (cJ C a) = C := by
  refine cS_ext rfl rfl rfl rfl (funext fun b => funext fun i => ?_) rfl
  simp only [cwr]
  by_cases h1 : b = a <;> simp [h1]
theorem cJ_cwr (C : cS) (a : Nat) (f : Nat → Int64) : cJ (cwr C a f) a = f := by funext i; simp [cwr, cJ]
theorem cJ_cwr_ne (C : cS) {a b : Nat} (h : b ≠ a) (f : Nat → Int64) : cJ (cwr C a f) b = cJ C b := by funext i; simp [cwr, cJ, h]
theorem cwr_cwr (C : cS) (a : Nat) (f g : Nat → Int64) : cwr (cwr C a f) a g = cwr C a g := by
  refine cS_ext rfl rfl rfl rfl (funext fun b => funext fun i => ?_) rfl
  simp only [cwr]
  by_cases h1 : b = a <;> simp [h1]
/-- a view stands at t, its words behind it -/
def VA (C : cS) (t : Nat) : Prop := cT C t 8 2 ∧ cR C t 0 = some (t + 1) ∧ cT C (t + 1) 21 17
abbrev vT : Type := Int32 × (Nat → Int64)
def gv (C : cS) (t : Nat) : vT := (cI C t 1, cJ C (t + 1))
def pv (C : cS) (t : Nat) (v : vT) : cS := cwr (csi C t 1 v.1) (t + 1) v.2
theorem cle_same {C C' : cS} (h1 : C'.1 = C.1) (h2 : C'.2.2.1 = C.2.2.1) : cle C C' := ⟨Nat.le_of_eq h1.symm, fun a _ => by rw [h2]⟩
theorem cle_pv (C : cS) (t : Nat) (v : vT) : cle C (pv C t v) := cle_same rfl rfl
theorem VA.pv {C : cS} {t : Nat} (h : VA C t) (s : Nat) (v : vT) : VA (pv C s v) t := h
theorem gv_pv (C : cS) (t : Nat) (v : vT) : gv (pv C t v) t = v := by
  refine Prod.ext ?_ ?_
  · show cI (cwr (csi C t 1 v.1) (t + 1) v.2) t 1 = v.1
    simp [cwr, csi, cI]
  · exact cJ_cwr _ _ _
theorem gv_pv_ne (C : cS) {s t : Nat} (h : s ≠ t) (v : vT) : gv (pv C t v) s = gv C s := by
  refine Prod.ext ?_ ?_
  · show cI (cwr (csi C t 1 v.1) (t + 1) v.2) s 1 = cI C s 1
    simp [cwr, csi, cI, h]
  · refine (cJ_cwr_ne _ (by omega) _).trans ?_
    rfl
theorem pv_pv (C : cS) (t : Nat) (v w : vT) : pv (pv C t v) t w = pv C t w := by
  refine cS_ext rfl rfl rfl (funext fun b => funext fun i => ?_) (funext fun b => funext fun i => ?_) rfl
  · simp only [pv, cwr, csi]
    by_cases h1 : i = 1 <;> by_cases h2 : b = t <;> simp [h1, h2]
  · simp only [pv, cwr, csi]
    by_cases h1 : b = t + 1 <;> simp [h1]
theorem pv_gv (C : cS) (t : Nat) : pv C t (gv C t) = C := by
  refine cS_ext rfl rfl rfl (funext fun b => funext fun i => ?_) (funext fun b => funext fun i => ?_) rfl
  · simp only [pv, cwr, csi, gv, cI]
    by_cases h1 : i = 1 <;> by_cases h2 : b = t <;> simp [h1, h2]
  · simp only [pv, cwr, csi, gv, cJ]
    by_cases h1 : b = t + 1 <;> simp [h1]
/-- a loop with a counter, over typed heaps -/
theorem c_loop {J : Nat → cS → Prop} {G : Nat → cS → Prop} (N : Nat) (hlast : ∀ C, J N C → G N C) (hstep : ∀ i C, i < N → J i C → ∃ C', J (i + 1) C' ∧ (G (i + 1) C' → G i C)) : ∀ i C, i ≤ N → J i C → G i C := by
  intro i
  induction hn : N - i generalizing i with
  | zero =>
    intro C hi hJ
    have : i = N := by omega
    subst this
    exact hlast C hJ
  | succ n ih =>
    intro C hi hJ
    obtain ⟨C', h1, h2⟩ := hstep i C (by omega) hJ
    exact h2 (ih (i + 1) (by omega) C' (by omega) h1)
theorem i17 {i : Nat} (h : i < 17) : ¬ (17 : Int32) ≤ nI i := fun q => by
  have : nI 17 ≤ nI i := q
  rw [nI_leI (by omega) (by omega)] at this
  omega
theorem i7 {i : Nat} (h : i < 7) : ¬ (7 : Int32) ≤ nI i := fun q => by
  have : nI 7 ≤ nI i := q
  rw [nI_leI (by omega) (by omega)] at this
  omega
def vFill (v : Int64) (ws : Nat → Int64) : Nat → Int64 := fun i => if i < 17 then v else ws i
section CV
variable {c : cX} {d : Nat} {C : cS} {K : Option Value → cS → Prop} {t : Nat}
theorem fill_step (C : cS) (a i : Nat) (v : Int64) (ws : Nat → Int64) : csj (cwr C a (fun j => if j < i then v else ws j)) a i v = cwr C a (fun j => if j < i + 1 then v else ws j) := by
  rw [csj_cwr]
  congr 1
  funext j
  by_cases h1 : j = i
  · subst h1; simp
  · by_cases h2 : j < i
    · simp [h1, h2, Nat.lt_succ_of_lt h2]
    · have h3 : ¬ j < i + 1 := by omega
      simp [h1, h2, h3]
theorem c_sayNothing (hV : VA C t) (hK : K none (pv C t (1, vFill 0 (cJ C (t + 1))))) : cM c d eX8_sayNothing [.ref t] C K := by
  refine w_X8_sayNothing t ⟨hV.1, ?_⟩
  have key : ∀ n i : Nat, i + n = 17 → cG c eX8_sayNothing d (cQ K) 7 [some (.ref t), some (.int (nI i))] [] (cwr (csi C t 1 1) (t + 1) (fun j => if j < i then 0 else cJ C (t + 1) j)) := by
    intro n
    induction n with
    | zero =>
      intro i hi
      have : i = 17 := by omega
      subst this
      exact w_X8_sayNothing_7 t (nI 17) ⟨fun _ => hK, fun h => absurd (by decide) h⟩
    | succ n ih =>
      intro i hi
      refine w_X8_sayNothing_7 t (nI i) ⟨fun h => absurd h (i17 (by omega)), fun _ => ⟨hV.1, t + 1, hV.2.1, 17, hV.2.2, i, am_ix_n (by omega) (by decide), ?_⟩⟩
      rw [fill_step, nI_1]
      exact ih (i + 1) (by omega)
  have h0 := key 17 0 rfl
  have e0 : cwr (csi C t 1 1) (t + 1) (fun j => if j < 0 then 0 else cJ C (t + 1) j) = csi C t 1 1 := by
    have : (fun j => if j < 0 then (0 : Int64) else cJ C (t + 1) j) = cJ (csi C t 1 1) (t + 1) := by funext j; simp [csi, cJ]
    rw [this, cwr_self]
  rw [e0] at h0
  exact h0
theorem c_sayAnything (hV : VA C t) (hK : K none (pv C t (0, vFill 34359738367 (cJ C (t + 1))))) : cM c d eX8_sayAnything [.ref t] C K := by
  refine w_X8_sayAnything t ⟨hV.1, ?_⟩
  have key : ∀ n i : Nat, i + n = 17 → cG c eX8_sayAnything d (cQ K) 7 [some (.ref t), some (.int (nI i))] [] (cwr (csi C t 1 0) (t + 1) (fun j => if j < i then 34359738367 else cJ C (t + 1) j)) := by
    intro n
    induction n with
    | zero =>
      intro i hi
      have : i = 17 := by omega
      subst this
      exact w_X8_sayAnything_7 t (nI 17) ⟨fun _ => hK, fun h => absurd (by decide) h⟩
    | succ n ih =>
      intro i hi
      refine w_X8_sayAnything_7 t (nI i) ⟨fun h => absurd h (i17 (by omega)), fun _ => ⟨hV.1, t + 1, hV.2.1, 17, hV.2.2, i, am_ix_n (by omega) (by decide), ?_⟩⟩
      rw [fill_step, nI_1]
      exact ih (i + 1) (by omega)
  have h0 := key 17 0 rfl
  have e0 : cwr (csi C t 1 0) (t + 1) (fun j => if j < 0 then 34359738367 else cJ C (t + 1) j) = csi C t 1 0 := by
    have : (fun j => if j < 0 then (34359738367 : Int64) else cJ C (t + 1) j) = cJ (csi C t 1 0) (t + 1) := by funext j; simp [csi, cJ]
    rw [this, cwr_self]
  rw [e0] at h0
  exact h0
/-- the words of w up to 17, then those of v -/
def vMix (w v : Nat → Int64) : Nat → Int64 := fun i => if i < 17 then w i else v i
theorem mix_step (C : cS) (a i : Nat) (w ws : Nat → Int64) : csj (cwr C a (fun j => if j < i then w j else ws j)) a i (w i) = cwr C a (fun j => if j < i + 1 then w j else ws j) := by
  rw [csj_cwr]
  congr 1
  funext j
  by_cases h1 : j = i
  · subst h1; simp
  · by_cases h2 : j < i
    · simp [h1, h2, Nat.lt_succ_of_lt h2]
    · have h3 : ¬ j < i + 1 := by omega
      simp [h1, h2, h3]
theorem mix_0 (C : cS) (a : Nat) (w : Nat → Int64) : cwr C a (fun j => if j < 0 then w j else cJ C a j) = C := by
  have : (fun j => if j < 0 then w j else cJ C a j) = cJ C a := by funext j; simp
  rw [this, cwr_self]
theorem c_copy {s : Nat} (hV : VA C t) (hS : VA C s) (hne : s ≠ t) (hb : rB (cI C s 1)) (hK : K none (pv C t ((gv C s).1, vMix (gv C s).2 (gv C t).2))) : cM c d eX8_copy [.ref t, .ref s] C K := by
  refine w_X8_copy t (some s) ⟨s, rfl, hS.1, hV.1, hb, ?_⟩
  have key : ∀ n i : Nat, i + n = 17 → cG c eX8_copy d (cQ K) 10 [some (.ref t), some (va_rf (some s)), some (.int (nI i))] [] (cwr (csi C t 1 (cI C s 1)) (t + 1) (fun j => if j < i then cJ C (s + 1) j else cJ C (t + 1) j)) := by
    intro n
    induction n with
    | zero =>
      intro i hi
      have : i = 17 := by omega
      subst this
      exact w_X8_copy_10 t (some s) (nI 17) ⟨fun _ => hK, fun h => absurd (by decide) h⟩
    | succ n ih =>
      intro i hi
      refine w_X8_copy_10 t (some s) (nI i) ⟨fun h => absurd h (i17 (by omega)), fun _ => ⟨hV.1, s, rfl, hS.1, s + 1, hS.2.1, 17, hS.2.2, i, am_ix_n (by omega) (by decide), t + 1, hV.2.1, 17, hV.2.2, i, am_ix_n (by omega) (by decide), ?_⟩⟩
      have e1 : cJ (cwr (csi C t 1 (cI C s 1)) (t + 1) (fun j => if j < i then cJ C (s + 1) j else cJ C (t + 1) j)) (s + 1) i = cJ C (s + 1) i := by
        rw [cJ_cwr_ne _ (by omega)]
        rfl
      rw [e1, mix_step, nI_1]
      exact ih (i + 1) (by omega)
  have h0 := key 17 0 rfl
  have e0 := mix_0 (csi C t 1 (cI C s 1)) (t + 1) (cJ C (s + 1))
  rw [show cwr (csi C t 1 (cI C s 1)) (t + 1) (fun j => if j < 0 then cJ C (s + 1) j else cJ C (t + 1) j) = csi C t 1 (cI C s 1) from e0] at h0
  exact h0
theorem c_kindsIn {w : Int64} {p : Int32} {z : Int32} (hz : Int64.toInt32 ((Int64.toUInt64 w >>> ((Int32.toInt64 (5 * p)).toUInt64 &&& Int64.toUInt64 63)).toInt64) &&& 31 = z) (hK : K (some (.int z)) C) : cM c d eX8_kindsIn [.long w, .int p] C K := by
  subst hz
  exact w_X8_kindsIn w p hK
end CV
