/-! Views, by what they say of slots below 17; frames. -/
/-- cells outside A hold what they held; no shape has changed -/
def cfr (A : Nat → Prop) (C C' : cS) : Prop := C'.1 = C.1 ∧ C'.2.1 = C.2.1 ∧ C'.2.2.1 = C.2.2.1 ∧ ∀ a, ¬ A a → cI C' a = cI C a ∧ cJ C' a = cJ C a ∧ cR C' a = cR C a
theorem cfr.refl (A : Nat → Prop) (C : cS) : cfr A C C := ⟨rfl, rfl, rfl, fun _ _ => ⟨rfl, rfl, rfl⟩⟩
theorem cfr.trans {A : Nat → Prop} {C1 C2 C3 : cS} (h : cfr A C1 C2) (k : cfr A C2 C3) : cfr A C1 C3 := ⟨k.1.trans h.1, k.2.1.trans h.2.1, k.2.2.1.trans h.2.2.1, fun a ha => ⟨((k.2.2.2 a ha).1).trans (h.2.2.2 a ha).1, ((k.2.2.2 a ha).2.1).trans (h.2.2.2 a ha).2.1, ((k.2.2.2 a ha).2.2).trans (h.2.2.2 a ha).2.2⟩⟩
theorem cfr.mono {A B : Nat → Prop} {C C' : cS} (h : cfr A C C') (hAB : ∀ a, A a → B a) : cfr B C C' := ⟨h.1, h.2.1, h.2.2.1, fun a ha => h.2.2.2 a fun q => ha (hAB a q)⟩
theorem cfr.le {A : Nat → Prop} {C C' : cS} (h : cfr A C C') : cle C C' := cle_same h.1 h.2.2.1
theorem cfr.T {A : Nat → Prop} {C C' : cS} (h : cfr A C C') {a t n : Nat} (hT : cT C a t n) : cT C' a t n := ⟨hT.1, by rw [h.1]; exact hT.2.1, by rw [h.2.2.1]; exact hT.2.2⟩
theorem cfr_csi (C : cS) (a i : Nat) (v : Int32) : cfr (fun b => b = a) C (csi C a i v) := ⟨rfl, rfl, rfl, fun b hb => ⟨by funext j; simp [csi, cI, hb]; intro h; rw [h], rfl, rfl⟩⟩
theorem cfr_csj (C : cS) (a i : Nat) (v : Int64) : cfr (fun b => b = a) C (csj C a i v) := ⟨rfl, rfl, rfl, fun b hb => ⟨rfl, by funext j; simp [csj, cJ, hb]; intro h; rw [h], rfl⟩⟩
theorem cfr_csr (C : cS) (a i : Nat) (v : Option Nat) : cfr (fun b => b = a) C (csr C a i v) := ⟨rfl, rfl, rfl, fun b hb => ⟨rfl, rfl, by funext j; simp [csr, cR, hb]; intro h; rw [h]⟩⟩
theorem cfr_pv (C : cS) (t : Nat) (v : vT) : cfr (fun b => b = t ∨ b = t + 1) C (pv C t v) := by
  refine ⟨rfl, rfl, rfl, fun b hb => ⟨?_, ?_, rfl⟩⟩
  · funext j
    have h1 : b ≠ t := fun q => hb (Or.inl q)
    simp [pv, cwr, csi, cI, h1]
    intro h; rw [h]
  · funext j
    have h1 : b ≠ t + 1 := fun q => hb (Or.inr q)
    simp [pv, cwr, csi, cJ, h1]
/-- .. and no reference has changed anywhere -/
def cfv (A : Nat → Prop) (C C' : cS) : Prop := C'.1 = C.1 ∧ C'.2.1 = C.2.1 ∧ C'.2.2.1 = C.2.2.1 ∧ cR C' = cR C ∧ ∀ a, ¬ A a → cI C' a = cI C a ∧ cJ C' a = cJ C a
theorem cfv.fr {A : Nat → Prop} {C C' : cS} (h : cfv A C C') : cfr A C C' := ⟨h.1, h.2.1, h.2.2.1, fun a ha => ⟨(h.2.2.2.2 a ha).1, (h.2.2.2.2 a ha).2, by rw [h.2.2.2.1]⟩⟩
theorem cfv.refl (A : Nat → Prop) (C : cS) : cfv A C C := ⟨rfl, rfl, rfl, rfl, fun _ _ => ⟨rfl, rfl⟩⟩
theorem cfv.trans {A : Nat → Prop} {C1 C2 C3 : cS} (h : cfv A C1 C2) (k : cfv A C2 C3) : cfv A C1 C3 := ⟨k.1.trans h.1, k.2.1.trans h.2.1, k.2.2.1.trans h.2.2.1, k.2.2.2.1.trans h.2.2.2.1, fun a ha => ⟨((k.2.2.2.2 a ha).1).trans (h.2.2.2.2 a ha).1, ((k.2.2.2.2 a ha).2).trans (h.2.2.2.2 a ha).2⟩⟩
theorem cfv.mono {A B : Nat → Prop} {C C' : cS} (h : cfv A C C') (hAB : ∀ a, A a → B a) : cfv B C C' := ⟨h.1, h.2.1, h.2.2.1, h.2.2.2.1, fun a ha => h.2.2.2.2 a fun q => ha (hAB a q)⟩
theorem cfv.le {A : Nat → Prop} {C C' : cS} (h : cfv A C C') : cle C C' := h.fr.le
theorem cfv.T {A : Nat → Prop} {C C' : cS} (h : cfv A C C') {a t n : Nat} (hT : cT C a t n) : cT C' a t n := h.fr.T hT
theorem cfv_csi (C : cS) (a i : Nat) (v : Int32) : cfv (fun b => b = a) C (csi C a i v) := ⟨rfl, rfl, rfl, rfl, fun b hb => ⟨(cfr_csi C a i v).2.2.2 b hb |>.1, rfl⟩⟩
theorem cfv_pv (C : cS) (t : Nat) (v : vT) : cfv (fun b => b = t ∨ b = t + 1) C (pv C t v) := ⟨rfl, rfl, rfl, rfl, fun b hb => ⟨((cfr_pv C t v).2.2.2 b hb).1, ((cfr_pv C t v).2.2.2 b hb).2.1⟩⟩
theorem VA.v {A : Nat → Prop} {C C' : cS} {t : Nat} (h : VA C t) (k : cfv A C C') : VA C' t := ⟨k.T h.1, by rw [k.2.2.2.1]; exact h.2.1, k.T h.2.2⟩
/-- what a view says: its flag, its 17 words -/
def gvn (C : cS) (t : Nat) : vT := (cI C t 1, fun i => if i < 17 then cJ C (t + 1) i else 0)
def vNo : vT := (1, fun _ => 0)
def vAll : vT := (0, fun i => if i < 17 then 34359738367 else 0)
def vNorm (v : vT) : Prop := ∀ i, 17 ≤ i → v.2 i = 0
theorem gvn_norm (C : cS) (t : Nat) : vNorm (gvn C t) := fun i hi => by show (if i < 17 then _ else _) = _; rw [if_neg (by omega)]
theorem gvn_pv (C : cS) (t : Nat) (v : vT) : gvn (pv C t v) t = (v.1, fun i => if i < 17 then v.2 i else 0) := by
  have h := gv_pv C t v
  unfold gvn
  rw [show cI (pv C t v) t 1 = v.1 from congrArg Prod.fst h, show cJ (pv C t v) (t + 1) = v.2 from congrArg Prod.snd h]
theorem gvn_fr {A : Nat → Prop} {C C' : cS} {t : Nat} (h : cfr A C C') (h1 : ¬ A t) (h2 : ¬ A (t + 1)) : gvn C' t = gvn C t := by
  unfold gvn
  rw [(h.2.2.2 t h1).1, (h.2.2.2 (t + 1) h2).2.1]
theorem gvn_v {A : Nat → Prop} {C C' : cS} {t : Nat} (h : cfv A C C') (h1 : ¬ A t) (h2 : ¬ A (t + 1)) : gvn C' t = gvn C t := gvn_fr h.fr h1 h2
theorem VA.fr {A : Nat → Prop} {C C' : cS} {t : Nat} (h : VA C t) (k : cfr A C C') (h1 : ¬ A t ∨ cR C' t = cR C t) : VA C' t := by
  refine ⟨k.T h.1, ?_, k.T h.2.2⟩
  rcases h1 with h1 | h1
  · rw [(k.2.2.2 t h1).2.2]; exact h.2.1
  · rw [h1]; exact h.2.1
def vBoth (v o : vT) : vT := if v.1 ≠ 0 ∨ o.1 ≠ 0 ∨ ∃ i, i < 17 ∧ lk (v.2 i &&& o.2 i) = true then vNo else (0, fun i => v.2 i &&& o.2 i)
def vEither (v o : vT) : vT := (if v.1 ≠ 0 ∧ o.1 ≠ 0 then 1 else 0, fun i => v.2 i ||| o.2 i)
theorem vRes_gvn (C : cS) (t : Nat) {p k : Nat} (hp : p < 119) : gvn (pv C t (vRes (gv C t) p k)) t = vRes (gvn C t) p k := by
  rw [gvn_pv]
  have h7 : p / 7 < 17 := by omega
  have e1 : (gvn C t).2 (p / 7) = (gv C t).2 (p / 7) := by show (if p / 7 < 17 then _ else _) = _; rw [if_pos h7]; rfl
  unfold vRes
  rw [e1]
  split
  · refine Prod.ext rfl (funext fun i => ?_)
    simp only [vFill]
    by_cases hi : i < 17
    · simp [hi]
    · have h9 : i ≠ p / 7 := by omega
      simp [hi, h9, gvn]
  · refine Prod.ext rfl (funext fun i => ?_)
    show (if i < 17 then _ else 0) = (if i = p / 7 then _ else _)
    by_cases hi : i < 17
    · simp [hi, gvn, gv]
    · have h9 : i ≠ p / 7 := by omega
      simp [hi, h9, gvn]
section CV3
variable {c : cX} {d : Nat} {C : cS} {K : Option Value → cS → Prop} {t : Nat}
abbrev fv (t : Nat) : Nat → Prop := fun b => b = t ∨ b = t + 1
theorem r_no (hV : VA C t) (hK : ∀ C', cfv (fv t) C C' → gvn C' t = vNo → K none C') : cM c d eX8_sayNothing [.ref t] C K := by
  refine c_sayNothing hV (hK _ (cfv_pv _ _ _) ?_)
  rw [gvn_pv]
  refine Prod.ext rfl (funext fun i => ?_)
  show (if i < 17 then vFill 0 _ i else 0) = 0
  unfold vFill
  by_cases hi : i < 17 <;> simp [hi]
theorem r_any (hV : VA C t) (hK : ∀ C', cfv (fv t) C C' → gvn C' t = vAll → K none C') : cM c d eX8_sayAnything [.ref t] C K := by
  refine c_sayAnything hV (hK _ (cfv_pv _ _ _) ?_)
  rw [gvn_pv]
  refine Prod.ext rfl (funext fun i => ?_)
  show (if i < 17 then vFill _ _ i else 0) = (if i < 17 then _ else 0)
  unfold vFill
  by_cases hi : i < 17 <;> simp [hi]
theorem r_copy {s : Nat} (hV : VA C t) (hS : VA C s) (hne : s ≠ t) (hb : rB (gvn C s).1) (hK : ∀ C', cfv (fv t) C C' → gvn C' t = gvn C s → K none C') : cM c d eX8_copy [.ref t, .ref s] C K := by
  refine c_copy hV hS hne hb (hK _ (cfv_pv _ _ _) ?_)
  rw [gvn_pv]
  refine Prod.ext rfl (funext fun i => ?_)
  show (if i < 17 then vMix _ _ i else 0) = (if i < 17 then _ else 0)
  unfold vMix
  by_cases hi : i < 17 <;> simp [hi, gv]
theorem r_restrict {p k : Nat} (hV : VA C t) (hp : p < 119) (hk : k < 32) (hK : ∀ C', cfv (fv t) C C' → gvn C' t = vRes (gvn C t) p k → K none C') : cM c (d + 1) eX8_restrict [.ref t, .int (nI p), .int (nI k)] C K :=
  c_restrict hV hp hk (hK _ (cfv_pv _ _ _) (vRes_gvn C t hp))
theorem r_says {p : Nat} (hV : VA C t) (hp : p < 119) (hK : K (some (.int (nI (kd ((gvn C t).2 (p / 7)) (p % 7))))) C) : cM c (d + 1) eX8_says [.ref t, .int (nI p)] C K := by
  refine c_says hV hp ?_
  have e1 : (gvn C t).2 (p / 7) = cJ C (t + 1) (p / 7) := by show (if p / 7 < 17 then _ else _) = _; rw [if_pos (by omega)]
  rw [e1] at hK
  exact hK
theorem r_word {s : Nat} (hV : VA C t) (hs : s < 17) (hK : K (some (.long ((gvn C t).2 s))) C) : cM c d eX8_word [.ref t, .int (nI s)] C K := by
  refine c_word hV hs ?_
  have e1 : (gvn C t).2 s = cJ C (t + 1) s := by show (if s < 17 then _ else _) = _; rw [if_pos hs]
  rw [e1] at hK
  exact hK
/-- words so far treated -/
def vUp (f : Nat → Int64) (ws : Nat → Int64) (i : Nat) : Nat → Int64 := fun j => if j < i then f j else ws j
theorem up_step (C : cS) (a i : Nat) (f ws : Nat → Int64) : csj (cwr C a (vUp f ws i)) a i (f i) = cwr C a (vUp f ws (i + 1)) := mix_step C a i f ws
theorem r_either {s : Nat} (hV : VA C t) (hS : VA C s) (hne : s ≠ t) (hK : ∀ C', cfv (fv t) C C' → gvn C' t = vEither (gvn C t) (gvn C s) → K none C') : cM c d eX8_allowEither [.ref t, .ref s] C K := by
  have fin : ∀ fl : Int32, fl = (vEither (gvn C t) (gvn C s)).1 → K none (cwr (csi C t 1 fl) (t + 1) (vUp (fun j => cJ C (t + 1) j ||| cJ C (s + 1) j) (cJ C (t + 1)) 17)) := fun fl hfl => by
    refine hK (pv C t (fl, vUp (fun j => cJ C (t + 1) j ||| cJ C (s + 1) j) (cJ C (t + 1)) 17)) (cfv_pv _ _ _) ?_
    rw [gvn_pv]
    refine Prod.ext hfl (funext fun i => ?_)
    simp only [vEither, gvn, vUp]
    by_cases hi : i < 17 <;> simp [hi]
  have key : ∀ fl : Int32, fl = (vEither (gvn C t) (gvn C s)).1 → ∀ n i : Nat, i + n = 17 → cG c eX8_allowEither d (cQ K) 25 [some (.ref t), some (va_rf (some s)), some (.int (nI i))] [] (cwr (csi C t 1 fl) (t + 1) (vUp (fun j => cJ C (t + 1) j ||| cJ C (s + 1) j) (cJ C (t + 1)) i)) := by
    intro fl hfl n
    induction n with
    | zero =>
      intro i hi
      have : i = 17 := by omega
      subst this
      exact w_X8_allowEither_25 t (some s) (nI 17) ⟨fun _ => fin fl hfl, fun h => absurd (by decide) h⟩
    | succ n ih =>
      intro i hi
      refine w_X8_allowEither_25 t (some s) (nI i) ⟨fun h => absurd h (i17 (by omega)), fun _ => ⟨hV.1, t + 1, hV.2.1, 17, hV.2.2, i, am_ix_n (by omega) (by decide), s, rfl, hS.1, s + 1, hS.2.1, 17, hS.2.2, i, am_ix_n (by omega) (by decide), i, am_ix_n (by omega) (by decide), ?_⟩⟩
      have e1 : cJ (cwr (csi C t 1 fl) (t + 1) (vUp (fun j => cJ C (t + 1) j ||| cJ C (s + 1) j) (cJ C (t + 1)) i)) (s + 1) i = cJ C (s + 1) i := by
        rw [cJ_cwr_ne _ (by omega)]
        rfl
      have e2 : cJ (cwr (csi C t 1 fl) (t + 1) (vUp (fun j => cJ C (t + 1) j ||| cJ C (s + 1) j) (cJ C (t + 1)) i)) (t + 1) i = cJ C (t + 1) i := by
        rw [cJ_cwr]
        simp [vUp]
      rw [e1, e2, nI_1]
      have e3 := up_step (csi C t 1 fl) (t + 1) i (fun j => cJ C (t + 1) j ||| cJ C (s + 1) j) (cJ C (t + 1))
      rw [show csj (cwr (csi C t 1 fl) (t + 1) (vUp (fun j => cJ C (t + 1) j ||| cJ C (s + 1) j) (cJ C (t + 1)) i)) (t + 1) i (cJ C (t + 1) i ||| cJ C (s + 1) i) = _ from e3]
      exact ih (i + 1) (by omega)
  have start : ∀ fl : Int32, fl = (vEither (gvn C t) (gvn C s)).1 → cG c eX8_allowEither d (cQ K) 25 [some (.ref t), some (va_rf (some s)), some (.int 0)] [] (csi C t 1 fl) := fun fl hfl => by
    have h0 := key fl hfl 17 0 rfl
    have e0 : cwr (csi C t 1 fl) (t + 1) (vUp (fun j => cJ C (t + 1) j ||| cJ C (s + 1) j) (cJ C (t + 1)) 0) = csi C t 1 fl := by
      have : vUp (fun j => cJ C (t + 1) j ||| cJ C (s + 1) j) (cJ C (t + 1)) 0 = cJ (csi C t 1 fl) (t + 1) := by funext j; simp [vUp, csi, cJ]
      rw [this, cwr_self]
    rw [e0] at h0
    exact h0
  refine w_X8_allowEither t (some s) ⟨hV.1, fun h => start 0 ?_, fun h => ⟨s, rfl, hS.1, fun h2 => start 0 ?_, fun h2 => start 1 ?_⟩⟩
  · show (0 : Int32) = (if cI C t 1 ≠ 0 ∧ cI C s 1 ≠ 0 then 1 else 0)
    rw [if_neg (fun q => q.1 h)]
  · show (0 : Int32) = (if cI C t 1 ≠ 0 ∧ cI C s 1 ≠ 0 then 1 else 0)
    rw [if_neg (fun q => q.2 h2)]
  · show (1 : Int32) = (if cI C t 1 ≠ 0 ∧ cI C s 1 ≠ 0 then 1 else 0)
    rw [if_pos ⟨h, h2⟩]
/-- the flag so far -/
def vBf (C : cS) (t s i : Nat) : Prop := cI C t 1 ≠ 0 ∨ cI C s 1 ≠ 0 ∨ ∃ j, j < i ∧ lk (cJ C (t + 1) j &&& cJ C (s + 1) j) = true
theorem r_both {s : Nat} (hV : VA C t) (hS : VA C s) (hne : s ≠ t) (hK : ∀ C', cfv (fv t) C C' → gvn C' t = vBoth (gvn C t) (gvn C s) → K none C') : cM c (d + 2) eX8_keepBoth [.ref t, .ref s] C K := by
  have hbv : vBf C t s 17 ↔ ((gvn C t).1 ≠ 0 ∨ (gvn C s).1 ≠ 0 ∨ ∃ i, i < 17 ∧ lk ((gvn C t).2 i &&& (gvn C s).2 i) = true) := by
    unfold vBf gvn
    constructor
    · rintro (h | h | ⟨j, h1, h2⟩)
      · exact Or.inl h
      · exact Or.inr (Or.inl h)
      · exact Or.inr (Or.inr ⟨j, h1, by simp [h1]; exact h2⟩)
    · rintro (h | h | ⟨j, h1, h2⟩)
      · exact Or.inl h
      · exact Or.inr (Or.inl h)
      · exact Or.inr (Or.inr ⟨j, h1, by simp [h1] at h2; exact h2⟩)
  have key : ∀ n i : Nat, i + n = 17 → ∀ fl : Int32, (fl = 0 ∧ ¬ vBf C t s i) ∨ (fl = 1 ∧ vBf C t s i) → cG c eX8_keepBoth (d + 1 + 1) (cQ K) 22 [some (.ref t), some (va_rf (some s)), some (.int fl), some (.int (nI i))] [] (cwr C (t + 1) (vUp (fun j => cJ C (t + 1) j &&& cJ C (s + 1) j) (cJ C (t + 1)) i)) := by
    intro n
    induction n with
    | zero =>
      intro i hi fl hfl
      have : i = 17 := by omega
      subst this
      refine w_X8_keepBoth_22 t (some s) fl (nI 17) ⟨fun _ => ⟨fun hz => ?_, fun hz => ?_⟩, fun h => absurd (by decide) h⟩
      · have hb : ¬ vBf C t s 17 := by
          rcases hfl with ⟨-, h⟩ | ⟨h, -⟩
          · exact h
          · rw [h] at hz; exact absurd hz (by decide)
        have ht0 : cI C t 1 = 0 := Decidable.byContradiction fun q => hb (Or.inl q)
        have e1 : cwr C (t + 1) (vUp (fun j => cJ C (t + 1) j &&& cJ C (s + 1) j) (cJ C (t + 1)) 17) = pv C t (0, vUp (fun j => cJ C (t + 1) j &&& cJ C (s + 1) j) (cJ C (t + 1)) 17) := by
          refine cS_ext rfl rfl rfl (funext fun b => funext fun i => ?_) rfl rfl
          simp only [pv, cwr, csi]
          by_cases h1 : i = 1 <;> by_cases h2 : b = t <;> simp [h1, h2]
          exact ht0
        rw [e1]
        refine hK _ (cfv_pv _ _ _) ?_
        rw [gvn_pv]
        unfold vBoth
        rw [if_neg (fun q => hb (hbv.mpr q))]
        refine Prod.ext rfl (funext fun i => ?_)
        simp only [gvn, vUp]
        by_cases hi : i < 17 <;> simp [hi]
      · have hb : vBf C t s 17 := by
          rcases hfl with ⟨h, -⟩ | ⟨-, h⟩
          · exact absurd h hz
          · exact h
        refine ⟨hV.1, r_no (C := cwr C (t + 1) _) hV fun C' k1 k3 => ⟨rfl, k1.le, ?_⟩⟩
        have kf : cfv (fv t) C (cwr C (t + 1) (vUp (fun j => cJ C (t + 1) j &&& cJ C (s + 1) j) (cJ C (t + 1)) 17)) := by
          refine ⟨rfl, rfl, rfl, rfl, fun b hb => ⟨rfl, ?_⟩⟩
          exact cJ_cwr_ne _ (fun q => hb (Or.inr q)) _
        refine hK C' (kf.trans k1) ?_
        rw [k3]
        unfold vBoth
        rw [if_pos (hbv.mp hb)]
    | succ n ih =>
      intro i hi fl hfl
      refine w_X8_keepBoth_22 t (some s) fl (nI i) ⟨fun h => absurd h (i17 (by omega)), fun _ => ⟨hV.1, t + 1, hV.2.1, 17, hV.2.2, i, am_ix_n (by omega) (by decide), s, rfl, hS.1, s + 1, hS.2.1, 17, hS.2.2, i, am_ix_n (by omega) (by decide), i, am_ix_n (by omega) (by decide), ?_⟩⟩
      have e1 : cJ (cwr C (t + 1) (vUp (fun j => cJ C (t + 1) j &&& cJ C (s + 1) j) (cJ C (t + 1)) i)) (s + 1) i = cJ C (s + 1) i := by
        rw [cJ_cwr_ne _ (by omega)]
      have e2 : cJ (cwr C (t + 1) (vUp (fun j => cJ C (t + 1) j &&& cJ C (s + 1) j) (cJ C (t + 1)) i)) (t + 1) i = cJ C (t + 1) i := by
        rw [cJ_cwr]
        simp [vUp]
      rw [e1, e2, nI_1]
      have e3 := up_step C (t + 1) i (fun j => cJ C (t + 1) j &&& cJ C (s + 1) j) (cJ C (t + 1))
      rw [show csj (cwr C (t + 1) (vUp (fun j => cJ C (t + 1) j &&& cJ C (s + 1) j) (cJ C (t + 1)) i)) (t + 1) i (cJ C (t + 1) i &&& cJ C (s + 1) i) = _ from e3]
      have e4 : cJ (cwr C (t + 1) (vUp (fun j => cJ C (t + 1) j &&& cJ C (s + 1) j) (cJ C (t + 1)) (i + 1))) (t + 1) i = cJ C (t + 1) i &&& cJ C (s + 1) i := by
        rw [cJ_cwr]
        simp [vUp]
      have grow : vBf C t s i → vBf C t s (i + 1) := by
        rintro (h | h | ⟨j, h1, h2⟩)
        · exact Or.inl h
        · exact Or.inr (Or.inl h)
        · exact Or.inr (Or.inr ⟨j, by omega, h2⟩)
      refine ⟨fun hz => ?_, fun hz => ⟨i, am_ix_n (by omega) (by decide), ?_⟩⟩
      · rcases hfl with ⟨h, -⟩ | ⟨-, h⟩
        · exact absurd h hz
        · exact ih (i + 1) (by omega) 1 (Or.inr ⟨rfl, grow h⟩)
      · rw [e4]
        have hb : ¬ vBf C t s i := by
          rcases hfl with ⟨-, h⟩ | ⟨h, -⟩
          · exact h
          · rw [h] at hz; exact absurd hz (by decide)
        refine c_lacks ⟨_, rfl, cle.refl _, fun q => ?_, fun q => ?_⟩
        · refine ih (i + 1) (by omega) 0 (Or.inl ⟨rfl, fun h => ?_⟩)
          rcases h with h | h | ⟨j, h1, h2⟩
          · exact hb (Or.inl h)
          · exact hb (Or.inr (Or.inl h))
          · by_cases ej : j = i
            · subst ej
              rw [h2] at q
              exact absurd q (by decide)
            · exact hb (Or.inr (Or.inr ⟨j, by omega, h2⟩))
        · refine ih (i + 1) (by omega) 1 (Or.inr ⟨rfl, Or.inr (Or.inr ⟨i, by omega, ?_⟩)⟩)
          cases hlk : lk (cJ C (t + 1) i &&& cJ C (s + 1) i) with
          | true => rfl
          | false => rw [hlk] at q; exact absurd rfl q
  have e0 : cwr C (t + 1) (vUp (fun j => cJ C (t + 1) j &&& cJ C (s + 1) j) (cJ C (t + 1)) 0) = C := by
    have : vUp (fun j => cJ C (t + 1) j &&& cJ C (s + 1) j) (cJ C (t + 1)) 0 = cJ C (t + 1) := by funext j; simp [vUp]
    rw [this, cwr_self]
  have h0 := key 17 0 rfl
  rw [e0] at h0
  refine w_X8_keepBoth t (some s) ⟨hV.1, fun h => h0 1 (Or.inr ⟨rfl, Or.inl h⟩), fun h => ⟨s, rfl, hS.1, fun h2 => h0 0 (Or.inl ⟨rfl, ?_⟩), fun h2 => h0 1 (Or.inr ⟨rfl, Or.inr (Or.inl h2)⟩)⟩⟩
  rintro (q | q | ⟨j, q, -⟩)
  · exact q h
  · exact q h2
  · exact absurd q (Nat.not_lt_zero _)
end CV3
