/-! The class's reader: names, parts, new nodes. -/
theorem sub97 : ∀ y, y < 99 → nI y - 97 < 2 := by decide +kernel
theorem hasF_iff (sm : Nat → Option Nat) : hasF sm = true ↔ ∃ i, 2 ≤ i ∧ i < 8 ∧ sm i = none := by
  unfold hasF
  rw [List.any_eq_true]
  constructor
  · rintro ⟨i, h1, h2⟩
    have := List.mem_range.mp h1
    exact ⟨i + 2, by omega, by omega, Option.isNone_iff_eq_none.mp h2⟩
  · rintro ⟨i, h1, h2, h3⟩
    refine ⟨i - 2, List.mem_range.mpr (by omega), ?_⟩
    rw [show i - 2 + 2 = i by omega, h3]
    rfl
theorem cI_csr (C : cS) (a i : Nat) (v : Option Nat) (b j : Nat) : cI (csr C a i v) b j = cI C b j := rfl
theorem cR_csi (C : cS) (a i : Nat) (v : Int32) (b j : Nat) : cR (csi C a i v) b j = cR C b j := rfl
theorem node_spec (C : cS) (na : Nat) (v0 v1 v2 v3 : Int32) (r4 r5 r6 : Option Nat) : ∃ C3, C3 = csr (csr (csr (csi (csi (csi (csi C na 0 v0) na 1 v1) na 2 v2) na 3 v3) na 4 r4) na 5 r5) na 6 r6 ∧ C3.1 = C.1 ∧ C3.2.1 = C.2.1 ∧ C3.2.2.1 = C.2.2.1 ∧ (∀ a i, a ≠ na → cI C3 a i = cI C a i) ∧ (∀ a i, cJ C3 a i = cJ C a i) ∧ (∀ a i, a ≠ na → cR C3 a i = cR C a i) ∧ (cI C3 na 0 = v0 ∧ cI C3 na 1 = v1 ∧ cI C3 na 2 = v2 ∧ cI C3 na 3 = v3) ∧ cR C3 na 4 = r4 ∧ cR C3 na 5 = r5 ∧ cR C3 na 6 = r6 := by
  refine ⟨_, rfl, rfl, rfl, rfl, fun a i ha => ?_, fun a i => rfl, fun a i ha => ?_, ⟨?_, ?_, ?_, ?_⟩, ?_, ?_, ?_⟩
  · rw [cI_csr, cI_csr, cI_csr, cI_csi_ne _ _ (fun z => ha z.1), cI_csi_ne _ _ (fun z => ha z.1), cI_csi_ne _ _ (fun z => ha z.1), cI_csi_ne _ _ (fun z => ha z.1)]
  · rw [cR_csr_ne _ _ (fun z => ha z.1), cR_csr_ne _ _ (fun z => ha z.1), cR_csr_ne _ _ (fun z => ha z.1), cR_csi, cR_csi, cR_csi, cR_csi]
  · rw [cI_csr, cI_csr, cI_csr, cI_csi_ne _ _ (fun z => absurd z.2 (by decide)), cI_csi_ne _ _ (fun z => absurd z.2 (by decide)), cI_csi_ne _ _ (fun z => absurd z.2 (by decide)), cI_csi]
  · rw [cI_csr, cI_csr, cI_csr, cI_csi_ne _ _ (fun z => absurd z.2 (by decide)), cI_csi_ne _ _ (fun z => absurd z.2 (by decide)), cI_csi]
  · rw [cI_csr, cI_csr, cI_csr, cI_csi_ne _ _ (fun z => absurd z.2 (by decide)), cI_csi]
  · rw [cI_csr, cI_csr, cI_csr, cI_csi]
  · rw [cR_csr_ne _ _ (fun z => absurd z.2 (by decide)), cR_csr_ne _ _ (fun z => absurd z.2 (by decide)), cR_csr]
  · rw [cR_csr_ne _ _ (fun z => absurd z.2 (by decide)), cR_csr]
  · rw [cR_csr]
def fnB (fd : Nat → Bool) (x : Option Nat) : Bool := match x with
  | none => false
  | some y => decide (71 ≤ y ∧ y ≤ 73) && fd (y - 71)
section RDS2
variable {D : Nat} {c : cX} {d : Nat} {C : cS} {K : Option Value → cS → Prop} {rd w0 len : Nat} {ch : Nat → Option Nat} {fd : Nat → Bool} {sm : Nat → Option Nat} {s : pS}
theorem sm_m1 (hs : smO sm) (i : Nat) : rfI (sm i) = -1 ↔ sm i = none := rfI_inj fun p hp => by have := hs i p hp; omega
theorem c_free (h : RD C rd w0 ch len fd sm s) (hs : smO sm) {x : Option Nat} (hx : ∀ y, x = some y → y < 65536) (hK : K (some (.int (rfI (fNm sm x)))) C) : cM c d eX6_freeName [.ref rd, .int (rfI x)] C K := by
  refine w_X6_freeName rd (rfI x) ?_
  cases x with
  | none => exact ⟨fun _ => hK, fun q => absurd (by decide) q⟩
  | some y =>
    have hy := hx y rfl
    by_cases q : y < 99
    · have e : fNm sm (some y) = none := by show (if _ then _ else _) = _; rw [if_neg (by omega)]
      rw [e] at hK
      exact ⟨fun _ => hK, fun z => absurd (sub97 y q) z⟩
    · have e1 : rfI (some y) - 97 = nI (y - 97) := pk_sub (a := y) (b := 97) (by omega)
      rw [e1]
      have n2 : ¬ nI (y - 97) < (2 : Int32) := fun z => by have z2 : y - 97 < 2 := (nI_ltI (by omega) (by decide)).mp z; omega
      have n8 : (8 : Int32) ≤ nI (y - 97) ↔ 8 ≤ y - 97 := by
        rw [Int32.le_iff_toInt_le, nI_toInt (by omega)]
        have a : ((8 : Int32).toInt) = 8 := by decide
        omega
      rw [n8]
      refine ⟨fun z => absurd z n2, fun _ => ⟨fun z => ?_, fun z => ⟨h.1, rd + 1, h.2.2.2.1, 8, h.2.2.2.2.1, y - 97, am_ix_n (by omega) (by decide), ?_⟩⟩⟩
      · have e : fNm sm (some y) = none := by show (if _ then _ else _) = _; rw [if_neg (by omega)]
        rw [e] at hK
        exact hK
      · rw [h.2.2.2.2.2.2.2.2.2.2.1 (y - 97) (by omega), sm_m1 hs]
        refine ⟨fun w => ?_, fun w => ?_⟩
        · have e : fNm sm (some y) = none := by show (if _ then _ else _) = _; rw [if_neg (fun z => w z.2.2)]
          rw [e] at hK
          exact hK
        · have e : fNm sm (some y) = some (y - 97) := by show (if _ then _ else _) = _; rw [if_pos ⟨by omega, by omega, w⟩]
          rw [e] at hK
          exact hK
theorem c_hasF (h : RD C rd w0 ch len fd sm s) (hs : smO sm) (hK : K (some (.int (if hasF sm = true then 1 else 0))) C) : cM c d eX6_hasFreeName [.ref rd] C K := by
  refine w_X6_hasFreeName rd ?_
  have key : ∀ m i : Nat, i + m = 8 → 2 ≤ i → (∀ j, 2 ≤ j → j < i → sm j ≠ none) → cG c eX6_hasFreeName d (cQ K) 2 [some (.ref rd), some (.int (nI i))] [] C := by
    intro m
    induction m with
    | zero =>
      intro i hi h2 hj
      have : i = 8 := by omega
      subst this
      refine w_X6_hasFreeName_2 rd (nI 8) ⟨fun _ => ?_, fun q => absurd (by decide) q⟩
      rw [if_neg (fun z => by obtain ⟨j, a, b, e⟩ := (hasF_iff sm).mp z; exact hj j a b e)] at hK
      exact hK
    | succ m ih =>
      intro i hi h2 hj
      have n8 : ¬ (8 : Int32) ≤ nI i := by
        rw [Int32.le_iff_toInt_le, nI_toInt (by omega)]
        have a : ((8 : Int32).toInt) = 8 := by decide
        omega
      refine w_X6_hasFreeName_2 rd (nI i) ⟨fun q => absurd q n8, fun _ => ⟨h.1, rd + 1, h.2.2.2.1, 8, h.2.2.2.2.1, i, am_ix_n (by omega) (by decide), ?_⟩⟩
      rw [h.2.2.2.2.2.2.2.2.2.2.1 i (by omega), sm_m1 hs]
      refine ⟨fun q => ?_, fun q => ?_⟩
      · rw [nI_1]
        refine ih (i + 1) (by omega) (by omega) fun j a b => ?_
        by_cases z : j = i
        · subst z; exact q
        · exact hj j a (by omega)
      · rw [if_pos ((hasF_iff sm).mpr ⟨i, h2, by omega, q⟩)] at hK
        exact hK
  exact key 6 2 rfl (by omega) (fun j a b => by omega)
theorem c_fnO (hF : FD C fd) {x : Option Nat} (hx : ∀ y, x = some y → y < 65536) (hK : ∀ o : Option Nat, o.isSome = fnB fd x → K (some (va_rf o)) C) : cM c (d + 1) eX9_functionOf [.ref 4, .int (rfI x)] C K := by
  have hx' : ∀ y, x = some y → y < 2 ^ 31 := fun y e => by have := hx y e; omega
  have l1 : rfI x < 71 ↔ ∀ y, x = some y → y < 71 := rf_lt hx' 71 (by decide)
  have l2 : rfI x < 74 ↔ ∀ y, x = some y → y < 74 := rf_lt hx' 74 (by decide)
  have l3 : (73 : Int32) < rfI x ↔ ¬ rfI x < 74 := by
    rw [Int32.lt_iff_toInt_lt, Int32.lt_iff_toInt_lt]
    have a : ((73 : Int32).toInt) = 73 := by decide
    have b : ((74 : Int32).toInt) = 74 := by decide
    omega
  refine w_X9_functionOf (some 4) (rfI x) (w_X9_functionIndex (rfI x) ⟨fun q => ⟨_, rfl, cle.refl _, fun _ => hK none ?_, fun z => absurd rfl z⟩, fun q => ⟨fun q2 => ⟨_, rfl, cle.refl _, fun _ => hK none ?_, fun z => absurd rfl z⟩, fun q2 => ?_⟩⟩)
  · cases x with
    | none => rfl
    | some y => have := l1.mp q y rfl; simp [fnB, show ¬ 71 ≤ y by omega]
  · cases x with
    | none => rfl
    | some y =>
      have z : ¬ y ≤ 73 := fun z => l3.mp q2 (l2.mpr fun y' h' => by cases h'; omega)
      simp [fnB, z]
  · cases x with
    | none => exact absurd (l1.mpr fun y hy => by cases hy) q
    | some y =>
      have y1 : 71 ≤ y := by
        refine Nat.le_of_not_lt fun z => q (l1.mpr fun y' h' => ?_)
        cases h'; exact z
      have y2 : y < 74 := by
        refine Decidable.byContradiction fun z => q2 (l3.mpr fun w => z (l2.mp w y rfl))
      have e1 : rfI (some y) - 71 = nI (y - 71) := pk_sub (a := y) (b := 71) y1
      rw [e1]
      refine ⟨_, rfl, cle.refl _, fun z => ?_, fun _ => ⟨4, rfl, 3, hF.1, fun _ => ⟨y - 71, am_ix_n (by omega) (by decide), hK _ ?_⟩, fun z => absurd ((nI_ltI (by omega) (by decide)).mpr (show y - 71 < 3 by omega)) z⟩⟩
      · have h2 := nI_pos (n := y - 71) (by omega)
        rw [z] at h2
        exact absurd (by decide) h2
      · rw [hF.2 (y - 71) (by omega)]
        simp [fnB, y1, show y ≤ 73 by omega]
theorem c_parts (h : RD C rd w0 ch len fd sm s) (hs : smO sm) {x : Option Nat} (hx : ∀ y, x = some y → y < 65536) (hK : K (some (.int (nI (nPt fd sm x)))) C) : cM c (d + 2) eX6_partsOf [.ref rd, .int (rfI x)] C K := by
  have hx' : ∀ y, x = some y → y < 2 ^ 31 := fun y e => by have := hx y e; omega
  have e : ∀ b : Nat, b < 2 ^ 31 → (rfI x = nI b ↔ x = some b) := fun b hb => rf_eq hx' b hb
  have e33 : rfI x = 33 ↔ x = some 33 := e 33 (by decide)
  have e38 : rfI x = 38 ↔ x = some 38 := e 38 (by decide)
  have e43 : rfI x = 43 ↔ x = some 43 := e 43 (by decide)
  have e45 : rfI x = 45 ↔ x = some 45 := e 45 (by decide)
  have e58 : rfI x = 58 ↔ x = some 58 := e 58 (by decide)
  have e60 : rfI x = 60 ↔ x = some 60 := e 60 (by decide)
  have e63 : rfI x = 63 ↔ x = some 63 := e 63 (by decide)
  have e65 : rfI x = 65 ↔ x = some 65 := e 65 (by decide)
  have e66 : rfI x = 66 ↔ x = some 66 := e 66 (by decide)
  have e67 : rfI x = 67 ↔ x = some 67 := e 67 (by decide)
  have e68 : rfI x = 68 ↔ x = some 68 := e 68 (by decide)
  have e69 : rfI x = 69 ↔ x = some 69 := e 69 (by decide)
  have e78 : rfI x = 78 ↔ x = some 78 := e 78 (by decide)
  have e80 : rfI x = 80 ↔ x = some 80 := e 80 (by decide)
  have e124 : rfI x = 124 ↔ x = some 124 := e 124 (by decide)
  refine w_X6_partsOf rd (rfI x) ?_
  rw [e33, e38, e43, e45, e58, e60, e63, e65, e66, e67, e68, e69, e78, e80, e124]
  refine ⟨fun q => ?_, fun q => ?_, fun q => ⟨h.1, c_hasF h hs ?_⟩, fun q => ?_, fun q => ⟨h.1, ?_⟩⟩
  · have z : nPt fd sm x = 1 := by rcases q with q | q | q | q | q | q | q <;> subst q <;> rfl
    rw [z] at hK; exact hK
  · have z : nPt fd sm x = 2 := by rcases q with q | q | q | q | q | q <;> subst q <;> rfl
    rw [z] at hK; exact hK
  · refine ⟨_, rfl, cle.refl _, fun z => ?_, fun z => ?_⟩
    · have w : ¬ hasF sm = true := fun w => by rw [if_pos w] at z; exact absurd z (by decide)
      have z : nPt fd sm x = 0 := by subst q; show (if hasF sm = true then 2 else 0) = 0; rw [if_neg w]
      rw [z] at hK; exact hK
    · have w : hasF sm = true := Decidable.byContradiction fun w => by rw [if_neg w] at z; exact z rfl
      have z : nPt fd sm x = 2 := by subst q; show (if hasF sm = true then 2 else 0) = 2; rw [if_pos w]
      rw [z] at hK; exact hK
  · have z : nPt fd sm x = 3 := by subst q; rfl
    rw [z] at hK; exact hK
  · rw [h.2.2.1]
    refine c_fnO h.2.2.2.2.2.2.2.2.2.2.2.2.2 hx fun o ho => ⟨o, rfl, cle.refl _, fun z => ?_, fun a z => ?_⟩
    · have w : nPt fd sm x = 0 := by
        cases x with
        | none => rfl
        | some y =>
          rw [z] at ho
          simp only [Option.some.injEq] at q
          show (if _ then _ else _) = 0
          rw [if_neg (by omega), if_neg (by omega), if_neg (by omega), if_neg (by omega), if_neg]
          rintro ⟨a, b, c'⟩
          simp [fnB, a, b, c'] at ho
      rw [w] at hK; exact hK
    · have w : nPt fd sm x = 1 := by
        cases x with
        | none => rw [z] at ho; simp [fnB] at ho
        | some y =>
          rw [z] at ho
          simp only [Option.some.injEq] at q
          show (if _ then _ else _) = 1
          rw [if_neg (by omega), if_neg (by omega), if_neg (by omega), if_neg (by omega), if_pos]
          have ho' : (decide (71 ≤ y ∧ y ≤ 73) && fd (y - 71)) = true := ho.symm
          rw [Bool.and_eq_true] at ho'
          have p := of_decide_eq_true ho'.1
          exact ⟨p.1, p.2, ho'.2⟩
      rw [w] at hK; exact hK
/-- a new node -/
theorem c_new (h : RD C rd w0 ch len fd sm s) (hr : 400 ≤ rd) {nx : Nat} (op st : Nat) (o : Option Nat) (l : List Nat) (hl : l.length ≤ 3) (hK : ∀ C', pfr rd C C' → RD C' rd w0 ch len fd sm (pMk s (op, st, nx, o, l)) → K (some (va_rf (some (rd + 2 + s.2.2.1)))) C') :
    cM c (d + 2) eX6_newNode [.ref rd, .int (nI op), .int (nI st), .int (rfI o), va_rf ((l[0]?).map fun m => rd + 2 + m), va_rf ((l[1]?).map fun m => rd + 2 + m), va_rf ((l[2]?).map fun m => rd + 2 + m)] C K := by
  obtain ⟨h1, h2, h3, h4, h5, h6, h7, h8, h9, h10, h11, h12, h13, h14⟩ := h
  have hna : (csi C rd 4 (cI C rd 4 + 1)).1 = rd + 2 + s.2.2.1 := h9
  have T1 : cT (csi C rd 4 (cI C rd 4 + 1)) rd 6 8 := h1
  refine w_X6_newNode rd (nI op) (nI st) (rfI o) _ _ _ h1 ?_
  rw [hna]
  have hnT : cT (cnw (csi C rd 4 (cI C rd 4 + 1)) 5 7) (rd + 2 + s.2.2.1) 5 7 := by
    have z := cT_nw (t := 5) (n := 7) T1
    rw [hna] at z
    exact z
  refine w_X5_init (rd + 2 + s.2.2.1) _ _ _ _ _ _ _ ⟨hnT, rfl, cle_same rfl rfl, ?_⟩
  rw [h7]
  have nw : ∀ a, a ≠ rd + 2 + s.2.2.1 → (∀ i, cI (cnw (csi C rd 4 (nI s.2.2.1 + 1)) 5 7) a i = cI (csi C rd 4 (nI s.2.2.1 + 1)) a i) ∧ (∀ i, cJ (cnw (csi C rd 4 (nI s.2.2.1 + 1)) 5 7) a i = cJ C a i) ∧ ∀ i, cR (cnw (csi C rd 4 (nI s.2.2.1 + 1)) 5 7) a i = cR C a i := by
    intro a ha
    have hne : ¬ a = (csi C rd 4 (nI s.2.2.1 + 1)).1 := fun z => ha (z.trans h9)
    exact ⟨fun i => if_neg hne, fun i => if_neg hne, fun i => if_neg hne⟩
  have hle : cle C (cnw (csi C rd 4 (nI s.2.2.1 + 1)) 5 7) := (cle_same rfl rfl : cle C (csi C rd 4 (nI s.2.2.1 + 1))).trans (cle_nw _ _ _)
  have hn1 : (cnw (csi C rd 4 (nI s.2.2.1 + 1)) 5 7).1 = rd + 2 + (s.2.2.1 + 1) := by show C.1 + 1 = _; omega
  have hn2 : (cnw (csi C rd 4 (nI s.2.2.1 + 1)) 5 7).2.1 = w0 + 7 * (s.2.2.1 + 1) := by show C.2.1 + 7 = _; omega
  have hnT' : cT (cnw (csi C rd 4 (nI s.2.2.1 + 1)) 5 7) (rd + 2 + s.2.2.1) 5 7 := by rw [← h7]; exact hnT
  generalize cnw (csi C rd 4 (nI s.2.2.1 + 1)) 5 7 = C2 at nw hle hn1 hn2 hnT' ⊢
  obtain ⟨C3, e3, s1, s2, s3, s4, s5, s6, s7, s8⟩ := node_spec C2 (rd + 2 + s.2.2.1) (nI op) (nI st) (nI s.2.2.1) (rfI o) ((l[0]?).map fun m => rd + 2 + m) ((l[1]?).map fun m => rd + 2 + m) ((l[2]?).map fun m => rd + 2 + m)
  rw [← e3]
  have hle3 : cle C2 C3 := cle_same s1 s3
  have k1 : C3.1 = rd + 2 + (s.2.2.1 + 1) := s1.trans hn1
  have k2 : C3.2.1 = w0 + 7 * (s.2.2.1 + 1) := s2.trans hn2
  have ci' : ∀ a i, a ≠ rd + 2 + s.2.2.1 → cI C3 a i = cI (csi C rd 4 (nI s.2.2.1 + 1)) a i := fun a i ha => (s4 a i ha).trans ((nw a ha).1 i)
  have cj' : ∀ a i, a ≠ rd + 2 + s.2.2.1 → cJ C3 a i = cJ C a i := fun a i ha => (s5 a i).trans ((nw a ha).2.1 i)
  have cr' : ∀ a i, a ≠ rd + 2 + s.2.2.1 → cR C3 a i = cR C a i := fun a i ha => (s6 a i ha).trans ((nw a ha).2.2 i)
  have nI' := s7
  have nR' := s8
  have cl : cle C C3 := hle.trans hle3
  have old : ∀ a i, a ≠ rd + 2 + s.2.2.1 → ¬ (a = rd ∧ i = 4) → cI C3 a i = cI C a i := fun a i ha hq => (ci' a i ha).trans (cI_csi_ne _ _ hq)
  have pf : pfr rd C C3 := ⟨cl, fun a ha => ⟨fun i => old a i (by omega) (by omega), fun i => cj' a i (by omega), fun i => cr' a i (by omega)⟩, fun i hi => old rd i (by omega) (by omega)⟩
  refine hK C3 pf ⟨h1.le cl, ?_, ?_, ?_, h5.le cl, ?_, ?_, ?_, k1, k2, fun i hi => ?_, fun m hm => ?_, h13.p pf hr, h14.p pf hr⟩
  · rw [cr' rd 0 (by omega)]; exact h2
  · rw [cr' rd 1 (by omega)]; exact h3
  · rw [cr' rd 2 (by omega)]; exact h4
  · rw [old rd 3 (by omega) (by omega)]; exact h6
  · rw [ci' rd 4 (by omega), cI_csi, nI_1]; rfl
  · rw [old rd 5 (by omega) (by omega)]; exact h8
  · rw [old (rd + 1) i (by omega) (by omega)]; exact h11 i hi
  · have hm' : m < s.2.2.1 + 1 := hm
    by_cases q : m = s.2.2.1
    · subst q
      show nAt C3 (rd + 2) (up s.2.2.2 s.2.2.1 (op, st, nx, o, l)) s.2.2.1
      unfold nAt
      rw [up_same]
      refine ⟨hnT'.le hle3, nI'.1, nI'.2.1, nI'.2.2.1, nI'.2.2.2, fun i hi => ?_⟩
      have : i = 0 ∨ i = 1 ∨ i = 2 := by omega
      rcases this with z | z | z
      · subst z; exact nR'.1
      · subst z; exact nR'.2.1
      · subst z; exact nR'.2.2
    · have z := h12 m (by omega)
      show nAt C3 (rd + 2) (up s.2.2.2 s.2.2.1 (op, st, nx, o, l)) m
      unfold nAt
      rw [up_ne _ _ q]
      obtain ⟨z1, z2, z3, z4, z5, z6⟩ := z
      exact ⟨z1.le cl, by rw [old _ _ (by omega) (by omega)]; exact z2, by rw [old _ _ (by omega) (by omega)]; exact z3, by rw [old _ _ (by omega) (by omega)]; exact z4, by rw [old _ _ (by omega) (by omega)]; exact z5, fun i hi => by rw [cr' _ _ (by omega)]; exact z6 i hi⟩
end RDS2
