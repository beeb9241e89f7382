/-! check: a text read and examined. -/
/-- what the object keeps of its latest calls -/
def obf (C : cS) : Option Nat × Int32 × Int32 × Int32 × Int32 × vT × vT := (cR C 1 7, cI C 1 8, cI C 1 9, cI C 1 10, cI C 1 11, gvn C 346, gvn C 348)
theorem gvn_eq {A B : cS} {t : Nat} (h1 : cI B t 1 = cI A t 1) (h2 : ∀ i, cJ B (t + 1) i = cJ A (t + 1) i) : gvn B t = gvn A t := by
  unfold gvn
  refine Prod.ext h1 (funext fun i => ?_)
  show (if i < 17 then cJ B (t + 1) i else 0) = (if i < 17 then cJ A (t + 1) i else 0)
  rw [h2]
theorem obf_eq {A B : cS} (h1 : cR B 1 7 = cR A 1 7) (h2 : ∀ i, 8 ≤ i → cI B 1 i = cI A 1 i) (h3 : gvn B 346 = gvn A 346) (h4 : gvn B 348 = gvn A 348) : obf B = obf A := by
  unfold obf
  rw [h1, h2 8 (by decide), h2 9 (by decide), h2 10 (by decide), h2 11 (by decide), h3, h4]
theorem obf_d {n : Nat} {A B : cS} (k : dfr n A B) (hn : 400 ≤ n) : obf B = obf A :=
  obf_eq ((k.2 1 (by omega)).2.2 7) (fun i _ => (k.2 1 (by omega)).1 i) (gvn_eq ((k.2 346 (by omega)).1 1) (fun i => (k.2 347 (by omega)).2.1 i)) (gvn_eq ((k.2 348 (by omega)).1 1) (fun i => (k.2 349 (by omega)).2.1 i))
theorem obf_a {A B : cS} (k : afr A B) : obf B = obf A :=
  obf_eq (k.2.2.2.1 1 7 (by omega) (by omega)) (fun i _ => k.2.2.2.2.1 1 i (by omega) (by omega) (by omega)) (gvn_eq (k.2.2.2.2.1 346 1 (by omega) (by omega) (by omega)) (fun i => k.2.2.2.2.2 347 i (by omega))) (gvn_eq (k.2.2.2.2.1 348 1 (by omega) (by omega) (by omega)) (fun i => k.2.2.2.2.2 349 i (by omega)))
theorem tfr_csi1 {u : Nat} (n : Nat) (C : cS) {i : Nat} (hi : 7 ≤ i) (v : Int32) : ufr u n C (csi C 1 i v) := ⟨cle_same rfl rfl, fun _ _ _ _ _ _ => rfl, fun a j _ _ _ _ q => cI_csi_ne _ _ (by omega), fun _ _ _ _ => rfl⟩
theorem tfr_csr7 {u : Nat} (n : Nat) (C : cS) (r : Option Nat) : ufr u n C (csr C 1 7 r) := ⟨cle_same rfl rfl, fun _ _ _ _ _ q => cR_csr_ne _ _ q, fun _ _ _ _ _ _ _ => rfl, fun _ _ _ _ => rfl⟩
theorem ufr.refl (u n : Nat) (C : cS) : ufr u n C C := ⟨cle.refl _, fun _ _ _ _ _ _ => rfl, fun _ _ _ _ _ _ _ => rfl, fun _ _ _ _ => rfl⟩
theorem ufr.mono {u n m : Nat} {A B : cS} (h : ufr u n A B) (hm : m ≤ n) : ufr u m A B :=
  ⟨h.1, fun a i q => h.2.1 a i (by omega), fun a i q => h.2.2.1 a i (by omega), fun a i q => h.2.2.2 a i (by omega)⟩
theorem ufr.w {u w n : Nat} {A B : cS} (h : ufr u n A B) (hw : u ≤ w) : ufr w n A B :=
  ⟨h.1, h.2.1, fun a i q q1 => h.2.2.1 a i q (by omega), fun a i q q1 => h.2.2.2 a i q (by omega)⟩
/-- the nodes of an expression stand from nb on -/
def ND (C : cS) (nb : Nat) (T : Nat → nd) (n : Nat) : Prop := 400 ≤ nb ∧ ∀ m, m ≤ n → nAt C nb T m
theorem ND.t {A B : cS} {nb n l : Nat} {T : Nat → nd} (h : ND A nb T n) {u : Nat} (k : ufr u l A B) (hl : A.1 ≤ l) (hu : u ≤ 356 := by decide) : ND B nb T n := by
  refine ⟨h.1, fun m hm => ?_⟩
  have h0 := h.1
  obtain ⟨h1, h2, h3, h4, h5, h6⟩ := h.2 m hm
  have l1 := h1.2.1
  have ki : ∀ i, cI B (nb + m) i = cI A (nb + m) i := fun i => k.2.2.1 (nb + m) i (by omega) (by omega) (by omega) (by omega) (by omega)
  exact ⟨h1.le k.1, by rw [ki]; exact h2, by rw [ki]; exact h3, by rw [ki]; exact h4, by rw [ki]; exact h5, fun i hi => by rw [k.2.1 (nb + m) (4 + i) (by omega) (by omega) (by omega) (by omega)]; exact h6 i hi⟩
theorem FXs.t {A B : cS} {l : Nat} {fx : fnT} (h : FXs A fx) {u : Nat} (k : ufr u l A B) (hl : A.1 ≤ l) (hl4 : 400 ≤ l) (hu : u ≤ 356 := by decide) : FXs B fx := by
  refine ⟨h.1.le k.1, fun i hi => ?_⟩
  have h3 := h.2 i hi
  cases e : fx i with
  | none =>
    rw [e] at h3
    show cR B 4 i = none
    rw [k.2.1 4 i (by omega) (by omega) (by omega) (by omega)]
    exact h3
  | some z =>
    obtain ⟨pt, kk, y, n⟩ := z
    rw [e] at h3
    obtain ⟨p1, p2, fa, p3, p4, p5, p6, p7, p8, p9⟩ := h3
    have l1 := p5.2.1
    exact ⟨p1, p2, fa, p3, by rw [k.2.1 4 i (by omega) (by omega) (by omega) (by omega)]; exact p4, p5.le k.1, by rw [k.2.2.1 fa 1 (by omega) (by omega) (by omega) (by omega) (by omega)]; exact p6, by rw [k.2.2.1 fa 2 (by omega) (by omega) (by omega) (by omega) (by omega)]; exact p7, by rw [k.2.2.2 fa 3 (by omega) (by omega)]; exact p8, by rw [k.2.2.2 fa 4 (by omega) (by omega)]; exact p9⟩
theorem cle_cnw {C C3 : cS} {t n : Nat} (h : cle C C3) (hT : cT C3 C.1 t n) : cle (cnw C t n) C3 := by
  refine ⟨hT.2.1, fun a ha => ?_⟩
  by_cases q : a = C.1
  · subst q
    rw [hT.2.2]
    exact (if_pos rfl).symm
  · have ha' : a < C.1 + 1 := ha
    exact (h.2 a (by omega)).trans (if_neg q).symm
def fdO (fx : fnT) : Nat → Bool := fun i => (fx i).isSome
section CHKS
variable {D : Nat} {c : cX} {C : cS} {K : Option Value → cS → Prop} {X : String → cS → Prop} {len : Nat} {ch : Nat → Option Nat} {fx : fnT}
/-- what check finds of the expression that was read -/
def ckE (fx : fnT) (s : pS) : Nat ⊕ gF := ck fx s.2.2.2 7 (s.2.2.1 - 1) (vRes vAll 0 31) (fun i => i * 7) (fun _ => none)
theorem c_check71 {A B : cS} {n : Nat} {g : gF} (hO : TOP B ch len) (hn : n < 60) (hg : gf B (12 + 5 * n) = toF g) (ho : gok g) (hT : tfr A.1 A B) (h400 : 400 ≤ A.1)
    (h3 : ∀ C', tfr A.1 A C' → C'.1 = B.1 → C'.2.1 = B.2.1 → tfr B.1 B C' → obf C' = ((obf B).1, 1, -1, (obf B).2.2.2.1, (obf B).2.2.2.2.1, g.2.2.1, g.2.2.2) → K (some (.int (nI g.1))) C') :
    cG c eX9_check (D + 1) (cQx K X) 71 [some (.ref 1), none, none, some (va_rf (some (12 + 5 * n)))] [.int 1, .ref 1] B := by
  obtain ⟨o1, o2, o3, o4, o5, o6, o7, o8, o9, o10, o11⟩ := hO
  have fa : FA B (12 + 5 * n) := (o9.2.2.2.2.2.2.2.2.2.2.2.1 n hn).2
  refine w_X9_check_71 1 (some (12 + 5 * n)) 1 1 o1 ⟨o1, Or.inr rfl, fun z => (by cases z), fun a4 z => ?_⟩
  injection z with z
  subst z
  refine ⟨fa.1, 346, o5, o7.1, ?_⟩
  rw [fa.2.1]
  have g2 : gvn B (12 + 5 * n + 1) = g.2.2.1 := congrArg (fun x => x.2.2.1) hg
  have g3 : gvn B (12 + 5 * n + 3) = g.2.2.2 := congrArg (fun x => x.2.2.2) hg
  have g0 : cI B (12 + 5 * n) 0 = nI g.1 := congrArg (fun x => x.1) hg
  have w1 : tfr B.1 B (csi (csi B 1 8 1) 1 9 (-1)) := (tfr_csi1 _ _ (by decide) _).trans (tfr_csi1 _ _ (by decide) _)
  have w2 : ∀ t, t ≠ 1 → gvn (csi (csi B 1 8 1) 1 9 (-1)) t = gvn B t := fun t ht => gvn_eq (by rw [cI_csi_ne _ _ (by omega), cI_csi_ne _ _ (by omega)]) (fun _ => rfl)
  have w3 : ∀ t, VA B t → VA (csi (csi B 1 8 1) 1 9 (-1)) t := fun t h => h
  have w4 : FA (csi (csi B 1 8 1) 1 9 (-1)) (12 + 5 * n) := fa
  have w5 : cI (csi (csi B 1 8 1) 1 9 (-1)) (12 + 5 * n) 0 = nI g.1 := by rw [cI_csi_ne _ _ (by omega), cI_csi_ne _ _ (by omega)]; exact g0
  have w6 : obf (csi (csi B 1 8 1) 1 9 (-1)) = ((obf B).1, 1, -1, (obf B).2.2.2) := by
    have e8 : cI (csi (csi B 1 8 1) 1 9 (-1)) 1 8 = 1 := by rw [cI_csi_ne _ _ (by omega), cI_csi]
    have e9 : cI (csi (csi B 1 8 1) 1 9 (-1)) 1 9 = -1 := cI_csi _ _ _ _
    have e10 : cI (csi (csi B 1 8 1) 1 9 (-1)) 1 10 = cI B 1 10 := by rw [cI_csi_ne _ _ (by omega), cI_csi_ne _ _ (by omega)]
    have e11 : cI (csi (csi B 1 8 1) 1 9 (-1)) 1 11 = cI B 1 11 := by rw [cI_csi_ne _ _ (by omega), cI_csi_ne _ _ (by omega)]
    unfold obf
    rw [e8, e9, e10, e11, w2 346 (by decide), w2 348 (by decide)]
    rfl
  have w7 : cR (csi (csi B 1 8 1) 1 9 (-1)) 1 4 = some 348 := o6
  have w8 : (csi (csi B 1 8 1) 1 9 (-1)).1 = B.1 ∧ (csi (csi B 1 8 1) 1 9 (-1)).2.1 = B.2.1 := ⟨rfl, rfl⟩
  have v1 := w3 346 o7
  have v2 := w3 348 o8
  have m1 := w2 (12 + 5 * n + 1) (by omega)
  have m3 := w2 (12 + 5 * n + 3) (by omega)
  rw [g2] at m1
  rw [g3] at m3
  clear w2 w3
  generalize csi (csi B 1 8 1) 1 9 (-1) = C1 at w1 w4 w5 w6 w7 w8 v1 v2 m1 m3 ⊢
  refine r_copy v1 w4.2.2.2.1 (by omega) (by rw [m1]; exact ho.2.2.1) fun C2 k2 e2 => ⟨rfl, k2.le, 348, by rw [k2.2.2.2.1]; exact w7, k2.T v2.1, ?_⟩
  have f2 : cR C2 (12 + 5 * n) 3 = some (12 + 5 * n + 3) := by rw [k2.2.2.2.1]; exact w4.2.2.1
  rw [f2]
  have nv : ∀ a, a ≠ 346 → a ≠ 347 → ¬ fv 346 a := fun a q1 q2 q => by rcases q with q | q <;> omega
  have nw : ∀ a, a ≠ 348 → a ≠ 349 → ¬ fv 348 a := fun a q1 q2 q => by rcases q with q | q <;> omega
  have m3' : gvn C2 (12 + 5 * n + 3) = g.2.2.2 := by rw [gvn_v k2 (nv _ (by omega) (by omega)) (nv _ (by omega) (by omega))]; exact m3
  refine r_copy (v2.v k2) (w4.2.2.2.2.v k2) (by omega) (by rw [m3']; exact ho.2.2.2) fun C3 k3 e3 => ⟨rfl, k3.le, ?_⟩
  have k13 : ∀ a, ¬ (a = 346 ∨ a = 347 ∨ a = 348 ∨ a = 349) → cI C3 a = cI C1 a ∧ cJ C3 a = cJ C1 a := fun a q => by
    have x2 := k2.2.2.2.2 a (nv _ (by omega) (by omega))
    have x3 := k3.2.2.2.2 a (nw _ (by omega) (by omega))
    exact ⟨x3.1.trans x2.1, x3.2.trans x2.2⟩
  have t3 : tfr B.1 C1 C3 := ⟨k2.le.trans k3.le, fun a i _ _ _ _ => by rw [k3.2.2.2.1, k2.2.2.2.1], fun a i _ q _ _ _ => by rw [(k13 a (by omega)).1], fun a i _ q => by rw [(k13 a (by omega)).2]⟩
  have i3 : cI C3 (12 + 5 * n) 0 = nI g.1 := by rw [(k13 _ (by omega)).1]; exact w5
  rw [i3]
  have y3 : gvn C3 346 = g.2.2.1 := by rw [gvn_v k3 (nw _ (by decide) (by decide)) (nw _ (by decide) (by decide)), e2]; exact m1
  have z3 : gvn C3 348 = g.2.2.2 := e3.trans m3'
  have tB : tfr B.1 B C3 := w1.trans t3
  refine h3 C3 (hT.trans (tB.mono (hT.1.1))) ?_ ?_ tB ?_
  · rw [k3.1, k2.1]; exact w8.1
  · rw [k3.2.1, k2.2.1]; exact w8.2
  · have r7 : cR C3 1 7 = (obf B).1 := by rw [k3.2.2.2.1, k2.2.2.2.1]; exact congrArg (fun x => x.1) w6
    have i8 : cI C3 1 8 = 1 := by rw [(k13 1 (by decide)).1]; exact congrArg (fun x => x.2.1) w6
    have i9 : cI C3 1 9 = -1 := by rw [(k13 1 (by decide)).1]; exact congrArg (fun x => x.2.2.1) w6
    have i10 : cI C3 1 10 = (obf B).2.2.2.1 := by rw [(k13 1 (by decide)).1]; exact congrArg (fun x => x.2.2.2.1) w6
    have i11 : cI C3 1 11 = (obf B).2.2.2.2.1 := by rw [(k13 1 (by decide)).1]; exact congrArg (fun x => x.2.2.2.2.1) w6
    show (cR C3 1 7, cI C3 1 8, cI C3 1 9, cI C3 1 10, cI C3 1 11, gvn C3 346, gvn C3 348) = _
    rw [r7, i8, i9, i10, i11, y3, z3]
theorem c_check (hO : TOP C ch len) (hc : chO ch len) (hX : FXs C fx)
    (h1 : ∀ e, pExpr ch (fdO fx) = .inl e → ∀ C', tfr C.1 C C' → C'.1 ≤ C.1 + 200 → C'.2.1 ≤ C.2.1 + 1000 → obf C' = ((obf C).1, (obf C).2.1, nI e, (obf C).2.2.2) → X "java/lang/IllegalArgumentException" C')
    (h2 : ∀ s e, pExpr ch (fdO fx) = .inr s → ckE fx s = .inl e → ∀ C', tfr C.1 C C' → C'.1 ≤ C.1 + 200 → C'.2.1 ≤ C.2.1 + 1000 → ND C' (C.1 + 2) s.2.2.2 (s.2.2.1 - 1) → obf C' = (some (C.1 + 2 + (s.2.2.1 - 1)), 0, nI e, (obf C).2.2.2) → X "java/lang/UnsupportedOperationException" C')
    (h3 : ∀ s g, pExpr ch (fdO fx) = .inr s → ckE fx s = .inr g → gok g → ∀ C', tfr C.1 C C' → C'.1 ≤ C.1 + 200 → C'.2.1 ≤ C.2.1 + 1000 → ND C' (C.1 + 2) s.2.2.2 (s.2.2.1 - 1) → obf C' = (some (C.1 + 2 + (s.2.2.1 - 1)), 1, -1, (obf C).2.2.2.1, (obf C).2.2.2.2.1, g.2.2.1, g.2.2.2) → K (some (.int (nI g.1))) C') :
    cG c eX9_check (D + 28) (cQx K X) 0 [some (.ref 1), none, none, none] [] C := by
  have hO0 := hO
  obtain ⟨o1, o2, o3, o4, o5, o6, o7, o8, o9, o10, o11⟩ := hO
  have hF : FD C (fdO fx) := hX.fd
  obtain ⟨C1, e1, b1, b2, b3, b4, b5, b6, b7⟩ := cnw_spec C 6 8
  refine w_X9_check 1 o1 ?_
  have q0 : cR (cnw C 6 8) 1 0 = some 2 := by rw [← e1, b7 1 0 (by omega)]; exact o2
  have q1 : cR (cnw C 6 8) 1 1 = some 4 := by rw [← e1, b7 1 1 (by omega)]; exact o3
  rw [q0, q1]
  refine c_rinit o10 hF o11 fun C3 f3 r3 => ⟨rfl, cle_cnw f3.1 r3.1, ?_⟩
  have f3' : dfr C.1 C C3 := f3
  refine c_readE (D := D + 2) hc o11 r3 (fun e he C8 f8 => ⟨none, rfl, f8.1.1, fun _ => ?_, fun a z => (by cases z)⟩) (fun s hs he2 C8 p8 r8 => ⟨_, rfl, p8.1, fun z => (by cases z), fun a14 z => ?_⟩)
  · obtain ⟨g1, g2, g3, n, g4, g5, g6⟩ := f8
    have d8 := f3'.trans g1.d
    have ob := obf_d d8 o11
    rw [g2]
    refine h1 e he _ (d8.t.trans (tfr_csi1 _ _ (by decide) _)) (show C8.1 ≤ _ by omega) (show C8.2.1 ≤ _ by omega) ?_
    have e8 : cI (csi C8 1 9 (nI e)) 1 8 = cI C8 1 8 := cI_csi_ne _ _ (by omega)
    have e10 : cI (csi C8 1 9 (nI e)) 1 10 = cI C8 1 10 := cI_csi_ne _ _ (by omega)
    have e11 : cI (csi C8 1 9 (nI e)) 1 11 = cI C8 1 11 := cI_csi_ne _ _ (by omega)
    have e9 : cI (csi C8 1 9 (nI e)) 1 9 = nI e := cI_csi _ _ _ _
    have v1 : gvn (csi C8 1 9 (nI e)) 346 = gvn C8 346 := gvn_eq (cI_csi_ne _ _ (by omega)) (fun _ => rfl)
    have v2 : gvn (csi C8 1 9 (nI e)) 348 = gvn C8 348 := gvn_eq (cI_csi_ne _ _ (by omega)) (fun _ => rfl)
    rw [← ob]
    unfold obf
    rw [e8, e9, e10, e11, v1, v2]
    rfl
  · injection z with z
    obtain ⟨w1, w2, w3⟩ := pRead_wt hc smE_sc he2
    have d8 := f3'.trans p8.d
    have t8 : tfr C.1 C C8 := d8.t
    have ob := obf_d d8 o11
    have hO8 := hO0.t t8 o11
    have l1 := r8.2.2.2.2.2.2.2.2.1
    have l2 := r8.2.2.2.2.2.2.2.2.2.1
    refine ⟨5, hO8.2.2.2.1, hO8.2.2.2.2.2.2.2.2.1.1, ?_⟩
    rw [hO8.2.2.1]
    have t9 : tfr C8.1 C8 (csr C8 1 7 (some (C.1 + 2 + (s.2.2.1 - 1)))) := tfr_csr7 _ _ _
    have ob9 : obf (csr C8 1 7 (some (C.1 + 2 + (s.2.2.1 - 1)))) = (some (C.1 + 2 + (s.2.2.1 - 1)), (obf C).2) := by
      rw [← ob]
      have r7 : cR (csr C8 1 7 (some (C.1 + 2 + (s.2.2.1 - 1)))) 1 7 = some (C.1 + 2 + (s.2.2.1 - 1)) := cR_csr _ _ _ _
      unfold obf
      rw [r7]
      rfl
    have l9 : (csr C8 1 7 (some (C.1 + 2 + (s.2.2.1 - 1)))).1 = C8.1 ∧ (csr C8 1 7 (some (C.1 + 2 + (s.2.2.1 - 1)))).2.1 = C8.2.1 := ⟨rfl, rfl⟩
    generalize csr C8 1 7 (some (C.1 + 2 + (s.2.2.1 - 1))) = C9 at t9 ob9 l9 ⊢
    have c8 : C.1 ≤ C8.1 := t8.1.1
    have T9 : tfr C.1 C C9 := t8.trans (t9.mono c8)
    have hO9 := hO8.t t9 (by omega)
    have hX9 : FXs C9 fx := hX.t T9 (Nat.le_refl _) o11
    have N8 : ND C8 (C.1 + 2) s.2.2.2 (s.2.2.1 - 1) := ⟨by omega, fun m hm => r8.2.2.2.2.2.2.2.2.2.2.2.1 m (by omega)⟩
    have N9 := N8.t t9 (Nat.le_refl _)
    refine c_all (D := D) (k := 7) (ft := 31) w1 sc01 hO9.2.2.2.2.2.2.2.2.1 hX9 N9.2 N9.1 (by decide) (by decide) (fun e he C17 a17 f17 => ⟨none, rfl, a17.le, fun _ => ?_, fun a z => (by cases z)⟩) (fun g hg C17 a17 f17 ok => ⟨_, rfl, a17.le, fun z => (by cases z), fun a25 z => ?_⟩)
    · have t17 := a17.t C9.1
      have hO17 := hO9.t t17 (by omega)
      have n17 := N9.t t17 (Nat.le_refl _)
      have T17 : tfr C.1 C C17 := T9.trans (t17.mono (by omega))
      have ob17 := obf_a a17
      rw [ob9] at ob17
      refine w_X9_check_71 1 none 0 1 hO17.1 ⟨hO17.1, Or.inl rfl, fun _ => ⟨5, hO17.2.2.2.1, hO17.2.2.2.2.2.2.2.2.1.1, ?_⟩, fun a4 z => (by cases z)⟩
      rw [f17]
      have tt : tfr C17.1 C17 (csi (csi C17 1 8 0) 1 9 (nI e)) := (tfr_csi1 _ _ (by decide) _).trans (tfr_csi1 _ _ (by decide) _)
      have c17 : C.1 ≤ C17.1 := T17.1.1
      have a1 := a17.1
      have a2 := a17.2.1
      refine h2 s e hs he _ (T17.trans (tt.mono c17)) (show C17.1 ≤ _ by omega) (show C17.2.1 ≤ _ by omega) (n17.t tt (Nat.le_refl _)) ?_
      have e8 : cI (csi (csi C17 1 8 0) 1 9 (nI e)) 1 8 = 0 := by rw [cI_csi_ne _ _ (by omega), cI_csi]
      have e9 : cI (csi (csi C17 1 8 0) 1 9 (nI e)) 1 9 = nI e := cI_csi _ _ _ _
      have e10 : cI (csi (csi C17 1 8 0) 1 9 (nI e)) 1 10 = cI C17 1 10 := by rw [cI_csi_ne _ _ (by omega), cI_csi_ne _ _ (by omega)]
      have e11 : cI (csi (csi C17 1 8 0) 1 9 (nI e)) 1 11 = cI C17 1 11 := by rw [cI_csi_ne _ _ (by omega), cI_csi_ne _ _ (by omega)]
      have w2 : ∀ t, t ≠ 1 → gvn (csi (csi C17 1 8 0) 1 9 (nI e)) t = gvn C17 t := fun t ht => gvn_eq (by rw [cI_csi_ne _ _ (by omega), cI_csi_ne _ _ (by omega)]) (fun _ => rfl)
      have u1 : cR C17 1 7 = some (C.1 + 2 + (s.2.2.1 - 1)) := congrArg (fun x => x.1) ob17
      have u2 : (cI C17 1 10, cI C17 1 11, gvn C17 346, gvn C17 348) = (obf C).2.2.2 := congrArg (fun x => x.2.2.2) ob17
      rw [← u2]
      unfold obf
      rw [e8, e9, e10, e11, w2 346 (by decide), w2 348 (by decide)]
      show (cR C17 1 7, _) = _
      rw [u1]
    · injection z with z
      have t17 := a17.t C9.1
      have hO17 := hO9.t t17 (by omega)
      have n17 := N9.t t17 (Nat.le_refl _)
      have T17 : tfr C.1 C C17 := T9.trans (t17.mono (by omega))
      have ob17 := obf_a a17
      rw [ob9] at ob17
      have a1 := a17.1
      have a2 := a17.2.1
      refine c_check71 (A := C) hO17 (by omega) f17 ok T17 o11 fun C' T' z1 z2 tB ob' => ?_
      refine h3 s g hs hg ok C' T' (by omega) (by omega) (n17.t tB (Nat.le_refl _)) ?_
      rw [ob', ob17]
end CHKS
