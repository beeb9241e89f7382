/-! The class's reader: definitions. -/
def fnI (x : Option Nat) : Option Nat := match x with
  | none => none
  | some y => if 71 ≤ y ∧ y ≤ 73 then some (y - 71) else none
def pDef (ch : Nat → Option Nat) (fd : Nat → Bool) : Nat ⊕ (Nat × Nat × Nat × pS) := match fnI (ch 0) with
  | none => .inl 0
  | some i => if fd i = true then .inl 0 else match fNm sm0 (ch 1) with
    | none => .inl 1
    | some x => if tyO (ch 2) = 0 then .inl 2 else match pEnd ch (pPart ch fd 6 (up sm0 x (some 0)) (3, 2, 0, T0)) with
      | .inl e => .inl e
      | .inr s => .inr (i, tyO (ch 2), x, s)
/-- everything below rd stands -/
def dfr (rd : Nat) (C C' : cS) : Prop := cle C C' ∧ ∀ a, a < rd → (∀ i, cI C' a i = cI C a i) ∧ (∀ i, cJ C' a i = cJ C a i) ∧ ∀ i, cR C' a i = cR C a i
theorem dfr.trans {rd : Nat} {A B C : cS} (h : dfr rd A B) (k : dfr rd B C) : dfr rd A C := ⟨h.1.trans k.1, fun a ha => ⟨fun i => ((k.2 a ha).1 i).trans ((h.2 a ha).1 i), fun i => ((k.2 a ha).2.1 i).trans ((h.2 a ha).2.1 i), fun i => ((k.2 a ha).2.2 i).trans ((h.2 a ha).2.2 i)⟩⟩
theorem pfr.d {rd : Nat} {A B : cS} (h : pfr rd A B) : dfr rd A B := ⟨h.1, h.2.1⟩
section RDX
variable {D : Nat} {c : cX} {d : Nat} {C : cS} {K : Option Value → cS → Prop} {rd w0 len : Nat} {ch : Nat → Option Nat} {fd : Nat → Bool} {sm : Nat → Option Nat} {s : pS}
/-- the name or the type is written -/
theorem RD.w (h : RD C rd w0 ch len fd sm s) (hr : 400 ≤ rd) {i : Nat} (hi : 6 ≤ i) (v : Int32) : RD (csi C rd i v) rd w0 ch len fd sm s ∧ dfr rd C (csi C rd i v) := by
  obtain ⟨h1, h2, h3, h4, h5, h6, h7, h8, h9, h10, h11, h12, h13, h14⟩ := h
  have o : ∀ a j, ¬ (a = rd ∧ j = i) → cI (csi C rd i v) a j = cI C a j := fun a j q => cI_csi_ne _ _ q
  refine ⟨⟨h1, h2, h3, h4, h5, by rw [o _ _ (by omega)]; exact h6, by rw [o _ _ (by omega)]; exact h7, by rw [o _ _ (by omega)]; exact h8, h9, h10, fun j hj => by rw [o _ _ (by omega)]; exact h11 j hj, fun m hm => ?_, ?_, h14⟩, cle_same rfl rfl, fun a ha => ⟨fun j => o a j (by omega), fun _ => rfl, fun _ => rfl⟩⟩
  · obtain ⟨z1, z2, z3, z4, z5, z6⟩ := h12 m hm
    exact ⟨z1, by rw [o _ _ (by omega)]; exact z2, by rw [o _ _ (by omega)]; exact z3, by rw [o _ _ (by omega)]; exact z4, by rw [o _ _ (by omega)]; exact z5, z6⟩
  · obtain ⟨t1, t2, t3, t4, t5⟩ := h13
    refine ⟨t1, t2, t3, by rw [o _ _ (by omega)]; exact t4, fun j hj => ?_⟩
    obtain ⟨y, y1, y2⟩ := t5 j hj
    exact ⟨y, y1, by rw [o _ _ (by omega)]; exact y2⟩
theorem c_fnI {x : Option Nat} (hx : ∀ y, x = some y → y < 65536) (hK : K (some (.int (rfI (fnI x)))) C) : cM c d eX9_functionIndex [.int (rfI x)] C K := by
  have hx' : ∀ y, x = some y → y < 2 ^ 31 := fun y e => by have := hx y e; omega
  have l1 : rfI x < 71 ↔ ∀ y, x = some y → y < 71 := rf_lt hx' 71 (by decide)
  have l2 : rfI x < 74 ↔ ∀ y, x = some y → y < 74 := rf_lt hx' 74 (by decide)
  have l3 : (73 : Int32) < rfI x ↔ ¬ rfI x < 74 := by
    rw [Int32.lt_iff_toInt_lt, Int32.lt_iff_toInt_lt]
    have a : ((73 : Int32).toInt) = 73 := by decide
    have b : ((74 : Int32).toInt) = 74 := by decide
    omega
  refine w_X9_functionIndex (rfI x) ⟨fun q => ?_, fun q => ⟨fun q2 => ?_, fun q2 => ?_⟩⟩
  · have e : fnI x = none := by
      cases x with
      | none => rfl
      | some y => show (if _ then _ else _) = _; rw [if_neg (by have := l1.mp q y rfl; omega)]
    rw [e] at hK; exact hK
  · have e : fnI x = none := by
      cases x with
      | none => rfl
      | some y =>
        show (if _ then _ else _) = _
        rw [if_neg]
        intro z
        exact l3.mp q2 (l2.mpr fun y' h' => by cases h'; omega)
    rw [e] at hK; exact hK
  · cases x with
    | none => exact absurd (l1.mpr fun y hy => by cases hy) q
    | some y =>
      have y1 : 71 ≤ y := by
        refine Nat.le_of_not_lt fun z => q (l1.mpr fun y' h' => ?_)
        cases h'; exact z
      have y2 : y < 74 := Decidable.byContradiction fun z => q2 (l3.mpr fun w => z (l2.mp w y rfl))
      have e1 : rfI (some y) - 71 = nI (y - 71) := pk_sub (a := y) (b := 71) y1
      rw [e1]
      have e : fnI (some y) = some (y - 71) := by show (if _ then _ else _) = _; rw [if_pos ⟨y1, by omega⟩]
      rw [e] at hK
      exact hK
/-- a definition: failed, or the name, the type, the parameter and the body -/
theorem c_readD (hc : chO ch len) (hr : 400 ≤ rd) (h : RD C rd w0 ch len fd sm0 (0, 2, 0, T0))
    (hE : ∀ e, pDef ch fd = .inl e → ∀ C', dfr rd C C' → cI C' rd 5 = nI e → (∃ n, n ≤ 100 ∧ C'.1 = rd + 2 + n ∧ C'.2.1 = w0 + 7 * n) → K (some (va_rf none)) C')
    (hG : ∀ i ty x s', pDef ch fd = .inr (i, ty, x, s') → pPart ch fd 6 (up sm0 x (some 0)) (3, 2, 0, T0) = .inr s' → ∀ C', dfr rd C C' → cI C' rd 6 = nI i → cI C' rd 7 = nI ty → RD C' rd w0 ch len fd (up sm0 x (some 0)) s' → K (some (va_rf (some (rd + 2 + (s'.2.2.1 - 1))))) C') :
    cM c (D + 25) eX6_readDefinition [.ref rd] C K := by
  have hx : ∀ j y, ch j = some y → y < 65536 := fun j y e => hc.2.2 _ _ e
  have hs0 : smO sm0 := fun i t e => by cases e
  unfold pDef at hE hG
  refine w_X6_readDefinition rd ⟨h.1, c_peek h hc (show 0 < 200 by decide) ⟨_, rfl, cle.refl _, c_fnI (hx 0) ⟨_, rfl, cle.refl _, fun q => ?_, fun q => ?_⟩⟩⟩
  · obtain ⟨w1, w2⟩ := h.w hr (i := 6) (by decide) (rfI (fnI (ch 0)))
    cases e0 : fnI (ch 0) with
    | none =>
      rw [e0] at hE w1 w2
      have f := w1.fail (show 0 ≤ 100 by decide)
      exact hE 0 rfl _ w2 f.2.1 f.2.2.2
    | some i =>
      have hi : i < 3 := by
        cases ex : ch 0 with
        | none => rw [ex] at e0; cases e0
        | some y =>
          rw [ex] at e0
          have e0' : (if 71 ≤ y ∧ y ≤ 73 then some (y - 71) else none) = some i := e0
          split at e0'
          · cases e0'; omega
          · cases e0'
      have q' : rfI (fnI (ch 0)) = -1 := q
      rw [e0] at q'
      have := (rfI_inj (r := some i) (fun p' h' => by cases h'; omega)).mp q'
      cases this
  · obtain ⟨w1, w2⟩ := h.w hr (i := 6) (by decide) (rfI (fnI (ch 0)))
    have c6 : cI (csi C rd 6 (rfI (fnI (ch 0)))) rd 6 = rfI (fnI (ch 0)) := cI_csi _ _ _ _
    have r1 : cR C rd 1 = some 4 := h.2.2.1
    show cM c (D + 24) eX6_peek [.ref rd] (csi C rd 6 (rfI (fnI (ch 0)))) _
    generalize csi C rd 6 (rfI (fnI (ch 0))) = C1 at w1 w2 c6 ⊢
    refine c_peek w1 hc (show 0 < 200 by decide) ⟨_, rfl, cle.refl _, ?_⟩
    rw [r1]
    cases e0 : fnI (ch 0) with
    | none => exact absurd (show rfI (fnI (ch 0)) = -1 by rw [e0]; rfl) q
    | some i =>
      rw [e0] at hE hG c6
      simp only at hE hG
      have key : ∃ y, ch 0 = some y ∧ 71 ≤ y ∧ y ≤ 73 ∧ i = y - 71 := by
        cases ex : ch 0 with
        | none => rw [ex] at e0; cases e0
        | some y =>
          rw [ex] at e0
          have e0' : (if 71 ≤ y ∧ y ≤ 73 then some (y - 71) else none) = some i := e0
          split at e0'
          case isTrue z => cases e0'; exact ⟨y, rfl, z.1, z.2, rfl⟩
          case isFalse z => cases e0'
      obtain ⟨y, y1, y2, y3, y4⟩ := key
      refine c_fnO w1.2.2.2.2.2.2.2.2.2.2.2.2.2 (hx 0) fun o ho => ⟨o, rfl, cle.refl _, fun z => ?_, fun a z => ?_⟩
      · have hfd : ¬ fd i = true := by
          intro w
          rw [z] at ho
          have ho : (none : Option Nat).isSome = fnB fd (ch 0) := ho
          rw [y1] at ho
          rw [y4] at w
          simp [fnB, y2, y3, w] at ho
        rw [if_neg hfd] at hE hG
        obtain ⟨a1, a2⟩ := w1.adv hr
        have g1 : cI (csi C1 rd 5 (cI C1 rd 5 + 1)) rd 6 = nI i := by rw [cI_csi_ne _ _ (by omega)]; exact c6
        generalize csi C1 rd 5 (cI C1 rd 5 + 1) = C2 at a1 a2 g1 ⊢
        refine c_peek a1 hc (show 1 < 200 by decide) ⟨_, rfl, cle.refl _, c_free a1 hs0 (hx 1) ⟨_, rfl, cle.refl _, fun q1 => ?_, fun q1 => ?_⟩⟩
        · cases ef : fNm sm0 (ch 1) with
          | none => exact absurd (show rfI (fNm sm0 (ch 1)) = -1 by rw [ef]; rfl) q1
          | some x =>
            obtain ⟨x8, xn⟩ := fNm_lt ef
            rw [ef] at hE hG
            simp only at hE hG
            obtain ⟨b1, b2⟩ := a1.adv hr
            have g2 : cI (csi C2 rd 5 (cI C2 rd 5 + 1)) rd 6 = nI i := by rw [cI_csi_ne _ _ (by omega)]; exact g1
            generalize csi C2 rd 5 (cI C2 rd 5 + 1) = C3 at b1 b2 g2 ⊢
            have t0 : nI (tyO (ch 2)) = 0 ↔ tyO (ch 2) = 0 := by
              refine nI_eq ?_ (by decide)
              unfold tyO
              (repeat' split) <;> omega
            refine c_peek b1 hc (show 2 < 200 by decide) ⟨_, rfl, cle.refl _, c_type (hx 2) ⟨_, rfl, cle.refl _, fun q2 => ⟨rd + 1, b1.2.2.2.1, 8, b1.2.2.2.2.1, x, am_ix_n x8 (by decide), ?_⟩, fun q2 => ?_⟩⟩
            · rw [if_neg (fun z => q2 (t0.mpr z))] at hE hG
              have hl3 : 3 ≤ len := by
                cases e2 : ch 2 with
                | none => exact absurd (t0.mpr (by rw [e2]; rfl)) q2
                | some y => have := hc.lt e2; omega
              obtain ⟨d1, d2⟩ := b1.w hr (i := 7) (by decide) (nI (tyO (ch 2)))
              have g3 : cI (csi C3 rd 7 (nI (tyO (ch 2)))) rd 6 = nI i := by rw [cI_csi_ne _ _ (by omega)]; exact g2
              have g4 : cI (csi C3 rd 7 (nI (tyO (ch 2)))) rd 7 = nI (tyO (ch 2)) := cI_csi _ _ _ _
              have c5 : cI C3 rd 5 = cI (csi C3 rd 7 (nI (tyO (ch 2)))) rd 5 := by rw [cI_csi_ne _ _ (by omega)]
              rw [c5]
              generalize csi C3 rd 7 (nI (tyO (ch 2))) = C4 at d1 d2 g3 g4 ⊢
              obtain ⟨f1, f2⟩ := d1.adv hr
              have g5 : cI (csi C4 rd 5 (cI C4 rd 5 + 1)) rd 6 = nI i := by rw [cI_csi_ne _ _ (by omega)]; exact g3
              have g6 : cI (csi C4 rd 5 (cI C4 rd 5 + 1)) rd 7 = nI (tyO (ch 2)) := by rw [cI_csi_ne _ _ (by omega)]; exact g4
              generalize csi C4 rd 5 (cI C4 rd 5 + 1) = C5 at f1 f2 g5 g6 ⊢
              have hm : RD (csi C5 (rd + 1) x 0) rd w0 ch len fd (up sm0 x (some 0)) (3, 2, 0, T0) ∧ pfr rd C5 (csi C5 (rd + 1) x 0) := by
                refine f1.mod hr rfl rfl rfl (fun _ _ => rfl) (fun _ _ => rfl) (fun a i q1 q2 => cI_csi_ne _ _ (by omega)) (fun i hi => cI_csi_ne _ _ (by omega)) ?_ ?_ ?_ rfl (fun j hj => ?_)
                · rw [cI_csi_ne _ _ (by omega)]; exact f1.2.2.2.2.2.1
                · rw [cI_csi_ne _ _ (by omega)]; exact f1.2.2.2.2.2.2.1
                · rw [cI_csi_ne _ _ (by omega)]; exact f1.2.2.2.2.2.2.2.1
                · by_cases z : j = x
                  · subst z; rw [cI_csi, up_same]; rfl
                  · rw [cI_csi_ne _ _ (by omega), up_ne _ _ z]; exact f1.2.2.2.2.2.2.2.2.2.2.1 j hj
              obtain ⟨m1, m2⟩ := hm
              have all : dfr rd C (csi C5 (rd + 1) x 0) := w2.trans (a2.d.trans (b2.d.trans (d2.trans (f2.d.trans m2.d))))
              have hs1 : smO (up sm0 x (some 0)) := by
                intro j t e
                by_cases z : j = x
                · subst z; rw [up_same] at e; cases e; decide
                · rw [up_ne _ _ z] at e; cases e
              refine c_toEnd hc hr m1 ⟨Nat.zero_le _, show (2 : Nat) ≤ 17 by decide⟩ hl3 hs1 (fun e he C6 f6 => ⟨none, rfl, f6.1.1, ?_⟩) (fun s1 he he2 C6 p6 h6 => ⟨_, rfl, p6.1, ?_⟩)
              · exact hE e (by rw [he]) C6 (all.trans f6.1.d) f6.2.1 f6.2.2.2
              · refine hG i _ x s1 (by rw [he]) he2 C6 (all.trans p6.d) ?_ ?_ h6
                · rw [p6.2.2 6 (by decide), cI_csi_ne _ _ (by omega)]; exact g5
                · rw [p6.2.2 7 (by decide), cI_csi_ne _ _ (by omega)]; exact g6
            · rw [if_pos (t0.mp q2)] at hE
              obtain ⟨d1, d2⟩ := b1.w hr (i := 7) (by decide) (nI (tyO (ch 2)))
              have f := d1.fail (show 0 ≤ 100 by decide)
              exact hE 2 rfl _ (w2.trans (a2.d.trans (b2.d.trans d2))) f.2.1 f.2.2.2
        · cases ef : fNm sm0 (ch 1) with
          | none =>
            rw [ef] at hE
            have f := a1.fail (show 0 ≤ 100 by decide)
            exact hE 1 rfl _ (w2.trans a2.d) f.2.1 f.2.2.2
          | some x =>
            obtain ⟨x8, xn⟩ := fNm_lt ef
            have q1' : rfI (fNm sm0 (ch 1)) = -1 := q1
            rw [ef] at q1'
            have := (rfI_inj (r := some x) (fun p' h' => by cases h'; omega)).mp q1'
            cases this
      · have hfd : fd i = true := by
          rw [z] at ho
          have ho : (some a).isSome = fnB fd (ch 0) := ho
          rw [y1] at ho
          rw [y4]
          have ho' : (decide (71 ≤ y ∧ y ≤ 73) && fd (y - 71)) = true := ho.symm
          rw [Bool.and_eq_true] at ho'
          exact ho'.2
        rw [if_pos hfd] at hE
        have f := w1.fail (show 0 ≤ 100 by decide)
        exact hE 0 rfl _ w2 f.2.1 f.2.2.2
end RDX
