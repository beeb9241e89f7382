/-! The object between two calls; run. -/
/-- what stands behind the object, its latest calls aside -/
def OBJ (C : cS) (ch : Nat → Option Nat) (len : Nat) (fx : fnT) (bf : bT) (nbf : Nat → Nat) (hand : Option ((Nat → nd) × Nat)) (nbh kept : Nat) (L : cL) (ia ib : Nat) : Prop :=
  TOP C ch len ∧ FXs C fx ∧ FBs C bf nbf C.1 ∧ cR C 1 5 = some 350 ∧ cR C 1 6 = some 355 ∧ CLS C kept L ∧ cT C 355 20 2 ∧ (cI C 355 0 = nI ia ∧ cI C 355 1 = nI ib) ∧ cR C 1 7 = hand.map (fun b => nbh + b.2) ∧ ∀ b, hand = some b → ND C nbh b.1 b.2 ∧ nbh + b.2 < C.1
theorem FBs.M {C : cS} {bf : bT} {nbf : Nat → Nat} {M M' : Nat} (h : FBs C bf nbf M) (hm : M ≤ M') : FBs C bf nbf M' := by
  refine ⟨h.1, fun i hi b hb => ?_⟩
  obtain ⟨fa, f1, f2, f3, f4, f5⟩ := h.2 i hi b hb
  exact ⟨fa, f1, f2, f3, f4, by omega⟩
theorem FBs.t {A B : cS} {bf : bT} {nbf : Nat → Nat} {l : Nat} (h : FBs A bf nbf A.1) {u : Nat} (k : ufr u l A B) (hl : A.1 ≤ l) (h4 : 400 ≤ l) (hf : ∀ i fa, i < 3 → cR A 4 i = some fa → 400 ≤ fa) (hu : u ≤ 356 := by decide) : FBs B bf nbf B.1 := by
  have hle := k.1.1
  refine ⟨h.1.le k.1, fun i hi b hb => ?_⟩
  obtain ⟨fa, f1, f2, f3, f4, f5⟩ := h.2 i hi b hb
  have q := hf i fa hi f1
  have q2 := f2.2.1
  exact ⟨fa, by rw [k.2.1 4 i (by omega) (by omega) (by omega) (by omega)]; exact f1, f2.le k.1, by rw [k.2.1 fa 0 (by omega) (by omega) (by omega) (by omega)]; exact f3, f4.t k hl hu, by omega⟩
theorem FXs.ge {C : cS} {fx : fnT} (h : FXs C fx) : ∀ i fa, i < 3 → cR C 4 i = some fa → 400 ≤ fa := by
  intro i fa hi e
  have h3 := h.2 i hi
  cases ex : fx i with
  | none =>
    rw [ex] at h3
    rw [show cR C 4 i = none from h3] at e
    cases e
  | some z =>
    obtain ⟨pt, kk, y, n⟩ := z
    rw [ex] at h3
    obtain ⟨p1, p2, fa', p3, p4, p5⟩ := h3
    rw [p4] at e
    injection e with e
    omega
theorem CLS.t {A B : cS} {l kept : Nat} {L : cL} (h : CLS A kept L) (k : tfr l A B) (hl : 400 ≤ l) : CLS B kept L := h.c k.1 (fun i => k.2.1 350 i (by omega) (by omega) (by omega) (by omega)) (fun a i q1 q2 => k.2.2.1 a i (by omega) (by omega) (by omega) (by omega) (by omega))
/-- a call that only reads and examines -/
theorem OBJ.t {A B : cS} {ch : Nat → Option Nat} {len : Nat} {fx : fnT} {bf : bT} {nbf : Nat → Nat} {hand : Option ((Nat → nd) × Nat)} {nbh kept : Nat} {L : cL} {ia ib : Nat} (h : OBJ A ch len fx bf nbf hand nbh kept L ia ib) (k : tfr A.1 A B) {hand' : Option ((Nat → nd) × Nat)} {nbh' : Nat} (h7 : cR B 1 7 = hand'.map (fun b => nbh' + b.2)) (h8 : ∀ b, hand' = some b → ND B nbh' b.1 b.2 ∧ nbh' + b.2 < B.1) : OBJ B ch len fx bf nbf hand' nbh' kept L ia ib := by
  obtain ⟨a1, a2, a3, a4, a5, a6, a7, a8, a9, a10⟩ := h
  have h4 : 400 ≤ A.1 := a1.2.2.2.2.2.2.2.2.2.2
  refine ⟨a1.t k h4, a2.t k (Nat.le_refl _) h4, a3.t k (Nat.le_refl _) h4 a2.ge, ?_, ?_, a6.t k h4, a7.le k.1, ⟨?_, ?_⟩, h7, h8⟩
  · rw [k.2.1 1 5 (by omega) (by omega) (by omega) (by omega)]; exact a4
  · rw [k.2.1 1 6 (by omega) (by omega) (by omega) (by omega)]; exact a5
  · rw [k.2.2.1 355 0 (by omega) (by omega) (by omega) (by omega) (by omega)]; exact a8.1
  · rw [k.2.2.1 355 1 (by omega) (by omega) (by omega) (by omega) (by omega)]; exact a8.2
/-- a new machine -/
theorem minit_spec (C : cS) (lim : Int32) (hC : 0 < C.1) : ∃ G, G = csi (csi (csr (cmna (csi (csr (csr (cnw C 4 6) C.1 0 (some 350)) C.1 1 (some 4)) C.1 2 lim)) C.1 3 (some ((csi (csr (csr (cnw C 4 6) C.1 0 (some 350)) C.1 1 (some 4)) C.1 2 lim).1))) C.1 4 0) C.1 5 0 ∧ ofr C G ∧ G.1 = C.1 + 6 ∧ G.2.1 = C.2.1 + 78 ∧ cT G C.1 4 6 ∧ cR G C.1 0 = some 350 ∧ cR G C.1 1 = some 4 ∧ cI G C.1 2 = lim ∧ cR G C.1 3 = some (C.1 + 1) ∧ cT G (C.1 + 1) 24 4 ∧ (∀ j, j < 4 → cR G (C.1 + 1) j = some (C.1 + 2 + j) ∧ cT G (C.1 + 2 + j) 20 17) ∧ cI G C.1 4 = 0 ∧ cI G C.1 5 = 0 := by
  obtain ⟨C1, e1, b1, b2, b3, b4, b5, b6, b7⟩ := cnw_spec C 4 6
  rw [← e1]
  have w0 : (csi (csr (csr C1 C.1 0 (some 350)) C.1 1 (some 4)) C.1 2 lim).1 = C.1 + 1 := b1
  have w1 : (csi (csr (csr C1 C.1 0 (some 350)) C.1 1 (some 4)) C.1 2 lim).2.1 = C.2.1 + 6 := b2
  have w2 : (csi (csr (csr C1 C.1 0 (some 350)) C.1 1 (some 4)) C.1 2 lim).2.2.1 = C1.2.2.1 := rfl
  have w3 : ∀ a i, a < C.1 → cI (csi (csr (csr C1 C.1 0 (some 350)) C.1 1 (some 4)) C.1 2 lim) a i = cI C a i := fun a i ha => by rw [cI_csi_ne _ _ (by omega), cI_csr, cI_csr, b5 a i (by omega)]
  have w4 : ∀ a i, a < C.1 → cJ (csi (csr (csr C1 C.1 0 (some 350)) C.1 1 (some 4)) C.1 2 lim) a i = cJ C a i := fun a i ha => b6 a i (by omega)
  have w5 : ∀ a i, a < C.1 → cR (csi (csr (csr C1 C.1 0 (some 350)) C.1 1 (some 4)) C.1 2 lim) a i = cR C a i := fun a i ha => by rw [cR_csi, cR_csr_ne _ _ (by omega), cR_csr_ne _ _ (by omega), b7 a i (by omega)]
  have w6 : cR (csi (csr (csr C1 C.1 0 (some 350)) C.1 1 (some 4)) C.1 2 lim) C.1 0 = some 350 := by rw [cR_csi, cR_csr_ne _ _ (by omega), cR_csr]
  have w7 : cR (csi (csr (csr C1 C.1 0 (some 350)) C.1 1 (some 4)) C.1 2 lim) C.1 1 = some 4 := by rw [cR_csi, cR_csr]
  have w8 : cI (csi (csr (csr C1 C.1 0 (some 350)) C.1 1 (some 4)) C.1 2 lim) C.1 2 = lim := cI_csi _ _ _ _
  generalize csi (csr (csr C1 C.1 0 (some 350)) C.1 1 (some 4)) C.1 2 lim = B at w0 w1 w2 w3 w4 w5 w6 w7 w8 ⊢
  have m1 : (cmna B).1 = C.1 + 6 := by show B.1 + 5 = _; rw [w0]
  have m2 : (cmna B).2.1 = C.2.1 + 78 := by show B.2.1 + 72 = _; rw [w1]
  have m3 : ∀ a, a < C.1 + 1 → (cmna B).2.2.1 a = C1.2.2.1 a := fun a ha => by show (if a < B.1 then B.2.2.1 a else _) = _; rw [if_pos (by omega), w2]
  have m4 : (cmna B).2.2.1 (C.1 + 1) = (24, 4) := by show (if C.1 + 1 < B.1 then _ else if C.1 + 1 = B.1 then _ else _) = _; rw [if_neg (by omega), if_pos (by omega)]
  have m5 : ∀ j, (cmna B).2.2.1 (C.1 + 2 + j) = (20, 17) := fun j => by show (if C.1 + 2 + j < B.1 then _ else if C.1 + 2 + j = B.1 then _ else _) = _; rw [if_neg (by omega), if_neg (by omega)]
  have m6 : ∀ a i, a < C.1 + 1 → cI (cmna B) a i = cI B a i := fun a i ha => by show (if a < B.1 then _ else _) = _; rw [if_pos (by omega)]
  have m7 : ∀ a i, a < C.1 + 1 → cJ (cmna B) a i = cJ B a i := fun a i ha => by show (if a < B.1 then _ else _) = _; rw [if_pos (by omega)]
  have m8 : ∀ a i, a < C.1 + 1 → cR (cmna B) a i = cR B a i := fun a i ha => by show (if a < B.1 then _ else _) = _; rw [if_pos (by omega)]
  have m9 : ∀ i, cR (cmna B) (C.1 + 1) i = some (C.1 + 2 + i) := fun i => by show (if C.1 + 1 < B.1 then _ else if C.1 + 1 = B.1 then some (B.1 + 1 + i) else _) = _; rw [if_neg (by omega), if_pos (by omega), w0]
  rw [w0]
  generalize cmna B = E at m1 m2 m3 m4 m5 m6 m7 m8 m9 ⊢
  have x1 : (csi (csi (csr E C.1 3 (some (C.1 + 1))) C.1 4 0) C.1 5 0).1 = C.1 + 6 := m1
  refine ⟨_, rfl, ⟨⟨by rw [x1]; omega, fun a ha => ?_⟩, fun a ha => ⟨fun i => ?_, fun i => ?_, fun i => ?_⟩⟩, x1, m2, ⟨by omega, by rw [x1]; omega, ?_⟩, ?_, ?_, ?_, ?_, ⟨by omega, by rw [x1]; omega, m4⟩, fun j hj => ⟨?_, ⟨by omega, by rw [x1]; omega, m5 j⟩⟩, ?_, cI_csi _ _ _ _⟩
  · show E.2.2.1 a = _
    rw [m3 a (by omega)]
    exact b3.2 a ha
  · rw [cI_csi_ne _ _ (by omega), cI_csi_ne _ _ (by omega), cI_csr, m6 a i (by omega), w3 a i ha]
  · show cJ E a i = _
    rw [m7 a i (by omega), w4 a i ha]
  · rw [cR_csi, cR_csi, cR_csr_ne _ _ (by omega), m8 a i (by omega), w5 a i ha]
  · show E.2.2.1 C.1 = _
    rw [m3 C.1 (by omega)]
    exact b4
  · rw [cR_csi, cR_csi, cR_csr_ne _ _ (by omega), m8 _ _ (by omega)]; exact w6
  · rw [cR_csi, cR_csi, cR_csr_ne _ _ (by omega), m8 _ _ (by omega)]; exact w7
  · rw [cI_csi_ne _ _ (by omega), cI_csi_ne _ _ (by omega), cI_csr, m6 _ _ (by omega)]; exact w8
  · rw [cR_csi, cR_csi, cR_csr]
  · rw [cR_csi, cR_csi, cR_csr_ne _ _ (by omega), m9]
  · rw [cI_csi_ne _ _ (by omega), cI_csi]
def evA (bf : bT) (lim : Nat) (b : (Nat → nd) × Nat) (ia ib : Nat) (L : cL) : eR := ev bf lim 28 b.1 b.2 (fun s => if s = 0 then ia else ib) (0, L)
section RUN
variable {c : cX} {D : Nat} {C : cS} {K : Option Value → cS → Prop} {X : String → cS → Prop} {kept M lim nb ia ib sh : Nat} {bf : bT} {nbf rk : Nat → Nat} {L : cL} {b : (Nat → nd) × Nat}
theorem c_evA (bO : bfO bf rk) (hlim : lim ≤ 1000) (hM4 : 400 ≤ M) (hw : wt b.1 7 b.2 0 2 sh [0, 1]) (tx : txO bf rk 3 b.1 b.2) (cl : clO L) (hia : ia < L.1) (hib : ib < L.1) (hM : MCH C M lim) (hF : FBs C bf nbf M) (hN : ND C nb b.1 b.2) (hnM : nb + b.2 < M) (h4 : cI C M 4 = 0) (h5 : cI C M 5 = 0) (hS : CLS C kept L)
    (h1 : ∀ st e, evA bf lim b ia ib L = (st, .inl e) → ∀ C', mfr M 0 0 17 C C' → EVS C' M kept st → cI C' M 5 = nI e → K (some (.int (-1))) C')
    (h2 : ∀ st v, evA bf lim b ia ib L = (st, .inr v) → ∀ C', mfr M 0 0 17 C C' → EVS C' M kept st → cI C' M 5 = 1 → K (some (.int (nI v))) C') :
    cM c (D + 60) eX4_evaluateAll [.ref M, .ref (nb + b.2), .int (nI ia), .int (nI ib)] C K := by
  have wl := wt_lt hw
  have j0 := hM.2.2.2.2.2.2 0 (by decide)
  refine w_X4_evaluateAll M (some (nb + b.2)) (nI ia) (nI ib) ⟨hM.1, M + 1, hM.2.2.2.2.1, 4, hM.2.2.2.2.2.1, 0, am_ix_n (j := 0) (by decide) (by decide), M + 2, j0.1, 17, j0.2, 0, am_ix_n (j := 0) (by decide) (by decide), 0, am_ix_n (j := 0) (by decide) (by decide), M + 2, j0.1, 17, j0.2, 1, am_ix_n (j := 1) (by decide) (by decide), ?_⟩
  have f1 : mfr M 0 0 17 C (csi (csi C (M + 2) 0 (nI ia)) (M + 2) 1 (nI ib)) := (mfr_slot M 0 0 17 C (s := 0) (by decide) (by decide) _).trans (mfr_slot M 0 0 17 _ (s := 1) (by decide) (by decide) _)
  have i0 : cI (csi (csi C (M + 2) 0 (nI ia)) (M + 2) 1 (nI ib)) (M + 2) 0 = nI ia := by rw [cI_csi_ne _ _ (by omega), cI_csi]
  have i1 : cI (csi (csi C (M + 2) 0 (nI ia)) (M + 2) 1 (nI ib)) (M + 2) 1 = nI ib := cI_csi _ _ _ _
  have i2 : EVS (csi (csi C (M + 2) 0 (nI ia)) (M + 2) 1 (nI ib)) M kept (0, L) := ⟨by rw [cI_csi_ne _ _ (by omega), cI_csi_ne _ _ (by omega)]; exact h4, (hS.w (by omega)).w (by omega)⟩
  have i3 : cI (csi (csi C (M + 2) 0 (nI ia)) (M + 2) 1 (nI ib)) M 5 = 0 := by rw [cI_csi_ne _ _ (by omega), cI_csi_ne _ _ (by omega)]; exact h5
  generalize csi (csi C (M + 2) 0 (nI ia)) (M + 2) 1 (nI ib) = C1 at f1 i0 i1 i2 i3 ⊢
  have hE : ENM C1 M 0 2 [0, 1] (fun s => if s = 0 then ia else ib) := fun s hs => by
    have : s = 0 ∨ s = 1 := by simpa using hs
    rcases this with z | z
    · subst z; exact ⟨by decide, i0⟩
    · subst z; exact ⟨by decide, i1⟩
  have hρ : ∀ s, s ∈ [0, 1] → (fun s => if s = 0 then ia else ib) s < L.1 := fun s _ => by
    show (if s = 0 then ia else ib) < L.1
    split
    · exact hia
    · exact hib
  refine ev_all (c := c) (nbf := nbf) (kept := kept) bO hlim hM4 28 D C1 _ b.1 nb 7 b.2 0 2 sh 0 0 3 [0, 1] (fun s => if s = 0 then ia else ib) (0, L) hw tx (by decide) (by decide) (by decide) cl hρ (hM.m f1 hM4) (hF.m f1) (hN.m f1 hnM) hnM hE i2 i3 (Nat.zero_le _) (fun st e g C' f s5 s6 => ⟨_, rfl, f.le, fun _ => ?_, fun z => absurd rfl z⟩) (fun st v g C' f s5 s6 => ⟨_, rfl, f.le, fun z => ?_, fun _ => ?_⟩)
  · exact h1 st e g C' (f1.trans (f.mono (by decide) (by omega))) s5 s6
  · have P := ev_ok (lim := lim) bO 28 b.1 7 b.2 0 2 sh [0, 1] (fun s => if s = 0 then ia else ib) (0, L) 3 hw tx (by decide) cl hρ
    rw [g] at P
    have hv : v < st.2.1 := P.2.2.2.2.2.2 v rfl
    have h64 : st.2.1 ≤ 64 := P.1.2.1
    exact absurd z (nI_neg1 (by omega))
  · exact h2 st v g _ ((f1.trans (f.mono (by decide) (by omega))).trans (mfr_csi M 0 0 17 C' (Or.inr rfl) _)) ⟨by rw [cI_csi_ne _ _ (by omega)]; exact s5.1, s5.2.w (by omega)⟩ (cI_csi _ _ _ _)
end RUN
