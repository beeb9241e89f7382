/-! The class's machine: where its things stand, its small methods. -/
def MCH (C : cS) (M lim : Nat) : Prop := cT C M 4 6 ∧ cR C M 0 = some 350 ∧ cR C M 1 = some 4 ∧ cI C M 2 = nI lim ∧ cR C M 3 = some (M + 1) ∧ cT C (M + 1) 24 4 ∧ ∀ j, j < 4 → cR C (M + 1) j = some (M + 2 + j) ∧ cT C (M + 2 + j) 20 17
def FBs (C : cS) (bf : bT) (nbf : Nat → Nat) (M : Nat) : Prop := cT C 4 26 3 ∧ ∀ i, i < 3 → ∀ b, bf i = some b → ∃ fa, cR C 4 i = some fa ∧ cT C fa 3 5 ∧ cR C fa 0 = some (nbf i + b.2) ∧ ND C (nbf i) b.1 b.2 ∧ nbf i + b.2 < M
/-- an evaluation at a level changes its slots from sl on, the levels above, the cells and what it counts -/
def mfr (M lev sl sh : Nat) (C C' : cS) : Prop := C'.1 = C.1 ∧ C'.2.1 = C.2.1 ∧ C'.2.2.1 = C.2.2.1 ∧ (∀ a i, cR C' a i = cR C a i) ∧ (∀ a i, cJ C' a i = cJ C a i) ∧ ∀ a i, ¬ (350 ≤ a ∧ a ≤ 354) → ¬ (a = M ∧ (i = 4 ∨ i = 5)) → ¬ (a = M + 2 + lev ∧ sl ≤ i ∧ i < sh) → ¬ (M + 2 + lev < a ∧ a < M + 6) → cI C' a i = cI C a i
theorem mfr.refl (M lev sl sh : Nat) (C : cS) : mfr M lev sl sh C C := ⟨rfl, rfl, rfl, fun _ _ => rfl, fun _ _ => rfl, fun _ _ _ _ _ _ => rfl⟩
theorem mfr.trans {M lev sl sh : Nat} {A B C : cS} (h : mfr M lev sl sh A B) (k : mfr M lev sl sh B C) : mfr M lev sl sh A C := ⟨k.1.trans h.1, k.2.1.trans h.2.1, k.2.2.1.trans h.2.2.1, fun a i => (k.2.2.2.1 a i).trans (h.2.2.2.1 a i), fun a i => (k.2.2.2.2.1 a i).trans (h.2.2.2.2.1 a i), fun a i q1 q2 q3 q4 => (k.2.2.2.2.2 a i q1 q2 q3 q4).trans (h.2.2.2.2.2 a i q1 q2 q3 q4)⟩
theorem mfr.le {M lev sl sh : Nat} {A B : cS} (h : mfr M lev sl sh A B) : cle A B := cle_same h.1 h.2.2.1
theorem mfr.mono {M lev sl sh sl' sh' : Nat} {A B : cS} (h : mfr M lev sl sh A B) (h1 : sl' ≤ sl) (h2 : sh ≤ sh') : mfr M lev sl' sh' A B := ⟨h.1, h.2.1, h.2.2.1, h.2.2.2.1, h.2.2.2.2.1, fun a i q1 q2 q3 q4 => h.2.2.2.2.2 a i q1 q2 (by omega) q4⟩
theorem mfr.down {M lev sl sh sl' sh' : Nat} {A B : cS} (h : mfr M (lev + 1) sl sh A B) (hl : lev + 1 ≤ 3) : mfr M lev sl' sh' A B := ⟨h.1, h.2.1, h.2.2.1, h.2.2.2.1, h.2.2.2.2.1, fun a i q1 q2 q3 q4 => h.2.2.2.2.2 a i q1 q2 (by omega) (by omega)⟩
theorem lfr.m {A B : cS} (h : lfr A B) (M lev sl sh : Nat) : mfr M lev sl sh A B := ⟨h.1, h.2.1, h.2.2.1, h.2.2.2.1, h.2.2.2.2.1, fun a i q1 _ _ _ => h.2.2.2.2.2 a i q1⟩
theorem mfr_csi (M lev sl sh : Nat) (C : cS) {i : Nat} (hi : i = 4 ∨ i = 5) (v : Int32) : mfr M lev sl sh C (csi C M i v) := ⟨rfl, rfl, rfl, fun _ _ => rfl, fun _ _ => rfl, fun a j _ q2 _ _ => cI_csi_ne _ _ (by omega)⟩
theorem mfr_slot (M lev sl sh : Nat) (C : cS) {s : Nat} (h1 : sl ≤ s) (h2 : s < sh) (v : Int32) : mfr M lev sl sh C (csi C (M + 2 + lev) s v) := ⟨rfl, rfl, rfl, fun _ _ => rfl, fun _ _ => rfl, fun a j _ _ q3 _ => cI_csi_ne _ _ (by omega)⟩
theorem MCH.m {M lim lev sl sh : Nat} {A B : cS} (h : MCH A M lim) (k : mfr M lev sl sh A B) (hM : 400 ≤ M) : MCH B M lim := by
  obtain ⟨h1, h2, h3, h4, h5, h6, h7⟩ := h
  exact ⟨h1.le k.le, by rw [k.2.2.2.1]; exact h2, by rw [k.2.2.2.1]; exact h3, by rw [k.2.2.2.2.2 M 2 (by omega) (by omega) (by omega) (by omega)]; exact h4, by rw [k.2.2.2.1]; exact h5, h6.le k.le, fun j hj => ⟨by rw [k.2.2.2.1]; exact (h7 j hj).1, (h7 j hj).2.le k.le⟩⟩
theorem ND.m {M lev sl sh nb n : Nat} {T : Nat → nd} {A B : cS} (h : ND A nb T n) (k : mfr M lev sl sh A B) (hM : nb + n < M) : ND B nb T n := by
  refine ⟨h.1, fun m hm => ?_⟩
  have h0 := h.1
  obtain ⟨h1, h2, h3, h4, h5, h6⟩ := h.2 m hm
  have ki : ∀ i, cI B (nb + m) i = cI A (nb + m) i := fun i => k.2.2.2.2.2 (nb + m) i (by omega) (by omega) (by omega) (by omega)
  exact ⟨h1.le k.le, by rw [ki]; exact h2, by rw [ki]; exact h3, by rw [ki]; exact h4, by rw [ki]; exact h5, fun i hi => by rw [k.2.2.2.1]; exact h6 i hi⟩
theorem FBs.m {M lev sl sh : Nat} {bf : bT} {nbf : Nat → Nat} {A B : cS} (h : FBs A bf nbf M) (k : mfr M lev sl sh A B) : FBs B bf nbf M := by
  refine ⟨h.1.le k.le, fun i hi b hb => ?_⟩
  obtain ⟨fa, f1, f2, f3, f4, f5⟩ := h.2 i hi b hb
  exact ⟨fa, by rw [k.2.2.2.1]; exact f1, f2.le k.le, by rw [k.2.2.2.1]; exact f3, f4.m k f5, f5⟩
def EVS (C : cS) (M kept : Nat) (st : Nat × cL) : Prop := cI C M 4 = nI st.1 ∧ CLS C kept st.2
def ENM (C : cS) (M lev sl : Nat) (sc : List Nat) (ρ : Nat → Nat) : Prop := ∀ s, s ∈ sc → s < sl ∧ cI C (M + 2 + lev) s = nI (ρ s)
theorem ENM.m {M lev sl sl' sh : Nat} {sc : List Nat} {ρ : Nat → Nat} {A B : cS} (h : ENM A M lev sl sc ρ) (k : mfr M lev sl' sh A B) (hl : sl ≤ sl') (hM : 400 ≤ M) (h3 : lev ≤ 3) : ENM B M lev sl' sc ρ := fun s hs => by
  have q := (h s hs).1
  exact ⟨by omega, by rw [k.2.2.2.2.2 (M + 2 + lev) s (by omega) (by omega) (by omega) (by omega)]; exact (h s hs).2⟩
theorem CLS.c {A B : cS} {kept : Nat} {L : cL} (h : CLS A kept L) (k : cle A B) (kr : ∀ i, cR B 350 i = cR A 350 i) (ki : ∀ a i, 350 ≤ a → a ≤ 354 → cI B a i = cI A a i) : CLS B kept L := by
  obtain ⟨h1, h2, h3, h4, h5, h6, h7, h8, h9, h10, h11, h12⟩ := h
  refine ⟨h1.le k, by rw [kr]; exact h2, by rw [kr]; exact h3, by rw [kr]; exact h4, by rw [kr]; exact h5, h6.le k, h7.le k, h8.le k, h9.le k, by rw [ki 350 _ (by decide) (by decide)]; exact h10, by rw [ki 350 _ (by decide) (by decide)]; exact h11, fun i hi => ?_⟩
  rw [ki 351 _ (by decide) (by decide), ki 352 _ (by decide) (by decide), ki 353 _ (by decide) (by decide), ki 354 _ (by decide) (by decide)]
  exact h12 i hi
theorem CLS.w {A : cS} {kept : Nat} {L : cL} (h : CLS A kept L) {a i : Nat} {v : Int32} (ha : 354 < a) : CLS (csi A a i v) kept L := h.c (cle_same rfl rfl) (fun _ => rfl) (fun b j _ _ => cI_csi_ne _ _ (by omega))
section MAC
variable {c : cX} {d : Nat} {C : cS} {K : Option Value → cS → Prop} {kept M lim lev nb n : Nat} {T : Nat → nd} {ρ : Nat → Nat} {st : Nat × cL}
theorem c_fn4 {i : Nat} (hT : cT C 4 26 3) (hi : i < 3) (hK : K (some (va_rf (cR C 4 i))) C) : cM c (d + 1) eX9_functionOf [.ref 4, .int (nI (71 + i))] C K := by
  have e1 : nI (71 + i) - 71 = nI i := by
    have := pk_sub (a := 71 + i) (b := 71) (by omega)
    rw [show 71 + i - 71 = i by omega] at this
    exact this
  have a1 : ¬ (73 : Int32) < nI (71 + i) := fun h => by
    have h2 : (73 : Nat) < 71 + i := (nI_ltI (a := 73) (b := 71 + i) (by decide) (by omega)).mp h
    omega
  have a2 : ¬ nI (71 + i) < (71 : Int32) := fun h => by
    have h2 : 71 + i < (71 : Nat) := (nI_ltI (a := 71 + i) (b := 71) (by omega) (by decide)).mp h
    omega
  refine w_X9_functionOf (some 4) (nI (71 + i)) (w_X9_functionIndex (nI (71 + i)) ⟨fun h => absurd h a2, fun _ => ⟨fun h => absurd h a1, fun _ => ?_⟩⟩)
  rw [e1]
  refine ⟨nI i, rfl, cle.refl _, fun h => ?_, fun _ => ⟨4, rfl, 3, hT, fun _ => ⟨i, am_ix_n hi (by decide), hK⟩, fun h => absurd ((nI_ltI (by omega) (by decide)).mpr hi) h⟩⟩
  exact absurd h (fun h => by
    have h2 := nI_pos (n := i) (by omega)
    rw [h] at h2
    exact h2 (by decide))
theorem c_asn {s : Nat} {v : Int32} (hM : MCH C M lim) (hl : lev ≤ 3) (hs : s < 17) (hK : K (some (.int 1)) (csi C (M + 2 + lev) s v)) : cM c d eX4_assign [.ref M, .int (nI lev), .int (nI s), .int v] C K := by
  refine w_X4_assign M (nI lev) (nI s) v ⟨fun z => absurd z (nI_pos (by omega)), fun _ => ⟨fun z => absurd ((nI_leI (a := 17) (by omega) (by omega)).mp z) (by omega), fun _ => ⟨fun z => absurd z (nI_pos (by omega)), fun _ => ⟨fun _ => ⟨hM.1, M + 1, hM.2.2.2.2.1, 4, hM.2.2.2.2.2.1, lev, am_ix_n (by omega) (by decide), M + 2 + lev, (hM.2.2.2.2.2.2 lev (by omega)).1, 17, (hM.2.2.2.2.2.2 lev (by omega)).2, s, am_ix_n hs (by decide), hK⟩, fun z => absurd ((nI_leI (b := 3) (by omega) (by omega)).mpr (by omega)) z⟩⟩⟩⟩
theorem c_lfv (hM : MCH C M lim) (hN : nAt C nb T n) (hop : (T n).1 < 65536) (hl : lev ≤ 3) (hs : ∀ s, (T n).2.2.2.1 = some s → s < 17 ∧ cI C (M + 2 + lev) s = nI (ρ s)) (hk : (T n).2.2.2.1 = none → isK (T n).1) (hK : K (some (.int (nI (lfv (T n) ρ)))) C) : cM c d eX4_leafValue [.ref M, .ref (nb + n), .int (nI lev)] C K := by
  refine w_X4_leafValue M (some (nb + n)) (nI lev) ⟨nb + n, rfl, hN.1, ?_⟩
  rw [hN.2.2.2.2.1]
  unfold lfv at hK
  cases e : (T n).2.2.2.1 with
  | some s =>
    rw [e] at hK
    obtain ⟨s1, s2⟩ := hs s e
    refine ⟨fun z => absurd z (nI_pos (by omega)), fun _ => ⟨fun z => absurd ((nI_leI (a := 17) (b := s) (by omega) (by omega)).mp z) (by omega), fun _ => ⟨fun z => absurd z (nI_pos (by omega)), fun _ => ⟨fun z => absurd ((nI_ltI (a := 3) (b := lev) (by omega) (by omega)).mp z) (by omega), fun _ => ⟨hM.1, M + 1, hM.2.2.2.2.1, 4, hM.2.2.2.2.2.1, lev, am_ix_n (by omega) (by decide), M + 2 + lev, (hM.2.2.2.2.2.2 lev (by omega)).1, 17, (hM.2.2.2.2.2.2 lev (by omega)).2, s, am_ix_n s1 (by decide), ?_⟩⟩⟩⟩⟩
    rw [s2]
    exact hK
  | none =>
    rw [e] at hK
    have hk := hk e
    have hn : rfI (none : Option Nat) < 0 := by decide
    refine ⟨fun _ => ?_, fun z => absurd hn z⟩
    refine w_X4_leafValue_37 (some (nb + n)) ⟨nb + n, rfl, hN.1, ?_⟩
    rw [hN.2.1]
    have e35 : nI (T n).1 = 35 ↔ (T n).1 = 35 := nI_is (b := 35) (by omega) (by decide)
    have e46 : nI (T n).1 = 46 ↔ (T n).1 = 46 := nI_is (b := 46) (by omega) (by decide)
    have e126 : nI (T n).1 = 126 ↔ (T n).1 = 126 := nI_is (b := 126) (by omega) (by decide)
    rw [e35, e46, e126]
    simp only at hK
    refine ⟨fun z => ?_, fun z => ?_, fun z => ?_, fun z => ?_⟩
    · rw [if_pos z] at hK; exact hK
    · rw [if_neg (by omega), if_neg (by omega), if_pos z] at hK; exact hK
    · rw [if_neg (by omega), if_pos z] at hK; exact hK
    · rw [if_neg z.1, if_neg z.2.2, if_neg z.2.1] at hK
      have hr : 48 ≤ (T n).1 ∧ (T n).1 ≤ 57 := by
        unfold isK at hk
        omega
      have e1 : (3 : Int32) + nI (T n).1 = nI (3 + (T n).1) := nI_add 3 (T n).1
      have e2 : nI (3 + (T n).1) - 48 = nI (3 + (T n).1 - 48) := pk_sub (a := 3 + (T n).1) (b := 48) (by omega)
      rw [e1, e2]
      exact hK
theorem c_fail4 {v : Int32} (hM : MCH C M lim) (hK : K (some (.int (-1))) (csi C M 5 v)) : cM c d eX4_fail [.ref M, .int v] C K := w_X4_fail M v ⟨hM.1, hK⟩
theorem c_mof {v : Int32} (hM : MCH C M lim) (h1 : v = -1 → K (some (.int (-1))) (csi C M 5 3)) (h2 : ¬ v = -1 → K (some (.int v)) C) : cM c (d + 1) eX4_madeOrFailed [.ref M, .int v] C K :=
  w_X4_madeOrFailed M v ⟨h2, fun z => ⟨hM.1, c_fail4 hM ⟨_, rfl, cle_same rfl rfl, h1 z⟩⟩⟩
theorem k_16 : ∀ k, k < 32 → (k = 1 ∨ k = 2 ∨ k = 4 ∨ k = 8 ∨ k = 16) → ((k &&& 16 = 0) ↔ ¬ k = 16) ∧ ((k &&& 1 = 0) ↔ ¬ k = 1) := by decide +kernel
theorem nI_neg1 {v : Nat} (hv : v < 2 ^ 31) : ¬ nI v = -1 := fun h => by
  have h2 := nI_pos hv
  rw [h] at h2
  exact h2 (by decide)
theorem c_ap1 {op v : Nat} (hM : MCH C M lim) (hE : EVS C M kept st) (cl : clO st.2) (hv : v < st.2.1) (hop : op < 65536) (hM4 : 400 ≤ M)
    (h1 : ∀ e, ap1 op v st = (st, .inl e) → K (some (.int (-1))) (csi C M 5 (nI e)))
    (h2 : ∀ w, ap1 op v st = (st, .inr w) → K (some (.int (nI w))) C) : cM c (d + 1) eX4_applyToOne [.ref M, .int (nI op), .int (nI v)] C K := by
  have h64 := cl.2.1
  have e33 : nI op = 33 ↔ op = 33 := nI_is (b := 33) (by omega) (by decide)
  have e65 : nI op = 65 ↔ op = 65 := nI_is (b := 65) (by omega) (by decide)
  have e68 : nI op = 68 ↔ op = 68 := nI_is (b := 68) (by omega) (by decide)
  have ev1 : nI v = 1 ↔ v = 1 := nI_is (b := 1) (by omega) (by decide)
  have kk := k_16 _ (cl.k hv) (cl.2.2 v hv).1
  have half : op = 65 ∨ op = 68 → cG c eX4_applyToOne (d + 1) (cQ K) 50 [some (.ref M), some (.int (nI op)), some (.int (nI v))] [] C := by
    intro ho
    have hp : ap1 op v st = if (st.2.2 v).1 = 16 then (st, .inr ((if op = 65 then (st.2.2 v).2.2.1 else (st.2.2 v).2.2.2).getD 0)) else (st, .inl 2) := by
      unfold ap1
      rw [if_neg (by omega), if_pos ho]
    refine w_X4_applyToOne_50 M (nI op) (nI v) ⟨hM.1, 350, hM.2.1, hE.2.1, c_isOf (q := 16) hE.2 cl hv (by decide) ⟨_, rfl, cle.refl _, fun z => ?_, fun z => ?_⟩⟩
    · have hk : (st.2.2 v).1 = 16 := by
        by_cases w : (st.2.2 v).1 = 16
        · exact w
        · rw [if_pos (kk.1.mpr w)] at z; exact absurd rfl z
      rw [if_pos hk] at hp
      obtain ⟨c1, c2, c3, c4, c5⟩ := cl.2.2 v hv
      obtain ⟨d1, d2⟩ := c5 hk
      obtain ⟨a, ha⟩ := Option.isSome_iff_exists.mp d1
      obtain ⟨b, hb⟩ := Option.isSome_iff_exists.mp d2
      refine ⟨fun z65 => ⟨350, hM.2.1, hE.2.1, c_part3 hE.2 cl hv ⟨_, rfl, cle.refl _, ?_⟩⟩, fun z65 => ⟨350, hM.2.1, hE.2.1, c_part2 hE.2 cl hv ⟨_, rfl, cle.refl _, ?_⟩⟩⟩
      · have := h2 _ hp
        rw [if_neg (fun w => z65 (e65.mpr w)), hb] at this
        rw [hb]
        exact this
      · have := h2 _ hp
        rw [if_pos (e65.mp z65), ha] at this
        rw [ha]
        exact this
    · have hk : ¬ (st.2.2 v).1 = 16 := by
        intro w
        rw [if_neg (fun q => kk.1.mp q w)] at z
        exact absurd z (by decide)
      rw [if_neg hk] at hp
      exact c_fail4 hM ⟨_, rfl, cle_same rfl rfl, h1 2 hp⟩
  refine w_X4_applyToOne M (nI op) (nI v) ⟨fun n33 => ⟨fun z => half (Or.inl (e65.mp z)), fun n65 => ⟨fun z => half (Or.inr (e68.mp z)), fun n68 => ⟨hM.1, ?_⟩⟩⟩, fun z33 => ?_⟩
  · have hp : ap1 op v st = (st, .inr (if (st.2.2 v).1 &&& tkd op = 0 then 1 else 0)) := by
      unfold ap1
      rw [if_neg (fun w => n33 (e33.mpr w)), if_neg (fun w => by rcases w with w | w; exact n65 (e65.mpr w); exact n68 (e68.mpr w))]
    refine c_tested hop ⟨_, rfl, cle.refl _, 350, hM.2.1, hE.2.1, c_isOf hE.2 cl hv (tkd_lt op) ⟨_, rfl, cle.refl _, fun z => ?_, fun z => ?_⟩⟩
    · have hk : (st.2.2 v).1 &&& tkd op = 0 := by
        by_cases w : (st.2.2 v).1 &&& tkd op = 0
        · exact w
        · rw [if_neg w] at z; exact absurd z (by decide)
      rw [if_pos hk] at hp
      exact h2 1 hp
    · have hk : ¬ (st.2.2 v).1 &&& tkd op = 0 := by
        intro w
        rw [if_pos w] at z
        exact absurd rfl z
      rw [if_neg hk] at hp
      exact h2 0 hp
  · have hp : ap1 op v st = (st, .inr (if v = 1 then 0 else 1)) := by
      unfold ap1
      rw [if_pos (e33.mp z33)]
    rw [ev1]
    refine ⟨fun z => ?_, fun z => ?_⟩
    · rw [if_neg z] at hp; exact h2 1 hp
    · rw [if_pos z] at hp; exact h2 0 hp
theorem c_ap2 {op v w : Nat} (hM : MCH C M lim) (hE : EVS C M kept st) (cl : clO st.2) (hv : v < st.2.1) (hw : w < st.2.1) (hop : op < 65536) (hM4 : 400 ≤ M)
    (h1 : ∀ e, ap2 op v w st = (st, .inl e) → K (some (.int (-1))) (csi C M 5 (nI e)))
    (h2 : ∀ st' x, ap2 op v w st = (st', .inr x) → ∀ C', lfr C C' → st'.1 = st.1 → CLS C' kept st'.2 → K (some (.int (nI x))) C') : cM c (d + 2) eX4_applyToTwo [.ref M, .int (nI op), .int (nI v), .int (nI w)] C K := by
  have h64 := cl.2.1
  have e67 : nI op = 67 ↔ op = 67 := nI_is (b := 67) (by omega) (by decide)
  have e60 : nI op = 60 ↔ op = 60 := nI_is (b := 60) (by omega) (by decide)
  have e43 : nI op = 43 ↔ op = 43 := nI_is (b := 43) (by omega) (by decide)
  have kv := (k_16 _ (cl.k hv) (cl.2.2 v hv).1).2
  have kw := (k_16 _ (cl.k hw) (cl.2.2 w hw).1).2
  refine w_X4_applyToTwo M (nI op) (nI v) (nI w) ⟨fun _ => ⟨fun n67 => ⟨hM.1, 350, hM.2.1, hE.2.1, ?_⟩, fun z67 => ⟨hM.1, 350, hM.2.1, hE.2.1, ?_⟩⟩, fun z => absurd z (nI_neg1 (by omega))⟩
  · have n67' : ¬ op = 67 := fun q => n67 (e67.mpr q)
    refine c_isOf (q := 1) hE.2 cl hv (by decide) ⟨_, rfl, cle.refl _, fun z => ?_, fun z => ⟨350, hM.2.1, hE.2.1, ?_⟩⟩
    · have hk : ¬ (st.2.2 v).1 = 1 := by
        intro q
        rw [if_neg (fun r => kv.mp r q)] at z
        exact absurd z (by decide)
      have hp : ap2 op v w st = (st, .inl 2) := by
        unfold ap2
        rw [if_neg n67', if_neg (fun q => hk q.1)]
      exact c_fail4 hM ⟨_, rfl, cle_same rfl rfl, h1 2 hp⟩
    · have hkv : (st.2.2 v).1 = 1 := by
        by_cases q : (st.2.2 v).1 = 1
        · exact q
        · rw [if_pos (kv.mpr q)] at z; exact absurd rfl z
      refine c_isOf (q := 1) hE.2 cl hw (by decide) ⟨_, rfl, cle.refl _, fun z => ⟨350, hM.2.1, hE.2.1, ?_⟩, fun z => ?_⟩
      · have hkw : (st.2.2 w).1 = 1 := by
          by_cases q : (st.2.2 w).1 = 1
          · exact q
          · rw [if_pos (kw.mpr q)] at z; exact absurd rfl z
        refine c_part1 hE.2 cl hv ⟨_, rfl, cle.refl _, 350, hM.2.1, hE.2.1, c_part1 hE.2 cl hw ⟨_, rfl, cle.refl _, fun n60 => ?_, fun z60 => ?_⟩⟩
        · have n60' : ¬ op = 60 := fun q => n60 (e60.mpr q)
          have hp : ap2 op v w st = if st.2.1 = 64 then (st, .inl 3) else ((st.1, cAdd st.2 (1, if op = 43 then (st.2.2 v).2.1 + (st.2.2 w).2.1 else (st.2.2 v).2.1 - (st.2.2 w).2.1, none, none)), .inr st.2.1) := by
            unfold ap2
            rw [if_neg n67', if_pos ⟨hkv, hkw⟩, if_neg n60']
          refine ⟨fun n43 => ⟨350, hM.2.1, hE.2.1, ?_⟩, fun z43 => ⟨350, hM.2.1, hE.2.1, ?_⟩⟩
          · rw [if_neg (fun q => n43 (e43.mpr q))] at hp
            refine c_addN hE.2 (by omega) (fun q => ⟨_, rfl, cle.refl _, ?_⟩) (fun q C' l' s' => ⟨_, rfl, l'.le, ?_⟩)
            · rw [if_pos q] at hp
              exact c_mof hM (fun _ => ⟨_, rfl, cle_same rfl rfl, h1 3 hp⟩) (fun r => absurd rfl r)
            · rw [if_neg (by omega)] at hp
              exact c_mof (hM.m (l'.m M 0 0 0) hM4) (fun r => absurd r (nI_neg1 (by omega))) (fun _ => ⟨_, rfl, cle.refl _, h2 _ _ hp C' l' rfl s'⟩)
          · rw [if_pos (e43.mp z43)] at hp
            refine c_addN hE.2 (by omega) (fun q => ⟨_, rfl, cle.refl _, ?_⟩) (fun q C' l' s' => ⟨_, rfl, l'.le, ?_⟩)
            · rw [if_pos q] at hp
              exact c_mof hM (fun _ => ⟨_, rfl, cle_same rfl rfl, h1 3 hp⟩) (fun r => absurd rfl r)
            · rw [if_neg (by omega)] at hp
              exact c_mof (hM.m (l'.m M 0 0 0) hM4) (fun r => absurd r (nI_neg1 (by omega))) (fun _ => ⟨_, rfl, cle.refl _, h2 _ _ hp C' l' rfl s'⟩)
        · have hp : ap2 op v w st = (st, .inr (if (st.2.2 w).2.1 ≤ (st.2.2 v).2.1 then 1 else 0)) := by
            unfold ap2
            rw [if_neg n67', if_pos ⟨hkv, hkw⟩, if_pos (e60.mp z60)]
          refine ⟨fun q => ?_, fun q => ?_⟩
          · rw [if_pos q] at hp; exact h2 st 1 hp C (lfr.refl _) rfl hE.2
          · rw [if_neg q] at hp; exact h2 st 0 hp C (lfr.refl _) rfl hE.2
      · have hk : ¬ (st.2.2 w).1 = 1 := by
          intro q
          rw [if_neg (fun r => kw.mp r q)] at z
          exact absurd z (by decide)
        have hp : ap2 op v w st = (st, .inl 2) := by
          unfold ap2
          rw [if_neg n67', if_neg (fun q => hk q.2)]
        exact c_fail4 hM ⟨_, rfl, cle_same rfl rfl, h1 2 hp⟩
  · have hp : ap2 op v w st = if st.2.1 = 64 then (st, .inl 3) else ((st.1, cAdd st.2 (16, 0, some v, some w)), .inr st.2.1) := by
      unfold ap2
      rw [if_pos (e67.mp z67)]
    refine c_addP hE.2 (by omega) (fun q => ⟨_, rfl, cle.refl _, ?_⟩) (fun q C' l' s' => ⟨_, rfl, l'.le, ?_⟩)
    · rw [if_pos q] at hp
      exact c_mof hM (fun _ => ⟨_, rfl, cle_same rfl rfl, h1 3 hp⟩) (fun r => absurd rfl r)
    · rw [if_neg (by omega)] at hp
      exact c_mof (hM.m (l'.m M 0 0 0) hM4) (fun r => absurd r (nI_neg1 (by omega))) (fun _ => ⟨_, rfl, cle.refl _, h2 _ _ hp C' l' rfl s'⟩)
end MAC
