/-! The reference's machine: its state, its small methods. -/
def RCL (S : rS) (L : cL) : Prop := S.1 40 0 = nI L.1 ∧ ∀ i, i < L.1 → S.1 41 i = nI (L.2 i).1 ∧ S.1 42 i = (L.2 i).2.1 ∧ S.1 43 i = rfI (L.2 i).2.2.1 ∧ S.1 44 i = rfI (L.2 i).2.2.2
/-- an evaluation at height h and level l changes -/
def evq (h l : Nat) (sm : Nat → Option Nat) (S S' : rS) : Prop := S'.2 = S.2 ∧ ∀ f i, ¬ (40 ≤ f ∧ f ≤ 44) → f ≠ 46 → ¬ (48 ≤ f ∧ f ≤ 50) → ¬ (51 ≤ f ∧ f ≤ 54 ∧ h ≤ i + 1) → ¬ (f = 55 ∧ (8 * (l + 1) ≤ i ∨ (8 * l ≤ i ∧ (sm (i - 8 * l)).isSome = false))) → S'.1 f i = S.1 f i
theorem evq.refl (h l : Nat) (sm : Nat → Option Nat) (S : rS) : evq h l sm S S := ⟨rfl, fun _ _ _ _ _ _ _ => rfl⟩
theorem evq.trans {h l : Nat} {sm : Nat → Option Nat} {A B C : rS} (a : evq h l sm A B) (b : evq h l sm B C) : evq h l sm A C := ⟨b.1.trans a.1, fun f i q1 q2 q3 q4 q5 => (b.2 f i q1 q2 q3 q4 q5).trans (a.2 f i q1 q2 q3 q4 q5)⟩
theorem evq.kid {h l : Nat} {sm sm' : Nat → Option Nat} {A B : rS} (a : evq (h + 1) l sm' A B) (hs : ∀ x, (sm x).isSome = true → (sm' x).isSome = true) : evq h l sm A B := ⟨a.1, fun f i q1 q2 q3 q4 q5 => a.2 f i q1 q2 q3 (by omega) (fun z => q5 ⟨z.1, by
  rcases z.2 with z | z
  · exact Or.inl z
  · refine Or.inr ⟨z.1, ?_⟩
    cases e : (sm (i - 8 * l)).isSome with
    | false => rfl
    | true => rw [hs _ e] at z; exact absurd z.2 (by decide)⟩)⟩
theorem evq.call {h l : Nat} {sm sm' : Nat → Option Nat} {A B : rS} (a : evq (h + 1) (l + 1) sm' A B) : evq h l sm A B := ⟨a.1, fun f i q1 q2 q3 q4 q5 => a.2 f i q1 q2 q3 (by omega) (fun z => q5 ⟨z.1, by
  rcases z.2 with z | z
  · exact Or.inl (by omega)
  · exact Or.inl (by omega)⟩)⟩
/-- what the machine writes at its own height -/
theorem evq_w {h l : Nat} {sm : Nat → Option Nat} (S : rS) {f i : Nat} (v : Int32) (hf : (40 ≤ f ∧ f ≤ 44) ∨ f = 46 ∨ (48 ≤ f ∧ f ≤ 50) ∨ (51 ≤ f ∧ f ≤ 54 ∧ h ≤ i + 1)) : evq h l sm S (rsi S f i v) := ⟨rfl, fun f' i' q1 q2 q3 q4 _ => rsi_ne _ _ (by omega)⟩
/-- the names in scope have their cells -/
def REV (S : rS) (l : Nat) (sm : Nat → Option Nat) (ρ : Nat → Nat) : Prop := ∀ x s, sm x = some s → x < 8 ∧ (x < 2 → S.1 45 x = nI (ρ s)) ∧ (2 ≤ x → S.1 55 (8 * l + x) = nI (ρ s))
theorem REV.q {h l : Nat} {sm : Nat → Option Nat} {ρ : Nat → Nat} {A B : rS} (k : REV A l sm ρ) (a : evq h l sm A B) : REV B l sm ρ := by
  intro x s e
  obtain ⟨k1, k2, k3⟩ := k x s e
  refine ⟨k1, fun q => by rw [a.2 45 x (by omega) (by omega) (by omega) (by omega) (by omega)]; exact k2 q, fun q => ?_⟩
  rw [a.2 55 _ (by omega) (by omega) (by omega) (by omega) (fun z => by
    rcases z.2 with z | z
    · omega
    · rw [show 8 * l + x - 8 * l = x by omega, e] at z; cases z.2)]
  exact k3 q
theorem rTr_e {h l k r hi m : Nat} {sm : Nat → Option Nat} {T : Nat → nd} {A B : rS} (t : rTr A T k r hi m) (a : evq h l sm A B) : rTr B T k r hi m := rTr_cong t fun f i q1 q2 _ _ => a.2 f i (by omega) (by omega) (by omega) (by omega) (by omega)
/-- the bodies of the functions -/
def RBD (S : rS) (bf : bT) (prm : Nat → Nat) : Prop := ∀ i, i < 3 → ∀ b, bf i = some b → (∃ hi, hi ≤ 64 * i + 64 ∧ rTr S b.1 7 (64 * i) hi b.2) ∧ S.1 10 i = nI (64 * i) ∧ S.1 13 i = nI (prm i) ∧ 2 ≤ prm i ∧ prm i < 8 ∧ wn b.1 7 b.2 (up sm0 (prm i) (some 0)) ∧ ∀ m, m ≤ b.2 → ((b.1 m).2.2.2.2 = [] → ∀ t, (b.1 m).2.2.2.1 = some t → 97 ≤ (b.1 m).1 ∧ (b.1 m).1 < 105) ∧ ((b.1 m).1 = 58 → 2 ≤ (b.1 m).2.2.1 ∧ (b.1 m).2.2.1 < 8)
theorem RBD.q {h l : Nat} {sm : Nat → Option Nat} {bf : bT} {prm : Nat → Nat} {A B : rS} (k : RBD A bf prm) (a : evq h l sm A B) : RBD B bf prm := by
  intro i hi b e
  obtain ⟨⟨z, z1, z2⟩, k2, k3, k4⟩ := k i hi b e
  exact ⟨⟨z, z1, rTr_e z2 a⟩, by rw [a.2 10 i (by omega) (by omega) (by omega) (by omega) (by omega)]; exact k2, by rw [a.2 13 i (by omega) (by omega) (by omega) (by omega) (by omega)]; exact k3, k4⟩
theorem RCL.q {A B : rS} {L : cL} (k : RCL A L) (e : ∀ f i, 40 ≤ f → f ≤ 44 → B.1 f i = A.1 f i) : RCL B L := ⟨by rw [e 40 0 (by omega) (by omega)]; exact k.1, fun i hi => by rw [e 41 i (by omega) (by omega), e 42 i (by omega) (by omega), e 43 i (by omega) (by omega), e 44 i (by omega) (by omega)]; exact k.2 i hi⟩
section REA
variable {c : rX} {d : Nat} {S : rS} {K : Option Value → rS → Prop} {L : cL}
theorem e_end (ho : rOK c) {v h : Nat} (h49 : S.1 49 0 = nI h) (hh : 1 ≤ h) (hK : ∀ S', S'.2 = S.2 → (∀ f i, ¬ ((f = 49 ∨ f = 50) ∧ i = 0) → S'.1 f i = S.1 f i) → S'.1 50 0 = nI v → S'.1 49 0 = nI (h - 1) → K none S') : rM c d eX10_end [.ref c.2.2.1, .int (nI v)] S K := by
  have e1 : nI h - 1 = nI (h - 1) := by
    have := nI_pred (h - 1)
    rw [show h - 1 + 1 = h by omega] at this
    exact this
  refine w_X10_end ho (nI v) ?_
  rw [h49, e1]
  exact hK _ rfl (fun f i z => by rw [rsi_ne _ _ (by omega), rsi_ne _ _ (by omega)]) (by rw [rsi_ne _ _ (by omega), rsi_i]) (rsi_i _ _ _ _)
theorem e_begin (ho : rOK c) {r l h : Nat} (h49 : S.1 49 0 = nI h) (hh : h < 80) (hK : ∀ S', S'.2 = S.2 → (∀ f i, ¬ (f = 49 ∧ i = 0) → ¬ (51 ≤ f ∧ f ≤ 53 ∧ i = h) → S'.1 f i = S.1 f i) → S'.1 51 h = nI r → S'.1 52 h = nI 0 → S'.1 53 h = nI l → S'.1 49 0 = nI (h + 1) → K none S') : rM c d eX10_begin [.ref c.2.2.1, .int (nI r), .int (nI l)] S K := by
  have ix : am_ix (S.1 49 0) h 80 := by rw [h49]; exact am_ix_n hh (by decide)
  refine w_X10_begin ho (nI r) (nI l) ⟨h, ix, h, ix, h, ix, ?_⟩
  rw [h49, nI_1]
  exact hK _ rfl (fun f i z1 z2 => by rw [rsi_ne _ _ (by omega), rsi_ne _ _ (by omega), rsi_ne _ _ (by omega), rsi_ne _ _ (by omega)]) (by rw [rsi_ne _ _ (by omega), rsi_ne _ _ (by omega), rsi_ne _ _ (by omega), rsi_i]) (by rw [rsi_ne _ _ (by omega), rsi_ne _ _ (by omega), rsi_i]; rfl) (by rw [rsi_ne _ _ (by omega), rsi_i]) (rsi_i _ _ _ _)
theorem e_make (ho : rOK c) {k : Nat} {v : Int32} {a b : Option Nat} (hL : RCL S L) (h64 : L.1 < 64) (hK : ∀ S', S'.2 = S.2 → (∀ f i, ¬ (40 ≤ f ∧ f ≤ 44) → S'.1 f i = S.1 f i) → RCL S' (cAdd L (k, v, a, b)) → K (some (.int (nI L.1))) S') : rM c d eX10_make [.ref c.2.2.1, .int (nI k), .int v, .int (rfI a), .int (rfI b)] S K := by
  have ix : am_ix (S.1 40 0) L.1 64 := by rw [hL.1]; exact am_ix_n h64 (by decide)
  refine w_X10_make ho (nI k) v (rfI a) (rfI b) ⟨L.1, ix, L.1, ix, L.1, ix, L.1, ix, ?_⟩
  rw [hL.1, nI_1, nI_pred]
  have a1 : ∀ f i, ¬ (f = 40 ∧ i = 0) → ¬ (41 ≤ f ∧ f ≤ 44 ∧ i = L.1) → (rsi (rsi (rsi (rsi (rsi S 41 L.1 (nI k)) 42 L.1 v) 43 L.1 (rfI a)) 44 L.1 (rfI b)) 40 0 (nI (L.1 + 1))).1 f i = S.1 f i := fun f i q1 q2 => by rw [rsi_ne _ _ (by omega), rsi_ne _ _ (by omega), rsi_ne _ _ (by omega), rsi_ne _ _ (by omega), rsi_ne _ _ (by omega)]
  refine hK _ rfl (fun f i q => a1 f i (by omega) (by omega)) ⟨rsi_i _ _ _ _, fun i hi => ?_⟩
  by_cases q : i = L.1
  · subst q
    rw [show (cAdd L (k, v, a, b)).2 L.1 = (k, v, a, b) from up_same _ _ _]
    refine ⟨?_, ?_, ?_, ?_⟩
    · rw [rsi_ne _ _ (by omega), rsi_ne _ _ (by omega), rsi_ne _ _ (by omega), rsi_ne _ _ (by omega), rsi_i]
    · rw [rsi_ne _ _ (by omega), rsi_ne _ _ (by omega), rsi_ne _ _ (by omega), rsi_i]
    · rw [rsi_ne _ _ (by omega), rsi_ne _ _ (by omega), rsi_i]
    · rw [rsi_ne _ _ (by omega), rsi_i]
  · rw [show (cAdd L (k, v, a, b)).2 i = L.2 i from up_ne _ _ q]
    have hi' : i < L.1 + 1 := hi
    rw [a1 41 i (by omega) (by omega), a1 42 i (by omega) (by omega), a1 43 i (by omega) (by omega), a1 44 i (by omega) (by omega)]
    exact hL.2 i (by omega)
/-- a value is the end -/
theorem e_truth (ho : rOK c) {b : Bool} {h v : Nat} (hv : v = if b = true then 0 else 1) (h49 : S.1 49 0 = nI h) (hh : 1 ≤ h) (hK : ∀ S', S'.2 = S.2 → (∀ f i, ¬ ((f = 49 ∨ f = 50) ∧ i = 0) → S'.1 f i = S.1 f i) → S'.1 50 0 = nI v → S'.1 49 0 = nI (h - 1) → K none S') : rM c d eX10_truth [.int (if b = true then 1 else 0)] S (fun w S6 => ∃ z7 : Int32, w = some (.int z7) ∧ (rM c d eX10_end (.ref c.2.2.1 :: [.int z7]) S6 (fun w S8 => w = none ∧ (K none S8)))) := by
  subst hv
  cases b with
  | true => exact w_X10_truth ho 1 ⟨fun z => absurd z (by decide), fun _ => ⟨_, rfl, e_end ho (v := 0) h49 hh fun S' a1 a2 a3 a4 => ⟨rfl, hK S' a1 a2 a3 a4⟩⟩⟩
  | false => exact w_X10_truth ho 0 ⟨fun _ => ⟨_, rfl, e_end ho (v := 1) h49 hh fun S' a1 a2 a3 a4 => ⟨rfl, hK S' a1 a2 a3 a4⟩⟩, fun z => absurd rfl z⟩
theorem k_tst : ∀ k, k < 32 → (k = 1 ∨ k = 2 ∨ k = 4 ∨ k = 8 ∨ k = 16) → ((k &&& 6 = 0) ↔ ¬ (k = 2 ∨ k = 4)) ∧ ((k &&& 8 = 0) ↔ ¬ k = 8) ∧ ((k &&& 1 = 0) ↔ ¬ k = 1) ∧ ((k &&& 16 = 0) ↔ ¬ k = 16) := by decide +kernel
/-- one operand -/
theorem e_unary (ho : rOK c) {r op v h s : Nat} (hr : r < 320) (h4 : S.1 4 r = nI op) (hop : op = 33 ∨ op = 66 ∨ op = 69 ∨ op = 78 ∨ op = 80 ∨ op = 65 ∨ op = 68) (cl : clO L) (hL : RCL S L) (hv : v < L.1) (h49 : S.1 49 0 = nI h) (hh : 1 ≤ h)
    (k1 : ∀ e, ap1 op v (s, L) = ((s, L), .inl e) → K none (rsi S 48 0 (nI e)))
    (k2 : ∀ w, ap1 op v (s, L) = ((s, L), .inr w) → ∀ S', S'.2 = S.2 → (∀ f i, ¬ ((f = 49 ∨ f = 50) ∧ i = 0) → S'.1 f i = S.1 f i) → S'.1 50 0 = nI w → S'.1 49 0 = nI (h - 1) → K none S') : rM c (d + 1) eX10_unary [.ref c.2.2.1, .int (nI r), .int (nI v)] S K := by
  have h64 := cl.2.1
  obtain ⟨L1, L2, L3, L4⟩ := hL.2 v hv
  have kk := (cl.2.2 v hv).1
  have k32 := cl.k hv
  obtain ⟨t1, t2, t3, t4⟩ := k_tst _ k32 kk
  have ek : ∀ b : Nat, b < 2 ^ 31 → (nI (L.2 v).1 = nI b ↔ (L.2 v).1 = b) := fun b hb => nI_is (by omega) hb
  have ek1 : nI (L.2 v).1 = 1 ↔ (L.2 v).1 = 1 := ek 1 (by decide)
  have ek2 : nI (L.2 v).1 = 2 ↔ (L.2 v).1 = 2 := ek 2 (by decide)
  have ek4 : nI (L.2 v).1 = 4 ↔ (L.2 v).1 = 4 := ek 4 (by decide)
  have ek8 : nI (L.2 v).1 = 8 ↔ (L.2 v).1 = 8 := ek 8 (by decide)
  have ek16 : nI (L.2 v).1 = 16 ↔ (L.2 v).1 = 16 := ek 16 (by decide)
  have eo : ∀ b : Nat, b < 2 ^ 31 → (nI op = nI b ↔ op = b) := fun b hb => nI_is (by omega) hb
  have o33 : nI op = 33 ↔ op = 33 := eo 33 (by decide)
  have o66 : nI op = 66 ↔ op = 66 := eo 66 (by decide)
  have o69 : nI op = 69 ↔ op = 69 := eo 69 (by decide)
  have o78 : nI op = 78 ↔ op = 78 := eo 78 (by decide)
  have o80 : nI op = 80 ↔ op = 80 := eo 80 (by decide)
  have o65 : nI op = 65 ↔ op = 65 := eo 65 (by decide)
  have ir : am_ix (nI r) r 320 := am_ix_n hr (by decide)
  have iv : am_ix (nI v) v 64 := am_ix_n (by omega) (by decide)
  refine w_X10_unary ho (nI r) (nI v) ⟨v, iv, r, ir, ?_⟩
  rw [h4, L1, o33, o66, o69, o78, o80, ek1, ek2, ek4, ek8, ek16]
  -- a test's answer
  have tst : ∀ (b : Bool), op = 78 ∨ op = 66 ∨ op = 69 ∨ op = 80 → ((L.2 v).1 &&& tkd op = 0 ↔ ¬ b = true) → rM c d eX10_truth [.int (if b = true then 1 else 0)] S (fun w S6 => ∃ z7 : Int32, w = some (.int z7) ∧ (rM c d eX10_end (.ref c.2.2.1 :: [.int z7]) S6 (fun w S8 => w = none ∧ (K none S8)))) := by
    intro b ho' hb
    refine e_truth ho rfl h49 hh (k2 _ ?_)
    unfold ap1
    rw [if_neg (by omega), if_neg (by omega)]
    show ((s, L), Sum.inr (if (L.2 v).1 &&& tkd op = 0 then 1 else 0)) = _
    by_cases q : b = true
    · rw [if_neg (fun z => (hb.mp z) q), if_pos q]
    · rw [if_pos (hb.mpr q), if_neg q]
  refine ⟨fun z => ?_, fun z => ?_, fun z => ?_, fun z => ?_, fun z => ?_, fun z => ?_⟩
  · have ap : ap1 op v (s, L) = ((s, L), .inr (if v = 1 then 0 else 1)) := by unfold ap1; rw [if_pos z]
    have k4 := (cl.2.2 v hv).2.1
    refine ⟨fun q => ?_, fun q => ?_⟩
    · exact e_truth ho (b := false) rfl h49 hh (k2 _ (by rw [ap, if_neg (fun w => q (k4.mpr w))]; rfl))
    · exact e_truth ho (b := true) rfl h49 hh (k2 _ (by rw [ap, if_pos (k4.mp q)]; rfl))
  · have tk : tkd op = 6 := by rw [z]; decide
    refine ⟨fun q => tst true (by omega) (by rw [tk, t1]; simp [q]), fun q => ⟨fun q4 => tst false (by omega) (by rw [tk, t1]; simp [q, q4]), fun q4 => tst true (by omega) (by rw [tk, t1]; simp [q4])⟩⟩
  · have tk : tkd op = 8 := by rw [z]; decide
    exact ⟨fun q => tst false (by omega) (by rw [tk, t2]; simp [q]), fun q => tst true (by omega) (by rw [tk, t2]; simp [q])⟩
  · have tk : tkd op = 1 := by rw [z]; decide
    exact ⟨fun q => tst false (by omega) (by rw [tk, t3]; simp [q]), fun q => tst true (by omega) (by rw [tk, t3]; simp [q])⟩
  · have tk : tkd op = 16 := by rw [z]; decide
    exact ⟨fun q => tst false (by omega) (by rw [tk, t4]; simp [q]), fun q => tst true (by omega) (by rw [tk, t4]; simp [q])⟩
  · have hd : op = 65 ∨ op = 68 := by omega
    have ap : ap1 op v (s, L) = if (L.2 v).1 = 16 then ((s, L), .inr ((if op = 65 then (L.2 v).2.2.1 else (L.2 v).2.2.2).getD 0)) else ((s, L), .inl 2) := by
      unfold ap1
      rw [if_neg (by omega), if_pos hd]
    refine ⟨fun q => ⟨r, ir, ?_⟩, fun q => ?_⟩
    · rw [if_pos q] at ap
      obtain ⟨d1, d2⟩ := (cl.2.2 v hv).2.2.2.2 q
      obtain ⟨x, hx⟩ := Option.isSome_iff_exists.mp d1
      obtain ⟨y, hy⟩ := Option.isSome_iff_exists.mp d2
      rw [h4, o65]
      refine ⟨fun q65 => ⟨v, iv, ?_⟩, fun q65 => ⟨v, iv, ?_⟩⟩
      · rw [L4, hy]
        rw [if_neg q65, hy] at ap
        exact e_end ho (v := y) h49 hh fun S' a1 a2 a3 a4 => ⟨rfl, k2 y ap S' a1 a2 a3 a4⟩
      · rw [L3, hx]
        rw [if_pos q65, hx] at ap
        exact e_end ho (v := x) h49 hh fun S' a1 a2 a3 a4 => ⟨rfl, k2 x ap S' a1 a2 a3 a4⟩
    · rw [if_neg q] at ap
      exact w_X10_stop ho 2 ⟨rfl, k1 2 ap⟩
end REA
