/-! The class on the state of both sides: frames, the small methods. -/
theorem nar_c {x : Nat} (hx : x < 65536) : narrow .char (.int (nI x)) = .int (nI x) := by
  have e : (Int32.ofNat x).toUInt32.toUInt16.toUInt32.toInt32 = Int32.ofNat x := by
    apply Int32.toBitVec_inj.mp
    apply BitVec.eq_of_toNat_eq
    show ((Int32.ofNat x).toUInt32.toUInt16.toUInt32).toNat = (BitVec.ofNat 32 x).toNat
    rw [UInt16.toNat_toUInt32, UInt32.toNat_toUInt16, BitVec.toNat_ofNat]
    show (BitVec.ofNat 32 x).toNat % 2 ^ 16 = _
    rw [BitVec.toNat_ofNat]
    omega
  show Value.int ((Int32.ofNat x).toUInt32.toUInt16.toUInt32.toInt32) = Value.int (Int32.ofNat x)
  rw [e]
theorem chr_n (v : Int32) : ((Int32.toUInt32 v) % 65536).toInt32 = nI (v.toUInt32.toNat % 65536) := by
  apply Int32.toBitVec_inj.mp
  apply BitVec.eq_of_toNat_eq
  show ((Int32.toUInt32 v) % 65536).toNat = (BitVec.ofNat 32 (v.toUInt32.toNat % 65536)).toNat
  rw [UInt32.toNat_mod, BitVec.toNat_ofNat]
  show _ % 65536 = _
  omega
def sfr (A B : cS) : Prop := cle A B ∧ ∀ a i, a < 400 → ¬ (a = 9 ∧ i < 17) → ¬ (a = 5 ∧ i = 5) → ¬ (a = 1 ∧ i = 7) → a ≠ 4 → cR B a i = cR A a i
def hfr (A B : cS) : Prop := cle A B ∧ ∀ a i, 400 ≤ a → a < A.1 → cI B a i = cI A a i ∧ cJ B a i = cJ A a i ∧ cR B a i = cR A a i
def wfr (A B : cS) : Prop := cle A B ∧ B.1 ≤ A.1 + 200 ∧ B.2.1 ≤ A.2.1 + 1000 ∧ ∀ a i, a = 0 ∨ (356 ≤ a ∧ a < 400) → cI B a i = cI A a i ∧ cJ B a i = cJ A a i ∧ cR B a i = cR A a i
theorem wfr.refl (C : cS) : wfr C C := ⟨cle.refl _, by omega, by omega, fun _ _ _ => ⟨rfl, rfl, rfl⟩⟩
/-- ints of the object's own cells alone change -/
def nfr (A B : cS) : Prop := B.1 = A.1 ∧ B.2.1 = A.2.1 ∧ B.2.2.1 = A.2.2.1 ∧ (∀ a i, cR B a i = cR A a i) ∧ (∀ a i, cJ B a i = cJ A a i) ∧ ∀ a i, a = 0 ∨ 356 ≤ a → cI B a i = cI A a i
theorem nfr.le {A B : cS} (h : nfr A B) : cle A B := cle_same h.1 h.2.2.1
theorem nfr.trans {A B C : cS} (h : nfr A B) (k : nfr B C) : nfr A C := ⟨k.1.trans h.1, k.2.1.trans h.2.1, k.2.2.1.trans h.2.2.1, fun a i => (k.2.2.2.1 a i).trans (h.2.2.2.1 a i), fun a i => (k.2.2.2.2.1 a i).trans (h.2.2.2.2.1 a i), fun a i q => (k.2.2.2.2.2 a i q).trans (h.2.2.2.2.2 a i q)⟩
theorem nfr.refl (C : cS) : nfr C C := ⟨rfl, rfl, rfl, fun _ _ => rfl, fun _ _ => rfl, fun _ _ _ => rfl⟩
theorem nfr_csi (C : cS) {a i : Nat} (v : Int32) (h1 : 1 ≤ a) (h2 : a < 356) : nfr C (csi C a i v) := ⟨rfl, rfl, rfl, fun _ _ => rfl, fun _ _ => rfl, fun b j q => cI_csi_ne _ _ (by omega)⟩
theorem lfr.n {A B : cS} (h : lfr A B) : nfr A B := ⟨h.1, h.2.1, h.2.2.1, h.2.2.2.1, h.2.2.2.2.1, fun a i q => h.2.2.2.2.2 a i (by omega)⟩
theorem nfr.s {A B : cS} (h : nfr A B) : sfr A B := ⟨h.le, fun a i _ _ _ _ _ => h.2.2.2.1 a i⟩
theorem nfr.h {A B : cS} (h : nfr A B) : hfr A B := ⟨h.le, fun a i q _ => ⟨h.2.2.2.2.2 a i (by omega), h.2.2.2.2.1 a i, h.2.2.2.1 a i⟩⟩
theorem nfr.w {A B : cS} (h : nfr A B) : wfr A B := ⟨h.le, by rw [h.1]; omega, by rw [h.2.1]; omega, fun a i q => ⟨h.2.2.2.2.2 a i (by omega), h.2.2.2.2.1 a i, h.2.2.2.1 a i⟩⟩
theorem ufr.s {A B : cS} {u n : Nat} (h : ufr u n A B) (hn : 400 ≤ n) : sfr A B := ⟨h.1, fun a i q1 q2 q3 q4 _ => h.2.1 a i (by omega) q2 q3 q4⟩
theorem ufr.h {A B : cS} {u n : Nat} (h : ufr u n A B) (hn : A.1 ≤ n) (hu : u ≤ 356 := by decide) : hfr A B := ⟨h.1, fun a i q1 q2 => ⟨h.2.2.1 a i (by omega) (by omega) (by omega) (by omega) (by omega), h.2.2.2 a i (by omega) (by omega), h.2.1 a i (by omega) (by omega) (by omega) (by omega)⟩⟩
theorem ufr.wf {A B : cS} {u n : Nat} (h : ufr u n A B) (hn : 400 ≤ n) (h1 : B.1 ≤ A.1 + 200) (h2 : B.2.1 ≤ A.2.1 + 1000) (hu : u ≤ 356 := by decide) : wfr A B := ⟨h.1, h1, h2, fun a i q => ⟨h.2.2.1 a i (by omega) (by omega) (by omega) (by omega) (by omega), h.2.2.2 a i (by omega) (by omega), h.2.1 a i (by omega) (by omega) (by omega) (by omega)⟩⟩
theorem VA.s {A B : cS} {t : Nat} (h : VA A t) (k : sfr A B) (ht : 10 ≤ t ∧ t < 400) : VA B t := ⟨h.1.le k.1, by rw [k.2 t 0 (by omega) (by omega) (by omega) (by omega) (by omega)]; exact h.2.1, h.2.2.le k.1⟩
theorem FA.s {A B : cS} {t : Nat} (h : FA A t) (k : sfr A B) (ht : 12 ≤ t ∧ t < 390) : FA B t := ⟨h.1.le k.1, by rw [k.2 t 2 (by omega) (by omega) (by omega) (by omega) (by omega)]; exact h.2.1, by rw [k.2 t 3 (by omega) (by omega) (by omega) (by omega) (by omega)]; exact h.2.2.1, h.2.2.2.1.s k (by omega), h.2.2.2.2.s k (by omega)⟩
theorem CHK.s {A B : cS} (h : CHK A) (k : sfr A B) : CHK B := by
  obtain ⟨h1, h2, h3, h4, h5, h6, h7, h8, h9, h10, h11, h12, h13⟩ := h
  refine ⟨h1.le k.1, ?_, ?_, ?_, ?_, ?_, h7.le k.1, h8.le k.1, h9.le k.1, h10.le k.1, h11.s k (by omega), fun i hi => ⟨?_, (h12 i hi).2.s k (by omega)⟩, fun s hs => ⟨?_, (h13 s hs).2.s k (by omega)⟩⟩
  · rw [k.2 5 0 (by omega) (by omega) (by omega) (by omega) (by omega)]; exact h2
  · rw [k.2 5 1 (by omega) (by omega) (by omega) (by omega) (by omega)]; exact h3
  · rw [k.2 5 2 (by omega) (by omega) (by omega) (by omega) (by omega)]; exact h4
  · rw [k.2 5 3 (by omega) (by omega) (by omega) (by omega) (by omega)]; exact h5
  · rw [k.2 5 4 (by omega) (by omega) (by omega) (by omega) (by omega)]; exact h6
  · rw [k.2 6 i (by omega) (by omega) (by omega) (by omega) (by omega)]; exact (h12 i hi).1
  · rw [k.2 7 s (by omega) (by omega) (by omega) (by omega) (by omega)]; exact (h13 s hs).1
theorem TOP.s {A B : cS} {ch ch' : Nat → Option Nat} {len len' : Nat} (h : TOP A ch len) (k : sfr A B) (hT : TXT B ch' len') : TOP B ch' len' := by
  obtain ⟨h1, h2, h3, h4, h5, h6, h7, h8, h9, h10, h11⟩ := h
  have r : ∀ i, i < 7 → cR B 1 i = cR A 1 i := fun i hi => k.2 1 i (by omega) (by omega) (by omega) (by omega) (by omega)
  exact ⟨h1.le k.1, by rw [r 0 (by decide)]; exact h2, by rw [r 1 (by decide)]; exact h3, by rw [r 2 (by decide)]; exact h4, by rw [r 3 (by decide)]; exact h5, by rw [r 4 (by decide)]; exact h6, h7.s k (by omega), h8.s k (by omega), h9.s k, hT, Nat.le_trans h11 k.1.1⟩
theorem ND.h {A B : cS} {nb n : Nat} {T : Nat → nd} (h : ND A nb T n) (k : hfr A B) : ND B nb T n := by
  refine ⟨h.1, fun m hm => ?_⟩
  have h0 := h.1
  obtain ⟨h1, h2, h3, h4, h5, h6⟩ := h.2 m hm
  have l1 := h1.2.1
  have kk := fun i => k.2 (nb + m) i (by omega) l1
  exact ⟨h1.le k.1, by rw [(kk 0).1]; exact h2, by rw [(kk 1).1]; exact h3, by rw [(kk 2).1]; exact h4, by rw [(kk 3).1]; exact h5, fun i hi => by rw [(kk (4 + i)).2.2]; exact h6 i hi⟩
theorem FXs.h {A B : cS} {fx : fnT} (h : FXs A fx) (k : hfr A B) (e4 : ∀ i, i < 3 → cR B 4 i = cR A 4 i) : FXs B fx := by
  refine ⟨h.1.le k.1, fun i hi => ?_⟩
  have h3 := h.2 i hi
  cases ex : fx i with
  | none =>
    rw [ex] at h3
    show cR B 4 i = none
    rw [e4 i hi]
    exact h3
  | some z =>
    obtain ⟨pt, kk, y, n⟩ := z
    rw [ex] at h3
    obtain ⟨p1, p2, fa, p3, p4, p5, p6, p7, p8, p9⟩ := h3
    have l1 := p5.2.1
    exact ⟨p1, p2, fa, p3, by rw [e4 i hi]; exact p4, p5.le k.1, by rw [(k.2 fa 1 p3 l1).1]; exact p6, by rw [(k.2 fa 2 p3 l1).1]; exact p7, by rw [(k.2 fa 3 p3 l1).2.1]; exact p8, by rw [(k.2 fa 4 p3 l1).2.1]; exact p9⟩
theorem FBs.h {A B : cS} {bf : bT} {nbf : Nat → Nat} {M M' : Nat} (h : FBs A bf nbf M) (k : hfr A B) (e4 : ∀ i, i < 3 → cR B 4 i = cR A 4 i) (hf : ∀ i fa, i < 3 → cR A 4 i = some fa → 400 ≤ fa) (hM : M ≤ M') : FBs B bf nbf M' := by
  refine ⟨h.1.le k.1, fun i hi b hb => ?_⟩
  obtain ⟨fa, f1, f2, f3, f4, f5⟩ := h.2 i hi b hb
  exact ⟨fa, by rw [e4 i hi]; exact f1, f2.le k.1, by rw [(k.2 fa 0 (hf i fa hi f1) f2.2.1).2.2]; exact f3, f4.h k, by omega⟩
def CI (C : cS) (A : xA) : Prop := (∃ nbf nbh, OBJ C A.1.1 A.1.2 A.2.1.1 A.2.1.2.1 nbf A.2.2.1.1 nbh A.2.2.2.1 A.2.2.2.2.1 A.2.2.2.2.2.1 A.2.2.2.2.2.2.1) ∧ cI C 1 8 = (if A.2.2.1.2.1 = true then 1 else 0) ∧ cI C 1 9 = A.2.2.1.2.2.1 ∧ cI C 1 10 = A.2.2.2.2.2.2.2.1 ∧ cI C 1 11 = A.2.2.2.2.2.2.2.2 ∧ (A.2.2.1.2.1 = true → ∀ p, p < 14 → cAns (gvn C 346) p = A.2.2.1.2.2.2.1 p ∧ cAns (gvn C 348) p = A.2.2.1.2.2.2.2 p)
theorem OBJ.s {A B : cS} {ch ch' : Nat → Option Nat} {len len' : Nat} {fx : fnT} {bf : bT} {nbf : Nat → Nat} {hand : Option ((Nat → nd) × Nat)} {nbh kept kept' : Nat} {L L' : cL} {ia ib ia' ib' : Nat} (h : OBJ A ch len fx bf nbf hand nbh kept L ia ib) (k : sfr A B) (k2 : hfr A B) (hT : TXT B ch' len') (e4 : ∀ i, i < 3 → cR B 4 i = cR A 4 i) (hC : CLS B kept' L') (hi : cI B 355 0 = nI ia' ∧ cI B 355 1 = nI ib') (h7 : cR B 1 7 = cR A 1 7) : OBJ B ch' len' fx bf nbf hand nbh kept' L' ia' ib' := by
  obtain ⟨a1, a2, a3, a4, a5, a6, a7, a8, a9, a10⟩ := h
  refine ⟨a1.s k hT, a2.h k2 e4, a3.h k2 e4 a2.ge k.1.1, ?_, ?_, hC, a7.le k.1, hi, by rw [h7]; exact a9, fun b hb => ⟨(a10 b hb).1.h k2, Nat.lt_of_lt_of_le (a10 b hb).2 k.1.1⟩⟩
  · rw [k.2 1 5 (by omega) (by omega) (by omega) (by omega) (by omega)]; exact a4
  · rw [k.2 1 6 (by omega) (by omega) (by omega) (by omega) (by omega)]; exact a5
theorem CI.n {C B : cS} {A : xA} (k : CI C A) (n : nfr C B) {t : xT} {m : xM} (hT : TXT B t.1 t.2) (hC : CLS B m.1 m.2.1) (hi : cI B 355 0 = nI m.2.2.1 ∧ cI B 355 1 = nI m.2.2.2.1) (h8 : cI B 1 8 = cI C 1 8) (h9 : cI B 1 9 = cI C 1 9) (h10 : cI B 1 10 = m.2.2.2.2.1) (h11 : cI B 1 11 = m.2.2.2.2.2) (h346 : cI B 346 1 = cI C 346 1) (h348 : cI B 348 1 = cI C 348 1) : CI B (t, A.2.1, A.2.2.1, m) := by
  obtain ⟨⟨nbf, nbh, o⟩, k1, k2, k3, k4, k5⟩ := k
  refine ⟨⟨nbf, nbh, o.s n.s n.h hT (fun i _ => n.2.2.2.1 4 i) hC hi (n.2.2.2.1 1 7)⟩, by rw [h8]; exact k1, by rw [h9]; exact k2, h10, h11, fun q => ?_⟩
  rw [gvn_eq h346 (fun i => n.2.2.2.2.1 347 i), gvn_eq h348 (fun i => n.2.2.2.2.1 349 i)]
  exact k5 q
theorem TXT.n {A B : cS} {ch : Nat → Option Nat} {len : Nat} (h : TXT A ch len) (k : nfr A B) (e : ∀ a i, a = 2 ∨ a = 3 → cI B a i = cI A a i) : TXT B ch len := by
  obtain ⟨h1, h2, h3, h4, h5⟩ := h
  refine ⟨h1.le k.le, by rw [k.2.2.2.1]; exact h2, h3.le k.le, by rw [e 2 1 (by omega)]; exact h4, fun i hi => ?_⟩
  obtain ⟨c, e1, e2⟩ := h5 i hi
  exact ⟨c, e1, by rw [e 3 i (by omega)]; exact e2⟩
theorem CLS.n {A B : cS} {kept : Nat} {L : cL} (h : CLS A kept L) (k : nfr A B) (e : ∀ a i, 350 ≤ a → a ≤ 354 → cI B a i = cI A a i) : CLS B kept L := h.c k.le (fun i => k.2.2.2.1 350 i) (fun a i q1 q2 => e a i q1 q2)
section CXA
variable {c : cX} {d : Nat} {C : cS} {K : Option Value → cS → Prop} {X : String → cS → Prop} {A : xA}
theorem k_type (k : CI C A) (a : AI A) {x : Nat} (hx : x < 65536) (h0 : A.1.2 = 60 → K (some (.int 0)) C) (h1 : A.1.2 < 60 → ∀ C', wfr C C' → CI C' ((up A.1.1 A.1.2 (some x), A.1.2 + 1), A.2) → K (some (.int 1)) C') : cM c (d + 1) eX9_type [.ref 1, .int (nI x)] C K := by
  obtain ⟨nbf, nbh, o⟩ := k.1
  obtain ⟨t1, t2, t3, t4, t5⟩ := o.1.2.2.2.2.2.2.2.2.2.1
  have l60 := a.1.1
  refine w_X9_type 1 (nI x) ⟨o.1.1, 2, o.1.2.1, t1, w_X7_append 2 (nI x) ⟨t1, ?_⟩⟩
  rw [t4, show nI A.1.2 < 60 ↔ A.1.2 < 60 from nI_ltI (b := 60) (by omega) (by decide)]
  refine ⟨fun q => ⟨3, t2, 60, t3, A.1.2, am_ix_n q (by decide), nar_c hx, ?_⟩, fun q => ⟨_, rfl, cle.refl _, Or.inl rfl, h0 (by omega)⟩⟩
  rw [cI_csi_ne _ _ (by omega), t4, nI_1]
  have n : nfr C (csi (csi C 3 A.1.2 (nI x)) 2 1 (nI (A.1.2 + 1))) := (nfr_csi C _ (by decide) (by decide)).trans (nfr_csi _ _ (by decide) (by decide))
  have e : ∀ a i, a ≠ 2 → a ≠ 3 → cI (csi (csi C 3 A.1.2 (nI x)) 2 1 (nI (A.1.2 + 1))) a i = cI C a i := fun a i q1 q2 => by rw [cI_csi_ne _ _ (by omega), cI_csi_ne _ _ (by omega)]
  have e2 : cI (csi (csi C 3 A.1.2 (nI x)) 2 1 (nI (A.1.2 + 1))) 2 1 = nI (A.1.2 + 1) := cI_csi _ _ _ _
  have e3 : ∀ i, cI (csi (csi C 3 A.1.2 (nI x)) 2 1 (nI (A.1.2 + 1))) 3 i = if i = A.1.2 then nI x else cI C 3 i := fun i => by
    rw [cI_csi_ne _ _ (by omega)]
    by_cases q : i = A.1.2
    · subst q; rw [if_pos rfl]; exact cI_csi _ _ _ _
    · rw [if_neg q]; exact cI_csi_ne _ _ (by omega)
  generalize csi (csi C 3 A.1.2 (nI x)) 2 1 (nI (A.1.2 + 1)) = B at n e e2 e3 ⊢
  refine ⟨_, rfl, n.le, Or.inr rfl, h1 q B n.w (k.n (t := (up A.1.1 A.1.2 (some x), A.1.2 + 1)) (m := A.2.2.2) n ⟨t1.le n.le, by rw [n.2.2.2.1]; exact t2, t3.le n.le, e2, fun i hi => ?_⟩ (o.2.2.2.2.2.1.n n fun a i q1 q2 => e a i (by omega) (by omega)) ⟨by rw [e 355 0 (by omega) (by omega)]; exact o.2.2.2.2.2.2.2.1.1, by rw [e 355 1 (by omega) (by omega)]; exact o.2.2.2.2.2.2.2.1.2⟩ (e 1 8 (by omega) (by omega)) (e 1 9 (by omega) (by omega)) (by rw [e 1 10 (by omega) (by omega)]; exact k.2.2.2.1) (by rw [e 1 11 (by omega) (by omega)]; exact k.2.2.2.2.1) (e 346 1 (by omega) (by omega)) (e 348 1 (by omega) (by omega)))⟩
  rw [e3]
  by_cases w : i = A.1.2
  · subst w
    exact ⟨x, up_same _ _ _, if_pos rfl⟩
  · obtain ⟨y, y1, y2⟩ := t5 i (by have : i < A.1.2 + 1 := hi; omega)
    exact ⟨y, by show up _ _ _ i = _; rw [up_ne _ _ w]; exact y1, by rw [if_neg w]; exact y2⟩
theorem k_wipe (k : CI C A) (h : ∀ C', wfr C C' → CI C' ((fun _ => none, 0), A.2) → K none C') : cM c (d + 1) eX9_wipe [.ref 1] C K := by
  obtain ⟨nbf, nbh, o⟩ := k.1
  obtain ⟨t1, t2, t3, t4, t5⟩ := o.1.2.2.2.2.2.2.2.2.2.1
  have n : nfr C (csi C 2 1 0) := nfr_csi C _ (by decide) (by decide)
  have e : ∀ a i, a ≠ 2 → cI (csi C 2 1 0) a i = cI C a i := fun a i q1 => cI_csi_ne _ _ (by omega)
  refine w_X9_wipe 1 ⟨o.1.1, 2, o.1.2.1, t1, w_X7_empty 2 ⟨t1, rfl, n.le, h _ n.w (k.n (t := (fun _ => none, 0)) (m := A.2.2.2) n ⟨t1.le n.le, by rw [n.2.2.2.1]; exact t2, t3.le n.le, cI_csi _ _ _ _, fun i hi => absurd hi (Nat.not_lt_zero _)⟩ (o.2.2.2.2.2.1.n n fun a i q1 q2 => e a i (by omega)) ⟨by rw [e 355 0 (by omega)]; exact o.2.2.2.2.2.2.2.1.1, by rw [e 355 1 (by omega)]; exact o.2.2.2.2.2.2.2.1.2⟩ (e 1 8 (by omega)) (e 1 9 (by omega)) (by rw [e 1 10 (by omega)]; exact k.2.2.2.1) (by rw [e 1 11 (by omega)]; exact k.2.2.2.2.1) (e 346 1 (by omega)) (e 348 1 (by omega)))⟩⟩
theorem k_fault (k : CI C A) (h : K (some (.int A.2.2.1.2.2.1)) C) : cM c d eX9_fault [.ref 1] C K := by
  obtain ⟨nbf, nbh, o⟩ := k.1
  exact w_X9_fault 1 ⟨o.1.1, by rw [k.2.2.1]; exact h⟩
theorem k_steps (k : CI C A) (h : K (some (.int A.2.2.2.2.2.2.2.1)) C) : cM c d eX9_steps [.ref 1] C K := by
  obtain ⟨nbf, nbh, o⟩ := k.1
  exact w_X9_steps 1 ⟨o.1.1, by rw [k.2.2.2.1]; exact h⟩
theorem k_result (k : CI C A) (h : K (some (.int A.2.2.2.2.2.2.2.2)) C) : cM c d eX9_result [.ref 1] C K := by
  obtain ⟨nbf, nbh, o⟩ := k.1
  exact w_X9_result 1 ⟨o.1.1, by rw [k.2.2.2.2.1]; exact h⟩
theorem k_count (k : CI C A) (h : K (some (.int (nI A.2.2.2.2.1.1))) C) : cM c d eX9_count [.ref 1] C K := by
  obtain ⟨nbf, nbh, o⟩ := k.1
  have cl := o.2.2.2.2.2.1
  exact w_X9_count 1 ⟨o.1.1, 350, o.2.2.2.1, cl.1, by rw [cl.2.2.2.2.2.2.2.2.2.2.1]; exact h⟩
end CXA
