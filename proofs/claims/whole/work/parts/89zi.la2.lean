/-! The law: what stands between two calls; the class's half of a call. -/
def LI (L : Nat) (xs : Nat → Int32) (W n : Nat) (C : cS) (A : xA) : Prop := CI C A ∧ AI A ∧ (∃ S, MODS C S ∧ RI S A) ∧ cT0 C L ∧ (∀ i, cI C 0 i = xs i) ∧ cT C 399 21 1 ∧ C.1 ≤ 400 + 201 * n ∧ C.2.1 ≤ W + 1006 * n
/-- the class has been called, the reference not yet -/
def HI (L : Nat) (xs : Nat → Int32) (W n : Nat) (C : cS) (A : xA) (S : rS) : Prop := CI C A ∧ MODS C S ∧ cT0 C L ∧ (∀ i, cI C 0 i = xs i) ∧ cT C 399 21 1 ∧ C.1 ≤ 400 + 201 * (n + 1) ∧ C.2.1 ≤ W + 1006 * (n + 1)
theorem bnd1 {a b n : Nat} (h : b ≤ a + 200) (k : a ≤ 400 + 201 * n) : b ≤ 400 + 201 * (n + 1) := by omega
set_option maxRecDepth 8000 in
theorem bnd2 {a b n W : Nat} (h : b ≤ a + 1000) (k : a ≤ W + 1006 * n) : b ≤ W + 1006 * (n + 1) := by omega
theorem bnd3 {a b n : Nat} (h : b ≤ a + 200) (k : a ≤ 400 + 201 * n) : b + 1 ≤ 400 + 201 * (n + 1) := by omega
set_option maxRecDepth 8000 in
theorem bnd4 {a b n W : Nat} (h : b ≤ a + 1000) (k : a ≤ W + 1006 * n) : b + 6 ≤ W + 1006 * (n + 1) := by omega
section LAW
variable {L : Nat} {xs : Nat → Int32} {W n : Nat} {C C1 : cS} {A A' : xA} {S S' : rS}
theorem CI.ge4 (k : CI C A) : 400 ≤ C.1 := by
  obtain ⟨nbf, nbh, o⟩ := k.1
  exact o.1.2.2.2.2.2.2.2.2.2.2
theorem LI.raw (k : LI L xs W n C A) (m : MODS C S) (w : wfr C C1) (c : CI C1 A') : HI L xs W n C1 A' S ∧ cle C C1 := by
  obtain ⟨k1, k2, k3, k4, k5, k6, k7, k8⟩ := k
  obtain ⟨w1, w2, w3, w4⟩ := w
  exact ⟨⟨c, m.w w1 (fun a i q1 q2 => w4 a i (by omega)), k4.le w1, fun i => by rw [(w4 0 i (by omega)).1]; exact k5 i, k6.le w1, bnd1 w2 k7, bnd2 w3 k8⟩, w1⟩
theorem LI.out (k : LI L xs W n C A) (m : MODS C S) (w : wfr C C1) (c : CI C1 A') (v : Int64) : HI L xs W n (csj C1 399 0 v) A' S ∧ cJ (csj C1 399 0 v) 399 0 = v ∧ cle C (csj C1 399 0 v) := by
  obtain ⟨⟨r1, r2, r3, r4, r5, r6, r7⟩, le⟩ := k.raw m w c
  have le1 : cle C1 (csj C1 399 0 v) := cle_same rfl rfl
  exact ⟨⟨c.v ⟨le1, fun a i q1 q2 => ⟨rfl, cJ_csj_ne _ _ (by omega), rfl⟩⟩, r2.w le1 (fun a i q1 q2 => ⟨rfl, cJ_csj_ne _ _ (by omega), rfl⟩), r3.le le1, r4, r5.le le1, r6, r7⟩, cJ_csj _ _ _ _, le.trans le1⟩
theorem LI.exc (k : LI L xs W n C A) (m : MODS C S) (w : wfr C C1) (c : CI C1 A') : HI L xs W n (cnw C1 99 6) A' S ∧ cle C (cnw C1 99 6) := by
  obtain ⟨⟨r1, r2, r3, r4, r5, r6, r7⟩, le⟩ := k.raw m w c
  have h4 := c.ge4
  have e : ∀ a i, a < C1.1 → cI (cnw C1 99 6) a i = cI C1 a i ∧ cJ (cnw C1 99 6) a i = cJ C1 a i ∧ cR (cnw C1 99 6) a i = cR C1 a i := fun a i q => by
    refine ⟨?_, ?_, ?_⟩
    · show (if a = C1.1 then _ else _) = _
      rw [if_neg (by omega)]
    · show (if a = C1.1 then _ else _) = _
      rw [if_neg (by omega)]
    · show (if a = C1.1 then _ else _) = _
      rw [if_neg (by omega)]
  have le1 : cle C1 (cnw C1 99 6) := ⟨Nat.le_succ _, fun a q => by
    show (if a = C1.1 then _ else _) = _
    rw [if_neg (by omega)]⟩
  have k7 := k.2.2.2.2.2.2.1
  have k8 := k.2.2.2.2.2.2.2
  exact ⟨⟨c.v ⟨le1, fun a i q1 q2 => e a i q1⟩, r2.w le1 (fun a i q1 q2 => e a i (by omega)), r3.le le1, fun i => by rw [(e 0 i (by omega)).1]; exact r4 i, r5.le le1, bnd3 w.2.1 k7, bnd4 w.2.2.1 k8⟩, le.trans le1⟩
theorem HI.put (h : HI L xs W n C A S) : HI L xs W n (mput C S') A S' := by
  obtain ⟨r1, r2, r3, r4, r5, r6, r7⟩ := h
  exact ⟨r1.v ⟨mput_le _ _, fun a i q1 q2 => mput_ne C S' (by omega)⟩, r2.put, r3.le (mput_le _ _), fun i => by rw [(mput_ne C S' (by omega)).1]; exact r4 i, r5.le (mput_le _ _), r6, r7⟩
theorem HI.li (h : HI L xs W n C A S) (a : AI A) (r : RI S A) : LI L xs W (n + 1) C A := ⟨h.1, a, ⟨S, h.2.1, r⟩, h.2.2.1, h.2.2.2.1, h.2.2.2.2.1, h.2.2.2.2.2.1, h.2.2.2.2.2.2⟩
theorem HI.T (h : HI L xs W n C A S) : cT C 356 10 59 := ⟨by decide, by have := h.2.1.2.1; omega, h.2.1.1⟩
variable {g : am_P} {l : Launch} {d : Nat}
/-- what the reference has thrown -/
theorem t_thrown (h : HI L xs W n C A S) (a : AI A) (r : RI S A) {K : Option Value → cS → Prop} (k : ∀ C', cle C C' → LI L xs W (n + 1) C' A → cJ C' 399 0 = cJ C 399 0 → K (some (.int (S.1 0 0))) C') : cM (g, l) d eX10_thrown (.ref 356 :: []) C K := by
  refine rM.c (K := fun v S1 => v = some (.int (S.1 0 0)) ∧ S1 = S) h.2.1 (r_thrown (h.2.1.ok g l) ⟨rfl, rfl⟩) fun v S1 ⟨e1, e2⟩ => ?_
  subst e2
  rw [e1]
  exact k _ (mput_le _ _) ((h.put (S' := S1)).li a r) (mput_ne C S1 (by omega)).2.1
/-- the reference's half of a call that may throw -/
theorem t_call {e : am_E} {as : List Value} (h : HI L xs W n C A S) (a : AI A) {z : Int32} {G K0 : cS → Prop}
    (hr : rM (g, l, 356, cH C) d e as S (fun v S1 => ∃ y : Int32, v = some (.int y) ∧ S1.1 0 0 = z ∧ RI S1 A ∧ (z = 0 → cJ C 399 0 = Int32.toInt64 y))) (go : ∀ C', LI L xs W (n + 1) C' A → G C') :
    cM (g, l) d e as C (fun v C39 => ∃ z40 : Int32, v = some (.int z40) ∧ cle C C39 ∧ (cM (g, l) d eX10_thrown (.ref 356 :: []) C39 (fun v C45 => ∃ z46 : Int32, v = some (.int z46) ∧ cle C39 C45 ∧ ((z46 = z → ((¬ z = 0 → G C45) ∧ (z = 0 → (∃ n53 : Nat, cT C45 399 21 n53 ∧ (∃ j54 : Nat, am_ix 0 j54 n53 ∧ (((lg_cmp (cJ C45 399 j54) (Int32.toInt64 z40)) = 0 → G C45) ∧ (¬ (lg_cmp (cJ C45 399 j54) (Int32.toInt64 z40)) = 0 → K0 C45))))))) ∧ (¬ z46 = z → K0 C45))))) := by
  refine rM.c h.2.1 hr fun v S1 ⟨y, e1, e2, e3, e4⟩ => ⟨y, e1, mput_le _ _, t_thrown (h.put (S' := S1)) a e3 fun C' le li ej => ⟨_, rfl, le, ?_⟩⟩
  rw [e2]
  refine ⟨fun _ => ⟨fun _ => go C' li, fun q => ⟨1, li.2.2.2.2.2.1, 0, am_ix_n (j := 0) (by decide) (by decide), fun _ => go C' li, fun w => absurd ?_ w⟩⟩, fun w => absurd rfl w⟩
  rw [lg_cmp_eq, ej, (mput_ne C S1 (by omega)).2.1]
  exact e4 q
/-- the reference's half of a call that answers -/
theorem t_ans {e : am_E} {as : List Value} (h : HI L xs W n C A S) (a : AI A) {z : Int32} {G K0 : cS → Prop} (hr : rM (g, l, 356, cH C) d e as S (fun v S1 => v = some (.int z) ∧ RI S1 A)) (go : ∀ C', LI L xs W (n + 1) C' A → G C') :
    cM (g, l) d e as C (fun v C39 => ∃ z40 : Int32, v = some (.int z40) ∧ cle C C39 ∧ ((z = z40 → G C39) ∧ (¬ z = z40 → K0 C39))) :=
  rM.c h.2.1 hr fun _ S1 ⟨e1, e2⟩ => ⟨z, e1, mput_le _ _, fun _ => go _ ((h.put (S' := S1)).li a e2), fun w => absurd rfl w⟩
/-- the reference's half of a call without answer -/
theorem t_none {e : am_E} {as : List Value} (h : HI L xs W n C A S) (a : AI A) {G : cS → Prop} (hr : rM (g, l, 356, cH C) d e as S (fun v S1 => v = none ∧ RI S1 A)) (go : ∀ C', LI L xs W (n + 1) C' A → G C') :
    cM (g, l) d e as C (fun v C39 => v = none ∧ cle C C39 ∧ G C39) :=
  rM.c h.2.1 hr fun _ S1 ⟨e1, e2⟩ => ⟨e1, mput_le _ _, go _ ((h.put (S' := S1)).li a e2)⟩
theorem LI.T (k : LI L xs W n C A) : cT C 1 9 12 := by
  obtain ⟨nbf, nbh, o⟩ := k.1.1
  exact o.1.1
/-- the class's answer is written -/
theorem w_out (k : LI L xs W n C A) (m : MODS C S) (w : wfr C C1) (c : CI C1 A') {z : Int32} {Kc : Option Value → cS → Prop} (h : ∀ C2, HI L xs W n C2 A' S → cle C C2 → cJ C2 399 0 = Int32.toInt64 z → Kc (some (.int 0)) C2) : ∃ z2 : Int32, some (Value.int z) = some (.int z2) ∧ cle C C1 ∧ (∃ n7 : Nat, cT C1 399 21 n7 ∧ (∃ j8 : Nat, am_ix 0 j8 n7 ∧ (Kc (some (.int 0)) (csj C1 399 j8 (Int32.toInt64 z2))))) := by
  obtain ⟨r1, r2, r3⟩ := k.out m w c (Int32.toInt64 z)
  exact ⟨z, rfl, w.1, 1, k.2.2.2.2.2.1.le w.1, 0, am_ix_n (j := 0) (by decide) (by decide), h _ r1 r3 r2⟩
end LAW
