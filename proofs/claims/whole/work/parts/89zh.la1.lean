/-! The reference's cells inside the typed heap. -/
abbrev rIx (f : Nat) : Option Nat := rT.findIdx? (fun q => q.1 == f)
theorem rT_lt : ∀ q, q ∈ rT → q.1 < 59 ∧ (q.2.1 = 20 ∨ q.2.1 = 21 ∨ q.2.1 = 22) := by decide +kernel
theorem rIx_59 : ∀ f, f < 59 → cK 10 f = if (rIx f).isSome = true then 2 else 0 := by decide +kernel
theorem rIx_k (f : Nat) : cK 10 f = if (rIx f).isSome = true then 2 else 0 := by
  by_cases h : f < 59
  · exact rIx_59 f h
  · have e : rIx f = none := List.findIdx?_eq_none_iff.mpr fun q hq => by
      have := (rT_lt q hq).1
      simp only [beq_eq_false_iff_ne]
      omega
    rw [e]
    show List.getD _ f 0 = 0
    rw [List.getD_eq_getElem?_getD, List.getElem?_eq_none (by simp only [List.length_cons, List.length_nil]; omega)]
    rfl
def MODS (C : cS) (S : rS) : Prop := C.2.2.1 356 = (10, 59) ∧ 400 ≤ C.1 ∧ (∀ f, rIx f = none → cI C 356 f = S.1 f 0) ∧ (∀ f k, rIx f = some k → cR C 356 f = some (357 + k)) ∧ ∀ k f t n, rT[k]? = some (f, t, n) → C.2.2.1 (357 + k) = (t, n) ∧ (t = 21 → ∀ i, cJ C (357 + k) i = S.2 f i) ∧ (t ≠ 21 → ∀ i, cI C (357 + k) i = S.1 f i)
def mput (C : cS) (S : rS) : cS := (C.1, C.2.1, C.2.2.1, fun a i => if a = 356 then S.1 i 0 else if 357 ≤ a ∧ a < 399 then S.1 (rT.getD (a - 357) (0, 0, 0)).1 i else cI C a i, fun a i => if 357 ≤ a ∧ a < 399 then S.2 (rT.getD (a - 357) (0, 0, 0)).1 i else cJ C a i, cR C)
theorem MODS.put {C : cS} {S S' : rS} (h : MODS C S) : MODS (mput C S') S' := by
  obtain ⟨h1, h2, h3, h4, h5⟩ := h
  refine ⟨h1, h2, fun f _ => ?_, h4, fun k f t n e => ?_⟩
  · show (if (356 : Nat) = 356 then S'.1 f 0 else if 357 ≤ 356 ∧ 356 < 399 then S'.1 (rT.getD (356 - 357) (0, 0, 0)).1 f else cI C 356 f) = _
    rw [if_pos rfl]
  · have k42 : k < 42 := (List.getElem?_eq_some_iff.mp e).1
    have eg : (rT.getD (357 + k - 357) (0, 0, 0)).1 = f := by
      rw [show 357 + k - 357 = k by omega, List.getD_eq_getElem?_getD, e]
      rfl
    refine ⟨(h5 k f t n e).1, fun _ i => ?_, fun _ i => ?_⟩
    · show (if 357 ≤ 357 + k ∧ 357 + k < 399 then S'.2 _ i else _) = _
      rw [if_pos ⟨by omega, by omega⟩, eg]
    · show (if 357 + k = 356 then _ else if 357 ≤ 357 + k ∧ 357 + k < 399 then S'.1 _ i else _) = _
      rw [if_neg (by omega), if_pos ⟨by omega, by omega⟩, eg]
theorem MODS.hp {C B : cS} {S : rS} (h : MODS B S) (e1 : B.1 = C.1) (e2 : B.2.1 = C.2.1) (e3 : B.2.2.1 = C.2.2.1) (e : ∀ a i, ¬ (356 ≤ a ∧ a < 399) → cI B a i = cI C a i ∧ cJ B a i = cJ C a i ∧ cR B a i = cR C a i) : cH B = rH 356 S (cH C) := by
  obtain ⟨h1, h2, h3, h4, h5⟩ := h
  refine Prod.ext e1 (Prod.ext e2 (funext fun a => ?_))
  show ((B.2.2.1 a).1, (B.2.2.1 a).2, fun i => cv B a i) = if 356 ≤ a ∧ a < 356 + 43 then rC 356 S (a - 356) else ((C.2.2.1 a).1, (C.2.2.1 a).2, fun i => cv C a i)
  by_cases q : 356 ≤ a ∧ a < 356 + 43
  · rw [if_pos q]
    by_cases q0 : a = 356
    · subst q0
      rw [h1]
      show _ = (10, 59, fun f => rV 356 S f)
      refine Prod.ext rfl (Prod.ext rfl (funext fun f => ?_))
      show cz (cK (B.2.2.1 356).1 f) (cI B 356 f) (cJ B 356 f) (cR B 356 f) = rV 356 S f
      rw [h1, rIx_k f]
      unfold rV
      cases ix : rIx f with
      | none =>
        rw [show rT.findIdx? (fun q => q.1 == f) = none from ix, h3 f ix]
        rfl
      | some k =>
        rw [show rT.findIdx? (fun q => q.1 == f) = some k from ix, h4 f k ix]
        show va_rf (some (357 + k)) = Value.ref (356 + (k + 1))
        rw [show 356 + (k + 1) = 357 + k by omega]
        rfl
    · obtain ⟨k, rfl⟩ : ∃ k, a = 357 + k := ⟨a - 357, by omega⟩
      have k42 : k < 42 := by omega
      have e42 : rT.length = 42 := by decide +kernel
      have ek : rT[k]? = some (rT[k]'(by omega)) := List.getElem?_eq_getElem (by omega)
      have m := rT_lt _ (List.getElem_mem (l := rT) (n := k) (by omega))
      generalize rT[k]'(by omega) = z at ek m
      obtain ⟨f, t, n⟩ := z
      obtain ⟨p1, p2, p3⟩ := h5 k f t n ek
      rw [show 357 + k - 356 = k + 1 by omega, p1]
      show _ = (match rT[k]? with | some (f, t, n) => _ | none => _)
      rw [ek]
      refine Prod.ext rfl (Prod.ext rfl (funext fun i => ?_))
      show cz (cK (B.2.2.1 (357 + k)).1 i) (cI B (357 + k) i) (cJ B (357 + k) i) (cR B (357 + k) i) = if t = 21 then .long (S.2 f i) else .int (S.1 f i)
      rw [p1]
      rcases m.2 with u | u | u
      · have u' : t = 20 := u
        subst u'
        rw [if_neg (by decide), p3 (by decide)]
        rfl
      · have u' : t = 21 := u
        subst u'
        rw [if_pos rfl, p2 rfl]
        rfl
      · have u' : t = 22 := u
        subst u'
        rw [if_neg (by decide), p3 (by decide)]
        rfl
  · rw [if_neg q, e3]
    refine Prod.ext rfl (Prod.ext rfl (funext fun i => ?_))
    obtain ⟨w1, w2, w3⟩ := e a i (by omega)
    show cz (cK (B.2.2.1 a).1 i) (cI B a i) (cJ B a i) (cR B a i) = cz (cK (C.2.2.1 a).1 i) (cI C a i) (cJ C a i) (cR C a i)
    rw [w1, w2, w3, e3]
theorem mput_ne (C : cS) (S : rS) {a i : Nat} (h : ¬ (356 ≤ a ∧ a < 399)) : cI (mput C S) a i = cI C a i ∧ cJ (mput C S) a i = cJ C a i ∧ cR (mput C S) a i = cR C a i := by
  refine ⟨?_, ?_, rfl⟩
  · show (if a = 356 then _ else if 357 ≤ a ∧ a < 399 then _ else cI C a i) = _
    rw [if_neg (by omega), if_neg (by omega)]
  · show (if 357 ≤ a ∧ a < 399 then _ else cJ C a i) = _
    rw [if_neg (by omega)]
theorem mput_le (C : cS) (S : rS) : cle C (mput C S) := cle_same rfl rfl
/-- a call of the reference inside the typed heap -/
theorem rM.c {g : am_P} {l : Launch} {d : Nat} {e : am_E} {as : List Value} {C : cS} {S : rS} {K : Option Value → rS → Prop} {K' : Option Value → cS → Prop} (m : MODS C S) (h : rM (g, l, 356, cH C) d e as S K) (f : ∀ v S', K v S' → K' v (mput C S')) : cM (g, l) d e as C K' := by
  unfold rM at h
  rw [← m.hp rfl rfl rfl fun _ _ _ => ⟨rfl, rfl, rfl⟩] at h
  refine am_Mt.mono h fun v h' ⟨S', h1, h2⟩ => ⟨mput C S', ?_, f v S' h2⟩
  rw [h1]
  exact (MODS.hp (C := C) (B := mput C S') (m.put (S' := S')) rfl rfl rfl fun a i q => mput_ne C S' q).symm
theorem MODS.ok {C : cS} {S : rS} (m : MODS C S) (g : am_P) (l : Launch) : rOK (g, l, 356, cH C) := ⟨(by decide : (356 : Nat) ≠ 0), by have := m.2.1; show 356 + 43 ≤ C.1; omega⟩
theorem MODS.w {C B : cS} {S : rS} (h : MODS C S) (le : cle C B) (e : ∀ a i, 356 ≤ a → a < 399 → cI B a i = cI C a i ∧ cJ B a i = cJ C a i ∧ cR B a i = cR C a i) : MODS B S := by
  obtain ⟨h1, h2, h3, h4, h5⟩ := h
  refine ⟨by rw [le.2 356 (by omega)]; exact h1, Nat.le_trans h2 le.1, fun f q => by rw [(e 356 f (by omega) (by omega)).1]; exact h3 f q, fun f k q => by rw [(e 356 f (by omega) (by omega)).2.2]; exact h4 f k q, fun k f t n q => ?_⟩
  have k42 : k < 42 := (List.getElem?_eq_some_iff.mp q).1
  obtain ⟨p1, p2, p3⟩ := h5 k f t n q
  exact ⟨by rw [le.2 _ (by omega)]; exact p1, fun u i => by rw [(e (357 + k) i (by omega) (by omega)).2.1]; exact p2 u i, fun u i => by rw [(e (357 + k) i (by omega) (by omega)).1]; exact p3 u i⟩
/-- all but the reference's cells and the answer's stands -/
def vfr (A B : cS) : Prop := cle A B ∧ ∀ a i, a < A.1 → ¬ (356 ≤ a ∧ a < 400) → cI B a i = cI A a i ∧ cJ B a i = cJ A a i ∧ cR B a i = cR A a i
theorem CI.v {C B : cS} {A : xA} (k : CI C A) (v : vfr C B) : CI B A := by
  obtain ⟨⟨nbf, nbh, o⟩, k1, k2, k3, k4, k5⟩ := k
  have h400 : 400 ≤ C.1 := o.1.2.2.2.2.2.2.2.2.2.2
  have lo : ∀ a i, a < 356 → cI B a i = cI C a i ∧ cJ B a i = cJ C a i ∧ cR B a i = cR C a i := fun a i q => v.2 a i (by omega) (by omega)
  obtain ⟨a1, a2, a3, a4, a5, a6, a7, a8, a9, a10⟩ := o
  have hf : hfr C B := ⟨v.1, fun a i q1 q2 => v.2 a i q2 (by omega)⟩
  have e4 : ∀ i, i < 3 → cR B 4 i = cR C 4 i := fun i _ => (lo 4 i (by omega)).2.2
  have hT : TXT B A.1.1 A.1.2 := by
    obtain ⟨t1, t2, t3, t4, t5⟩ := a1.2.2.2.2.2.2.2.2.2.1
    refine ⟨t1.le v.1, by rw [(lo 2 0 (by omega)).2.2]; exact t2, t3.le v.1, by rw [(lo 2 1 (by omega)).1]; exact t4, fun i hi => ?_⟩
    obtain ⟨y, y1, y2⟩ := t5 i hi
    exact ⟨y, y1, by rw [(lo 3 i (by omega)).1]; exact y2⟩
  have hTop : TOP B A.1.1 A.1.2 := by
    obtain ⟨h1, h2, h3, h4, h5, h6, h7, h8, h9, h10, h11⟩ := a1
    have va : ∀ t, 10 ≤ t → t < 356 → VA C t → VA B t := fun t q1 q2 h => ⟨h.1.le v.1, by rw [(lo t 0 q2).2.2]; exact h.2.1, h.2.2.le v.1⟩
    have fa : ∀ t, 12 ≤ t → t + 5 < 356 → FA C t → FA B t := fun t q1 q2 h => ⟨h.1.le v.1, by rw [(lo t 2 (by omega)).2.2]; exact h.2.1, by rw [(lo t 3 (by omega)).2.2]; exact h.2.2.1, va _ (by omega) (by omega) h.2.2.2.1, va _ (by omega) (by omega) h.2.2.2.2⟩
    refine ⟨h1.le v.1, by rw [(lo 1 0 (by omega)).2.2]; exact h2, by rw [(lo 1 1 (by omega)).2.2]; exact h3, by rw [(lo 1 2 (by omega)).2.2]; exact h4, by rw [(lo 1 3 (by omega)).2.2]; exact h5, by rw [(lo 1 4 (by omega)).2.2]; exact h6, va 346 (by omega) (by omega) h7, va 348 (by omega) (by omega) h8, ?_, hT, Nat.le_trans h11 v.1.1⟩
    obtain ⟨c1, c2, c3, c4, c5, c6, c7, c8, c9, c10, c11, c12, c13⟩ := h9
    exact ⟨c1.le v.1, by rw [(lo 5 0 (by omega)).2.2]; exact c2, by rw [(lo 5 1 (by omega)).2.2]; exact c3, by rw [(lo 5 2 (by omega)).2.2]; exact c4, by rw [(lo 5 3 (by omega)).2.2]; exact c5, by rw [(lo 5 4 (by omega)).2.2]; exact c6, c7.le v.1, c8.le v.1, c9.le v.1, c10.le v.1, va 10 (by omega) (by omega) c11, fun i hi => ⟨by rw [(lo 6 i (by omega)).2.2]; exact (c12 i hi).1, fa _ (by omega) (by omega) (c12 i hi).2⟩, fun s hs => ⟨by rw [(lo 7 s (by omega)).2.2]; exact (c13 s hs).1, va _ (by omega) (by omega) (c13 s hs).2⟩⟩
  refine ⟨⟨nbf, nbh, hTop, a2.h hf e4, a3.h hf e4 a2.ge v.1.1, by rw [(lo 1 5 (by omega)).2.2]; exact a4, by rw [(lo 1 6 (by omega)).2.2]; exact a5, a6.c v.1 (fun i => (lo 350 i (by omega)).2.2) (fun a i q1 q2 => (lo a i (by omega)).1), a7.le v.1, ⟨by rw [(lo 355 0 (by omega)).1]; exact a8.1, by rw [(lo 355 1 (by omega)).1]; exact a8.2⟩, by rw [(lo 1 7 (by omega)).2.2]; exact a9, fun b hb => ⟨(a10 b hb).1.h hf, Nat.lt_of_lt_of_le (a10 b hb).2 v.1.1⟩⟩, by rw [(lo 1 8 (by omega)).1]; exact k1, by rw [(lo 1 9 (by omega)).1]; exact k2, by rw [(lo 1 10 (by omega)).1]; exact k3, by rw [(lo 1 11 (by omega)).1]; exact k4, fun q => ?_⟩
  rw [gvn_eq (lo 346 1 (by omega)).1 (fun i => (lo 347 i (by omega)).2.1), gvn_eq (lo 348 1 (by omega)).1 (fun i => (lo 349 i (by omega)).2.1)]
  exact k5 q
