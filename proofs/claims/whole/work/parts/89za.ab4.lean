/-! The reference's check and define on the state of both sides. -/
def cAns (V : vT) (p : Nat) : Int32 := if V.1 ≠ 0 then -1 else nI (av V p)
theorem ans_eq {w : Nat → Int64} {g : nV} {V : vT} (h : vw w g) (e : vwE V g) {p : Nat} (hp : p < 14) : rAns w p = cAns V p := by
  unfold rAns cAns
  rw [vw_imp h]
  by_cases q : V.1 = 0
  · have n : ¬ nImp g = true := fun z => (e.1.mpr z) q
    rw [if_neg n, if_neg (fun z => z q), h.2 p (by omega)]
    have := e.2 q (p / 7) (by omega) (p % 7) (Nat.mod_lt _ (by decide))
    rw [show 7 * (p / 7) + p % 7 = p by omega] at this
    rw [this]
  · rw [if_pos (e.1.mp q), if_pos q]
theorem pDef_ty {ch : Nat → Option Nat} {fd : Nat → Bool} {i ty x : Nat} {s : pS} (h : pDef ch fd = .inr (i, ty, x, s)) : ty ≠ 0 := by
  unfold pDef at h
  (repeat' split at h) <;> first | (cases h; done) | (cases h; assumption)
section RXD
variable {c : rX} {D : Nat} {S : rS} {K : Option Value → rS → Prop} {A : xA}
theorem fdO_fx (fx : fnT) : ∀ i, i < 3 → fdO fx i = true → (fx i).isSome = true := fun _ _ h => h
theorem RI.p {S S' : rS} {A : xA} {h' : xH} (k : RI S A) (p : pfx S S') (h : RH S' h') : RI S' (A.1, A.2.1, h', A.2.2.2) :=
  ⟨k.1.c fun f i q => p f i (by unfold pst; omega), k.2.1.c fun f i q => p f i (by unfold pst; omega), h, k.2.2.2.c fun f i q => p f i (by unfold pst; omega)⟩
theorem RH.fl {S S' : rS} {h : xH} (k : RH S h) {v : Int32} (e : ∀ f i, ((f = 18 ∨ f = 19) ∧ i = 0) ∨ (4 ≤ f ∧ f ≤ 9 ∧ 192 ≤ i ∧ i < 256) ∨ (f = 10 ∧ i = 3) → S'.1 f i = S.1 f i) (e57 : S'.2 57 = S.2 57) (e58 : S'.2 58 = S.2 58) (e1 : S'.1 1 0 = v) : RH S' (h.1, h.2.1, v, h.2.2.2) := by
  obtain ⟨k1, k2, k3, k4, k5⟩ := k
  refine ⟨by rw [e 18 0 (by omega)]; exact k1, by rw [e 19 0 (by omega)]; exact k2, e1, fun b q => ?_, fun q => by rw [wv_c e57, wv_c e58]; exact k5 q⟩
  obtain ⟨⟨z, z1, z2⟩, z3⟩ := k4 b q
  exact ⟨⟨z, z1, rTr_cong z2 fun f j q1 q2 q3 q4 => e f j (by omega)⟩, by rw [e 10 3 (by omega)]; exact z3⟩
theorem r_chk (ho : rOK c) (k : RI S A) (a : AI A)
    (k1 : ∀ e, pExpr A.1.1 (fdO A.2.1.1) = .inl e → ∀ S', S'.1 0 0 = 1 → RI S' (A.1, A.2.1, (A.2.2.1.1, A.2.2.1.2.1, nI e, A.2.2.1.2.2.2), A.2.2.2) → K (some (.int 0)) S')
    (k2 : ∀ s e, pExpr A.1.1 (fdO A.2.1.1) = .inr s → ckE A.2.1.1 s = .inl e → ∀ S', S'.1 0 0 = 2 → RI S' (A.1, A.2.1, (some (s.2.2.2, s.2.2.1 - 1), false, nI e, A.2.2.1.2.2.2), A.2.2.2) → K (some (.int 0)) S')
    (k3 : ∀ s g, pExpr A.1.1 (fdO A.2.1.1) = .inr s → ckE A.2.1.1 s = .inr g → ∀ S', S'.1 0 0 = 0 → RI S' (A.1, A.2.1, (some (s.2.2.2, s.2.2.1 - 1), true, -1, cAns g.2.2.1, cAns g.2.2.2), A.2.2.2) → K (some (.int (nI g.1))) S') :
    rM c (D + 7) eX10_check [.ref c.2.2.1] S K := by
  have hc := a.1
  refine r_check ho (fdO_fx A.2.1.1) hc k.1 k.2.1.1 (fun e he S' p q2 q3 q4 q5 q6 q7 q8 => ?_) (fun s e he he' hn S' p q57 q58 t q3 q4 q5 q6 q7 => ?_) (fun s F he he' hn S' p q57 q58 t q3 q4 q5 q6 q7 => ?_)
  · refine k1 e he S' q7 (k.p p (k.2.2.1.fl (fun f i q => ?_) (by rw [q2]) (by rw [q2]) q8))
    rcases q with ⟨rfl | rfl, rfl⟩ | q | q
    · exact q5
    · exact q6
    · exact q3 f i q.1 q.2.1 q.2.2.2
    · rw [q.1, q.2]; exact q4
  · obtain ⟨w, z, z60, wN, np⟩ := rd_wt hc smE_sc he'
    have lt := rTr_lt t
    rcases eqE a.2.1.1 w wN with ⟨e', c1, c2⟩ | ⟨G, G', c1, c2, _⟩
    · have : e' = e := by have := c2.symm.trans hn; cases this; rfl
      subst this
      refine k2 s e' he c1 S' q6 (k.p p ⟨q4, q5, q7, fun b hb => ?_, fun z => (by cases z)⟩)
      cases hb
      exact ⟨⟨_, by omega, t⟩, q3⟩
    · have := c2.symm.trans hn
      cases this
  · obtain ⟨w, z, z60, wN, np⟩ := rd_wt hc smE_sc he'
    have lt := rTr_lt t
    rcases eqE a.2.1.1 w wN with ⟨e', c1, c2⟩ | ⟨G, G', c1, c2, c3, c4, c5⟩
    · have := c2.symm.trans hn
      cases this
    · have : G' = F := by have := c2.symm.trans hn; cases this; rfl
      subst this
      rw [← c3]
      refine k3 s G he c1 S' q6 (k.p p ⟨q4, q5, q7, fun b hb => ?_, fun _ => ⟨q57.1, q58.1, fun p hp => ⟨ans_eq q57 c4 hp, ans_eq q58 c5 hp⟩⟩⟩)
      cases hb
      exact ⟨⟨_, by omega, t⟩, q3⟩
theorem hfx.RI {S S' : rS} {A : xA} {v : Int32} (k : RI S A) (h : hfx S S') (e1 : S'.1 1 0 = v) : RI S' (A.1, A.2.1, (A.2.2.1.1, A.2.2.1.2.1, v, A.2.2.1.2.2.2), A.2.2.2) := by
  refine k.p h.1 (k.2.2.1.fl (fun f i q => ?_) h.2.1 h.2.2.1 e1)
  rcases q with ⟨rfl | rfl, rfl⟩ | q | q
  · exact h.2.2.2.2.2.1
  · exact h.2.2.2.2.2.2
  · exact h.2.2.2.1 f i q.1 q.2.1 q.2.2.2
  · rw [q.1, q.2]; exact h.2.2.2.2.1
/-- a function more -/
def fAdd (F : xF) (j ty x : Nat) (s : pS) (g : gF) : xF := (up F.1 j (some (ty, g.1, g.2.2.1.2 0, g.2.2.2.2 0)), up F.2.1 j (some (s.2.2.2, s.2.2.1 - 1)), up F.2.2.1 j x, up F.2.2.2 j (cnt F.1))
theorem r_def (ho : rOK c) (k : RI S A) (a : AI A) (hg : ∀ j ty x s g, pDef A.1.1 (fdO A.2.1.1) = .inr (j, ty, x, s) → ckD A.2.1.1 ty s = .inr g → g.1 < 32)
    (k1 : ∀ e, pDef A.1.1 (fdO A.2.1.1) = .inl e → ∀ S', S'.1 0 0 = 1 → RI S' (A.1, A.2.1, (A.2.2.1.1, A.2.2.1.2.1, nI e, A.2.2.1.2.2.2), A.2.2.2) → K (some (.int 0)) S')
    (k2 : ∀ j ty x s e, pDef A.1.1 (fdO A.2.1.1) = .inr (j, ty, x, s) → ckD A.2.1.1 ty s = .inl e → ∀ S', S'.1 0 0 = 2 → RI S' (A.1, A.2.1, (A.2.2.1.1, A.2.2.1.2.1, nI e, A.2.2.1.2.2.2), A.2.2.2) → K (some (.int 0)) S')
    (k3 : ∀ j ty x s g, pDef A.1.1 (fdO A.2.1.1) = .inr (j, ty, x, s) → ckD A.2.1.1 ty s = .inr g → ∀ S', S'.1 0 0 = 0 → RI S' (A.1, fAdd A.2.1 j ty x s g, (A.2.2.1.1, A.2.2.1.2.1, -1, A.2.2.1.2.2.2), A.2.2.2) → K (some (.int (nI g.1))) S') :
    rM c (D + 7) eX10_define [.ref c.2.2.1] S K := by
  have hc := a.1
  refine r_define ho (fdO_fx A.2.1.1) hc k.1 k.2.1.1 (fun e he S' p q0 q1 => k1 e he S' q0 (hfx.RI k p q1)) (fun j ty x s e he he' hn S' p q0 q1 => ?_) (fun j ty x s F he he' hn S' p q12 q13 q14 q15 q16 t q10 q0 q1 => ?_)
  · obtain ⟨d1, d2, d3, d4, d5, _⟩ := pDef_ok he
    obtain ⟨w, z, z60, wN, np⟩ := rd_wt hc (smD_sc x) he'
    rcases eqD a.2.1.1 d5 d3 (pDef_ty he) w wN with ⟨e', c1, c2⟩ | ⟨G, G', c1, c2, _⟩
    · have : e' = e := by have := c2.symm.trans hn; cases this; rfl
      subst this
      exact k2 j ty x s e' he c1 S' q0 (hfx.RI k p q1)
    · have := c2.symm.trans hn
      cases this
  · obtain ⟨d1, d2, d3, d4, d5, _⟩ := pDef_ok he
    obtain ⟨w, z, z60, wN, np⟩ := rd_wt hc (smD_sc x) he'
    have lt := rTr_lt t
    rcases eqD a.2.1.1 d5 d3 (pDef_ty he) w wN with ⟨e', c1, c2⟩ | ⟨G, G', c1, c2, c3, c4, c5⟩
    · have := c2.symm.trans hn
      cases this
    · have : G' = F := by have := c2.symm.trans hn; cases this; rfl
      subst this
      rw [← c3]
      obtain ⟨p1, p57, p58, p4, p10, p18, p19⟩ := p
      have jj : ∀ i, i < 3 → i ≠ j → 64 * i + 64 ≤ 64 * j ∨ 64 * j + 64 ≤ 64 * i := fun i _ _ => by omega
      refine k3 j ty x s G he c1 S' q0 ⟨⟨?_, fun i hi => ?_, fun i hi => ?_⟩, ⟨fun i hi pt kk y no q => ?_, fun i hi b q => ?_⟩, ?_, ?_⟩
      · rw [p1 2 0 (by unfold pst; omega) (by omega) (by omega) (by omega) (by omega)]; exact k.1.1
      · obtain ⟨y, y1, y2⟩ := k.1.2.1 i hi
        exact ⟨y, y1, by rw [p1 3 i (by unfold pst; omega) (by omega) (by omega) (by omega) (by omega)]; exact y2⟩
      · show _ = if (up A.2.1.1 j _ i).isSome = true then 1 else 0
        by_cases e : i = j
        · subst e; rw [up_same, q12]; rfl
        · rw [up_ne _ _ e, p1 12 i (by unfold pst; omega) (by omega) (by omega) (by omega) (by omega)]; exact k.1.2.2 i hi
      · have q' : up A.2.1.1 j (some (ty, G.1, G.2.2.1.2 0, G.2.2.2.2 0)) i = some (pt, kk, y, no) := q
        by_cases e : i = j
        · subst e
          rw [up_same] at q'
          cases q'
          exact ⟨d3, hg _ _ _ _ _ he c1, q14, by rw [q15, c3], fun n hn => by rw [(q16 n hn).1, c4 n hn], fun n hn => by rw [(q16 n hn).2, c5 n hn]⟩
        · rw [up_ne _ _ e] at q'
          obtain ⟨u1, u2, u3, u4, u5, u6⟩ := k.2.1.1 i hi pt kk y no q'
          exact ⟨u1, u2, by rw [p1 14 i (by unfold pst; omega) (by omega) (by omega) (by omega) (by omega)]; exact u3, by rw [p1 15 i (by unfold pst; omega) (by omega) (by omega) (by omega) (by omega)]; exact u4, fun n hn => by rw [p1 16 _ (by unfold pst; omega) (by omega) (by omega) (by omega) (by omega)]; exact u5 n hn, fun n hn => by rw [p1 17 _ (by unfold pst; omega) (by omega) (by omega) (by omega) (by omega)]; exact u6 n hn⟩
      · have q' : up A.2.1.2.1 j (some (s.2.2.2, s.2.2.1 - 1)) i = some b := q
        show _ ∧ S'.1 10 i = _ ∧ S'.1 13 i = nI (up A.2.1.2.2.1 j x i) ∧ 2 ≤ up A.2.1.2.2.1 j x i ∧ up A.2.1.2.2.1 j x i < 8 ∧ wn b.1 7 b.2 (up sm0 (up A.2.1.2.2.1 j x i) (some 0)) ∧ _
        by_cases e : i = j
        · subst e
          rw [up_same] at q'
          cases q'
          rw [up_same]
          exact ⟨⟨_, by omega, t⟩, q10, q13, d4, d5, wN, fun m hm => (np m (by have : m ≤ s.2.2.1 - 1 := hm; omega)).2.2⟩
        · rw [up_ne _ _ e] at q'
          rw [up_ne _ _ e]
          obtain ⟨⟨u, u1, u2⟩, u3, u4, u5⟩ := k.2.1.2 i hi b q'
          have := jj i hi e
          exact ⟨⟨u, u1, rTr_cong u2 fun f m v1 v2 v3 v4 => p1 f m (by unfold pst; omega) (by omega) (by omega) (by omega) (by omega)⟩, by rw [p1 10 i (by unfold pst; omega) (by omega) (by omega) (by omega) (by omega)]; exact u3, by rw [p1 13 i (by unfold pst; omega) (by omega) (by omega) (by omega) (by omega)]; exact u4, u5⟩
      · refine k.2.2.1.fl (fun f i q => ?_) p57 p58 q1
        rcases q with ⟨rfl | rfl, rfl⟩ | q | q
        · exact p18
        · exact p19
        · exact p4 f i q.1 q.2.1 q.2.2.1 q.2.2.2
        · rw [q.1, q.2]; exact p10
      · exact k.2.2.2.c fun f i q => p1 f i (by unfold pst; omega) (by omega) (by omega) (by omega) (by omega)
end RXD
