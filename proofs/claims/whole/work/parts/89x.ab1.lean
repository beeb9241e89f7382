/-! One state for both sides; how the reference keeps it. -/
abbrev xT : Type := (Nat → Option Nat) × Nat
abbrev xF : Type := fnT × bT × (Nat → Nat) × (Nat → Nat)
abbrev xH : Type := Option ((Nat → nd) × Nat) × Bool × Int32 × (Nat → Int32) × (Nat → Int32)
abbrev xM : Type := Nat × cL × Nat × Nat × Int32 × Int32
abbrev xA : Type := xT × xF × xH × xM
def cnt (fx : fnT) : Nat := (if (fx 0).isSome = true then 1 else 0) + (if (fx 1).isSome = true then 1 else 0) + (if (fx 2).isSome = true then 1 else 0)
def npc (b : (Nat → nd) × Nat) : Prop := ∀ m, m ≤ b.2 → ((b.1 m).2.2.2.2 = [] → ∀ t, (b.1 m).2.2.2.1 = some t → 97 ≤ (b.1 m).1 ∧ (b.1 m).1 < 105) ∧ ((b.1 m).1 = 58 → 2 ≤ (b.1 m).2.2.1 ∧ (b.1 m).2.2.1 < 8)
def hOK (F : xF) (b : (Nat → nd) × Nat) : Prop := (∃ sh, wt b.1 7 b.2 0 2 sh [0, 1]) ∧ wn b.1 7 b.2 smE ∧ txO F.2.1 F.2.2.2 3 b.1 b.2 ∧ npc b
def AF (F : xF) : Prop := fnO F.1 ∧ (∀ i, i < 3 → (F.2.1 i).isSome = (F.1 i).isSome) ∧ bfO F.2.1 F.2.2.2 ∧ ∀ i, i < 3 → (F.1 i).isSome = true → F.2.2.2 i < cnt F.1
def AM (m : xM) : Prop := clO m.2.1 ∧ 13 + m.1 ≤ m.2.1.1 ∧ m.1 ≤ 40 ∧ m.2.2.1 < 13 + m.1 ∧ m.2.2.2.1 < 13 + m.1
def AH (F : xF) (h : xH) : Prop := (∀ b, h.1 = some b → hOK F b) ∧ (h.2.1 = true → h.1.isSome = true)
def AI (A : xA) : Prop := chO A.1.1 A.1.2 ∧ AF A.2.1 ∧ AH A.2.1 A.2.2.1 ∧ AM A.2.2.2
def rAns (w : Nat → Int64) (p : Nat) : Int32 := if nImp (gk w) = true then -1 else nI (gk w p)
def RT (S : rS) (t : xT) (fx : fnT) : Prop := RTX S t.1 t.2 (fdO fx)
def RF (S : rS) (F : xF) : Prop := RFX S F.1 ∧ RBD S F.2.1 F.2.2.1
def RH (S : rS) (h : xH) : Prop := S.1 18 0 = (if h.1.isSome = true then 1 else 0) ∧ S.1 19 0 = (if h.2.1 = true then 1 else 0) ∧ S.1 1 0 = h.2.2.1 ∧ (∀ b, h.1 = some b → (∃ hi, hi ≤ 256 ∧ rTr S b.1 7 192 hi b.2) ∧ S.1 10 3 = nI 192) ∧ (h.2.1 = true → okw (wv S 57 0) ∧ okw (wv S 58 0) ∧ ∀ p, p < 14 → rAns (wv S 57 0) p = h.2.2.2.1 p ∧ rAns (wv S 58 0) p = h.2.2.2.2 p)
def RM (S : rS) (m : xM) : Prop := S.1 39 0 = nI m.1 ∧ RCL S m.2.1 ∧ S.1 45 0 = nI m.2.2.1 ∧ S.1 45 1 = nI m.2.2.2.1 ∧ S.1 46 0 = m.2.2.2.2.1 ∧ S.1 47 0 = m.2.2.2.2.2
def RI (S : rS) (A : xA) : Prop := RT S A.1 A.2.1.1 ∧ RF S A.2.1 ∧ RH S A.2.2.1 ∧ RM S A.2.2.2
theorem RT.c {S S' : rS} {t : xT} {fx : fnT} (h : RT S t fx) (e : ∀ f i, f = 2 ∨ f = 3 ∨ f = 12 → S'.1 f i = S.1 f i) : RT S' t fx := by
  refine ⟨by rw [e 2 0 (by omega)]; exact h.1, fun i hi => ?_, fun i hi => by rw [e 12 i (by omega)]; exact h.2.2 i hi⟩
  obtain ⟨y, y1, y2⟩ := h.2.1 i hi
  exact ⟨y, y1, by rw [e 3 i (by omega)]; exact y2⟩
theorem RF.c {S S' : rS} {F : xF} (h : RF S F) (e : ∀ f i, (4 ≤ f ∧ f ≤ 9 ∧ i < 192) ∨ (f = 10 ∧ i < 3) ∨ (13 ≤ f ∧ f ≤ 17) → S'.1 f i = S.1 f i) : RF S' F := by
  refine ⟨fun i hi pt kk y no q => ?_, fun i hi b q => ?_⟩
  · obtain ⟨k1, k2, k3, k4, k5, k6⟩ := h.1 i hi pt kk y no q
    exact ⟨k1, k2, by rw [e 14 i (by omega)]; exact k3, by rw [e 15 i (by omega)]; exact k4, fun n hn => by rw [e 16 _ (by omega)]; exact k5 n hn, fun n hn => by rw [e 17 _ (by omega)]; exact k6 n hn⟩
  · obtain ⟨⟨z, z1, z2⟩, k2, k3, k4⟩ := h.2 i hi b q
    exact ⟨⟨z, z1, rTr_cong z2 fun f j q1 q2 q3 q4 => e f j (by omega)⟩, by rw [e 10 i (by omega)]; exact k2, by rw [e 13 i (by omega)]; exact k3, k4⟩
theorem wv_c {S S' : rS} {f i : Nat} (e : S'.2 f = S.2 f) : wv S' f i = wv S f i := by
  unfold wv
  rw [e]
theorem RH.c {S S' : rS} {h : xH} (k : RH S h) (e : ∀ f i, f = 1 ∨ f = 18 ∨ f = 19 ∨ (4 ≤ f ∧ f ≤ 9 ∧ 192 ≤ i ∧ i < 256) ∨ (f = 10 ∧ i = 3) → S'.1 f i = S.1 f i) (e57 : S'.2 57 = S.2 57) (e58 : S'.2 58 = S.2 58) : RH S' h := by
  obtain ⟨k1, k2, k3, k4, k5⟩ := k
  refine ⟨by rw [e 18 0 (by omega)]; exact k1, by rw [e 19 0 (by omega)]; exact k2, by rw [e 1 0 (by omega)]; exact k3, fun b q => ?_, fun q => by rw [wv_c e57, wv_c e58]; exact k5 q⟩
  obtain ⟨⟨z, z1, z2⟩, z3⟩ := k4 b q
  exact ⟨⟨z, z1, rTr_cong z2 fun f j q1 q2 q3 q4 => e f j (by omega)⟩, by rw [e 10 3 (by omega)]; exact z3⟩
theorem RM.c {S S' : rS} {m : xM} (k : RM S m) (e : ∀ f i, (39 ≤ f ∧ f ≤ 47) → S'.1 f i = S.1 f i) : RM S' m := by
  obtain ⟨k1, k2, k3, k4, k5, k6⟩ := k
  exact ⟨by rw [e 39 0 (by omega)]; exact k1, k2.q fun f i q1 q2 => e f i (by omega), by rw [e 45 0 (by omega)]; exact k3, by rw [e 45 1 (by omega)]; exact k4, by rw [e 46 0 (by omega)]; exact k5, by rw [e 47 0 (by omega)]; exact k6⟩
theorem RI.c {S S' : rS} {A : xA} (k : RI S A) (e : ∀ f i, f ≠ 0 → S'.1 f i = S.1 f i) (e2 : S'.2 = S.2) : RI S' A :=
  ⟨k.1.c fun f i q => e f i (by omega), k.2.1.c fun f i q => e f i (by omega), k.2.2.1.c (fun f i q => e f i (by omega)) (by rw [e2]) (by rw [e2]), k.2.2.2.c fun f i q => e f i (by omega)⟩
theorem RI.c0 {S : rS} {A : xA} (k : RI S A) (v : Int32) : RI (rsi S 0 0 v) A := k.c (fun _ _ q => rsi_ne _ _ (by omega)) rfl
section RXA
variable {c : rX} {d : Nat} {S : rS} {K : Option Value → rS → Prop} {A : xA}
theorem r_thrown (ho : rOK c) (h : K (some (.int (S.1 0 0))) S) : rM c d eX10_thrown [.ref c.2.2.1] S K := w_X10_thrown ho h
theorem r_type (ho : rOK c) (k : RI S A) (a : AI A) {x : Nat} (h0 : A.1.2 = 60 → ∀ S', RI S' A → K (some (.int 0)) S') (h1 : A.1.2 < 60 → ∀ S', RI S' ((up A.1.1 A.1.2 (some x), A.1.2 + 1), A.2) → K (some (.int 1)) S') : rM c d eX10_type [.ref c.2.2.1, .int (nI x)] S K := by
  have h2 : S.1 2 0 = nI A.1.2 := k.1.1
  have l60 := a.1.1
  refine w_X10_type ho (nI x) ?_
  rw [h2, show nI A.1.2 = 60 ↔ A.1.2 = 60 from nI_is (b := 60) (by omega) (by decide)]
  refine ⟨fun q => ⟨A.1.2, am_ix_n (by omega) (by decide), h1 (by omega) _ ⟨?_, ?_, ?_, ?_⟩⟩, fun q => h0 q _ (k.c0 _)⟩
  · refine ⟨by rw [nI_1]; exact rsi_i _ _ _ _, fun i hi => ?_, fun i hi => by rw [rsi_ne _ _ (by omega), rsi_ne _ _ (by omega), rsi_ne _ _ (by omega)]; exact k.1.2.2 i hi⟩
    by_cases e : i = A.1.2
    · subst e
      exact ⟨x, up_same _ _ _, by rw [rsi_ne _ _ (by omega), rsi_i]⟩
    · obtain ⟨y, y1, y2⟩ := k.1.2.1 i (by have : i < A.1.2 + 1 := hi; omega)
      exact ⟨y, by show up _ _ _ i = _; rw [up_ne _ _ e]; exact y1, by rw [rsi_ne _ _ (by omega), rsi_ne _ _ (by omega), rsi_ne _ _ (by omega)]; exact y2⟩
  · exact k.2.1.c fun f i q => by rw [rsi_ne _ _ (by omega), rsi_ne _ _ (by omega), rsi_ne _ _ (by omega)]
  · exact k.2.2.1.c (fun f i q => by rw [rsi_ne _ _ (by omega), rsi_ne _ _ (by omega), rsi_ne _ _ (by omega)]) rfl rfl
  · exact k.2.2.2.c fun f i q => by rw [rsi_ne _ _ (by omega), rsi_ne _ _ (by omega), rsi_ne _ _ (by omega)]
theorem r_wipe (ho : rOK c) (k : RI S A) (h : ∀ S', RI S' ((fun _ => none, 0), A.2) → K none S') : rM c d eX10_wipe [.ref c.2.2.1] S K := by
  refine w_X10_wipe ho (h _ ⟨⟨rsi_i _ _ _ _, fun i hi => absurd hi (Nat.not_lt_zero _), fun i hi => by rw [rsi_ne _ _ (by omega), rsi_ne _ _ (by omega)]; exact k.1.2.2 i hi⟩, ?_, ?_, ?_⟩)
  · exact k.2.1.c fun f i q => by rw [rsi_ne _ _ (by omega), rsi_ne _ _ (by omega)]
  · exact k.2.2.1.c (fun f i q => by rw [rsi_ne _ _ (by omega), rsi_ne _ _ (by omega)]) rfl rfl
  · exact k.2.2.2.c fun f i q => by rw [rsi_ne _ _ (by omega), rsi_ne _ _ (by omega)]
theorem r_fault (ho : rOK c) (k : RI S A) (h : ∀ S', RI S' A → K (some (.int A.2.2.1.2.2.1)) S') : rM c d eX10_fault [.ref c.2.2.1] S K := by
  refine w_X10_fault ho ?_
  rw [k.2.2.1.2.2.1]
  exact h _ (k.c0 _)
theorem r_steps (ho : rOK c) (k : RI S A) (h : ∀ S', RI S' A → K (some (.int A.2.2.2.2.2.2.2.1)) S') : rM c d eX10_steps [.ref c.2.2.1] S K := by
  refine w_X10_steps ho ?_
  rw [k.2.2.2.2.2.2.2.1]
  exact h _ (k.c0 _)
theorem r_result (ho : rOK c) (k : RI S A) (h : ∀ S', RI S' A → K (some (.int A.2.2.2.2.2.2.2.2)) S') : rM c d eX10_result [.ref c.2.2.1] S K := by
  refine w_X10_result ho ?_
  rw [k.2.2.2.2.2.2.2.2]
  exact h _ (k.c0 _)
theorem r_count (ho : rOK c) (k : RI S A) (h : ∀ S', RI S' A → K (some (.int (nI A.2.2.2.2.1.1))) S') : rM c d eX10_count [.ref c.2.2.1] S K := by
  refine w_X10_count ho ?_
  rw [k.2.2.2.2.1.1]
  exact h _ (k.c0 _)
theorem r_forget (ho : rOK c) (k : RI S A) (h : ∀ S', RI S' (A.1, (fun _ => none, fun _ => none, A.2.1.2.2), (none, false, A.2.2.1.2.2), A.2.2.2) → K none S') : rM c d eX10_forget [.ref c.2.2.1] S K := by
  refine w_X10_forget ho ?_
  have key : ∀ n m, m + n = 3 → ∀ S', S'.2 = S.2 → (∀ f i, f ≠ 0 → f ≠ 12 → S'.1 f i = S.1 f i) → (∀ i, i < m → S'.1 12 i = 0) → rG c eX10_forget d (rQ c K) 7 [some (.ref c.2.2.1), some (.int (nI m))] [] S' := by
    intro n
    induction n with
    | zero =>
      intro m hm S' e1 e2 e3
      have : m = 3 := by omega
      subst this
      refine w_X10_forget_7 ho (nI 3) ⟨fun _ => h _ ⟨⟨?_, fun i hi => ?_, fun i hi => ?_⟩, ⟨fun i hi pt kk y no z => ?_, fun i hi b z => ?_⟩, ?_, ?_⟩, fun z => absurd (by decide) z⟩
      · rw [rsi_ne _ _ (by omega), rsi_ne _ _ (by omega), e2 2 0 (by omega) (by omega)]; exact k.1.1
      · obtain ⟨y, y1, y2⟩ := k.1.2.1 i hi
        exact ⟨y, y1, by rw [rsi_ne _ _ (by omega), rsi_ne _ _ (by omega), e2 3 i (by omega) (by omega)]; exact y2⟩
      · rw [rsi_ne _ _ (by omega), rsi_ne _ _ (by omega), e3 i hi]; rfl
      · cases z
      · cases z
      · refine ⟨by rw [rsi_ne _ _ (by omega), rsi_i]; rfl, by rw [rsi_i]; rfl, by rw [rsi_ne _ _ (by omega), rsi_ne _ _ (by omega), e2 1 0 (by omega) (by omega)]; exact k.2.2.1.2.2.1, fun b z => (by cases z), fun z => (by cases z)⟩
      · exact k.2.2.2.c fun f i q => by rw [rsi_ne _ _ (by omega), rsi_ne _ _ (by omega), e2 f i (by omega) (by omega)]
    | succ n ih =>
      intro m hm S' e1 e2 e3
      have e : nI m + 1 = nI (m + 1) := nI_1 m
      refine w_X10_forget_7 ho (nI m) ⟨fun z => ?_, fun _ => ⟨m, am_ix_n (by omega) (by decide), ?_⟩⟩
      · have := (nI_leI (a := 3) (by decide) (by omega)).mp z
        omega
      · rw [e]
        refine ih (m + 1) (by omega) _ e1 (fun f i q1 q2 => by rw [rsi_ne _ _ (by omega)]; exact e2 f i q1 q2) (fun i hi => ?_)
        by_cases q : i = m
        · subst q; exact rsi_i _ _ _ _
        · rw [rsi_ne _ _ (by omega)]; exact e3 i (by omega)
  exact key 3 0 (by omega) _ rfl (fun f i q1 q2 => rsi_ne _ _ (by omega)) (fun i hi => absurd hi (Nat.not_lt_zero _))
end RXA
