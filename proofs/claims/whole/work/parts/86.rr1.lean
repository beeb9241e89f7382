/-! The reference's reader: its state, its small methods. -/
theorem rsi_i (S : rS) (f i : Nat) (v : Int32) : (rsi S f i v).1 f i = v := by simp [rsi]
theorem rsi_ne (S : rS) {f i f' i' : Nat} (v : Int32) (h : ¬ (f' = f ∧ i' = i)) : (rsi S f i v).1 f' i' = S.1 f' i' := by
  simp only [rsi]
  by_cases e : f' = f
  · rw [if_pos e]
    by_cases e2 : i' = i
    · exact absurd ⟨e, e2⟩ h
    · rw [if_neg e2, e]
  · rw [if_neg e]
/-- the names in scope, as bits -/
def SCP (S : rS) (sm : Nat → Option Nat) : Prop := ∃ mk, mk < 256 ∧ S.1 22 0 = nI mk ∧ ∀ x, x < 8 → mk.testBit x = (sm x).isSome
theorem m_get : ∀ mk, mk < 256 → ∀ x, x < 8 → ((nI mk >>> (nI x &&& 31)) &&& 1 = 1 ↔ mk.testBit x = true) := by decide +kernel
theorem m_set : ∀ mk, mk < 256 → ∀ x, x < 8 → nI mk ||| (1 <<< (nI x &&& 31)) = nI (mk ||| 2 ^ x) := by decide +kernel
theorem m_clr : ∀ mk, mk < 256 → ∀ x, x < 8 → nI mk &&& ((1 <<< (nI x &&& 31)) ^^^ (-1)) = nI (mk &&& (255 - 2 ^ x)) := by decide +kernel
theorem m_full : ∀ mk, mk < 256 → ((nI mk >>> (2 &&& 31)) &&& 63 = 63 ↔ (mk.testBit 2 && mk.testBit 3 && mk.testBit 4 && mk.testBit 5 && mk.testBit 6 && mk.testBit 7) = true) := by decide +kernel
theorem m_sb : ∀ mk, mk < 256 → ∀ x, x < 8 → (mk ||| 2 ^ x < 256 ∧ ∀ y, y < 8 → (mk ||| 2 ^ x).testBit y = (mk.testBit y || decide (y = x))) := by decide +kernel
theorem m_cb : ∀ mk, mk < 256 → ∀ x, x < 8 → (mk &&& (255 - 2 ^ x) < 256 ∧ ∀ y, y < 8 → (mk &&& (255 - 2 ^ x)).testBit y = (mk.testBit y && !decide (y = x))) := by decide +kernel
theorem SCP.get {S : rS} {sm : Nat → Option Nat} (h : SCP S sm) {x : Nat} (hx : x < 8) : ((S.1 22 0 >>> (nI x &&& 31)) &&& 1 = 1) ↔ (sm x).isSome = true := by
  obtain ⟨mk, h1, h2, h3⟩ := h
  rw [h2, m_get mk h1 x hx, h3 x hx]
theorem SCP.set {S S' : rS} {sm : Nat → Option Nat} (h : SCP S sm) {x : Nat} {o : Option Nat} (hx : x < 8) (ho : o.isSome = true) (e : S'.1 22 0 = S.1 22 0 ||| (1 <<< (nI x &&& 31))) : SCP S' (up sm x o) := by
  obtain ⟨mk, h1, h2, h3⟩ := h
  obtain ⟨b1, b2⟩ := m_sb mk h1 x hx
  refine ⟨mk ||| 2 ^ x, b1, by rw [e, h2, m_set mk h1 x hx], fun y hy => ?_⟩
  rw [b2 y hy, h3 y hy]
  by_cases z : y = x
  · subst z; rw [up_same, ho, decide_eq_true rfl, Bool.or_true]
  · rw [up_ne _ _ z, decide_eq_false z, Bool.or_false]
theorem SCP.clr {S S' : rS} {sm : Nat → Option Nat} (h : SCP S sm) {x : Nat} (hx : x < 8) (e : S'.1 22 0 = S.1 22 0 &&& ((1 <<< (nI x &&& 31)) ^^^ (-1))) : SCP S' (up sm x none) := by
  obtain ⟨mk, h1, h2, h3⟩ := h
  obtain ⟨b1, b2⟩ := m_cb mk h1 x hx
  refine ⟨mk &&& (255 - 2 ^ x), b1, by rw [e, h2, m_clr mk h1 x hx], fun y hy => ?_⟩
  rw [b2 y hy, h3 y hy]
  by_cases z : y = x
  · subst z; rw [up_same, decide_eq_true rfl, Bool.not_true, Bool.and_false]; rfl
  · rw [up_ne _ _ z, decide_eq_false z, Bool.not_false, Bool.and_true]
theorem SCP.full {S : rS} {sm : Nat → Option Nat} (h : SCP S sm) : ((S.1 22 0 >>> (2 &&& 31)) &&& 63 = 63) ↔ ¬ hasF sm = true := by
  obtain ⟨mk, h1, h2, h3⟩ := h
  rw [h2, m_full mk h1, h3 2 (by decide), h3 3 (by decide), h3 4 (by decide), h3 5 (by decide), h3 6 (by decide), h3 7 (by decide)]
  unfold hasF
  rw [show List.range 6 = [0, 1, 2, 3, 4, 5] from rfl]
  simp only [List.any_cons, List.any_nil, Bool.or_false]
  cases sm 2 <;> cases sm 3 <;> cases sm 4 <;> cases sm 5 <;> cases sm 6 <;> cases sm 7 <;> simp
theorem SCP.cong {S S' : rS} {sm : Nat → Option Nat} (h : SCP S sm) (e : S'.1 22 0 = S.1 22 0) : SCP S' sm := by
  obtain ⟨mk, h1, h2, h3⟩ := h
  exact ⟨mk, h1, by rw [e]; exact h2, h3⟩
theorem SCP.back {S : rS} {sm : Nat → Option Nat} {x : Nat} {o : Option Nat} (hn : sm x = none) (h : SCP S (up (up sm x o) x none)) : SCP S sm := by
  have e : up (up sm x o) x none = sm := by
    funext y
    by_cases z : y = x
    · subst z; rw [up_same, hn]
    · rw [up_ne _ _ z, up_ne _ _ z]
  rw [e] at h
  exact h
/-- the text and which functions are there -/
def RTX (S : rS) (ch : Nat → Option Nat) (len : Nat) (fd : Nat → Bool) : Prop := S.1 2 0 = nI len ∧ (∀ i, i < len → ∃ y, ch i = some y ∧ S.1 3 i = nI y) ∧ ∀ i, i < 3 → S.1 12 i = if fd i = true then 1 else 0
/-- a reader in the midst of a text -/
def RRD (S : rS) (ch : Nat → Option Nat) (len : Nat) (fd : Nat → Bool) (sm : Nat → Option Nat) (s : pS) (dp : Nat) : Prop := RTX S ch len fd ∧ S.1 20 0 = nI s.1 ∧ S.1 21 0 = nI dp ∧ S.1 23 0 = 0 ∧ S.1 11 4 = nI s.2.2.1 ∧ SCP S sm
/-- what reading changes: nodes from k on, brackets from d on -/
def rfr (k d : Nat) (S S' : rS) : Prop := S'.2 = S.2 ∧ (∀ f i, ¬ (4 ≤ f ∧ f ≤ 9) → ¬ (f = 11 ∧ i = 4) → ¬ (20 ≤ f ∧ f ≤ 24) → S'.1 f i = S.1 f i) ∧ (∀ f i, i < 256 + k → 4 ≤ f → f ≤ 9 → S'.1 f i = S.1 f i) ∧ ∀ i, i < d → S'.1 24 i = S.1 24 i
theorem rfr.refl (k d : Nat) (S : rS) : rfr k d S S := ⟨rfl, fun _ _ _ _ _ => rfl, fun _ _ _ _ _ => rfl, fun _ _ => rfl⟩
theorem rfr.trans {k d : Nat} {A B C : rS} (h : rfr k d A B) (j : rfr k d B C) : rfr k d A C := ⟨j.1.trans h.1, fun f i q1 q2 q3 => (j.2.1 f i q1 q2 q3).trans (h.2.1 f i q1 q2 q3), fun f i q1 q2 q3 => (j.2.2.1 f i q1 q2 q3).trans (h.2.2.1 f i q1 q2 q3), fun i q => (j.2.2.2 i q).trans (h.2.2.2 i q)⟩
theorem rfr.mono {k d k' d' : Nat} {A B : rS} (h : rfr k d A B) (h1 : k' ≤ k) (h2 : d' ≤ d) : rfr k' d' A B := ⟨h.1, h.2.1, fun f i q => h.2.2.1 f i (by omega), fun i q => h.2.2.2 i (by omega)⟩
theorem RTX.r {k d : Nat} {A B : rS} {ch : Nat → Option Nat} {len : Nat} {fd : Nat → Bool} (h : RTX A ch len fd) (j : rfr k d A B) : RTX B ch len fd := by
  refine ⟨by rw [j.2.1 2 0 (by omega) (by omega) (by omega)]; exact h.1, fun i hi => ?_, fun i hi => by rw [j.2.1 12 i (by omega) (by omega) (by omega)]; exact h.2.2 i hi⟩
  obtain ⟨y, y1, y2⟩ := h.2.1 i hi
  exact ⟨y, y1, by rw [j.2.1 3 i (by omega) (by omega) (by omega)]; exact y2⟩
/-- the sign and what stands with it -/
def sgn (x : nd) : Nat := if x.2.2.2.2 = [] then (match x.2.2.2.1 with
    | some _ => 97
    | none => if 48 ≤ x.1 ∧ x.1 ≤ 57 then 48 else x.1) else x.1
def wht (x : nd) : Nat := if x.2.2.2.2 = [] then (match x.2.2.2.1 with
    | some _ => x.1 - 97
    | none => if 48 ≤ x.1 ∧ x.1 ≤ 57 then x.1 - 48 else 0) else if x.1 = 58 then x.2.2.1 else 0
/-- the reference's node r stands for the node m of a table; its parts are the nodes up to hi -/
def rTr (S : rS) (T : Nat → nd) : Nat → Nat → Nat → Nat → Prop
  | 0, _, _, _ => False
  | k + 1, r, hi, m => S.1 4 r = nI (sgn (T m)) ∧ S.1 8 r = nI (wht (T m)) ∧ S.1 9 r = nI (T m).2.1 ∧ match (T m).2.2.2.2 with
    | [] => S.1 5 r = -1 ∧ S.1 6 r = -1 ∧ S.1 7 r = -1 ∧ hi = r + 1
    | [a] => S.1 5 r = nI (r + 1) ∧ S.1 6 r = -1 ∧ S.1 7 r = -1 ∧ rTr S T k (r + 1) hi a
    | [a, b] => ∃ h1, S.1 5 r = nI (r + 1) ∧ S.1 6 r = nI h1 ∧ S.1 7 r = -1 ∧ rTr S T k (r + 1) h1 a ∧ rTr S T k h1 hi b
    | [a, b, c] => ∃ h1 h2, S.1 5 r = nI (r + 1) ∧ S.1 6 r = nI h1 ∧ S.1 7 r = nI h2 ∧ rTr S T k (r + 1) h1 a ∧ rTr S T k h1 h2 b ∧ rTr S T k h2 hi c
    | _ => False
theorem rTr_lt {S : rS} {T : Nat → nd} : ∀ {k r hi m : Nat}, rTr S T k r hi m → r < hi
  | 0, _, _, _, h => absurd h id
  | k + 1, r, hi, m, h => by
    obtain ⟨_, _, _, h4⟩ := h
    generalize (T m).2.2.2.2 = l at h4
    rcases l with _ | ⟨a, _ | ⟨b, _ | ⟨c', _ | ⟨d', l⟩⟩⟩⟩
    · have := h4.2.2.2; omega
    · have := rTr_lt h4.2.2.2; omega
    · obtain ⟨h1, _, _, _, q1, q2⟩ := h4
      have := rTr_lt q1
      have := rTr_lt q2
      omega
    · obtain ⟨h1, h2, _, _, _, q1, q2, q3⟩ := h4
      have := rTr_lt q1
      have := rTr_lt q2
      have := rTr_lt q3
      omega
    · exact absurd h4 id
theorem rTr_cong {S S' : rS} {T : Nat → nd} : ∀ {k r hi m : Nat}, rTr S T k r hi m → (∀ f i, 4 ≤ f → f ≤ 9 → r ≤ i → i < hi → S'.1 f i = S.1 f i) → rTr S' T k r hi m
  | 0, _, _, _, h, _ => h
  | k + 1, r, hi, m, h, e => by
    have lt := rTr_lt h
    obtain ⟨a1, a2, a3, h4⟩ := h
    refine ⟨by rw [e 4 r (by omega) (by omega) (by omega) lt]; exact a1, by rw [e 8 r (by omega) (by omega) (by omega) lt]; exact a2, by rw [e 9 r (by omega) (by omega) (by omega) lt]; exact a3, ?_⟩
    have e5 := e 5 r (by omega) (by omega) (by omega) lt
    have e6 := e 6 r (by omega) (by omega) (by omega) lt
    have e7 := e 7 r (by omega) (by omega) (by omega) lt
    generalize (T m).2.2.2.2 = l at h4 ⊢
    rcases l with _ | ⟨a, _ | ⟨b, _ | ⟨c', _ | ⟨d', l⟩⟩⟩⟩
    · simp only at h4 ⊢
      rw [e5, e6, e7]; exact h4
    · simp only at h4 ⊢
      rw [e5, e6, e7]
      exact ⟨h4.1, h4.2.1, h4.2.2.1, rTr_cong h4.2.2.2 fun f i q1 q2 q3 q4 => e f i q1 q2 (by omega) q4⟩
    · simp only at h4 ⊢
      obtain ⟨h1, b1, b2, b3, q1, q2⟩ := h4
      have l1 := rTr_lt q1
      have l2 := rTr_lt q2
      exact ⟨h1, by rw [e5]; exact b1, by rw [e6]; exact b2, by rw [e7]; exact b3, rTr_cong q1 fun f i z1 z2 z3 z4 => e f i z1 z2 (by omega) (by omega), rTr_cong q2 fun f i z1 z2 z3 z4 => e f i z1 z2 (by omega) (by omega)⟩
    · simp only at h4 ⊢
      obtain ⟨h1, h2, b1, b2, b3, q1, q2, q3⟩ := h4
      have l1 := rTr_lt q1
      have l2 := rTr_lt q2
      have l3 := rTr_lt q3
      exact ⟨h1, h2, by rw [e5]; exact b1, by rw [e6]; exact b2, by rw [e7]; exact b3, rTr_cong q1 fun f i z1 z2 z3 z4 => e f i z1 z2 (by omega) (by omega), rTr_cong q2 fun f i z1 z2 z3 z4 => e f i z1 z2 (by omega) (by omega), rTr_cong q3 fun f i z1 z2 z3 z4 => e f i z1 z2 (by omega) (by omega)⟩
    · exact absurd h4 id
theorem rTr_congT {S : rS} {T T' : Nat → nd} : ∀ {k r hi m lo sl sh : Nat} {sc : List Nat}, wt T k m lo sl sh sc → rTr S T k r hi m → (∀ i, i ≤ m → T' i = T i) → rTr S T' k r hi m
  | 0, _, _, _, _, _, _, _, w, _, _ => absurd w id
  | k + 1, r, hi, m, lo, sl, sh, sc, w, h, e => by
    have em := e m (Nat.le_refl _)
    unfold rTr at h ⊢
    rw [em]
    refine ⟨h.1, h.2.1, h.2.2.1, ?_⟩
    have h4 := h.2.2.2
    by_cases ne : (T m).2.2.2.2 = []
    · rw [ne] at h4 ⊢; exact h4
    · obtain ⟨mm, m1, m2, m3, m4, m5⟩ := wt_inv w ne
      rcases m5 with ⟨_, b1⟩ | ⟨_, b1, b2, b3⟩ | ⟨_, b1, b2, b3, b4, b5, b6⟩ | ⟨_, b1, b2, b3, m', b4, b5, b6, b7⟩
      · rw [b1] at h4 ⊢
        exact ⟨h4.1, h4.2.1, h4.2.2.1, rTr_congT m2 h4.2.2.2 fun i hi => e i (by omega)⟩
      · rw [b1] at h4 ⊢
        obtain ⟨h1, c1, c2, c3, q1, q2⟩ := h4
        exact ⟨h1, c1, c2, c3, rTr_congT m2 q1 fun i hi => e i (by omega), rTr_congT b3 q2 fun i hi => e i (by omega)⟩
      · rw [b1] at h4 ⊢
        obtain ⟨h1, c1, c2, c3, q1, q2⟩ := h4
        exact ⟨h1, c1, c2, c3, rTr_congT m2 q1 fun i hi => e i (by omega), rTr_congT b6 q2 fun i hi => e i (by omega)⟩
      · rw [b1] at h4 ⊢
        obtain ⟨h1, h2, c1, c2, c3, q1, q2, q3⟩ := h4
        exact ⟨h1, h2, c1, c2, c3, rTr_congT m2 q1 fun i hi => e i (by omega), rTr_congT b6 q2 fun i hi => e i (by omega), rTr_congT b7 q3 fun i hi => e i (by omega)⟩
