/-! The reference's small methods on the state of both sides. -/
theorem i_nat {x : Int32} (h : ¬ x < 0) : ∃ n, n < 2 ^ 31 ∧ x = nI n := by
  have h0 : 0 ≤ x.toInt := by
    have := mt Int32.lt_iff_toInt_lt.mpr h
    have e : (0 : Int32).toInt = 0 := rfl
    omega
  have h1 : x.toInt < 2 ^ 31 := Int32.toInt_lt x
  refine ⟨x.toInt.toNat, by omega, Int32.toInt_inj.mp ?_⟩
  rw [nI_toInt (by omega)]
  omega
/-- x is a number below n -/
def isN (n : Nat) (x : Int32) : Prop := ∃ k, k < n ∧ x = nI k
theorem isN_iff {n : Nat} {x : Int32} (hn : n < 2 ^ 31) : isN n x ↔ ¬ x < 0 ∧ x < nI n := by
  constructor
  · rintro ⟨k, k1, rfl⟩
    exact ⟨nI_pos (by omega), (nI_ltI (by omega) hn).mpr k1⟩
  · rintro ⟨h1, h2⟩
    obtain ⟨k, k1, rfl⟩ := i_nat h1
    exact ⟨k, (nI_ltI k1 hn).mp h2, rfl⟩
theorem i_le_lt {x y : Int32} : ¬ y ≤ x ↔ x < y := by
  rw [Int32.le_iff_toInt_le, Int32.lt_iff_toInt_lt]
  omega
def cutL (m : xM) : cL := (13 + m.1, m.2.1.2)
theorem clO.cut {m : xM} (a : AM m) : clO (cutL m) := by
  obtain ⟨⟨c1, c2, c3⟩, a2, a3, _, _⟩ := a
  exact ⟨by show 13 ≤ 13 + m.1; omega, by show 13 + m.1 ≤ 64; omega, fun i hi => c3 i (by have : i < 13 + m.1 := hi; omega)⟩
section RXB
variable {c : rX} {d : Nat} {S : rS} {K : Option Value → rS → Prop} {A : xA}
theorem r_rm (ho : rOK c) (k : RI S A) (a : AI A) (h : ∀ S', S'.2 = S.2 → S'.1 0 0 = S.1 0 0 → RI S' (A.1, A.2.1, A.2.2.1, A.2.2.2.1, cutL A.2.2.2, A.2.2.2.2.2.1, A.2.2.2.2.2.2.1, A.2.2.2.2.2.2.2.1, -1) → K none S') : rM c d eX10_removeRun [.ref c.2.2.1] S K := by
  obtain ⟨m1, m2, m3, m4, m5, m6⟩ := k.2.2.2
  obtain ⟨a1, a2, a3, a4, a5⟩ := a.2.2.2
  refine w_X10_removeRun ho ?_
  rw [m1, show (13 : Int32) + nI A.2.2.2.1 = nI (13 + A.2.2.2.1) from nI_add 13 _]
  have e : ∀ f i, ¬ ((f = 40 ∨ f = 47) ∧ i = 0) → (rsi (rsi S 40 0 (nI (13 + A.2.2.2.1))) 47 0 (-1)).1 f i = S.1 f i := fun f i q => by rw [rsi_ne _ _ (by omega), rsi_ne _ _ (by omega)]
  refine h _ rfl (e 0 0 (by omega)) ⟨k.1.c fun f i q => e f i (by omega), k.2.1.c fun f i q => e f i (by omega), k.2.2.1.c (fun f i q => e f i (by omega)) rfl rfl, ?_, ⟨?_, fun i hi => ?_⟩, ?_, ?_, ?_, rsi_i _ _ _ _⟩
  · rw [e 39 0 (by omega)]; exact m1
  · rw [rsi_ne _ _ (by omega)]; exact rsi_i _ _ _ _
  · have hi' : i < 13 + A.2.2.2.1 := hi
    rw [e 41 i (by omega), e 42 i (by omega), e 43 i (by omega), e 44 i (by omega)]
    exact m2.2 i (by omega)
  · rw [e 45 0 (by omega)]; exact m3
  · rw [e 45 1 (by omega)]; exact m4
  · rw [e 46 0 (by omega)]; exact m5
theorem r_isMade (ho : rOK c) (k : RI S A) (a : AI A) {x : Int32} (h1 : isN (13 + A.2.2.2.1) x → K (some (.int 1)) S) (h0 : ¬ isN (13 + A.2.2.2.1) x → K (some (.int 0)) S) : rM c d eX10_isMade [.ref c.2.2.1, .int x] S K := by
  have a3 := a.2.2.2.2.2.1
  refine w_X10_isMade ho x ?_
  rw [k.2.2.2.1, show (13 : Int32) + nI A.2.2.2.1 = nI (13 + A.2.2.2.1) from nI_add 13 _]
  have e := isN_iff (n := 13 + A.2.2.2.1) (x := x) (by omega)
  refine ⟨fun z => h0 fun q => (e.mp q).1 z, fun z => ⟨fun y => h0 fun q => ?_, fun y => h1 (e.mpr ⟨z, i_le_lt.mp y⟩)⟩⟩
  exact absurd y (i_le_lt.mpr (e.mp q).2)
/-- a cell is kept -/
theorem r_keep (ho : rOK c) {kd : Nat} {v : Int32} {x y : Option Nat} (k : RI S A) (a : AI A) (h40 : A.2.2.2.1 < 40) {code : Int32}
    (h : ∀ S', S'.1 0 0 = code → RI S' (A.1, A.2.1, A.2.2.1, A.2.2.2.1 + 1, cAdd (cutL A.2.2.2) (kd, v, x, y), A.2.2.2.2.2.1, A.2.2.2.2.2.2.1, A.2.2.2.2.2.2.2.1, -1) → K (some (.int (nI (13 + A.2.2.2.1)))) S') :
    rM c d eX10_removeRun [.ref c.2.2.1] (rsi S 0 0 code) (fun v2 S2 => v2 = none ∧ rM c d eX10_make [.ref c.2.2.1, .int (nI kd), .int v, .int (rfI x), .int (rfI y)] (rsi S2 39 0 (S2.1 39 0 + 1)) (fun v S4 => ∃ z5 : Int32, v = some (.int z5) ∧ K (some (.int z5)) S4)) := by
  refine r_rm ho (k.c0 code) a fun S2 s1 s2 r => ⟨rfl, ?_⟩
  have m1 : S2.1 39 0 = nI A.2.2.2.1 := r.2.2.2.1
  rw [m1, nI_1]
  have e : ∀ f i, ¬ (f = 39 ∧ i = 0) → (rsi S2 39 0 (nI (A.2.2.2.1 + 1))).1 f i = S2.1 f i := fun f i q => rsi_ne _ _ q
  have e39 : (rsi S2 39 0 (nI (A.2.2.2.1 + 1))).1 39 0 = nI (A.2.2.2.1 + 1) := rsi_i _ _ _ _
  have e2 : (rsi S2 39 0 (nI (A.2.2.2.1 + 1))).2 = S2.2 := rfl
  generalize rsi S2 39 0 (nI (A.2.2.2.1 + 1)) = S3 at e e39 e2 ⊢
  refine e_make (L := cutL A.2.2.2) ho (r.2.2.2.2.1.q fun f i q1 q2 => e f i (by omega)) (show 13 + A.2.2.2.1 < 64 by omega) fun S4 f1 f2 f3 => ⟨_, rfl, h S4 ?_ ⟨?_, ?_, ?_, ?_⟩⟩
  · rw [f2 0 0 (by omega), e 0 0 (by omega), s2]; exact rsi_i _ _ _ _
  · exact r.1.c fun f i q => by rw [f2 f i (by omega), e f i (by omega)]
  · exact r.2.1.c fun f i q => by rw [f2 f i (by omega), e f i (by omega)]
  · exact r.2.2.1.c (fun f i q => by rw [f2 f i (by omega), e f i (by omega)]) (by rw [f1, e2]) (by rw [f1, e2])
  · exact ⟨by rw [f2 39 0 (by omega)]; exact e39, f3, by rw [f2 45 0 (by omega), e 45 0 (by omega)]; exact r.2.2.2.2.2.1, by rw [f2 45 1 (by omega), e 45 1 (by omega)]; exact r.2.2.2.2.2.2.1, by rw [f2 46 0 (by omega), e 46 0 (by omega)]; exact r.2.2.2.2.2.2.2.1, by rw [f2 47 0 (by omega), e 47 0 (by omega)]; exact r.2.2.2.2.2.2.2.2⟩
theorem r_number (ho : rOK c) (k : RI S A) (a : AI A) {v : Int32} (h1 : A.2.2.2.1 = 40 → ∀ S', S'.1 0 0 = 1 → RI S' A → K (some (.int 0)) S')
    (h0 : A.2.2.2.1 < 40 → ∀ S', S'.1 0 0 = 0 → RI S' (A.1, A.2.1, A.2.2.1, A.2.2.2.1 + 1, cAdd (cutL A.2.2.2) (1, v, none, none), A.2.2.2.2.2.1, A.2.2.2.2.2.2.1, A.2.2.2.2.2.2.2.1, -1) → K (some (.int (nI (13 + A.2.2.2.1)))) S') : rM c (d + 1) eX10_number [.ref c.2.2.1, .int v] S K := by
  have a3 := a.2.2.2.2.2.1
  refine w_X10_number ho v ?_
  rw [k.2.2.2.1, show nI A.2.2.2.1 = 40 ↔ A.2.2.2.1 = 40 from nI_is (b := 40) (by omega) (by decide)]
  refine ⟨fun q => w_X10_number_15 ho v 0 ⟨fun _ => r_keep (kd := 1) (x := none) (y := none) ho k a (by omega) (h0 (by omega)), fun z => absurd (by decide) z⟩, fun q => w_X10_number_15 ho v 1 ⟨fun z => absurd z (by decide), fun _ => h1 q _ (rsi_i _ _ _ _) (k.c0 _)⟩⟩
theorem r_pair (ho : rOK c) (k : RI S A) (a : AI A) {x y : Int32} (h1 : ¬ (isN (13 + A.2.2.2.1) x ∧ isN (13 + A.2.2.2.1) y) → ∀ S', S'.1 0 0 = 1 → RI S' A → K (some (.int 0)) S')
    (h2 : isN (13 + A.2.2.2.1) x ∧ isN (13 + A.2.2.2.1) y → A.2.2.2.1 = 40 → ∀ S', S'.1 0 0 = 2 → RI S' A → K (some (.int 0)) S')
    (h0 : ∀ n m, n < 13 + A.2.2.2.1 → m < 13 + A.2.2.2.1 → x = nI n → y = nI m → A.2.2.2.1 < 40 → ∀ S', S'.1 0 0 = 0 → RI S' (A.1, A.2.1, A.2.2.1, A.2.2.2.1 + 1, cAdd (cutL A.2.2.2) (16, 0, some n, some m), A.2.2.2.2.2.1, A.2.2.2.2.2.2.1, A.2.2.2.2.2.2.2.1, -1) → K (some (.int (nI (13 + A.2.2.2.1)))) S') : rM c (d + 1) eX10_pair [.ref c.2.2.1, .int x, .int y] S K := by
  have a3 := a.2.2.2.2.2.1
  refine w_X10_pair ho x y (r_isMade ho k a (fun q => ⟨_, rfl, fun z => absurd z (by decide), fun _ => r_isMade ho k a (fun p => ⟨_, rfl, fun _ => ?_, fun z => absurd z (by decide)⟩) (fun p => ⟨_, rfl, fun z => absurd rfl z, fun _ => ?_⟩)⟩) (fun q => ⟨_, rfl, fun _ => ?_, fun z => absurd rfl z⟩))
  · rw [k.2.2.2.1, show nI A.2.2.2.1 = 40 ↔ A.2.2.2.1 = 40 from nI_is (b := 40) (by omega) (by decide)]
    obtain ⟨n, n1, rfl⟩ := q
    obtain ⟨m, m1, rfl⟩ := p
    exact ⟨fun u => w_X10_pair_35 ho _ _ 0 ⟨fun _ => r_keep (kd := 16) (v := 0) (x := some n) (y := some m) ho k a (by omega) (h0 n m n1 m1 rfl rfl (by omega)), fun z => absurd (by decide) z⟩, fun u => w_X10_pair_35 ho _ _ 2 ⟨fun z => absurd z (by decide), fun _ => h2 ⟨⟨n, n1, rfl⟩, ⟨m, m1, rfl⟩⟩ u _ (rsi_i _ _ _ _) (k.c0 _)⟩⟩
  · exact w_X10_pair_35 ho _ _ 1 ⟨fun z => absurd z (by decide), fun _ => h1 (fun u => p u.2) _ (rsi_i _ _ _ _) (k.c0 _)⟩
  · exact w_X10_pair_35 ho _ _ 1 ⟨fun z => absurd z (by decide), fun _ => h1 (fun u => q u.1) _ (rsi_i _ _ _ _) (k.c0 _)⟩
theorem r_input (ho : rOK c) (k : RI S A) (a : AI A) {x y : Int32} (h1 : ¬ isN 2 x → ∀ S', S'.1 0 0 = 1 → RI S' A → K none S') (h2 : isN 2 x → ¬ isN (13 + A.2.2.2.1) y → ∀ S', S'.1 0 0 = 2 → RI S' A → K none S')
    (h0 : ∀ n m, n < 2 → m < 13 + A.2.2.2.1 → x = nI n → y = nI m → ∀ S', S'.1 0 0 = 0 → RI S' (A.1, A.2.1, A.2.2.1, A.2.2.2.1, A.2.2.2.2.1, (if n = 0 then m else A.2.2.2.2.2.1), (if n = 0 then A.2.2.2.2.2.2.1 else m), A.2.2.2.2.2.2.2) → K none S') : rM c (d + 1) eX10_input [.ref c.2.2.1, .int x, .int y] S K := by
  have e := isN_iff (n := 2) (x := x) (by decide)
  have l1 : x ≤ 1 ↔ x < nI 2 := by
    rw [Int32.le_iff_toInt_le, Int32.lt_iff_toInt_lt, nI_toInt (by decide)]
    show x.toInt ≤ 1 ↔ _
    omega
  refine w_X10_input ho x y ⟨fun z => ?_, fun z => ⟨fun z2 => ?_, fun z2 => ?_⟩⟩
  · exact w_X10_input_27 ho _ _ 1 ⟨fun _ => h1 (fun q => (e.mp q).1 z) _ (rsi_i _ _ _ _) (k.c0 _), fun q => absurd q (by decide)⟩
  · have q2 : isN 2 x := e.mpr ⟨z, l1.mp z2⟩
    refine r_isMade ho k a (fun q => ⟨_, rfl, fun z => absurd z (by decide), fun _ => ?_⟩) (fun q => ⟨_, rfl, fun _ => ?_, fun z => absurd rfl z⟩)
    · obtain ⟨n, n1, rfl⟩ := q2
      obtain ⟨m, m1, rfl⟩ := q
      refine w_X10_input_27 ho _ _ 0 ⟨fun z => absurd rfl z, fun _ => ⟨n, am_ix_n n1 (by decide), h0 n m n1 m1 rfl rfl _ (by rw [rsi_ne _ _ (by omega), rsi_i]) ⟨?_, ?_, ?_, ?_⟩⟩⟩
      · exact k.1.c fun f i q => by rw [rsi_ne _ _ (by omega), rsi_ne _ _ (by omega)]
      · exact k.2.1.c fun f i q => by rw [rsi_ne _ _ (by omega), rsi_ne _ _ (by omega)]
      · exact k.2.2.1.c (fun f i q => by rw [rsi_ne _ _ (by omega), rsi_ne _ _ (by omega)]) rfl rfl
      · obtain ⟨m1, m2, m3, m4, m5, m6⟩ := k.2.2.2
        refine ⟨by rw [rsi_ne _ _ (by omega), rsi_ne _ _ (by omega)]; exact m1, m2.q fun f i q1 q2 => by rw [rsi_ne _ _ (by omega), rsi_ne _ _ (by omega)], ?_, ?_, by rw [rsi_ne _ _ (by omega), rsi_ne _ _ (by omega)]; exact m5, by rw [rsi_ne _ _ (by omega), rsi_ne _ _ (by omega)]; exact m6⟩
        · show _ = nI (if n = 0 then _ else _)
          by_cases q : n = 0
          · subst q; exact rsi_i _ _ _ _
          · rw [if_neg q, rsi_ne _ _ (by omega), rsi_ne _ _ (by omega)]; exact m3
        · show _ = nI (if n = 0 then _ else _)
          by_cases q : n = 0
          · rw [if_pos q, rsi_ne _ _ (by omega), rsi_ne _ _ (by omega)]; exact m4
          · have : n = 1 := by omega
            subst this
            exact rsi_i _ _ _ _
    · exact w_X10_input_27 ho _ _ 2 ⟨fun _ => h2 q2 q _ (rsi_i _ _ _ _) (k.c0 _), fun q => absurd q (by decide)⟩
  · exact w_X10_input_27 ho _ _ 1 ⟨fun _ => h1 (fun q => z2 (l1.mpr (e.mp q).2)) _ (rsi_i _ _ _ _) (k.c0 _), fun q => absurd q (by decide)⟩
theorem r_clear (ho : rOK c) (k : RI S A) (a : AI A) (h : ∀ S', RI S' (A.1, A.2.1, A.2.2.1, 0, (13, A.2.2.2.2.1.2), 2, 2, A.2.2.2.2.2.2.2.1, -1) → K none S') : rM c (d + 1) eX10_clear_ [.ref c.2.2.1] S K := by
  have e : ∀ f i, ¬ ((f = 0 ∨ f = 39) ∧ i = 0) → (rsi (rsi S 0 0 0) 39 0 0).1 f i = S.1 f i := fun f i q => by rw [rsi_ne _ _ (by omega), rsi_ne _ _ (by omega)]
  have e39 : (rsi (rsi S 0 0 0) 39 0 0).1 39 0 = nI 0 := rsi_i _ _ _ _
  have e2 : (rsi (rsi S 0 0 0) 39 0 0).2 = S.2 := rfl
  refine w_X10_clear_ ho ?_
  generalize rsi (rsi S 0 0 0) 39 0 0 = S1 at e e39 e2 ⊢
  refine w_X10_removeRun ho ⟨rfl, ?_⟩
  rw [e39, show (13 : Int32) + nI 0 = nI 13 from nI_add 13 0]
  have g : ∀ f i, ¬ (f = 40 ∧ i = 0) → ¬ (f = 47 ∧ i = 0) → ¬ (f = 45 ∧ i < 2) → (rsi (rsi (rsi (rsi S1 40 0 (nI 13)) 47 0 (-1)) 45 0 2) 45 1 2).1 f i = S1.1 f i := fun f i q1 q2 q3 => by rw [rsi_ne _ _ (by omega), rsi_ne _ _ (by omega), rsi_ne _ _ (by omega), rsi_ne _ _ (by omega)]
  obtain ⟨m1, m2, m3, m4, m5, m6⟩ := k.2.2.2
  refine h _ ⟨?_, ?_, ?_, ?_, ⟨?_, fun i hi => ?_⟩, ?_, rsi_i _ _ _ _, ?_, ?_⟩
  · exact k.1.c fun f i q => by rw [g f i (by omega) (by omega) (by omega), e f i (by omega)]
  · exact k.2.1.c fun f i q => by rw [g f i (by omega) (by omega) (by omega), e f i (by omega)]
  · exact k.2.2.1.c (fun f i q => by rw [g f i (by omega) (by omega) (by omega), e f i (by omega)]) (by show S1.2 57 = _; rw [e2]) (by show S1.2 58 = _; rw [e2])
  · rw [g 39 0 (by omega) (by omega) (by omega)]; exact e39
  · rw [rsi_ne _ _ (by omega), rsi_ne _ _ (by omega), rsi_ne _ _ (by omega)]; exact rsi_i _ _ _ _
  · have hi' : i < 13 := hi
    have := a.2.2.2.1.1
    rw [g 41 i (by omega) (by omega) (by omega), e 41 i (by omega), g 42 i (by omega) (by omega) (by omega), e 42 i (by omega), g 43 i (by omega) (by omega) (by omega), e 43 i (by omega), g 44 i (by omega) (by omega) (by omega), e 44 i (by omega)]
    exact m2.2 i (by omega)
  · rw [rsi_ne _ _ (by omega)]; exact rsi_i _ _ _ _
  · rw [g 46 0 (by omega) (by omega) (by omega), e 46 0 (by omega)]; exact m5
  · rw [rsi_ne _ _ (by omega), rsi_ne _ _ (by omega)]; exact rsi_i _ _ _ _
/-- a part of a cell -/
def cPart (x : cE) (w : Nat) : Int32 := if w = 0 then nI x.1 else if w = 1 then x.2.1 else if w = 2 then rfI x.2.2.1 else rfI x.2.2.2
theorem r_cell (ho : rOK c) (k : RI S A) (a : AI A) {x y : Int32} (h1 : ¬ isN A.2.2.2.2.1.1 x → ∀ S', S'.1 0 0 = 1 → RI S' A → K (some (.int 0)) S') (h2 : isN A.2.2.2.2.1.1 x → ¬ isN 4 y → ∀ S', S'.1 0 0 = 2 → RI S' A → K (some (.int 0)) S')
    (h0 : ∀ n w, n < A.2.2.2.2.1.1 → w < 4 → x = nI n → y = nI w → ∀ S', S'.1 0 0 = 0 → RI S' A → K (some (.int (cPart (A.2.2.2.2.1.2 n) w))) S') : rM c d eX10_cell [.ref c.2.2.1, .int x, .int y] S K := by
  have h64 := a.2.2.2.1.2.1
  have e := isN_iff (n := A.2.2.2.2.1.1) (x := x) (by omega)
  have e4 := isN_iff (n := 4) (x := y) (by decide)
  have l3 : y ≤ 3 ↔ y < nI 4 := by
    rw [Int32.le_iff_toInt_le, Int32.lt_iff_toInt_lt, nI_toInt (by decide)]
    show y.toInt ≤ 3 ↔ _
    omega
  have m2 := k.2.2.2.2.1
  have bad : ∀ s0 : Int32, ¬ s0 ≤ 0 → (∀ S', S'.1 0 0 = s0 → RI S' A → K (some (.int 0)) S') → rG c eX10_cell d (rQ c K) 31 [some (.ref c.2.2.1), some (.int x), some (.int y)] [.int s0, .ref c.2.2.1] S := fun s0 z q => w_X10_cell_31 ho _ _ s0 ⟨fun u => absurd u z, fun _ => q _ (rsi_i _ _ _ _) (k.c0 _)⟩
  refine w_X10_cell ho x y ?_
  rw [m2.1]
  refine ⟨fun z => bad 1 (by decide) (h1 fun q => (e.mp q).1 z), fun z => ⟨fun z2 => ⟨fun z3 => bad 2 (by decide) (h2 (e.mpr ⟨z, z2⟩) fun q => (e4.mp q).1 z3), fun z3 => ⟨fun z4 => ?_, fun z4 => bad 2 (by decide) (h2 (e.mpr ⟨z, z2⟩) fun q => z4 (l3.mpr (e4.mp q).2))⟩⟩, fun z2 => bad 1 (by decide) (h1 fun q => z2 (e.mp q).2)⟩⟩
  obtain ⟨n, n1, rfl⟩ := e.mpr ⟨z, z2⟩
  obtain ⟨w, w1, rfl⟩ := e4.mpr ⟨z3, l3.mp z4⟩
  have ix : am_ix (nI n) n 64 := am_ix_n (by omega) (by decide)
  obtain ⟨q1, q2, q3, q4⟩ := m2.2 n n1
  have go := h0 n w n1 w1 rfl rfl (rsi S 0 0 0) (rsi_i _ _ _ _) (k.c0 _)
  refine w_X10_cell_31 ho _ _ 0 ⟨fun _ => ?_, fun z => absurd (by decide) z⟩
  rw [show nI w = 0 ↔ w = 0 from nI_is (b := 0) (by omega) (by decide), show nI w = 1 ↔ w = 1 from nI_is (b := 1) (by omega) (by decide), show nI w = 2 ↔ w = 2 from nI_is (b := 2) (by omega) (by decide)]
  unfold cPart at go
  refine ⟨fun u0 => ⟨fun u1 => ⟨fun u2 => ⟨n, ix, ?_⟩, fun u2 => ⟨n, ix, ?_⟩⟩, fun u1 => ⟨n, ix, ?_⟩⟩, fun u0 => ⟨n, ix, ?_⟩⟩
  · rw [if_neg u0, if_neg u1, if_neg u2] at go; rw [q4]; exact go
  · rw [if_neg u0, if_neg u1, if_pos u2] at go; rw [q3]; exact go
  · rw [if_neg u0, if_pos u1] at go; rw [q2]; exact go
  · rw [if_pos u0] at go; rw [q1]; exact go
end RXB
