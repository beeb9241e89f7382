/-! The reference's view and run on the state of both sides. -/
section RXC
variable {c : rX} {d D : Nat} {S : rS} {K : Option Value → rS → Prop} {A : xA}
theorem r_view (ho : rOK c) (k : RI S A) (a : AI A) {q x y : Int32} (h1 : A.2.2.1.2.1 = false → ∀ S', S'.1 0 0 = 1 → RI S' A → K (some (.int 0)) S') (h2 : A.2.2.1.2.1 = true → ¬ (isN 2 x ∧ isN 7 y) → ∀ S', S'.1 0 0 = 2 → RI S' A → K (some (.int 0)) S')
    (h0 : A.2.2.1.2.1 = true → ∀ n m, n < 2 → m < 7 → x = nI n → y = nI m → ∀ S', S'.1 0 0 = 0 → RI S' A → K (some (.int (if q = 0 then A.2.2.1.2.2.2.2 (7 * n + m) else A.2.2.1.2.2.2.1 (7 * n + m)))) S') : rM c (d + 1) eX10_view [.ref c.2.2.1, .int q, .int x, .int y] S K := by
  obtain ⟨k1, k2, k3, k4, k5⟩ := k.2.2.1
  have bad : ∀ s0 : Int32, ¬ s0 ≤ 0 → (∀ S', S'.1 0 0 = s0 → RI S' A → K (some (.int 0)) S') → rG c eX10_view (d + 1) (rQ c K) 43 [some (.ref c.2.2.1), some (.int q), some (.int x), some (.int y)] [.int s0, .ref c.2.2.1] S := fun s0 z u => w_X10_view_43 ho _ _ _ s0 ⟨fun v => absurd v z, fun _ => u _ (rsi_i _ _ _ _) (k.c0 _)⟩
  have e2 := isN_iff (n := 2) (x := x) (by decide)
  have e7 := isN_iff (n := 7) (x := y) (by decide)
  have l1 : (1 < x) ↔ ¬ x < nI 2 := by
    rw [Int32.lt_iff_toInt_lt, Int32.lt_iff_toInt_lt, nI_toInt (by decide)]
    show 1 < x.toInt ↔ _
    omega
  have l6 : y ≤ 6 ↔ y < nI 7 := by
    rw [Int32.le_iff_toInt_le, Int32.lt_iff_toInt_lt, nI_toInt (by decide)]
    show y.toInt ≤ 6 ↔ _
    omega
  refine w_X10_view ho q x y ?_
  cases ha : A.2.2.1.2.1 with
  | false =>
    rw [ha] at k2
    exact ⟨fun _ => bad 1 (by decide) (h1 ha), fun _ => ⟨fun z => absurd k2 z, fun _ => bad 1 (by decide) (h1 ha)⟩⟩
  | true =>
    have hs := a.2.2.1.2 ha
    rw [ha] at k2
    rw [hs] at k1
    have n1 : ¬ S.1 18 0 = 0 := by rw [k1]; decide
    have n2 : ¬ S.1 19 0 = 0 := by rw [k2]; decide
    refine ⟨fun z => absurd z n1, fun _ => ⟨fun _ => ⟨fun z => bad 2 (by decide) (h2 ha fun u => (e2.mp u.1).1 z), fun z => ⟨fun z2 => bad 2 (by decide) (h2 ha fun u => l1.mp z2 (e2.mp u.1).2), fun z2 => ⟨fun z3 => bad 2 (by decide) (h2 ha fun u => (e7.mp u.2).1 z3), fun z3 => ⟨fun z4 => ?_, fun z4 => bad 2 (by decide) (h2 ha fun u => z4 (l6.mpr (e7.mp u.2).2))⟩⟩⟩⟩, fun z => absurd z n2⟩⟩
    have x2 : x < nI 2 := by
      by_cases u : x < nI 2
      · exact u
      · exact absurd (l1.mpr u) z2
    obtain ⟨n, n3, rfl⟩ := e2.mpr ⟨z, x2⟩
    obtain ⟨m, m3, rfl⟩ := e7.mpr ⟨z3, l6.mp z4⟩
    have go := h0 ha n m n3 m3 rfl rfl (rsi S 0 0 0) (rsi_i _ _ _ _) (k.c0 _)
    obtain ⟨w1, w2, w3⟩ := k5 ha
    obtain ⟨w4, w5⟩ := w3 (7 * n + m) (by omega)
    have ep : (7 : Int32) * nI n + nI m = nI (7 * n + m) := by rw [show (7 : Int32) * nI n = nI (7 * n) from pk_mul 7 n, nI_add]
    have ey : wv (rsi S 0 0 0) 57 0 = wv S 57 0 := wv_c rfl
    have en : wv (rsi S 0 0 0) 58 0 = wv S 58 0 := wv_c rfl
    unfold rAns at w4 w5
    refine w_X10_view_43 ho _ _ _ 0 ⟨fun _ => ⟨fun q0 => ?_, fun q0 => ?_⟩, fun z => absurd (by decide) z⟩
    · rw [if_pos q0, ← w5] at go
      refine w_X10_view_70n ho _ _ _ ?_
      refine v_imp ho (k1 := 41) (f1 := 58) (n1 := 5) (i := 0) rfl (by decide) (by decide) (by rw [en]; exact w2) ⟨_, rfl, fun z5 => ⟨fun _ => ?_, fun u => absurd q0 u⟩, fun z5 => ?_⟩
      · rw [en] at z5
        rw [if_neg (fun u => by rw [if_pos u] at z5; exact absurd z5 (by decide))] at go
        rw [ep]
        refine v_said ho (k1 := 41) (f1 := 58) (n1 := 5) (i := 0) rfl (by decide) (by decide) (by omega) ⟨_, rfl, ?_⟩
        rw [en]
        exact go
      · rw [en] at z5
        have u : nImp (gk (wv S 58 0)) = true := by
          cases u : nImp (gk (wv S 58 0)) with
          | true => rfl
          | false => exact absurd (by rw [u]; rfl) z5
        rw [if_pos u] at go
        exact go
    · rw [if_neg q0, ← w4] at go
      refine w_X10_view_70 ho _ _ _ ?_
      refine v_imp ho (k1 := 40) (f1 := 57) (n1 := 5) (i := 0) rfl (by decide) (by decide) (by rw [ey]; exact w1) ⟨_, rfl, fun z5 => ⟨fun u => absurd u q0, fun _ => ?_⟩, fun z5 => ?_⟩
      · rw [ey] at z5
        rw [if_neg (fun u => by rw [if_pos u] at z5; exact absurd z5 (by decide))] at go
        rw [ep]
        refine v_said ho (k1 := 40) (f1 := 57) (n1 := 5) (i := 0) rfl (by decide) (by decide) (by omega) ⟨_, rfl, ?_⟩
        rw [ey]
        exact go
      · rw [ey] at z5
        have u : nImp (gk (wv S 57 0)) = true := by
          cases u : nImp (gk (wv S 57 0)) with
          | true => rfl
          | false => exact absurd (by rw [u]; rfl) z5
        rw [if_pos u] at go
        exact go
theorem r_run (ho : rOK c) (k : RI S A) (a : AI A) {x : Int32} (h1 : A.2.2.1.1 = none → ∀ S', S'.1 0 0 = 1 → RI S' A → K (some (.int 0)) S') (h2 : A.2.2.1.1.isSome = true → ¬ isN 1001 x → ∀ S', S'.1 0 0 = 2 → RI S' A → K (some (.int 0)) S')
    (h3 : ∀ b n, A.2.2.1.1 = some b → n ≤ 1000 → x = nI n → ∀ st e, evA A.2.1.2.1 n b A.2.2.2.2.2.1 A.2.2.2.2.2.2.1 (cutL A.2.2.2) = (st, .inl e) → ∀ S', S'.1 0 0 = 0 → RI S' (A.1, A.2.1, A.2.2.1, A.2.2.2.1, st.2, A.2.2.2.2.2.1, A.2.2.2.2.2.2.1, nI st.1, -1) → K (some (.int (nI e))) S')
    (h4 : ∀ b n, A.2.2.1.1 = some b → n ≤ 1000 → x = nI n → ∀ st v, evA A.2.1.2.1 n b A.2.2.2.2.2.1 A.2.2.2.2.2.2.1 (cutL A.2.2.2) = (st, .inr v) → ∀ S', S'.1 0 0 = 0 → RI S' (A.1, A.2.1, A.2.2.1, A.2.2.2.1, st.2, A.2.2.2.2.2.1, A.2.2.2.2.2.2.1, nI st.1, nI v) → K (some (.int 1)) S') :
    rM c (D + 4 + 1) eX10_run [.ref c.2.2.1, .int x] S K := by
  obtain ⟨k1, k2, k3, k4, k5⟩ := k.2.2.1
  have bad : ∀ s0 : Int32, ¬ s0 ≤ 0 → (∀ S', S'.1 0 0 = s0 → RI S' A → K (some (.int 0)) S') → rG c eX10_run (D + 4 + 1) (rQ c K) 28 [some (.ref c.2.2.1), some (.int x), none] [.int s0, .ref c.2.2.1] S := fun s0 z u => w_X10_run_28 ho _ s0 ⟨fun v => absurd v z, fun _ => u _ (rsi_i _ _ _ _) (k.c0 _)⟩
  have e := isN_iff (n := 1001) (x := x) (by decide)
  have l : x ≤ 1000 ↔ x < nI 1001 := by
    rw [Int32.le_iff_toInt_le, Int32.lt_iff_toInt_lt, nI_toInt (by decide)]
    show x.toInt ≤ 1000 ↔ _
    omega
  refine w_X10_run ho x ?_
  cases hh : A.2.2.1.1 with
  | none =>
    rw [hh] at k1
    exact ⟨fun z => absurd k1 z, fun _ => bad 1 (by decide) (h1 hh)⟩
  | some b =>
    have hs : A.2.2.1.1.isSome = true := by rw [hh]; rfl
    rw [hs] at k1
    refine ⟨fun _ => ⟨fun z => bad 2 (by decide) (h2 hs fun u => (e.mp u).1 z), fun z => ⟨fun z2 => ?_, fun z2 => bad 2 (by decide) (h2 hs fun u => z2 (l.mpr (e.mp u).2))⟩⟩, fun z => absurd (k1.symm.trans z) (by decide)⟩
    obtain ⟨n, n1, rfl⟩ := e.mpr ⟨z, l.mp z2⟩
    refine w_X10_run_28 ho _ 0 ⟨fun _ => r_rm ho (k.c0 0) a fun S2 s1 s2 r => ⟨rfl, ?_⟩, fun z => absurd (by decide) z⟩
    obtain ⟨⟨hi, hi1, tr⟩, t10⟩ := r.2.2.1.2.2.2.1 b hh
    have e0 : ∀ f i, ¬ ((f = 46 ∨ f = 48 ∨ f = 49) ∧ i = 0) → (rsi (rsi (rsi S2 46 0 0) 49 0 0) 48 0 0).1 f i = S2.1 f i := fun f i q => by rw [rsi_ne _ _ (by omega), rsi_ne _ _ (by omega), rsi_ne _ _ (by omega)]
    have e46 : (rsi (rsi (rsi S2 46 0 0) 49 0 0) 48 0 0).1 46 0 = nI 0 := by rw [rsi_ne _ _ (by omega), rsi_ne _ _ (by omega)]; exact rsi_i _ _ _ _
    have e49 : (rsi (rsi (rsi S2 46 0 0) 49 0 0) 48 0 0).1 49 0 = nI 0 := by rw [rsi_ne _ _ (by omega)]; exact rsi_i _ _ _ _
    have e48 : (rsi (rsi (rsi S2 46 0 0) 49 0 0) 48 0 0).1 48 0 = 0 := rsi_i _ _ _ _
    have e2 : (rsi (rsi (rsi S2 46 0 0) 49 0 0) 48 0 0).2 = S2.2 := rfl
    generalize rsi (rsi (rsi S2 46 0 0) 49 0 0) 48 0 0 = S3 at e0 e46 e49 e48 e2 ⊢
    rw [t10]
    refine e_begin (l := 0) (h := 0) ho e49 (by decide) fun S4 f1 f2 f3 f4 f5 f6 => ⟨rfl, ?_⟩
    have g : ∀ f i, ¬ ((f = 46 ∨ f = 48 ∨ f = 49) ∧ i = 0) → ¬ (51 ≤ f ∧ f ≤ 53 ∧ i = 0) → S4.1 f i = S2.1 f i := fun f i q1 q2 => by rw [f2 f i (by omega) (by omega), e0 f i (by omega)]
    have cu : clO (cutL A.2.2.2) := clO.cut a.2.2.2
    obtain ⟨⟨sh, hw⟩, hwn, htx, hnp⟩ := a.2.2.1.1 b hh
    obtain ⟨a1, a2, a3, a4, a5⟩ := a.2.2.2
    have fin : ∀ S' (st : Nat × cL), evq 1 0 smE S4 S' → RCL S' st.2 → S'.1 46 0 = nI st.1 → S'.1 0 0 = 0 ∧ RI S' (A.1, A.2.1, A.2.2.1, A.2.2.2.1, st.2, A.2.2.2.2.2.1, A.2.2.2.2.2.2.1, nI st.1, -1) := by
      intro S' st q q1 q2
      have qq : ∀ f i, f ≤ 39 ∨ f = 45 ∨ f = 47 → S'.1 f i = S2.1 f i := fun f i u => by rw [q.2 f i (by omega) (by omega) (by omega) (by omega) (by omega), g f i (by omega) (by omega)]
      refine ⟨by rw [qq 0 0 (by omega), s2]; exact rsi_i _ _ _ _, r.1.c fun f i u => qq f i (by omega), r.2.1.c fun f i u => qq f i (by omega), r.2.2.1.c (fun f i u => qq f i (by omega)) (by rw [q.1, f1, e2]) (by rw [q.1, f1, e2]), ?_, q1, ?_, ?_, q2, ?_⟩
      · rw [qq 39 0 (by omega)]; exact r.2.2.2.1
      · rw [qq 45 0 (by omega)]; exact r.2.2.2.2.2.1
      · rw [qq 45 1 (by omega)]; exact r.2.2.2.2.2.2.1
      · rw [qq 47 0 (by omega)]; exact r.2.2.2.2.2.2.2.2
    refine ru_ok (D := D) (lim := n) ho a.2.1.2.2.1 (by omega) 28 K S4 b.1 7 192 hi b.2 0 2 sh 1 0 3 [0, 1] smE (fun s => if s = 0 then A.2.2.2.2.2.1 else A.2.2.2.2.2.2.1) (0, cutL A.2.2.2) (rTr_cong tr fun f i q1 q2 q3 q4 => g f i (by omega) (by omega)) (by omega) hw hwn smE_sc ?_ htx hnp (by decide) (by decide) (by decide) (by decide) cu ?_ ?_ (prm := A.2.1.2.2.1) ?_ ?_ ?_ (Nat.zero_le _) ?_ f6 f3 f4 f5 ?_ ?_
    · intro s hs
      rcases List.mem_cons.mp hs with q | q
      · omega
      · have := List.mem_singleton.mp q
        omega
    · intro s _
      show (if s = 0 then _ else _) < 13 + A.2.2.2.1
      split
      · exact a4
      · exact a5
    · intro y s u
      unfold smE at u
      by_cases q : y = 0
      · subst q
        rw [if_pos rfl] at u
        cases u
        exact ⟨by decide, fun _ => by rw [g 45 0 (by omega) (by omega)]; exact r.2.2.2.2.2.1, fun z => absurd z (by decide)⟩
      · rw [if_neg q] at u
        by_cases q' : y = 1
        · subst q'
          rw [if_pos rfl] at u
          cases u
          exact ⟨by decide, fun _ => by rw [g 45 1 (by omega) (by omega)]; exact r.2.2.2.2.2.2.1, fun z => absurd z (by decide)⟩
        · rw [if_neg q'] at u; cases u
    · exact (r.2.1.c fun f i u => g f i (by omega) (by omega)).2
    · exact r.2.2.2.2.1.q fun f i q1 q2 => g f i (by omega) (by omega)
    · rw [f2 46 0 (by omega) (by omega)]; exact e46
    · rw [f2 48 0 (by omega) (by omega)]; exact e48
    · intro st e' he S' q q1 q2
      obtain ⟨p1, p2⟩ := fin S' st q q1 q2
      exact h3 b n hh (by omega) rfl st e' he S' p1 p2
    · intro st v he S' q q1 q2 q50 q49 q48
      obtain ⟨p1, p2⟩ := fin S' st q q1 q2
      refine JP.fin ho q49 q48 (h4 b n hh (by omega) rfl st v he _ ?_ ⟨?_, ?_, ?_, ?_, ?_, ?_, ?_, ?_, ?_⟩)
      · rw [rsi_ne _ _ (by omega)]; exact p1
      · exact p2.1.c fun f i u => rsi_ne _ _ (by omega)
      · exact p2.2.1.c fun f i u => rsi_ne _ _ (by omega)
      · exact p2.2.2.1.c (fun f i u => rsi_ne _ _ (by omega)) rfl rfl
      · rw [rsi_ne _ _ (by omega)]; exact p2.2.2.2.1
      · exact p2.2.2.2.2.1.q fun f i q1 q2 => rsi_ne _ _ (by omega)
      · rw [rsi_ne _ _ (by omega)]; exact p2.2.2.2.2.2.1
      · rw [rsi_ne _ _ (by omega)]; exact p2.2.2.2.2.2.2.1
      · rw [rsi_ne _ _ (by omega)]; exact p2.2.2.2.2.2.2.2.1
      · rw [rsi_i]; exact q50
end RXC
