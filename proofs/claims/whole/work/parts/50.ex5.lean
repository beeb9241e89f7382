/-! The checker's methods: choices and bindings. -/
theorem cR_csr (C : cS) (a i : Nat) (v : Option Nat) : cR (csr C a i v) a i = v := by simp [csr, cR]
theorem cR_csr_ne (C : cS) {a i b j : Nat} (v : Option Nat) (h : ¬ (b = a ∧ j = i)) : cR (csr C a i v) b j = cR C b j := by
  simp only [csr, cR]
  by_cases h1 : j = i
  · by_cases h2 : b = a
    · exact absurd ⟨h2, h1⟩ h
    · subst h1; simp [h2]
  · simp [h1]
/-- behind a binding: the view, the places, what is remembered -/
def lV (f : gF) (s : Nat) (V : vT) : vT := match f.2.1 with
  | none => vRes V (7 * s) f.1
  | some _ => V
def lP (f : gF) (s : Nat) : Nat := match f.2.1 with
  | none => 7 * s
  | some p => p
def lR (f : gF) : Option (vT × vT) := match f.2.1 with
  | none => some (f.2.2.1, f.2.2.2)
  | some _ => none
section EX5
variable {D : Nat} {c : cX} {fx : fnT} {T : Nat → nd} {nb k : Nat} {C : cS} {K : Option Value → cS → Prop} {n lo sl sh dp tv : Nat} {sc : List Nat} {pl : Nat → Nat} {rm : Nat → Option (vT × vT)}
theorem e_choice (ih : exC D c fx T nb k) (hw : wt T (k + 1) n lo sl sh sc) (hB : exB C fx T nb lo n sl sc pl rm) (hV : exV C tv lo sl) (hd : dp + k ≤ 41) (ho : (T n).1 = 63)
    (hE : ∀ e, ck fx T k (kid T n 0) (gvn C tv) pl rm = .inl e → ∀ C', xfr lo (n + 1) sl sh C C' → cI C' 5 6 = nI e → K (some (.int 0)) C')
    (hE2 : ∀ f e, ck fx T k (kid T n 0) (gvn C tv) pl rm = .inr f → ck fx T k (kid T n 1) f.2.2.1 pl rm = .inl e → ∀ C', xfr lo (n + 1) sl sh C C' → cI C' 5 6 = nI e → K (some (.int 0)) C')
    (hE3 : ∀ f f2 e, ck fx T k (kid T n 0) (gvn C tv) pl rm = .inr f → ck fx T k (kid T n 1) f.2.2.1 pl rm = .inr f2 → ck fx T k (kid T n 2) f.2.2.2 pl rm = .inl e → ∀ C', xfr lo (n + 1) sl sh C C' → cI C' 5 6 = nI e → K (some (.int 0)) C')
    (hG : ∀ f f2 f3, ck fx T k (kid T n 0) (gvn C tv) pl rm = .inr f → ck fx T k (kid T n 1) f.2.2.1 pl rm = .inr f2 → ck fx T k (kid T n 2) f.2.2.2 pl rm = .inr f3 → ∀ C', xfr lo (n + 1) sl sh C C' → gf C' (12 + 5 * n) = toF (f2.1 ||| f3.1, none, vEither f2.2.2.1 f3.2.2.1, vEither f2.2.2.2 f3.2.2.2) → gok (f2.1 ||| f3.1, none, vEither f2.2.2.1 f3.2.2.1, vEither f2.2.2.2 f3.2.2.2) → K (some (.int 1)) C') :
    cM c (D + 3 * k + 6) eX1_examineChoice [.ref 5, .ref (nb + n), .ref tv, .ref (12 + 5 * n), .int (nI dp)] C K := by
  obtain ⟨w1, w2, w3, w4, w5⟩ := wt_lt hw
  obtain ⟨a, b, d, m, m2, ha, hnd, hab, hbd, hwa, hwb, hwd⟩ := wt_three hw ho
  obtain ⟨n1, n2, n3, n4, n5, n6⟩ := hB.2.2.1 n w2 (Nat.le_refl _)
  have hk : kid T n 0 = a := by unfold kid; rw [ha]; rfl
  have hk1 : kid T n 1 = b := by unfold kid; rw [ha]; rfl
  have hk2 : kid T n 2 = d := by unfold kid; rw [ha]; rfl
  rw [hk] at hE
  rw [hk, hk1] at hE2
  rw [hk, hk1, hk2] at hE3 hG
  have n7 : cR C (nb + n) 4 = some (nb + a) := by have := n6 0 (by decide); rw [ha] at this; exact this
  obtain ⟨v1, v2, v3, v4, v5⟩ := wt_lt hwa
  obtain ⟨u1, u2, u3, u4, u5⟩ := wt_lt hwb
  obtain ⟨t1, t2, t3, t4, t5⟩ := wt_lt hwd
  refine w_X1_examineChoice 5 (some (nb + n)) (some tv) (some (12 + 5 * n)) (nI dp) ⟨nb + n, rfl, n1, hB.1.1, ?_⟩
  rw [n7]
  refine ex_kid ih hwa hB (by omega) hV hd (fun e he C1 x1 f1 => ⟨none, rfl, x1.le, fun _ => ?_, fun z hz => by cases hz⟩) (fun g hg C1 x1 f1 k1 => ⟨some (12 + 5 * a), rfl, x1.le, fun hz => (by cases hz), fun z hz => ?_⟩)
  · exact w_X1_examineChoice_37 5 _ _ _ none none ⟨fun _ => w_X1_examineChoice_68 _ none none none ⟨fun _ => hE e he C1 (x1.mono (Nat.le_refl _) (by omega) (Nat.le_refl _) (by omega)) f1, fun z hz => by cases hz⟩, fun z hz => by cases hz⟩
  cases hz
  have x1' : xfr lo (n + 1) sl sh C C1 := x1.mono (Nat.le_refl _) (by omega) (Nat.le_refl _) (by omega)
  have hB1 := hB.x x1 (by omega) (by omega) (by omega)
  have hFa1 := (hB1.1.2.2.2.2.2.2.2.2.2.2.2.1 a v1).2
  have gy1 : gvn C1 (12 + 5 * a + 1) = g.2.2.1 := congrArg (fun z : fT => z.2.2.1) f1
  have m7 : cR C1 (nb + n) 5 = some (nb + b) := by have := (hB1.2.2.1 n w2 (Nat.le_refl _)).2.2.2.2.2 1 (by decide); rw [ha] at this; exact this
  refine ⟨hFa1.1, ?_⟩
  rw [m7, hFa1.2.1]
  refine ex_kid ih hwb (hB1.nx (by omega) v3) (by omega) (exV_y hB1.1 v1 (by rw [gy1]; exact k1.2.2.1)) hd (fun e he C2 x2 f2 => ⟨none, rfl, x2.le, ?_⟩) (fun g2 hg2 C2 x2 f2 k2 => ⟨some (12 + 5 * b), rfl, x2.le, ?_⟩)
  · rw [gy1] at he
    exact w_X1_examineChoice_37 5 _ _ _ (some (12 + 5 * a)) none ⟨fun hz => (by cases hz), fun z hz => ⟨fun _ => w_X1_examineChoice_68 _ (some (12 + 5 * a)) none none ⟨fun hz => (by cases hz), fun z hz => ⟨fun _ => hE2 g e hg he C2 (x1'.trans (x2.mono (by omega) (by omega) v3 (by omega))) f2, fun z hz => by cases hz⟩⟩, fun z hz => by cases hz⟩⟩
  rw [gy1] at hg2
  have x2' : xfr lo (n + 1) sl sh C1 C2 := x2.mono (by omega) (by omega) v3 (by omega)
  have xx := x1'.trans x2'
  have hB2 := hB.x xx (by omega) (by omega) (by omega)
  have hFa2 := (hB2.1.2.2.2.2.2.2.2.2.2.2.2.1 a v1).2
  have f1' : gf C2 (12 + 5 * a) = toF g := by rw [gf_x x2 (by omega) (by omega) (by omega)]; exact f1
  have gn2 : gvn C2 (12 + 5 * a + 3) = g.2.2.2 := congrArg (fun z : fT => z.2.2.2) f1'
  have m8 : cR C2 (nb + n) 6 = some (nb + d) := by have := (hB2.2.2.1 n w2 (Nat.le_refl _)).2.2.2.2.2 2 (by decide); rw [ha] at this; exact this
  refine w_X1_examineChoice_37 5 (some (nb + n)) (some (12 + 5 * n)) (nI dp) (some (12 + 5 * a)) (some (12 + 5 * b)) ⟨fun hz => (by cases hz), fun y hy => ⟨fun hz => (by cases hz), fun y2 hy2 => ⟨nb + n, rfl, (hB2.2.2.1 n w2 (Nat.le_refl _)).1, ?_⟩⟩⟩
  cases hy
  refine ⟨hFa2.1, hB2.1.1, ?_⟩
  rw [m8, hFa2.2.2.1]
  have hV3 : exV C2 (12 + 5 * a + 3) (b + 1) m2 := (exV_n hB2.1 v1 (by rw [gn2]; exact k1.2.2.2) : exV C2 (12 + 5 * a + 3) (a + 1) m2).mono (by omega) (Nat.le_refl _)
  refine ex_kid ih hwd (hB2.nx (by omega) (by omega)) (by omega) hV3 hd (fun e he C3 x3 f3 => ⟨none, rfl, x3.le, ?_⟩) (fun g3 hg3 C3 x3 f3 k3 => ⟨some (12 + 5 * d), rfl, x3.le, ?_⟩)
  · rw [gn2] at he
    exact w_X1_examineChoice_68 _ (some (12 + 5 * a)) (some (12 + 5 * b)) none ⟨fun hz => (by cases hz), fun z hz => ⟨fun hz => (by cases hz), fun z hz => ⟨fun _ => hE3 g g2 e hg hg2 he C3 (xx.trans (x3.mono (by omega) (by omega) (by omega) (Nat.le_refl _))) f3, fun z hz => by cases hz⟩⟩⟩
  rw [gn2] at hg3
  have xy := xx.trans (x3.mono (lo' := lo) (hi' := n + 1) (sl' := sl) (sh' := sh) (by omega) (by omega) (by omega) (Nat.le_refl _))
  have hB3 := hB.x xy (by omega) (by omega) (by omega)
  have hF := (hB3.1.2.2.2.2.2.2.2.2.2.2.2.1 n w1).2
  have hFb := (hB3.1.2.2.2.2.2.2.2.2.2.2.2.1 b u1).2
  have hFd := (hB3.1.2.2.2.2.2.2.2.2.2.2.2.1 d t1).2
  have f2' : gf C3 (12 + 5 * b) = toF g2 := by rw [gf_x x3 (by omega) (by omega) (by omega)]; exact f2
  have gb : cI C3 (12 + 5 * b) 0 = nI g2.1 := congrArg (fun z : fT => z.1) f2'
  have gd : cI C3 (12 + 5 * d) 0 = nI g3.1 := congrArg (fun z : fT => z.1) f3
  have gby : gvn C3 (12 + 5 * b + 1) = g2.2.2.1 := congrArg (fun z : fT => z.2.2.1) f2'
  have gbn : gvn C3 (12 + 5 * b + 3) = g2.2.2.2 := congrArg (fun z : fT => z.2.2.2) f2'
  have gdy : gvn C3 (12 + 5 * d + 1) = g3.2.2.1 := congrArg (fun z : fT => z.2.2.1) f3
  have gdn : gvn C3 (12 + 5 * d + 3) = g3.2.2.2 := congrArg (fun z : fT => z.2.2.2) f3
  refine w_X1_examineChoice_68 (some (12 + 5 * n)) (some (12 + 5 * a)) (some (12 + 5 * b)) (some (12 + 5 * d)) ⟨fun hz => (by cases hz), fun y hy => ⟨fun hz => (by cases hz), fun y2 hy2 => ⟨fun hz => (by cases hz), fun y3 hy3 => ?_⟩⟩⟩
  cases hy2
  cases hy3
  refine ⟨hFb.1, hFd.1, _, rfl, hF.1, 12 + 5 * n + 1, hF.2.1, hF.2.2.2.1.1, ?_⟩
  rw [gb, gd, hFb.2.1, k_or _ k2.1 _ k3.1]
  obtain ⟨s1, s2⟩ := gf_set (C := C3) (t := 12 + 5 * n) (nI (g2.1 ||| g3.1)) (-1)
  generalize csi (csi C3 (12 + 5 * n) 0 (nI (g2.1 ||| g3.1))) (12 + 5 * n) 1 (-1) = C4 at s1 s2 ⊢
  have o4 : ∀ t, t + 1 < 12 + 5 * n → gvn C4 t = gvn C3 t := fun t ht => gvn_v s2 (fun q => by have := q.1; omega) (fun q => by have := q.1; omega)
  have hF4 := hF.v s2
  have hFb4 := hFb.v s2
  have hFd4 := hFd.v s2
  refine r_copy hF4.2.2.2.1 hFb4.2.2.2.1 (by omega) (by rw [o4 _ (by omega), gby]; exact k2.2.2.1) fun C5 k5 e5 => ⟨rfl, k5.le, 12 + 5 * n + 1, (hF4.v k5).2.1, (hF4.v k5).2.2.2.1.1, ?_⟩
  rw [(hFd4.v k5).2.1]
  have o5 : ∀ t, t + 1 < 12 + 5 * n → gvn C5 t = gvn C3 t := fun t ht => (gvn_v k5 (by rintro (q | q) <;> omega) (by rintro (q | q) <;> omega)).trans (o4 t ht)
  have hF5 := hF4.v k5
  have hFb5 := hFb4.v k5
  have hFd5 := hFd4.v k5
  refine r_either hF5.2.2.2.1 hFd5.2.2.2.1 (by omega) fun C6 k6 e6 => ⟨rfl, k6.le, 12 + 5 * n + 3, (hF5.v k6).2.2.1, (hF5.v k6).2.2.2.2.1, ?_⟩
  rw [(hFb5.v k6).2.2.1]
  have o6 : ∀ t, t + 1 < 12 + 5 * n → gvn C6 t = gvn C3 t := fun t ht => (gvn_v k6 (by rintro (q | q) <;> omega) (by rintro (q | q) <;> omega)).trans (o5 t ht)
  have hF6 := hF5.v k6
  have hFb6 := hFb5.v k6
  have hFd6 := hFd5.v k6
  refine r_copy hF6.2.2.2.2 hFb6.2.2.2.2 (by omega) (by rw [o6 _ (by omega), gbn]; exact k2.2.2.2) fun C7 k7 e7 => ⟨rfl, k7.le, 12 + 5 * n + 3, (hF6.v k7).2.2.1, (hF6.v k7).2.2.2.2.1, ?_⟩
  rw [(hFd6.v k7).2.2.1]
  have o7 : ∀ t, t + 1 < 12 + 5 * n → gvn C7 t = gvn C3 t := fun t ht => (gvn_v k7 (by rintro (q | q) <;> omega) (by rintro (q | q) <;> omega)).trans (o6 t ht)
  refine r_either (hF6.v k7).2.2.2.2 (hFd6.v k7).2.2.2.2 (by omega) fun C8 k8 e8 => ⟨rfl, k8.le, hG g g2 g3 hg hg2 hg3 C8 (xy.trans (ff_x ((((s2.trans (k5.mono fv_ff1)).trans (k6.mono fv_ff1)).trans (k7.mono fv_ff3)).trans (k8.mono fv_ff3)) w2)) ?_ ⟨k_or_lt _ k2.1 _ k3.1, fun p h => (by cases h), rB_either _ _, rB_either _ _⟩⟩
  have z6 : gvn C6 (12 + 5 * n + 1) = vEither g2.2.2.1 g3.2.2.1 := by rw [e6, e5, o4 (12 + 5 * b + 1) (by omega), gby, o5 (12 + 5 * d + 1) (by omega), gdy]
  have z8 : gvn C8 (12 + 5 * n + 3) = vEither g2.2.2.2 g3.2.2.2 := by rw [e8, e7, o6 (12 + 5 * b + 3) (by omega), gbn, o7 (12 + 5 * d + 3) (by omega), gdn]
  rw [gf_3 k8, gf_3 k7, gf_1 k6, gf_1 k5, s1, z8, z6]
  rfl
theorem e_bind (ih : exC D c fx T nb k) (hw : wt T (k + 1) n lo sl sh sc) (hB : exB C fx T nb lo n sl sc pl rm) (hV : exV C tv lo sl) (hd : dp + k ≤ 41) (ho : (T n).1 = 58)
    (hE : ∀ e, ck fx T k (kid T n 0) (gvn C tv) pl rm = .inl e → ∀ C', xfr lo (n + 1) sl sh C C' → cI C' 5 6 = nI e → K (some (.int 0)) C')
    (hE2 : ∀ f s e, ck fx T k (kid T n 0) (gvn C tv) pl rm = .inr f → (T n).2.2.2.1 = some s → ck fx T k (kid T n 1) (lV f s (gvn C tv)) (up pl s (lP f s)) (up rm s (lR f)) = .inl e → ∀ C', xfr lo (n + 1) sl sh C C' → cI C' 5 6 = nI e → K (some (.int 0)) C')
    (hG : ∀ f s f2, ck fx T k (kid T n 0) (gvn C tv) pl rm = .inr f → (T n).2.2.2.1 = some s → ck fx T k (kid T n 1) (lV f s (gvn C tv)) (up pl s (lP f s)) (up rm s (lR f)) = .inr f2 → ∀ C', xfr lo (n + 1) sl sh C C' → gf C' (12 + 5 * n) = toF (ckLet f2 s) → gok (ckLet f2 s) → K (some (.int 1)) C') :
    cM c (D + 3 * k + 6) eX1_examineBinding [.ref 5, .ref (nb + n), .ref tv, .ref (12 + 5 * n), .int (nI dp)] C K := by
  obtain ⟨w1, w2, w3, w4, w5⟩ := wt_lt hw
  obtain ⟨a, b, s, ha, hnb, hab, hs, hwa, hwb⟩ := wt_let hw ho
  obtain ⟨n1, n2, n3, n4, n5, n6⟩ := hB.2.2.1 n w2 (Nat.le_refl _)
  have hk : kid T n 0 = a := by unfold kid; rw [ha]; rfl
  have hk1 : kid T n 1 = b := by unfold kid; rw [ha]; rfl
  rw [hk] at hE
  rw [hk, hk1] at hE2 hG
  have n7 : cR C (nb + n) 4 = some (nb + a) := by have := n6 0 (by decide); rw [ha] at this; exact this
  obtain ⟨v1, v2, v3, v4, v5⟩ := wt_lt hwa
  obtain ⟨u1, u2, u3, u4, u5⟩ := wt_lt hwb
  have h400 := hB.2.2.2.1
  have hs17 : nI s < 17 := (nI_ltI (by omega) (by decide)).mpr (show s < 17 by omega)
  refine w_X1_examineBinding 5 (some (nb + n)) (some tv) (some (12 + 5 * n)) (nI dp) ⟨nb + n, rfl, n1, hB.1.1, ?_⟩
  rw [n7]
  refine ex_kid ih hwa hB (by omega) hV hd (fun e he C1 x1 f1 => ⟨none, rfl, x1.le, fun _ => hE e he C1 (x1.mono (Nat.le_refl _) (by omega) (Nat.le_refl _) (by omega)) f1, fun z hz => by cases hz⟩) (fun g hg C1 x1 f1 k1 => ⟨some (12 + 5 * a), rfl, x1.le, fun hz => (by cases hz), fun z hz => ?_⟩)
  cases hz
  have x1' : xfr lo (n + 1) sl sh C C1 := x1.mono (Nat.le_refl _) (by omega) (Nat.le_refl _) (by omega)
  have hB1 := hB.x x1 (by omega) (by omega) (by omega)
  obtain ⟨hV1, eV1⟩ := hV.x x1 (by omega) (by omega) (by omega)
  have hFa1 := (hB1.1.2.2.2.2.2.2.2.2.2.2.2.1 a v1).2
  have hN1 := hB1.2.2.1 n w2 (Nat.le_refl _)
  have hI1 := hB1.1.2.2.2.2.2.2.2.2.2.2.2.2 s (by omega)
  have s1 : cI C1 (nb + n) 3 = nI s := by rw [hN1.2.2.2.2.1, hs]; rfl
  rw [s1]
  refine ⟨fun h => absurd h (nI_pos (by omega)), fun _ => ⟨fun _ => ⟨7, hB1.1.2.2.1, 17, hB1.1.2.2.2.2.2.2.2.1, s, am_ix_n (by omega) (by decide), 312 + 2 * s, hI1.1, hI1.2.1, ?_⟩, fun h => absurd hs17 h⟩⟩
  -- behind the place: the two writes, the body, the end
  have rest : ∀ C2 : cS, cfv (fv (312 + 2 * s)) C1 C2 → gvn C2 (312 + 2 * s) = lV g s (gvn C tv) → ∀ r : Option Nat, (r = none ∧ (∃ p, g.2.1 = some p) ∨ r = some (12 + 5 * a) ∧ g.2.1 = none) → cG c eX1_examineBinding (D + 3 * k + 5 + 1) (cQ K) 144 [some (.ref 5), some (va_rf (some (nb + n))), none, some (va_rf (some (12 + 5 * n))), some (.int (nI dp)), none, some (va_rf (some (312 + 2 * s))), none, none, none, none] [va_rf r, .int (nI s), va_rf (some 9)] (csi C2 8 s (nI (lP g s))) := by
    intro C2 k2 g2v r hr
    have hp119 : lP g s < 119 := by
      unfold lP
      cases er : g.2.1 with
      | none => show 7 * s < 119; omega
      | some p => exact k1.2.1 p er
    have xB : xfr (a + 1) (a + 1) s (s + 1) C1 (csr (csi C2 8 s (nI (lP g s))) 9 s r) := by
      refine ⟨k2.1, k2.2.1, k2.2.2.1, fun x i q => ?_, fun x i q1 q2 q3 q4 => ?_, fun x i q1 q2 => ?_⟩
      · rw [cR_csr_ne _ _ (by omega)]
        show cR C2 x i = _
        rw [k2.2.2.2.1]
      · show cI (csi C2 8 s _) x i = _
        rw [cI_csi_ne _ _ (by omega), (k2.2.2.2.2 x (by rintro (q | q) <;> omega)).1]
      · show cJ C2 x i = _
        rw [(k2.2.2.2.2 x (by rintro (q | q) <;> omega)).2]
    have hT25 : cT (csi C2 8 s (nI (lP g s))) 9 25 17 := k2.T hB1.1.2.2.2.2.2.2.2.2.2.1
    have hTa : cT (csi C2 8 s (nI (lP g s))) (12 + 5 * a) 2 4 := k2.T hFa1.1
    have hTn : cT (csi C2 8 s (nI (lP g s))) (nb + n) 5 7 := k2.T hN1.1
    have hT5 : cT (csi C2 8 s (nI (lP g s))) 5 1 7 := k2.T hB1.1.1
    refine w_X1_examineBinding_144 5 (some (nb + n)) (some (12 + 5 * n)) (nI dp) (some (312 + 2 * s)) r (nI s) (some 9) ⟨9, rfl, 17, hT25, s, am_ix_n (by omega) (by decide), fun q hq => ?_, nb + n, rfl, hTn, hT5, ?_⟩
    · rcases hr with hr | hr
      · rw [hr.1] at hq; cases hq
      · rw [hr.1] at hq; cases hq; exact hTa
    have r9 : cR (csr (csi C2 8 s (nI (lP g s))) 9 s r) 9 s = r := cR_csr _ _ _ _
    have i8 : cI (csr (csi C2 8 s (nI (lP g s))) 9 s r) 8 s = nI (lP g s) := cI_csi C2 8 s _
    have gV : gvn (csr (csi C2 8 s (nI (lP g s))) 9 s r) (312 + 2 * s) = lV g s (gvn C tv) := by
      rw [← g2v]
      unfold gvn
      refine Prod.ext ?_ rfl
      show cI (csi C2 8 s _) (312 + 2 * s) 1 = _
      rw [cI_csi_ne _ _ (by omega)]
    generalize csr (csi C2 8 s (nI (lP g s))) 9 s r = C5 at xB r9 i8 gV ⊢
    have xBw : xfr lo (n + 1) sl sh C1 C5 := xB.mono (by omega) (by omega) v3 (by omega)
    have xx := x1'.trans xBw
    have hB5 := hB.x xx (by omega) (by omega) (by omega)
    have f5 : gf C5 (12 + 5 * a) = toF g := by rw [gf_x xB (by omega) (by omega) (by omega)]; exact f1
    have m7 : cR C5 (nb + n) 5 = some (nb + b) := by have := (hB5.2.2.1 n w2 (Nat.le_refl _)).2.2.2.2.2 1 (by decide); rw [ha] at this; exact this
    have rBV : rB (lV g s (gvn C tv)).1 := by
      unfold lV
      split
      · exact rB_res hV.2.1
      · exact hV.2.1
    have hV5 : exV C5 (312 + 2 * s) (a + 1) (s + 1) := ⟨(hB5.1.2.2.2.2.2.2.2.2.2.2.2.2 s (by omega)).2, by rw [gV]; exact rBV, by omega⟩
    have hE5 : ENV C5 (s :: sc) (s + 1) (a + 1) (up pl s (lP g s)) (up rm s (lR g)) := by
      intro s' hs'
      by_cases q : s' = s
      · subst q
        unfold up
        rw [if_pos rfl, if_pos rfl]
        refine ⟨by omega, hp119, i8, ?_⟩
        rw [r9]
        unfold lR
        rcases hr with ⟨hr, p, hp⟩ | ⟨hr, hp⟩
        · rw [hp]; exact hr
        · rw [hp]
          exact ⟨a, by omega, v1, hr, congrArg (fun z : fT => z.2.2.1) f5, congrArg (fun z : fT => z.2.2.2) f5⟩
      · have h2 : s' ∈ sc := (List.mem_cons.mp hs').resolve_left q
        unfold up
        rw [if_neg q, if_neg q]
        obtain ⟨e0, e1, e2, e3⟩ := (hB5.2.2.2.2.mono (sl' := s + 1) (lo' := a + 1) (by omega) (by omega)) s' h2
        exact ⟨e0, e1, e2, e3⟩
    rw [m7]
    refine ex_kid ih hwb ⟨hB5.1, hB5.2.1, fun m p q => hB5.2.2.1 m (by omega) q, h400, hE5⟩ (by omega) hV5 hd (fun e he C6 x6 f6 => ⟨none, rfl, x6.le, fun _ => ?_, fun z hz => by cases hz⟩) (fun g2 hg2 C6 x6 f6 k6 => ⟨some (12 + 5 * b), rfl, x6.le, fun hz => (by cases hz), fun z hz => ?_⟩)
    · rw [gV] at he
      exact hE2 g s e hg hs he C6 (xx.trans (x6.mono (by omega) (by omega) (by omega) (Nat.le_refl _))) f6
    cases hz
    rw [gV] at hg2
    have xy := xx.trans (x6.mono (lo' := lo) (hi' := n + 1) (sl' := sl) (sh' := sh) (by omega) (by omega) (by omega) (Nat.le_refl _))
    have hB6 := hB.x xy (by omega) (by omega) (by omega)
    have hF := (hB6.1.2.2.2.2.2.2.2.2.2.2.2.1 n w1).2
    have hFb := (hB6.1.2.2.2.2.2.2.2.2.2.2.2.1 b u1).2
    have hN6 := hB6.2.2.1 n w2 (Nat.le_refl _)
    have s6 : cI C6 (nb + n) 3 = nI s := by rw [hN6.2.2.2.2.1, hs]; rfl
    have gb : cI C6 (12 + 5 * b) 0 = nI g2.1 := congrArg (fun z : fT => z.1) f6
    have gp : cI C6 (12 + 5 * b) 1 = rfI g2.2.1 := congrArg (fun z : fT => z.2.1) f6
    have gby : gvn C6 (12 + 5 * b + 1) = g2.2.2.1 := congrArg (fun z : fT => z.2.2.1) f6
    have gbn : gvn C6 (12 + 5 * b + 3) = g2.2.2.2 := congrArg (fun z : fT => z.2.2.2) f6
    have last : ∀ z : Int32, z = rfI (ckLet g2 s).2.1 → cG c eX1_examineBinding (D + 3 * k + 5 + 1) (cQ K) 221 [none, none, none, some (va_rf (some (12 + 5 * n))), none, none, none, none, none, some (va_rf (some (12 + 5 * b))), none] [.int z, va_rf (some (12 + 5 * n))] (csi C6 (12 + 5 * n) 0 (nI g2.1)) := by
      intro z hz
      have v0 : cfv (fun b => b = 12 + 5 * n) C6 (csi C6 (12 + 5 * n) 0 (nI g2.1)) := cfv_csi _ _ _ _
      refine w_X1_examineBinding_221 (some (12 + 5 * n)) (some (12 + 5 * b)) z (some (12 + 5 * n)) ⟨_, rfl, v0.T hF.1, _, rfl, v0.T hF.1, _, rfl, v0.T hFb.1, 12 + 5 * n + 1, (hF.v v0).2.1, (hF.v v0).2.2.2.1.1, ?_⟩
      rw [(hFb.v v0).2.1]
      obtain ⟨t1, t2⟩ := gf_set (C := C6) (t := 12 + 5 * n) (nI g2.1) z
      generalize csi (csi C6 (12 + 5 * n) 0 (nI g2.1)) (12 + 5 * n) 1 z = C7 at t1 t2 ⊢
      have o7 : ∀ t, t + 1 < 12 + 5 * n → gvn C7 t = gvn C6 t := fun t ht => gvn_v t2 (fun q => by have := q.1; omega) (fun q => by have := q.1; omega)
      have hF7 := hF.v t2
      have hFb7 := hFb.v t2
      refine r_copy hF7.2.2.2.1 hFb7.2.2.2.1 (by omega) (by rw [o7 _ (by omega), gby]; exact k6.2.2.1) fun C8 k8 e8 => ⟨rfl, k8.le, 12 + 5 * n + 3, (hF7.v k8).2.2.1, (hF7.v k8).2.2.2.2.1, ?_⟩
      rw [(hFb7.v k8).2.2.1]
      have o8 : ∀ t, t + 1 < 12 + 5 * n → gvn C8 t = gvn C6 t := fun t ht => (gvn_v k8 (by rintro (q | q) <;> omega) (by rintro (q | q) <;> omega)).trans (o7 t ht)
      refine r_copy (hF7.v k8).2.2.2.2 (hFb7.v k8).2.2.2.2 (by omega) (by rw [o8 _ (by omega), gbn]; exact k6.2.2.2) fun C9 k9 e9 => ⟨rfl, k9.le, hG g s g2 hg hs hg2 C9 (xy.trans (ff_x ((t2.trans (k8.mono fv_ff1)).trans (k9.mono fv_ff3)) w2)) ?_ ⟨k6.1, fun p h => ?_, k6.2.2.1, k6.2.2.2⟩⟩
      · have z8 : gvn C8 (12 + 5 * n + 1) = g2.2.2.1 := by rw [e8, o7 (12 + 5 * b + 1) (by omega), gby]
        have z9 : gvn C9 (12 + 5 * n + 3) = g2.2.2.2 := by rw [e9, o8 (12 + 5 * b + 3) (by omega), gbn]
        rw [gf_3 k9, gf_1 k8, t1, z9, z8, hz]
        rfl
      · refine k6.2.1 p ?_
        revert h
        unfold ckLet
        cases g2.2.1 with
        | none => exact fun h => h
        | some y =>
          show (if y / 7 = s then none else some y) = some p → _
          split
          · intro h; cases h
          · exact fun h => h
    have mid : ∀ z : Int32, rB z → (z = 0 → rfI g2.2.1 = rfI (ckLet g2 s).2.1) → (¬ z = 0 → -1 = rfI (ckLet g2 s).2.1) → cG c eX1_examineBinding (D + 3 * k + 5 + 1) (cQ K) 195 [none, none, none, some (va_rf (some (12 + 5 * n))), none, none, none, none, none, some (va_rf (some (12 + 5 * b))), none] [.int z] C6 := by
      intro z _ h1 h2
      refine w_X1_examineBinding_195 (some (12 + 5 * n)) (some (12 + 5 * b)) z ⟨_, rfl, hFb.1, _, rfl, hF.1, ?_⟩
      rw [gb, gp]
      exact ⟨fun h => last _ (h1 h), fun h => last _ (h2 h)⟩
    refine ⟨hFb.1, ?_⟩
    rw [gp, s6]
    cases er : g2.2.1 with
    | none =>
      refine ⟨fun _ => mid 0 rB0 (fun _ => ?_) (fun h => absurd rfl h), fun h => absurd rfl h⟩
      unfold ckLet
      rw [er]
    | some p =>
      have hp := k6.2.1 p er
      have ne : rfI (some p) ≠ -1 := fun h => by have := (rfI_inj (r := some p) (fun p' h' => by cases h'; omega)).mp h; cases this
      have ed : rfI (some p) / 7 = nI (p / 7) := nI_div7 (by omega)
      rw [ed]
      have ei : nI (p / 7) = nI s ↔ p / 7 = s := nI_eq (by omega) (by omega)
      rw [ei]
      refine ⟨fun h => absurd h ne, fun _ => ⟨fun h => mid 0 rB0 (fun _ => ?_) (fun h => absurd rfl h), fun h => mid 1 rB1 (fun h => absurd h (by decide)) (fun _ => ?_)⟩⟩
      · unfold ckLet
        rw [er]
        show _ = rfI (if p / 7 = s then none else some p)
        rw [if_neg h]
      · unfold ckLet
        rw [er]
        show _ = rfI (if p / 7 = s then none else some p)
        rw [if_pos h]
        rfl
  refine r_copy hI1.2 hV1.1 (by rcases hV.2.2 with q | q | q <;> omega) hV1.2.1 fun C2 k2 e2 => ⟨rfl, k2.le, k2.T hFa1.1, ?_⟩
  have s2 : cI C2 (nb + n) 3 = nI s := by rw [(k2.2.2.2.2 (nb + n) (by rintro (q | q) <;> omega)).1]; exact s1
  have p2 : cI C2 (12 + 5 * a) 1 = rfI g.2.1 := by rw [(k2.2.2.2.2 (12 + 5 * a) (by rintro (q | q) <;> omega)).1]; exact congrArg (fun z : fT => z.2.1) f1
  have q2 : cI C2 (12 + 5 * a) 0 = nI g.1 := by rw [(k2.2.2.2.2 (12 + 5 * a) (by rintro (q | q) <;> omega)).1]; exact congrArg (fun z : fT => z.1) f1
  rw [s2, p2, q2, hI1.1, show nI s * 7 = nI (s * 7) from pk_mul s 7]
  have go : ∀ C3 : cS, cfv (fv (312 + 2 * s)) C1 C3 → gvn C3 (312 + 2 * s) = lV g s (gvn C tv) → ∀ z : Int32, (z = 0 ∧ (∃ p, g.2.1 = some p) ∨ z = 1 ∧ g.2.1 = none) → cG c eX1_examineBinding (D + 3 * k + 5 + 1) (cQ K) 101 [some (.ref 5), some (va_rf (some (nb + n))), none, some (va_rf (some (12 + 5 * n))), some (.int (nI dp)), some (va_rf (some (12 + 5 * a))), some (va_rf (some (312 + 2 * s))), some (.int (nI (s * 7))), some (.int z), none, none] [] C3 := by
    intro C3 k3 g3 z hz
    have s3 : cI C3 (nb + n) 3 = nI s := by rw [(k3.2.2.2.2 (nb + n) (by rintro (q | q) <;> omega)).1]; exact s1
    have p3 : cI C3 (12 + 5 * a) 1 = rfI g.2.1 := by rw [(k3.2.2.2.2 (12 + 5 * a) (by rintro (q | q) <;> omega)).1]; exact congrArg (fun z : fT => z.2.1) f1
    have c2 : cR C3 5 2 = some 8 := by rw [k3.2.2.2.1]; exact hB1.1.2.2.2.1
    have c3 : cR C3 5 3 = some 9 := by rw [k3.2.2.2.1]; exact hB1.1.2.2.2.2.1
    refine w_X1_examineBinding_101 5 (some (nb + n)) (some (12 + 5 * n)) (nI dp) (some (12 + 5 * a)) (some (312 + 2 * s)) (nI (s * 7)) z ⟨k3.T hB1.1.1, nb + n, rfl, k3.T hN1.1, ?_⟩
    rw [s3, c2]
    have st : ∀ y : Int32, y = nI (lP g s) → cG c eX1_examineBinding (D + 3 * k + 5 + 1) (cQ K) 124 [some (.ref 5), some (va_rf (some (nb + n))), none, some (va_rf (some (12 + 5 * n))), some (.int (nI dp)), some (va_rf (some (12 + 5 * a))), some (va_rf (some (312 + 2 * s))), none, some (.int z), none, none] [.int y, .int (nI s), va_rf (some 8)] C3 := by
      intro y hy
      refine w_X1_examineBinding_124 5 (some (nb + n)) (some (12 + 5 * n)) (nI dp) (some (12 + 5 * a)) (some (312 + 2 * s)) z y (nI s) (some 8) ⟨8, rfl, 17, k3.T hB1.1.2.2.2.2.2.2.2.2.1, s, am_ix_n (by omega) (by decide), k3.T hB1.1.1, nb + n, rfl, k3.T hN1.1, ?_⟩
      rw [cI_csi_ne _ _ (by omega), s3, c3, hy]
      rcases hz with ⟨hz, hp⟩ | ⟨hz, hp⟩
      · exact ⟨fun _ => rest C3 k3 g3 none (Or.inl ⟨rfl, hp⟩), fun h => absurd hz h⟩
      · exact ⟨fun h => (by rw [hz] at h; exact absurd h (by decide)), fun _ => rest C3 k3 g3 _ (Or.inr ⟨rfl, hp⟩)⟩
    refine ⟨fun h => ⟨_, rfl, k3.T hFa1.1, st _ ?_⟩, fun h => st _ ?_⟩
    · rw [p3]
      rcases hz with ⟨_, p, hp⟩ | ⟨hz, _⟩
      · unfold lP; rw [hp]; rfl
      · rw [hz] at h; exact absurd h (by decide)
    · rcases hz with ⟨hz, _⟩ | ⟨_, hp⟩
      · exact absurd hz h
      · unfold lP; rw [hp, Nat.mul_comm]
  refine ⟨fun hne => go C2 k2 ?_ 0 (Or.inl ⟨rfl, ?_⟩), fun he => ?_⟩
  · cases er : g.2.1 with
    | none => rw [er] at hne; exact absurd rfl hne
    | some p => unfold lV; rw [er, e2, eV1]
  · cases er : g.2.1 with
    | none => rw [er] at hne; exact absurd rfl hne
    | some p => exact ⟨p, rfl⟩
  · have er : g.2.1 = none := (rfI_inj fun p hp => by have := k1.2.1 p hp; omega).mp he
    refine r_restrict (p := s * 7) (k := g.1) (hI1.2.v k2) (by omega) k1.1 fun C3 k3 e3 => ⟨rfl, k3.le, go C3 (k2.trans k3) ?_ 1 (Or.inr ⟨rfl, er⟩)⟩
    unfold lV
    rw [er, e3, e2, eV1, Nat.mul_comm]
end EX5
