/-! The law's loop. -/
theorem and15 (x : Int32) : ∃ k, k < 16 ∧ x &&& 15 = nI k := by
  refine ⟨x.toBitVec.toNat % 16, Nat.mod_lt _ (by decide), ?_⟩
  apply Int32.toBitVec_inj.mp
  apply BitVec.eq_of_toNat_eq
  show (x.toBitVec &&& 15#32).toNat = (BitVec.ofNat 32 (x.toBitVec.toNat % 16)).toNat
  rw [BitVec.toNat_and, BitVec.toNat_ofNat]
  show x.toBitVec.toNat &&& 15 = _
  rw [show (15 : Nat) = 2 ^ 4 - 1 from rfl, Nat.and_two_pow_sub_one_eq_mod, BitVec.toNat_ofNat]
  have := Nat.mod_lt x.toBitVec.toNat (show 16 > 0 by decide)
  omega
theorem lim_iff {L m : Nat} (hL : L ≤ 256) (hm : m ≤ 1000) : nI L - 4 < nI m ↔ L < m + 4 := by
  have e : (nI L - 4).toInt = (L : Int) - 4 := by
    by_cases q : 4 ≤ L
    · rw [show nI L - 4 = nI (L - 4) from pk_sub (a := L) (b := 4) q, nI_toInt (by omega)]
      omega
    · have : L = 0 ∨ L = 1 ∨ L = 2 ∨ L = 3 := by omega
      rcases this with rfl | rfl | rfl | rfl <;> decide +kernel
  rw [Int32.lt_iff_toInt_lt, e, nI_toInt (by omega)]
  omega
theorem in_l {α β : Type} {a b : α} {x : α ⊕ β} (h : x = .inl a) (k : x = .inl b) : b = a := by
  have := h.symm.trans k
  cases this
  rfl
theorem in_r {α β : Type} {a b : β} {x : α ⊕ β} (h : x = .inr a) (k : x = .inr b) : b = a := by
  have := h.symm.trans k
  cases this
  rfl
theorem in_no {α β : Type} {a : α} {b : β} {x : α ⊕ β} {p : Prop} (h : x = .inl a) (k : x = .inr b) : p := by
  have := h.symm.trans k
  cases this
section LAZ
variable {L : Nat} {xs : Nat → Int32} {W n : Nat} {C : cS} {A : xA} {S : rS} {g : am_P} {l : Launch} {d : Nat}
theorem t_inp {as : List Value} (h : HI L xs W n C A S) (a : AI A) {z : Int32} {G K0 : cS → Prop}
    (hr : rM (g, l, 356, cH C) d eX10_input as S (fun v S1 => v = none ∧ S1.1 0 0 = z ∧ RI S1 A)) (go : ∀ C', LI L xs W (n + 1) C' A → G C') :
    cM (g, l) d eX10_input as C (fun v C39 => v = none ∧ cle C C39 ∧ (cM (g, l) d eX10_thrown (.ref 356 :: []) C39 (fun v C45 => ∃ z46 : Int32, v = some (.int z46) ∧ cle C39 C45 ∧ ((z46 = z → G C45) ∧ (¬ z46 = z → K0 C45))))) := by
  refine rM.c h.2.1 hr fun v S1 ⟨e1, e2, e3⟩ => ⟨e1, mput_le _ _, t_thrown (h.put (S' := S1)) a e3 fun C' le li _ => ⟨_, rfl, le, ?_⟩⟩
  rw [e2]
  exact ⟨fun _ => go C' li, fun w => absurd rfl w⟩
theorem law_loop (hl : l.stackTraces = false) (hL : L ≤ 256) (hW : W ≤ 7000000) : ∀ r n, L < 4 * n + 4 * r + 4 → n ≤ 64 → ∀ C A, LI L xs W n C A → cG (g, l) eL_law (299 + 1) (cQ lw_K) 23 [some (.ref 0), some (.ref 1), some (.ref 356), some (.ref 399), some (.int (nI (4 * n))), none, none] [] C := by
  intro r
  induction r with
  | zero =>
    intro n h h64 C A k
    have b1 := k.2.2.2.2.2.2.1
    have b2 := k.2.2.2.2.2.2.2
    have q : nI L - 4 < nI (4 * n) := (lim_iff hL (by omega)).mpr (by omega)
    exact w_L_law_23 1 356 399 (nI (4 * n)) k.2.2.2.1 ⟨fun _ => ⟨rfl, Nat.le_trans b1 (by omega), Nat.le_trans b2 (by omega)⟩, fun z => absurd q z⟩
  | succ r ih =>
    intro n h h64 C A k
    have b1 := k.2.2.2.2.2.2.1
    have b2 := k.2.2.2.2.2.2.2
    by_cases hq : L < 4 * n + 4
    · have q : nI L - 4 < nI (4 * n) := (lim_iff hL (by omega)).mpr hq
      exact w_L_law_23 1 356 399 (nI (4 * n)) k.2.2.2.1 ⟨fun _ => ⟨rfl, Nat.le_trans b1 (by omega), Nat.le_trans b2 (by omega)⟩, fun z => absurd q z⟩
    have go : ∀ C' A', LI L xs W (n + 1) C' A' → cG (g, l) eL_law (299 + 1) (cQ lw_K) 708 [some (.ref 0), some (.ref 1), some (.ref 356), some (.ref 399), some (.int (nI (4 * n))), none, none] [] C' := fun C' A' k' => w_L_law_708 1 356 399 (nI (4 * n)) k'.2.2.2.1 (by
      rw [show nI (4 * n) + 4 = nI (4 * (n + 1)) from nI_add (4 * n) 4]
      exact ih (n + 1) (by omega) (by omega) C' A' k')
    obtain ⟨S, m, rr⟩ := k.2.2.1
    have a := k.2.1
    have H0 : HI L xs W n C A S := (k.raw m (wfr.refl C) k.1).1
    have cx : ∀ {C2 : cS} {A2 : xA} {S2 : rS}, HI L xs W n C2 A2 S2 → ∀ i, cI C2 0 i = cI C 0 i := fun h i => by rw [h.2.2.2.1 i, k.2.2.2.2.1 i]
    have ix1 : am_ix (nI (4 * n) + 1) (4 * n + 1) L := by rw [nI_1]; exact am_ix_n (by omega) (by omega)
    have ix2 : am_ix (nI (4 * n) + 2) (4 * n + 2) L := by rw [show nI (4 * n) + 2 = nI (4 * n + 2) from nI_add (4 * n) 2]; exact am_ix_n (by omega) (by omega)
    have ix3 : am_ix (nI (4 * n) + 3) (4 * n + 3) L := by rw [show nI (4 * n) + 3 = nI (4 * n + 3) from nI_add (4 * n) 3]; exact am_ix_n (by omega) (by omega)
    refine w_L_law_23 1 356 399 (nI (4 * n)) k.2.2.2.1 ⟨fun z => absurd ((lim_iff hL (by omega)).mp z) hq, fun _ => ⟨4 * n, am_ix_n (by omega) (by omega), fun _ => ?_, fun _ => ?_, fun _ => ?_, fun _ => ?_, fun _ => ?_, fun _ => ?_, fun _ => ?_, fun _ => ?_, fun _ => ?_, fun _ => ?_, fun _ => ?_, fun _ => ?_, fun _ => ?_, fun _ => ?_, fun _ => ?_, fun _ => ?_, and15 _⟩⟩
    · -- type
      refine ⟨4 * n + 1, ix1, k.T, ?_⟩
      rw [chr_n]
      have hx := Nat.mod_lt (cI C 0 (4 * n + 1)).toUInt32.toNat (show 65536 > 0 by decide)
      refine k_type (d := 298) k.1 a hx (fun q => ⟨_, rfl, cle.refl _, 4 * n + 1, ix1, H0.T, ?_⟩) (fun q C' w c => ⟨_, rfl, w.1, 4 * n + 1, ix1, (k.raw m w c).1.T, ?_⟩)
      · rw [chr_n]
        exact t_ans H0 a (r_type (m.ok g l) rr a (fun _ S' r' => ⟨rfl, r'⟩) (fun q' => absurd q (by omega))) (fun C'' k' => go _ _ k')
      · have H := (k.raw m w c).1
        rw [cx H, chr_n]
        exact t_ans H (a.type hx q) (r_type (H.2.1.ok g l) rr a (fun q' => absurd q (by omega)) (fun _ S' r' => ⟨rfl, r'⟩)) (fun C'' k' => go _ _ k')
    · -- wipe
      refine ⟨k.T, k_wipe (d := 298) k.1 fun C' w c => ⟨rfl, w.1, (k.raw m w c).1.T, ?_⟩⟩
      have H := (k.raw m w c).1
      exact t_none H a.wipe (r_wipe (H.2.1.ok g l) rr fun S' r' => ⟨rfl, r'⟩) (fun C'' k' => go _ _ k')
    · -- define
      refine o_def (d := 270) hl k m (fun e he C2 H le => ⟨_, rfl, le, H.T, ?_⟩) (fun j ty x s e he hn C2 H le => ⟨_, rfl, le, H.T, ?_⟩) (fun j ty x s f he hn hf C2 H le ej => ⟨_, rfl, le, H.T, ?_⟩)
      · refine t_call H (a.fl _) (r_def (D := 292) (H.2.1.ok g l) rr a (fun _ _ _ _ _ he' => in_no he he') (fun e' he' S' c0 r' => ⟨_, rfl, c0, ?_, fun z => absurd z (by decide)⟩) (fun _ _ _ _ _ he' => in_no he he') (fun _ _ _ _ _ he' => in_no he he')) (fun C'' k' => go _ _ k')
        rw [← in_l he he']; exact r'
      · refine t_call H (a.fl _) (r_def (D := 292) (H.2.1.ok g l) rr a (fun _ _ _ _ _ he' hn' => ?_) (fun e' he' => in_no he' he) (fun _ _ _ _ e' he' hn' S' c0 r' => ⟨_, rfl, c0, ?_, fun z => absurd z (by decide)⟩) (fun _ _ _ _ _ he' hn' => ?_)) (fun C'' k' => go _ _ k')
        · cases in_r he he'
          exact in_no hn hn'
        · cases in_r he he'
          rw [← in_l hn hn']; exact r'
        · cases in_r he he'
          exact in_no hn hn'
      · refine t_call H (a.define he hf _) (r_def (D := 292) (H.2.1.ok g l) rr a (fun _ _ _ _ _ he' hn' => ?_) (fun e' he' => in_no he' he) (fun _ _ _ _ e' he' hn' => ?_) (fun _ _ _ _ _ he' hn' S' c0 r' => ⟨_, rfl, c0, ?_, fun _ => ?_⟩)) (fun C'' k' => go _ _ k')
        · cases in_r he he'
          cases in_r hn hn'
          exact hf
        · cases in_r he he'
          exact in_no hn' hn
        · cases in_r he he'
          cases in_r hn hn'
          exact r'
        · cases in_r he he'
          cases in_r hn hn'
          exact ej
    · -- check
      refine o_chk (d := 270) hl k m (fun e he C2 H le => ⟨_, rfl, le, H.T, ?_⟩) (fun s e he hn C2 H le => ⟨_, rfl, le, H.T, ?_⟩) (fun s f he hn C2 H le ej => ⟨_, rfl, le, H.T, ?_⟩)
      · refine t_call H (a.fl _) (r_chk (D := 292) (H.2.1.ok g l) rr a (fun e' he' S' c0 r' => ⟨_, rfl, c0, ?_, fun z => absurd z (by decide)⟩) (fun _ _ he' => in_no he he') (fun _ _ he' => in_no he he')) (fun C'' k' => go _ _ k')
        rw [← in_l he he']; exact r'
      · refine t_call H (a.check he _ _ _ _) (r_chk (D := 292) (H.2.1.ok g l) rr a (fun e' he' => in_no he' he) (fun _ e' he' hn' S' c0 r' => ⟨_, rfl, c0, ?_, fun z => absurd z (by decide)⟩) (fun _ _ he' hn' => ?_)) (fun C'' k' => go _ _ k')
        · cases in_r he he'
          rw [← in_l hn hn']; exact r'
        · cases in_r he he'
          exact in_no hn hn'
      · refine t_call H (a.check he _ _ _ _) (r_chk (D := 292) (H.2.1.ok g l) rr a (fun e' he' => in_no he' he) (fun _ e' he' hn' => ?_) (fun _ _ he' hn' S' c0 r' => ⟨_, rfl, c0, ?_, fun _ => ?_⟩)) (fun C'' k' => go _ _ k')
        · cases in_r he he'
          exact in_no hn' hn
        · cases in_r he he'
          cases in_r hn hn'
          exact r'
        · cases in_r he he'
          cases in_r hn hn'
          exact ej
    · -- fault
      exact ⟨k.T, k_fault k.1 ⟨_, rfl, cle.refl _, H0.T, t_ans H0 a (r_fault (m.ok g l) rr fun S' r' => ⟨rfl, r'⟩) (fun C'' k' => go _ _ k')⟩⟩
    · -- view
      have ref : ∀ (C2 : cS) (q z : Int32) {K0 : cS → Prop}, HI L xs W n C2 A S → (A.2.2.1.2.1 = false → z = 1) → (A.2.2.1.2.1 = true → ¬ (isN 2 (cI C 0 (4 * n + 2)) ∧ isN 7 (cI C 0 (4 * n + 3))) → z = 2) → (A.2.2.1.2.1 = true → ∀ i j, i < 2 → j < 7 → cI C 0 (4 * n + 2) = nI i → cI C 0 (4 * n + 3) = nI j → z = 0 ∧ cJ C2 399 0 = Int32.toInt64 (if q = 0 then A.2.2.1.2.2.2.2 (7 * i + j) else A.2.2.1.2.2.2.1 (7 * i + j))) → cM (g, l) 299 eX10_view (.ref 356 :: [.int q, .int (cI C2 0 (4 * n + 2)), .int (cI C2 0 (4 * n + 3))]) C2 (fun v C39 => ∃ z40 : Int32, v = some (.int z40) ∧ cle C2 C39 ∧ (cM (g, l) 299 eX10_thrown (.ref 356 :: []) C39 (fun v C45 => ∃ z46 : Int32, v = some (.int z46) ∧ cle C39 C45 ∧ ((z46 = z → ((¬ z = 0 → cG (g, l) eL_law (299 + 1) (cQ lw_K) 708 [some (.ref 0), some (.ref 1), some (.ref 356), some (.ref 399), some (.int (nI (4 * n))), none, none] [] C45) ∧ (z = 0 → (∃ n53 : Nat, cT C45 399 21 n53 ∧ (∃ j54 : Nat, am_ix 0 j54 n53 ∧ (((lg_cmp (cJ C45 399 j54) (Int32.toInt64 z40)) = 0 → cG (g, l) eL_law (299 + 1) (cQ lw_K) 708 [some (.ref 0), some (.ref 1), some (.ref 356), some (.ref 399), some (.int (nI (4 * n))), none, none] [] C45) ∧ (¬ (lg_cmp (cJ C45 399 j54) (Int32.toInt64 z40)) = 0 → K0 C45))))))) ∧ (¬ z46 = z → K0 C45))))) := by
        intro C2 q z K0 H u1 u2 u0
        rw [cx H, cx H]
        refine t_call H a (r_view (d := 298) (H.2.1.ok g l) rr a (fun w S' c0 r' => ⟨_, rfl, c0.trans (u1 w).symm, r', fun e => ?_⟩) (fun w w2 S' c0 r' => ⟨_, rfl, c0.trans (u2 w w2).symm, r', fun e => ?_⟩) (fun w i j i1 i2 i3 i4 S' c0 r' => ⟨_, rfl, c0.trans (u0 w i j i1 i2 i3 i4).1.symm, r', fun _ => (u0 w i j i1 i2 i3 i4).2⟩)) (fun C'' k' => go _ _ k')
        · rw [u1 w] at e; exact absurd e (by decide)
        · rw [u2 w w2] at e; exact absurd e (by decide)
      have tf : A.2.2.1.2.1 = false → A.2.2.1.2.1 = true → False := fun u v => by rw [u] at v; cases v
      refine ⟨4 * n + 1, ix1, fun z0 => ⟨4 * n + 2, ix2, 4 * n + 3, ix3, ?_⟩, fun z0 => ⟨4 * n + 2, ix2, 4 * n + 3, ix3, ?_⟩⟩
      · refine o_view (d := 296) hl k m (fun u C2 H le => ⟨_, rfl, le, 4 * n + 1, ix1, fun _ => ⟨4 * n + 2, ix2, 4 * n + 3, ix3, H.T, ref C2 0 1 H (fun _ => rfl) (fun v => (tf u v).elim) (fun v => (tf u v).elim)⟩, fun w => absurd ((cx H _).trans z0) w⟩) (fun u u2 C2 H le => ⟨_, rfl, le, 4 * n + 1, ix1, fun _ => ⟨4 * n + 2, ix2, 4 * n + 3, ix3, H.T, ref C2 0 2 H (fun v => (tf v u).elim) (fun _ _ => rfl) (fun _ i j i1 i2 i3 i4 => absurd ⟨⟨i, i1, i3⟩, ⟨j, i2, i4⟩⟩ u2)⟩, fun w => absurd ((cx H _).trans z0) w⟩) (fun u i j i1 i2 i3 i4 C2 H le ej => ⟨_, rfl, le, 4 * n + 1, ix1, fun _ => ⟨4 * n + 2, ix2, 4 * n + 3, ix3, H.T, ref C2 0 0 H (fun v => (tf v u).elim) (fun _ v => absurd ⟨⟨i, i1, i3⟩, ⟨j, i2, i4⟩⟩ v) (fun _ i' j' i1' i2' i3' i4' => ⟨rfl, ?_⟩)⟩, fun w => absurd ((cx H _).trans z0) w⟩)
        have ei : i' = i := (nI_is (by omega) (by omega)).mp (i3'.symm.trans i3)
        have ej' : j' = j := (nI_is (by omega) (by omega)).mp (i4'.symm.trans i4)
        rw [ei, ej']
        exact ej
      · refine o_view (d := 296) hl k m (fun u C2 H le => ⟨_, rfl, le, 4 * n + 1, ix1, fun w => absurd ((cx H _).symm.trans w) z0, fun _ => ⟨4 * n + 2, ix2, 4 * n + 3, ix3, H.T, ref C2 1 1 H (fun _ => rfl) (fun v => (tf u v).elim) (fun v => (tf u v).elim)⟩⟩) (fun u u2 C2 H le => ⟨_, rfl, le, 4 * n + 1, ix1, fun w => absurd ((cx H _).symm.trans w) z0, fun _ => ⟨4 * n + 2, ix2, 4 * n + 3, ix3, H.T, ref C2 1 2 H (fun v => (tf v u).elim) (fun _ _ => rfl) (fun _ i j i1 i2 i3 i4 => absurd ⟨⟨i, i1, i3⟩, ⟨j, i2, i4⟩⟩ u2)⟩⟩) (fun u i j i1 i2 i3 i4 C2 H le ej => ⟨_, rfl, le, 4 * n + 1, ix1, fun w => absurd ((cx H _).symm.trans w) z0, fun _ => ⟨4 * n + 2, ix2, 4 * n + 3, ix3, H.T, ref C2 1 0 H (fun v => (tf v u).elim) (fun _ v => absurd ⟨⟨i, i1, i3⟩, ⟨j, i2, i4⟩⟩ v) (fun _ i' j' i1' i2' i3' i4' => ⟨rfl, ?_⟩)⟩⟩)
        have ei : i' = i := (nI_is (by omega) (by omega)).mp (i3'.symm.trans i3)
        have ej' : j' = j := (nI_is (by omega) (by omega)).mp (i4'.symm.trans i4)
        rw [ei, ej']
        exact ej
    · -- forget
      refine ⟨k.T, k_forget k.1 fun C' w c => ⟨rfl, w.1, (k.raw m w c).1.T, ?_⟩⟩
      have H := (k.raw m w c).1
      exact t_none H a.forget (r_forget (H.2.1.ok g l) rr fun S' r' => ⟨rfl, r'⟩) (fun C'' k' => go _ _ k')
    · -- number
      refine ⟨4 * n + 1, ix1, o_number (d := 295) hl k m (fun u C2 H le => ⟨_, rfl, le, 4 * n + 1, ix1, H.T, ?_⟩) (fun u C2 H le ej => ⟨_, rfl, le, 4 * n + 1, ix1, H.T, ?_⟩)⟩
      · rw [cx H]
        exact t_call H a (r_number (d := 298) (H.2.1.ok g l) rr a (fun _ S' c0 r' => ⟨_, rfl, c0, r', fun z => absurd z (by decide)⟩) (fun v => absurd u (by omega))) (fun C'' k' => go _ _ k')
      · rw [cx H]
        exact t_call H (a.keep u (Or.inl ⟨rfl, rfl, rfl⟩)) (r_number (d := 298) (H.2.1.ok g l) rr a (fun v => absurd u (by omega)) (fun _ S' c0 r' => ⟨_, rfl, c0, r', fun _ => ej⟩)) (fun C'' k' => go _ _ k')
    · -- pair
      refine ⟨4 * n + 1, ix1, 4 * n + 2, ix2, o_pair (d := 295) hl k m (fun u C2 H le => ⟨_, rfl, le, 4 * n + 1, ix1, 4 * n + 2, ix2, H.T, ?_⟩) (fun u u2 C2 H le => ⟨_, rfl, le, 4 * n + 1, ix1, 4 * n + 2, ix2, H.T, ?_⟩) (fun i j i1 i2 i3 i4 u C2 H le ej => ⟨_, rfl, le, 4 * n + 1, ix1, 4 * n + 2, ix2, H.T, ?_⟩)⟩
      · rw [cx H, cx H]
        exact t_call H a (r_pair (d := 298) (H.2.1.ok g l) rr a (fun _ S' c0 r' => ⟨_, rfl, c0, r', fun z => absurd z (by decide)⟩) (fun v => absurd v u) (fun i j i1 i2 i3 i4 => absurd ⟨⟨i, i1, i3⟩, ⟨j, i2, i4⟩⟩ u)) (fun C'' k' => go _ _ k')
      · rw [cx H, cx H]
        exact t_call H a (r_pair (d := 298) (H.2.1.ok g l) rr a (fun v => absurd u v) (fun _ _ S' c0 r' => ⟨_, rfl, c0, r', fun z => absurd z (by decide)⟩) (fun i j i1 i2 i3 i4 v => absurd u2 (by omega))) (fun C'' k' => go _ _ k')
      · rw [cx H, cx H]
        have b40 := a.2.2.2.2.2.1
        refine t_call H (a.keep u (Or.inr ⟨rfl, i, j, i1, i2, rfl, rfl⟩)) (r_pair (d := 298) (H.2.1.ok g l) rr a (fun v => absurd ⟨⟨i, i1, i3⟩, ⟨j, i2, i4⟩⟩ v) (fun _ v => absurd u (by omega)) (fun i' j' i1' i2' i3' i4' _ S' c0 r' => ⟨_, rfl, c0, ?_, fun _ => ej⟩)) (fun C'' k' => go _ _ k')
        have ei : i' = i := (nI_is (by omega) (by omega)).mp (i3'.symm.trans i3)
        have ej' : j' = j := (nI_is (by omega) (by omega)).mp (i4'.symm.trans i4)
        rw [← ei, ← ej']
        exact r'
    · -- input
      refine ⟨4 * n + 1, ix1, 4 * n + 2, ix2, o_input (d := 297) hl k m (fun u C2 H le => ⟨_, rfl, le, 4 * n + 1, ix1, 4 * n + 2, ix2, H.T, ?_⟩) (fun u u2 C2 H le => ⟨_, rfl, le, 4 * n + 1, ix1, 4 * n + 2, ix2, H.T, ?_⟩) (fun i j i1 i2 i3 i4 C2 H le => ⟨_, rfl, le, 4 * n + 1, ix1, 4 * n + 2, ix2, H.T, ?_⟩)⟩
      · rw [cx H, cx H]
        exact t_inp H a (r_input (d := 298) (H.2.1.ok g l) rr a (fun _ S' c0 r' => ⟨rfl, c0, r'⟩) (fun v => absurd v u) (fun i j i1 i2 i3 i4 => absurd ⟨i, i1, i3⟩ u)) (fun C'' k' => go _ _ k')
      · rw [cx H, cx H]
        exact t_inp H a (r_input (d := 298) (H.2.1.ok g l) rr a (fun v => absurd u v) (fun _ _ S' c0 r' => ⟨rfl, c0, r'⟩) (fun i j i1 i2 i3 i4 => absurd ⟨j, i2, i4⟩ u2)) (fun C'' k' => go _ _ k')
      · rw [cx H, cx H]
        have b40 := a.2.2.2.2.2.1
        refine t_inp H (a.input i2) (r_input (d := 298) (H.2.1.ok g l) rr a (fun v => absurd ⟨i, i1, i3⟩ v) (fun _ v => absurd ⟨j, i2, i4⟩ v) (fun i' j' i1' i2' i3' i4' S' c0 r' => ⟨rfl, c0, ?_⟩)) (fun C'' k' => go _ _ k')
        have ei : i' = i := (nI_is (by omega) (by omega)).mp (i3'.symm.trans i3)
        have ej' : j' = j := (nI_is (by omega) (by omega)).mp (i4'.symm.trans i4)
        rw [← ei, ← ej']
        exact r'
    · -- clear
      refine ⟨k.T, k_clear (d := 298) k.1 a fun C' w c => ⟨rfl, w.1, (k.raw m w c).1.T, ?_⟩⟩
      have H := (k.raw m w c).1
      exact t_none H a.clear (r_clear (d := 298) (H.2.1.ok g l) rr a fun S' r' => ⟨rfl, r'⟩) (fun C'' k' => go _ _ k')
    · -- run
      refine ⟨4 * n + 1, ix1, o_run (d := 237) hl k m (fun u C2 H le => ⟨_, rfl, le, 4 * n + 1, ix1, H.T, ?_⟩) (fun u u2 C2 H le => ⟨_, rfl, le, 4 * n + 1, ix1, H.T, ?_⟩) (fun b i u1 u2 u3 st e he C2 H le ej => ⟨_, rfl, le, 4 * n + 1, ix1, H.T, ?_⟩) (fun b i u1 u2 u3 st v he C2 H le ej => ⟨_, rfl, le, 4 * n + 1, ix1, H.T, ?_⟩)⟩
      · rw [cx H]
        exact t_call H a (r_run (D := 294) (H.2.1.ok g l) rr a (fun _ S' c0 r' => ⟨_, rfl, c0, r', fun z => absurd z (by decide)⟩) (fun v => by rw [u] at v; cases v) (fun b i v => by rw [u] at v; cases v) (fun b i v => by rw [u] at v; cases v)) (fun C'' k' => go _ _ k')
      · rw [cx H]
        exact t_call H a (r_run (D := 294) (H.2.1.ok g l) rr a (fun v => by rw [v] at u; cases u) (fun _ _ S' c0 r' => ⟨_, rfl, c0, r', fun z => absurd z (by decide)⟩) (fun b i _ i2 i3 => absurd ⟨i, by omega, i3⟩ u2) (fun b i _ i2 i3 => absurd ⟨i, by omega, i3⟩ u2)) (fun C'' k' => go _ _ k')
      · rw [cx H]
        refine t_call H (a.run u1 he) (r_run (D := 294) (H.2.1.ok g l) rr a (fun v => by rw [v] at u1; cases u1) (fun _ v => absurd ⟨i, by omega, u3⟩ v) (fun b' i' v1 v2 v3 st' e' he' S' c0 r' => ⟨_, rfl, c0, ?_, fun _ => ?_⟩) (fun b' i' v1 v2 v3 st' e' he' => ?_)) (fun C'' k' => go _ _ k')
        · have eb : b' = b := Option.some.inj (v1.symm.trans u1)
          have ei : i' = i := (nI_is (by omega) (by omega)).mp (v3.symm.trans u3)
          rw [eb, ei, he] at he'
          cases he'
          exact r'
        · have eb : b' = b := Option.some.inj (v1.symm.trans u1)
          have ei : i' = i := (nI_is (by omega) (by omega)).mp (v3.symm.trans u3)
          rw [eb, ei, he] at he'
          cases he'
          exact ej
        · have eb : b' = b := Option.some.inj (v1.symm.trans u1)
          have ei : i' = i := (nI_is (by omega) (by omega)).mp (v3.symm.trans u3)
          rw [eb, ei, he] at he'
          cases he'
      · rw [cx H]
        refine t_call H (a.run u1 he) (r_run (D := 294) (H.2.1.ok g l) rr a (fun v => by rw [v] at u1; cases u1) (fun _ v => absurd ⟨i, by omega, u3⟩ v) (fun b' i' v1 v2 v3 st' e' he' => ?_) (fun b' i' v1 v2 v3 st' e' he' S' c0 r' => ⟨_, rfl, c0, ?_, fun _ => ej⟩)) (fun C'' k' => go _ _ k')
        · have eb : b' = b := Option.some.inj (v1.symm.trans u1)
          have ei : i' = i := (nI_is (by omega) (by omega)).mp (v3.symm.trans u3)
          rw [eb, ei, he] at he'
          cases he'
        · have eb : b' = b := Option.some.inj (v1.symm.trans u1)
          have ei : i' = i := (nI_is (by omega) (by omega)).mp (v3.symm.trans u3)
          rw [eb, ei, he] at he'
          cases he'
          exact r'
    · -- steps
      exact ⟨k.T, k_steps k.1 ⟨_, rfl, cle.refl _, H0.T, t_ans H0 a (r_steps (m.ok g l) rr fun S' r' => ⟨rfl, r'⟩) (fun C'' k' => go _ _ k')⟩⟩
    · -- result
      exact ⟨k.T, k_result k.1 ⟨_, rfl, cle.refl _, H0.T, t_ans H0 a (r_result (m.ok g l) rr fun S' r' => ⟨rfl, r'⟩) (fun C'' k' => go _ _ k')⟩⟩
    · -- count
      exact ⟨k.T, k_count k.1 ⟨_, rfl, cle.refl _, H0.T, t_ans H0 a (r_count (m.ok g l) rr fun S' r' => ⟨rfl, r'⟩) (fun C'' k' => go _ _ k')⟩⟩
    · -- cell
      refine ⟨4 * n + 1, ix1, 4 * n + 2, ix2, o_cell (d := 297) hl k m (fun u C2 H le => ⟨_, rfl, le, 4 * n + 1, ix1, 4 * n + 2, ix2, H.T, ?_⟩) (fun u u2 C2 H le => ⟨_, rfl, le, 4 * n + 1, ix1, 4 * n + 2, ix2, H.T, ?_⟩) (fun i w i1 i2 i3 i4 C2 H le ej => ⟨_, rfl, le, 4 * n + 1, ix1, 4 * n + 2, ix2, H.T, ?_⟩)⟩
      · rw [cx H, cx H]
        exact t_call H a (r_cell (H.2.1.ok g l) rr a (fun _ S' c0 r' => ⟨_, rfl, c0, r', fun z => absurd z (by decide)⟩) (fun v => absurd v u) (fun i j i1 i2 i3 i4 => absurd ⟨i, i1, i3⟩ u)) (fun C'' k' => go _ _ k')
      · rw [cx H, cx H]
        exact t_call H a (r_cell (H.2.1.ok g l) rr a (fun v => absurd u v) (fun _ _ S' c0 r' => ⟨_, rfl, c0, r', fun z => absurd z (by decide)⟩) (fun i j i1 i2 i3 i4 => absurd ⟨j, i2, i4⟩ u2)) (fun C'' k' => go _ _ k')
      · rw [cx H, cx H]
        have b64 := a.2.2.2.1.2.1
        refine t_call H a (r_cell (H.2.1.ok g l) rr a (fun v => absurd ⟨i, i1, i3⟩ v) (fun _ v => absurd ⟨w, i2, i4⟩ v) (fun i' w' i1' i2' i3' i4' S' c0 r' => ⟨_, rfl, c0, r', fun _ => ?_⟩)) (fun C'' k' => go _ _ k')
        have ei : i' = i := (nI_is (by omega) (by omega)).mp (i3'.symm.trans i3)
        have ej' : w' = w := (nI_is (by omega) (by omega)).mp (i4'.symm.trans i4)
        rw [ei, ej']
        exact ej
end LAZ
