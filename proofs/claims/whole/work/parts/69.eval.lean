/-! The class's machine: evaluate. -/
/-- the contract of evaluate at k levels -/
def evC (c : cX) (bf : bT) (nbf rk : Nat → Nat) (M lim kept k : Nat) : Prop := ∀ (D : Nat) (C : cS) (K : Option Value → cS → Prop) (T : Nat → nd) (nb h n lo sl sh lev dp R : Nat) (sc : List Nat) (ρ : Nat → Nat) (st : Nat × cL),
  wt T h n lo sl sh sc → txO bf rk R T n → h + 7 * R ≤ k → lev + R ≤ 3 → dp + k ≤ 41 → clO st.2 → (∀ s, s ∈ sc → ρ s < st.2.1) → MCH C M lim → FBs C bf nbf M → ND C nb T n → nb + n < M → ENM C M lev sl sc ρ → EVS C M kept st → cI C M 5 = 0 → st.1 ≤ lim →
  (∀ st' e, ev bf lim k T n ρ st = (st', .inl e) → ∀ C', mfr M lev sl sh C C' → EVS C' M kept st' → cI C' M 5 = nI e → K (some (.int (-1))) C') →
  (∀ st' v, ev bf lim k T n ρ st = (st', .inr v) → ∀ C', mfr M lev sl sh C C' → EVS C' M kept st' → cI C' M 5 = 0 → K (some (.int (nI v))) C') →
  cM c (D + 2 * k + 3) eX4_evaluate [.ref M, .ref (nb + n), .int (nI lev), .int (nI dp)] C K
section EVL
variable {c : cX} {bf : bT} {nbf rk : Nat → Nat} {M lim kept : Nat}
theorem evNx_v {r : eR} {f : Nat → Nat × cL → eR} {st : Nat × cL} {v : Nat} (h : r = (st, .inr v)) : evNx r f = f v st := by rw [h]; rfl
theorem evNx_e {r : eR} {f : Nat → Nat × cL → eR} {st : Nat × cL} {e : Nat} (h : r = (st, .inl e)) : evNx r f = (st, .inl e) := by rw [h]; rfl
/-- what is done with the first part's value -/
theorem c_evOp (bO : bfO bf rk) (hlim : lim ≤ 1000) (hM4 : 400 ≤ M) {k : Nat} (ih : evC c bf nbf rk M lim kept k) {D : Nat} {C : cS} {K : Option Value → cS → Prop} {T : Nat → nd} {nb h n lo sl sh lev dp R m v : Nat} {sc : List Nat} {ρ : Nat → Nat} {st : Nat × cL}
    (hop : (T n).1 < 65536) (ne : ¬ (T n).2.2.2.2 = []) (w : wt T (h + 1) n lo sl sh sc) (hm : m ≤ sh ∧ sl ≤ m)
    (m5 : (((T n).1 ∈ [78, 66, 69, 80, 33, 65, 68, 71, 72, 73] ∧ (T n).2.2.2.2 = [kid T n 0]) ∨
       ((T n).1 ∈ [67, 43, 45, 60, 38, 124] ∧ (T n).2.2.2.2 = [kid T n 0, kid T n 1] ∧ kid T n 1 < n ∧ wt T h (kid T n 1) (kid T n 0 + 1) m sh sc) ∨
       ((T n).1 = 58 ∧ (T n).2.2.2.2 = [kid T n 0, kid T n 1] ∧ (T n).2.2.2.1 = some m ∧ m < sh ∧ sh ≤ 17 ∧ kid T n 1 < n ∧ wt T h (kid T n 1) (kid T n 0 + 1) (m + 1) sh (m :: sc)) ∨
       ((T n).1 = 63 ∧ (T n).2.2.2.2 = [kid T n 0, kid T n 1, kid T n 2] ∧ kid T n 1 < n ∧ kid T n 2 < n ∧ ∃ m2, m ≤ m2 ∧ m2 ≤ sh ∧ wt T h (kid T n 1) (kid T n 0 + 1) m m2 sc ∧ wt T h (kid T n 2) (kid T n 1 + 1) m2 sh sc)))
    (tx : txO bf rk R T n) (hk : h + 1 + 7 * R ≤ k + 1) (hl : lev + R ≤ 3) (hdp : dp + (k + 1) ≤ 41) (cl : clO st.2) (hρ : ∀ s, s ∈ sc → ρ s < st.2.1) (hM : MCH C M lim) (hF : FBs C bf nbf M) (hN : ND C nb T n) (hnM : nb + n < M) (hE : ENM C M lev m sc ρ) (hS : EVS C M kept st) (h5 : cI C M 5 = 0) (hst : st.1 ≤ lim) (hv : v < st.2.1)
    (h1 : ∀ st' e, evOp (ev bf lim k) bf T n ρ v st = (st', .inl e) → ∀ C', mfr M lev sl sh C C' → EVS C' M kept st' → cI C' M 5 = nI e → K (some (.int (-1))) C')
    (h2 : ∀ st' x, evOp (ev bf lim k) bf T n ρ v st = (st', .inr x) → ∀ C', mfr M lev sl sh C C' → EVS C' M kept st' → cI C' M 5 = 0 → K (some (.int (nI x))) C') :
    ((cI C (nb + n) 0) = 38 → ((¬ nI v = 1 → (cM c (D + 2 * k + 4) eX4_evaluate (.ref M :: [va_rf (cR C (nb + n) 5), .int (nI lev), .int (nI dp + 1)]) C (fun v C21 => ∃ z22 : Int32, v = some (.int z22) ∧ cle C C21 ∧ (K (some (.int z22)) C21)))) ∧ (nI v = 1 → (K (some (.int 1)) C)))) ∧ ((cI C (nb + n) 0) = 43 ∨ (cI C (nb + n) 0) = 45 ∨ (cI C (nb + n) 0) = 60 ∨ (cI C (nb + n) 0) = 67 → (cG c eX4_evaluate (D + 2 * k + 4 + 1) (cQ K) 300 [some (.ref M), some (va_rf (some (nb + n))), some (.int (nI lev)), some (.int (nI dp)), some (.int (nI v))] [] C)) ∧ ((cI C (nb + n) 0) = 58 → (cM c (D + 2 * k + 4) eX4_assign (.ref M :: [.int (nI lev), .int (cI C (nb + n) 3), .int (nI v)]) C (fun v C26 => ∃ z27 : Int32, v = some (.int z27) ∧ cle C C26 ∧ ((z27 = 0 → (K (some (.int (-1))) C26)) ∧ (¬ z27 = 0 → (cM c (D + 2 * k + 4) eX4_evaluate (.ref M :: [va_rf (cR C26 (nb + n) 5), .int (nI lev), .int (nI dp + 1)]) C26 (fun v C32 => ∃ z33 : Int32, v = some (.int z33) ∧ cle C26 C32 ∧ (K (some (.int z33)) C32)))))))) ∧ ((cI C (nb + n) 0) = 63 → ((¬ nI v = 1 → (cM c (D + 2 * k + 4) eX4_evaluate (.ref M :: [va_rf (cR C (nb + n) 5), .int (nI lev), .int (nI dp + 1)]) C (fun v C38 => ∃ z39 : Int32, v = some (.int z39) ∧ cle C C38 ∧ (K (some (.int z39)) C38)))) ∧ (nI v = 1 → (cM c (D + 2 * k + 4) eX4_evaluate (.ref M :: [va_rf (cR C (nb + n) 6), .int (nI lev), .int (nI dp + 1)]) C (fun v C43 => ∃ z44 : Int32, v = some (.int z44) ∧ cle C C43 ∧ (K (some (.int z44)) C43)))))) ∧ ((cI C (nb + n) 0) = 71 ∨ (cI C (nb + n) 0) = 72 ∨ (cI C (nb + n) 0) = 73 → (cG c eX4_evaluate (D + 2 * k + 4 + 1) (cQ K) 276 [some (.ref M), some (va_rf (some (nb + n))), some (.int (nI lev)), some (.int (nI dp)), some (.int (nI v))] [] C)) ∧ ((cI C (nb + n) 0) = 124 → ((¬ nI v = 1 → (K (some (.int (nI v))) C)) ∧ (nI v = 1 → (cM c (D + 2 * k + 4) eX4_evaluate (.ref M :: [va_rf (cR C (nb + n) 5), .int (nI lev), .int (nI dp + 1)]) C (fun v C49 => ∃ z50 : Int32, v = some (.int z50) ∧ cle C C49 ∧ (K (some (.int z50)) C49)))))) ∧ (¬ (cI C (nb + n) 0) = 38 ∧ ¬ (cI C (nb + n) 0) = 43 ∧ ¬ (cI C (nb + n) 0) = 45 ∧ ¬ (cI C (nb + n) 0) = 58 ∧ ¬ (cI C (nb + n) 0) = 60 ∧ ¬ (cI C (nb + n) 0) = 63 ∧ ¬ (cI C (nb + n) 0) = 67 ∧ ¬ (cI C (nb + n) 0) = 71 ∧ ¬ (cI C (nb + n) 0) = 72 ∧ ¬ (cI C (nb + n) 0) = 73 ∧ ¬ (cI C (nb + n) 0) = 124 → (cM c (D + 2 * k + 4) eX4_applyToOne (.ref M :: [.int (cI C (nb + n) 0), .int (nI v)]) C (fun v C54 => ∃ z55 : Int32, v = some (.int z55) ∧ cle C C54 ∧ (K (some (.int z55)) C54)))) := by
  have h64 := cl.2.1
  have hnA := hN.2 n (Nat.le_refl _)
  rw [hnA.2.1]
  have ei : ∀ b : Nat, b < 2 ^ 31 → (nI (T n).1 = nI b ↔ (T n).1 = b) := fun b hb => nI_is (by omega) hb
  have e38 : nI (T n).1 = 38 ↔ (T n).1 = 38 := ei 38 (by decide)
  have e43 : nI (T n).1 = 43 ↔ (T n).1 = 43 := ei 43 (by decide)
  have e45 : nI (T n).1 = 45 ↔ (T n).1 = 45 := ei 45 (by decide)
  have e60 : nI (T n).1 = 60 ↔ (T n).1 = 60 := ei 60 (by decide)
  have e67 : nI (T n).1 = 67 ↔ (T n).1 = 67 := ei 67 (by decide)
  have e58 : nI (T n).1 = 58 ↔ (T n).1 = 58 := ei 58 (by decide)
  have e63 : nI (T n).1 = 63 ↔ (T n).1 = 63 := ei 63 (by decide)
  have e71 : nI (T n).1 = 71 ↔ (T n).1 = 71 := ei 71 (by decide)
  have e72 : nI (T n).1 = 72 ↔ (T n).1 = 72 := ei 72 (by decide)
  have e73 : nI (T n).1 = 73 ↔ (T n).1 = 73 := ei 73 (by decide)
  have e124 : nI (T n).1 = 124 ↔ (T n).1 = 124 := ei 124 (by decide)
  have ev1 : nI v = 1 ↔ v = 1 := nI_is (b := 1) (by omega) (by decide)
  rw [e38, e43, e45, e60, e67, e58, e63, e71, e72, e73, e124, ev1, nI_1]
  -- a further part, evaluated as it stands
  have sub : ∀ (j sl' sh' lo' : Nat) (K' : Option Value → cS → Prop), j < n → wt T h j lo' sl' sh' sc → m ≤ sl' → sh' ≤ sh →
      (∀ st' e, ev bf lim k T j ρ st = (st', .inl e) → ∀ C', mfr M lev sl sh C C' → EVS C' M kept st' → cI C' M 5 = nI e → K' (some (.int (-1))) C') →
      (∀ st' x, ev bf lim k T j ρ st = (st', .inr x) → ∀ C', mfr M lev sl sh C C' → EVS C' M kept st' → cI C' M 5 = 0 → K' (some (.int (nI x))) C') →
      cM c (D + 2 * k + 4) eX4_evaluate [.ref M, .ref (nb + j), .int (nI lev), .int (nI (dp + 1))] C K' := by
    intro j sl' sh' lo' K' hj wj hs1 hs2 g1 g2
    have hEj : ENM C M lev sl' sc ρ := fun s hs => ⟨Nat.lt_of_lt_of_le (hE s hs).1 hs1, (hE s hs).2⟩
    have := ih (D + 1) C K' T nb h j lo' sl' sh' lev (dp + 1) R sc ρ st wj (tx.le (by omega)) (by omega) hl (by omega) cl hρ hM hF ⟨hN.1, fun m' hm' => hN.2 m' (by omega)⟩ (by omega) hEj hS h5 hst (fun st' e q C' f s5 s6 => g1 st' e q C' (f.mono (by omega) hs2) s5 s6) (fun st' x q C' f s5 s6 => g2 st' x q C' (f.mono (by omega) hs2) s5 s6)
    rw [show D + 2 * k + 4 = D + 1 + 2 * k + 3 by omega]
    exact this
  refine ⟨fun q => ?_, fun q => ?_, fun q => ?_, fun q => ?_, fun q => ?_, fun q => ?_, fun q => ?_⟩
  · -- and
    have hp : evOp (ev bf lim k) bf T n ρ v st = if v = 1 then (st, .inr 1) else ev bf lim k T (kid T n 1) ρ st := by
      unfold evOp
      rw [if_neg (by omega), if_pos q]
    rcases m5 with ⟨a, _⟩ | ⟨a, b1, b2, b3⟩ | ⟨a, _⟩ | ⟨a, _⟩
    · rw [q] at a; exact absurd a (by decide)
    · have r5 : cR C (nb + n) 5 = some (nb + kid T n 1) := by rw [hnA.2.2.2.2.2 1 (by decide), b1]; rfl
      rw [r5]
      refine ⟨fun z => ?_, fun z => ?_⟩
      · rw [if_neg z] at hp
        refine sub _ _ _ _ _ b2 b3 (Nat.le_refl _) (Nat.le_refl _) (fun st' e g C' f s5 s6 => ⟨_, rfl, f.le, h1 st' e (hp.trans g) C' f s5 s6⟩) (fun st' x g C' f s5 s6 => ⟨_, rfl, f.le, h2 st' x (hp.trans g) C' f s5 s6⟩)
      · rw [if_pos z] at hp
        exact h2 st 1 hp C (mfr.refl _ _ _ _ _) hS h5
    · omega
    · omega
  · -- two operands
    have hp : evOp (ev bf lim k) bf T n ρ v st = evTwo (ev bf lim k T (kid T n 1) ρ st) (T n).1 v := by
      unfold evOp
      rw [if_neg (by omega), if_neg (by omega), if_neg (by omega), if_neg (by omega), if_neg (by omega), if_pos (by omega)]
    rcases m5 with ⟨a, _⟩ | ⟨a, b1, b2, b3⟩ | ⟨a, _⟩ | ⟨a, _⟩
    · simp at a; omega
    · have r5 : cR C (nb + n) 5 = some (nb + kid T n 1) := by rw [hnA.2.2.2.2.2 1 (by decide), b1]; rfl
      refine w_X4_evaluate_300 M (some (nb + n)) (nI lev) (nI dp) (nI v) ⟨nb + n, rfl, hnA.1, hM.1, ?_⟩
      rw [r5, nI_1]
      have P := ev_ok (lim := lim) bO k T h (kid T n 1) _ _ _ sc ρ st R b3 (tx.le (by omega)) (by omega) cl hρ
      refine sub _ _ _ _ _ b2 b3 (Nat.le_refl _) (Nat.le_refl _) (fun st' e g C' f s5 s6 => ⟨_, rfl, f.le, ?_⟩) (fun st' x g C' f s5 s6 => ⟨_, rfl, f.le, ?_⟩)
      · rw [g] at hp
        refine w_X4_applyToTwo M _ _ _ ⟨fun z => absurd rfl z, fun _ => ⟨_, rfl, cle.refl _, h1 st' e hp C' f s5 s6⟩⟩
      · rw [g] at hp P
        rw [hnA.2.1]
        have l1 : st.2.1 ≤ st'.2.1 := P.2.1
        refine c_ap2 (hM.m f hM4) s5 P.1 (show v < st'.2.1 by omega) (P.2.2.2.2.2.2 x rfl) hop hM4 (fun e g' => ⟨_, rfl, cle_same rfl rfl, ?_⟩) (fun st'' y g' C'' l' e1 s'' => ⟨_, rfl, l'.le, ?_⟩)
        · exact h1 st' e (hp.trans g') _ (f.trans (mfr_csi M lev sl sh C' (Or.inr rfl) _)) ⟨by rw [cI_csi_ne _ _ (by omega)]; exact s5.1, s5.2.w (by omega)⟩ (cI_csi _ _ _ _)
        · have e4 : cI C'' M 4 = cI C' M 4 := l'.2.2.2.2.2 M 4 (by omega)
          have e5 : cI C'' M 5 = cI C' M 5 := l'.2.2.2.2.2 M 5 (by omega)
          exact h2 st'' y (hp.trans g') C'' (f.trans (l'.m M lev sl sh)) ⟨by rw [e4, e1]; exact s5.1, s''⟩ (by rw [e5]; exact s6)
    · omega
    · omega
  · -- a binding
    rcases m5 with ⟨a, _⟩ | ⟨a, _⟩ | ⟨a, b1, b2, b3, b4, b5, b6⟩ | ⟨a, _⟩
    · rw [q] at a; exact absurd a (by decide)
    · rw [q] at a; exact absurd a (by decide)
    · have hp : evOp (ev bf lim k) bf T n ρ v st = ev bf lim k T (kid T n 1) (up ρ m v) st := by
        unfold evOp
        rw [if_neg (by omega), if_neg (by omega), if_neg (by omega), if_pos q, b2]
      have r5 : cR C (nb + n) 5 = some (nb + kid T n 1) := by rw [hnA.2.2.2.2.2 1 (by decide), b1]; rfl
      rw [hnA.2.2.2.2.1, b2]
      refine c_asn (s := m) hM (by omega) (by omega) ⟨1, rfl, cle_same rfl rfl, fun z => absurd z (by decide), fun _ => ?_⟩
      have f1 : mfr M lev sl sh C (csi C (M + 2 + lev) m (nI v)) := mfr_slot M lev sl sh C hm.2 b3 _
      have i1 : cI (csi C (M + 2 + lev) m (nI v)) (M + 2 + lev) m = nI v := cI_csi _ _ _ _
      have i2 : ∀ s, s ≠ m → cI (csi C (M + 2 + lev) m (nI v)) (M + 2 + lev) s = cI C (M + 2 + lev) s := fun s hs => cI_csi_ne _ _ (by omega)
      have i3 : EVS (csi C (M + 2 + lev) m (nI v)) M kept st := ⟨by rw [cI_csi_ne _ _ (by omega)]; exact hS.1, hS.2.w (by omega)⟩
      have i4 : cI (csi C (M + 2 + lev) m (nI v)) M 5 = 0 := by rw [cI_csi_ne _ _ (by omega)]; exact h5
      have i5 : cR (csi C (M + 2 + lev) m (nI v)) (nb + n) 5 = some (nb + kid T n 1) := r5
      generalize csi C (M + 2 + lev) m (nI v) = C1 at f1 i1 i2 i3 i4 i5 ⊢
      rw [i5]
      have hE1 : ENM C1 M lev (m + 1) (m :: sc) (up ρ m v) := fun s hs => by
        by_cases z : s = m
        · subst z; rw [up_same]; exact ⟨Nat.lt_succ_self _, i1⟩
        · rw [up_ne _ _ z]
          rcases List.mem_cons.mp hs with z' | z'
          · exact absurd z' z
          · have := (hE s z').1
            exact ⟨by omega, by rw [i2 s z]; exact (hE s z').2⟩
      have hρ1 : ∀ s, s ∈ m :: sc → up ρ m v s < st.2.1 := fun s hs => by
        by_cases z : s = m
        · subst z; rw [up_same]; exact hv
        · rw [up_ne _ _ z]
          rcases List.mem_cons.mp hs with z' | z'
          · exact absurd z' z
          · exact hρ s z'
      have := ih (D + 1) C1 (fun v C32 => ∃ z33 : Int32, v = some (.int z33) ∧ cle C1 C32 ∧ (K (some (.int z33)) C32)) T nb h (kid T n 1) _ _ _ lev (dp + 1) R _ (up ρ m v) st b6 (tx.le (by omega)) (by omega) hl (by omega) cl hρ1 (hM.m f1 hM4) (hF.m f1) ((show ND C nb T (kid T n 1) from ⟨hN.1, fun m' hm' => hN.2 m' (by omega)⟩).m f1 (by omega)) (by omega) hE1 i3 i4 hst (fun st' e g C' f s5 s6 => ⟨_, rfl, f.le, h1 st' e (hp.trans g) C' (f1.trans (f.mono (by omega) (Nat.le_refl _))) s5 s6⟩) (fun st' x g C' f s5 s6 => ⟨_, rfl, f.le, h2 st' x (hp.trans g) C' (f1.trans (f.mono (by omega) (Nat.le_refl _))) s5 s6⟩)
      rw [show D + 2 * k + 4 = D + 1 + 2 * k + 3 by omega]
      exact this
    · omega
  · -- a choice
    have hp : evOp (ev bf lim k) bf T n ρ v st = ev bf lim k T (if v = 1 then kid T n 2 else kid T n 1) ρ st := by
      unfold evOp
      rw [if_pos q]
    rcases m5 with ⟨a, _⟩ | ⟨a, _⟩ | ⟨a, _⟩ | ⟨a, b1, b2, b3, m2, b4, b5, b6, b7⟩
    · rw [q] at a; exact absurd a (by decide)
    · rw [q] at a; exact absurd a (by decide)
    · omega
    · have r5 : cR C (nb + n) 5 = some (nb + kid T n 1) := by rw [hnA.2.2.2.2.2 1 (by decide), b1]; rfl
      have r6 : cR C (nb + n) 6 = some (nb + kid T n 2) := by rw [hnA.2.2.2.2.2 2 (by decide), b1]; rfl
      rw [r5, r6]
      refine ⟨fun z => ?_, fun z => ?_⟩
      · rw [if_neg z] at hp
        exact sub _ _ _ _ _ b2 b6 (Nat.le_refl _) b5 (fun st' e g C' f s5 s6 => ⟨_, rfl, f.le, h1 st' e (hp.trans g) C' f s5 s6⟩) (fun st' x g C' f s5 s6 => ⟨_, rfl, f.le, h2 st' x (hp.trans g) C' f s5 s6⟩)
      · rw [if_pos z] at hp
        exact sub _ _ _ _ _ b3 b7 b4 (Nat.le_refl _) (fun st' e g C' f s5 s6 => ⟨_, rfl, f.le, h1 st' e (hp.trans g) C' f s5 s6⟩) (fun st' x g C' f s5 s6 => ⟨_, rfl, f.le, h2 st' x (hp.trans g) C' f s5 s6⟩)
  · -- a call
    have cf : 71 ≤ (T n).1 ∧ (T n).1 ≤ 73 := by omega
    obtain ⟨f1, f2⟩ := (tx n (Nat.le_refl _)).1 cf.1 cf.2
    obtain ⟨b, hb⟩ := Option.isSome_iff_exists.mp f1
    have hp : evOp (ev bf lim k) bf T n ρ v st = ev bf lim k b.1 b.2 (fun _ => v) st := by
      unfold evOp
      rw [if_neg (by omega), if_neg (by omega), if_neg (by omega), if_neg (by omega), if_pos cf, hb]
    obtain ⟨⟨sh', g1⟩, g2⟩ := bO _ (by omega) b hb
    obtain ⟨fa, a1, a2, a3, a4, a5⟩ := hF.2 ((T n).1 - 71) (by omega) b hb
    refine w_X4_evaluate_276 M (some (nb + n)) (nI lev) (nI dp) (nI v) ⟨hM.1, nb + n, rfl, hnA.1, ?_⟩
    rw [hM.2.2.1, hnA.2.1, nI_1, nI_1, show nI (T n).1 = nI (71 + ((T n).1 - 71)) by rw [show 71 + ((T n).1 - 71) = (T n).1 by omega]]
    refine c_fn4 (d := D + 2 * k + 3) hF.1 (by omega) ⟨_, rfl, cle.refl _, ?_⟩
    rw [a1]
    refine w_X4_evaluateBody (d := D + 2 * k + 3) M (some fa) (nI v) (nI (lev + 1)) (nI (dp + 1)) ⟨fun z => (by cases z), fun a z => ?_⟩
    injection z with z
    subst z
    refine ⟨hM.1, c_asn (s := 0) hM (by omega) (by decide) ⟨1, rfl, cle_same rfl rfl, fun _ => ⟨a2, ?_⟩, fun z => absurd z (by decide)⟩⟩
    have f1 : mfr M (lev + 1) 0 17 C (csi C (M + 2 + (lev + 1)) 0 (nI v)) := mfr_slot M (lev + 1) 0 17 C (Nat.le_refl _) (by decide) _
    have i1 : cI (csi C (M + 2 + (lev + 1)) 0 (nI v)) (M + 2 + (lev + 1)) 0 = nI v := cI_csi _ _ _ _
    have i3 : EVS (csi C (M + 2 + (lev + 1)) 0 (nI v)) M kept st := ⟨by rw [cI_csi_ne _ _ (by omega)]; exact hS.1, hS.2.w (by omega)⟩
    have i4 : cI (csi C (M + 2 + (lev + 1)) 0 (nI v)) M 5 = 0 := by rw [cI_csi_ne _ _ (by omega)]; exact h5
    have i5 : cR (csi C (M + 2 + (lev + 1)) 0 (nI v)) fa 0 = some (nbf ((T n).1 - 71) + b.2) := a3
    generalize csi C (M + 2 + (lev + 1)) 0 (nI v) = C1 at f1 i1 i3 i4 i5 ⊢
    rw [i5]
    have hE1 : ENM C1 M (lev + 1) 2 [0] (fun _ => v) := fun s hs => by
      have : s = 0 := by simpa using hs
      subst this
      exact ⟨by decide, i1⟩
    have fd1 : mfr M lev sl sh C C1 := f1.down (by omega)
    exact ih D C1 _ b.1 _ 7 b.2 0 2 sh' (lev + 1) (dp + 1) (rk ((T n).1 - 71)) [0] (fun _ => v) st g1 g2 (by omega) (by omega) (by omega) cl (fun _ _ => hv) (hM.m f1 hM4) (hF.m f1) (a4.m f1 a5) a5 hE1 i3 i4 hst (fun st' e g C' f s5 s6 => ⟨_, rfl, f.le, _, rfl, (f1.le).trans f.le, h1 st' e (hp.trans g) C' (fd1.trans (f.down (by omega))) s5 s6⟩) (fun st' x g C' f s5 s6 => ⟨_, rfl, f.le, _, rfl, (f1.le).trans f.le, h2 st' x (hp.trans g) C' (fd1.trans (f.down (by omega))) s5 s6⟩)
  · -- or
    have hp : evOp (ev bf lim k) bf T n ρ v st = if v = 1 then ev bf lim k T (kid T n 1) ρ st else (st, .inr v) := by
      unfold evOp
      rw [if_neg (by omega), if_neg (by omega), if_pos q]
    rcases m5 with ⟨a, _⟩ | ⟨a, b1, b2, b3⟩ | ⟨a, _⟩ | ⟨a, _⟩
    · rw [q] at a; exact absurd a (by decide)
    · have r5 : cR C (nb + n) 5 = some (nb + kid T n 1) := by rw [hnA.2.2.2.2.2 1 (by decide), b1]; rfl
      rw [r5]
      refine ⟨fun z => ?_, fun z => ?_⟩
      · rw [if_neg z] at hp
        exact h2 st v hp C (mfr.refl _ _ _ _ _) hS h5
      · rw [if_pos z] at hp
        exact sub _ _ _ _ _ b2 b3 (Nat.le_refl _) (Nat.le_refl _) (fun st' e g C' f s5 s6 => ⟨_, rfl, f.le, h1 st' e (hp.trans g) C' f s5 s6⟩) (fun st' x g C' f s5 s6 => ⟨_, rfl, f.le, h2 st' x (hp.trans g) C' f s5 s6⟩)
    · omega
    · omega
  · -- one operand
    have hp : evOp (ev bf lim k) bf T n ρ v st = ap1 (T n).1 v st := by
      unfold evOp
      rw [if_neg q.2.2.2.2.2.1, if_neg q.1, if_neg q.2.2.2.2.2.2.2.2.2.2, if_neg q.2.2.2.1, if_neg (by omega), if_neg (by omega)]
    refine c_ap1 (d := D + 2 * k + 3) hM hS cl hv hop hM4 (fun e g => ⟨_, rfl, cle_same rfl rfl, ?_⟩) (fun x g => ⟨_, rfl, cle.refl _, ?_⟩)
    · exact h1 st e (hp.trans g) _ (mfr_csi M lev sl sh C (Or.inr rfl) _) ⟨by rw [cI_csi_ne _ _ (by omega)]; exact hS.1, hS.2.w (by omega)⟩ (cI_csi _ _ _ _)
    · exact h2 st x (hp.trans g) C (mfr.refl _ _ _ _ _) hS h5
/-- evaluate -/
theorem ev_all (bO : bfO bf rk) (hlim : lim ≤ 1000) (hM4 : 400 ≤ M) : ∀ k, evC c bf nbf rk M lim kept k := by
  intro k
  induction k with
  | zero =>
    intro D C K T nb h n lo sl sh lev dp R sc ρ st w _ hk
    have h0 : h = 0 := by omega
    subst h0
    exact absurd w id
  | succ k ih =>
    intro D C K T nb h n lo sl sh lev dp R sc ρ st w tx hk hl hdp cl hρ hM hF hN hnM hE hS h5 hst h1 h2
    rcases h with _ | h
    · exact absurd w id
    have h64 := cl.2.1
    have wl := wt_lt w
    have hop : (T n).1 < 65536 := w.2.2.2.2.1
    have hnA := hN.2 n (Nat.le_refl _)
    have d1 : ¬ (40 : Int32) < nI dp := fun z => by
      have := (nI_ltI (a := 40) (b := dp) (by decide) (by omega)).mp z
      omega
    rw [show D + 2 * (k + 1) + 3 = D + 2 * k + 4 + 1 by omega]
    refine w_X4_evaluate M (some (nb + n)) (nI lev) (nI dp) ⟨fun z => (by cases z), fun a z => ?_⟩
    injection z with z
    subst z
    refine ⟨fun z => absurd z d1, fun _ => ⟨hM.1, ?_⟩⟩
    rw [hS.1, hM.2.2.2.1, nI_ltI (a := st.1) (b := lim) (by omega) (by omega)]
    refine ⟨fun q => ⟨hnA.1, ?_⟩, fun q => ?_⟩
    · have hev : ev bf lim (k + 1) T n ρ st = (if (T n).2.2.2.2 = [] then ((st.1 + 1, st.2), .inr (lfv (T n) ρ)) else evNx (ev bf lim k T (kid T n 0) ρ (st.1 + 1, st.2)) (evOp (ev bf lim k) bf T n ρ)) := by
        show (if lim ≤ st.1 then _ else _) = _
        rw [if_neg (by omega)]
      rw [nI_1]
      have f1 : mfr M lev sl sh C (csi C M 4 (nI (st.1 + 1))) := mfr_csi M lev sl sh C (Or.inl rfl) _
      have i3 : EVS (csi C M 4 (nI (st.1 + 1))) M kept (st.1 + 1, st.2) := ⟨cI_csi _ _ _ _, hS.2.w (by omega)⟩
      have i4 : cI (csi C M 4 (nI (st.1 + 1))) M 5 = 0 := by rw [cI_csi_ne _ _ (by omega)]; exact h5
      have hM1 := hM.m f1 hM4
      have hF1 := hF.m f1
      have hN1 := hN.m f1 hnM
      have hE1 : ENM (csi C M 4 (nI (st.1 + 1))) M lev sl sc ρ := fun s hs => ⟨(hE s hs).1, by rw [cI_csi_ne _ _ (by omega)]; exact (hE s hs).2⟩
      generalize csi C M 4 (nI (st.1 + 1)) = C1 at f1 i3 i4 hM1 hF1 hN1 hE1 ⊢
      have r4 := hnA.2.2.2.2.2 0 (by decide)
      have r4 : cR C (nb + n) 4 = ((T n).2.2.2.2[0]?).map fun m => nb + m := r4
      refine ⟨fun z => ?_, fun a8 z => ?_⟩
      · have ne : (T n).2.2.2.2 = [] := by
          cases el : (T n).2.2.2.2 with
          | nil => rfl
          | cons y ys => rw [r4, el] at z; cases z
        rw [if_pos ne] at hev
        have w7 := w.2.2.2.2.2.2
        rw [ne] at w7
        refine c_lfv (T := T) (ρ := ρ) hM1 (hN1.2 n (Nat.le_refl _)) hop (by omega) (fun s hs => ?_) ((tx n (Nat.le_refl _)).2 ne) ⟨_, rfl, cle.refl _, ?_⟩
        · have h2 := hE1 s (w7.2.2.1 s hs)
          exact ⟨by omega, h2.2⟩
        · exact h2 _ _ hev C1 f1 i3 i4
      · have ne : ¬ (T n).2.2.2.2 = [] := by
          intro el
          rw [r4, el] at z
          cases z
        rw [if_neg ne] at hev
        obtain ⟨m, m1, m2, m3, m4, m5⟩ := wt_inv w ne
        have r4' : cR C (nb + n) 4 = some (nb + kid T n 0) := by
          rw [r4]
          rcases m5 with ⟨_, b1⟩ | ⟨_, b1, _⟩ | ⟨_, b1, _⟩ | ⟨_, b1, _⟩
          · rw [b1]; rfl
          · rw [b1]; rfl
          · rw [b1]; rfl
          · rw [b1]; rfl
        rw [r4', nI_1]
        have P := ev_ok (lim := lim) bO k T h (kid T n 0) lo sl m sc ρ (st.1 + 1, st.2) R m2 (tx.le (by omega)) (by omega) cl hρ
        rw [show D + 2 * k + 4 = D + 1 + 2 * k + 3 by omega]
        refine ih (D + 1) C1 _ T nb h (kid T n 0) lo sl m lev (dp + 1) R sc ρ (st.1 + 1, st.2) m2 (tx.le (by omega)) (by omega) hl (by omega) cl hρ hM1 hF1 ⟨hN1.1, fun m' hm' => hN1.2 m' (by omega)⟩ (by omega) hE1 i3 i4 (show st.1 + 1 ≤ lim by omega) (fun st' e g C' f s5 s6 => ⟨_, rfl, f.le, fun z => absurd rfl z, fun _ => ?_⟩) (fun st' v g C' f s5 s6 => ⟨_, rfl, f.le, fun _ => ?_, fun z => ?_⟩)
        · exact h1 st' e (hev.trans (evNx_e g)) C' (f1.trans (f.mono (Nat.le_refl _) m4)) s5 s6
        · rw [g] at P
          have hv : v < st'.2.1 := P.2.2.2.2.2.2 v rfl
          have hev2 := hev.trans (evNx_v g)
          have fm : mfr M lev sl sh C1 C' := f.mono (Nat.le_refl _) m4
          have l1 : st.2.1 ≤ st'.2.1 := P.2.1
          have hE2 : ENM C' M lev m sc ρ := fun s hs => by
            have q1 := (hE1 s hs).1
            exact ⟨by omega, by rw [f.2.2.2.2.2 (M + 2 + lev) s (by omega) (by omega) (by omega) (by omega)]; exact (hE1 s hs).2⟩
          rw [show D + 1 + 2 * k + 3 = D + 2 * k + 4 by omega]
          have fin := c_evOp (D := D) (dp := dp) bO hlim hM4 ih hop ne w ⟨m4, m3⟩ m5 tx hk hl hdp P.1 (fun s hs => Nat.lt_of_lt_of_le (hρ s hs) l1) (hM1.m f hM4) (hF1.m f) (hN1.m f hnM) hnM hE2 s5 s6 (P.2.2.2.2.1 (show st.1 + 1 ≤ lim by omega)) hv (fun st'' e g' C'' f' s5' s6' => h1 st'' e (hev2.trans g') C'' (f1.trans (fm.trans f')) s5' s6') (fun st'' x g' C'' f' s5' s6' => h2 st'' x (hev2.trans g') C'' (f1.trans (fm.trans f')) s5' s6')
          rw [nI_1] at fin
          exact fin
        · rw [g] at P
          have hv : v < st'.2.1 := P.2.2.2.2.2.2 v rfl
          have h64' : st'.2.1 ≤ 64 := P.1.2.1
          exact absurd z (nI_neg1 (by omega))
    · have hev : ev bf lim (k + 1) T n ρ st = (st, .inl 0) := by
        show (if lim ≤ st.1 then _ else _) = _
        rw [if_pos (by omega)]
      exact h1 st 0 hev C (mfr.refl _ _ _ _ _) hS h5
end EVL
