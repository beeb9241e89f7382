/-! The reference's checker: what it writes of a node. -/
def vw (w : Nat → Int64) (g : nV) : Prop := okw w ∧ ∀ p, p < 56 → gk w p = g p
theorem vw_imp {w : Nat → Int64} {g : nV} (h : vw w g) : nImp (gk w) = nImp g := by
  have e : nImp (gk w) = true ↔ nImp g = true := by
    rw [nImp_t, nImp_t]
    constructor
    · rintro ⟨p, p1, p2⟩; exact ⟨p, p1, by rw [← h.2 p p1]; exact p2⟩
    · rintro ⟨p, p1, p2⟩; exact ⟨p, p1, by rw [h.2 p p1]; exact p2⟩
  cases h1 : nImp (gk w) with
  | true => exact (e.mp h1).symm
  | false =>
    cases h2 : nImp g with
    | false => rfl
    | true => rw [e.mpr h2] at h1; cases h1
theorem vw_0 : vw (fun _ => 0) nZ := ⟨okw_0, fun p _ => gk_0 p⟩
theorem vw.cong {w w' : Nat → Int64} {g : nV} (h : vw w g) (e : ∀ k, k < 5 → w' k = w k) : vw w' g := ⟨okw_cong h.1 e, fun p hp => by rw [gk_cong e]; exact h.2 p hp⟩
theorem vw.res {w : Nat → Int64} {g : nV} (h : vw w g) {p kk : Nat} (hp : p < 56) : vw (wRes w p kk) (nRes g p kk) := ⟨okw_res h.1 p kk, fun q hq => by
  rw [gk_res w hp hq]
  unfold nRes
  rw [h.2 q hq]⟩
theorem vw.and {w w' : Nat → Int64} {g g' : nV} (h : vw w g) (h' : vw w' g') : vw (fun k => w k &&& w' k) (nAnd g g') := ⟨okw_and h.1, fun p hp => by
  rw [gk_and, h.2 p hp, h'.2 p hp]
  rfl⟩
theorem vw.or {w w' : Nat → Int64} {g g' : nV} (h : vw w g) (h' : vw w' g') : vw (fun k => w k ||| w' k) (nOr g g') := ⟨okw_or h.1 h'.1, fun p hp => by
  rw [gk_or, h.2 p hp, h'.2 p hp]
  rfl⟩
theorem vw.nrm {w : Nat → Int64} {g : nV} (h : vw w g) : vw (nrmW w) (nNrm g) := by
  unfold nrmW nNrm
  rw [vw_imp h]
  split
  · exact vw_0
  · exact h
theorem vw.say {w : Nat → Int64} {g : nV} (h : vw w g) {p kk : Nat} (hp : p < 56) (hk : kk < 32) : vw (wSay w p kk) (fun q => if q = p then kk else g q) := ⟨okw_say h.1 kk hp, fun q hq => by
  rw [gk_say w hp hq hk]
  show (if q = p then kk else gk w q) = if q = p then kk else g q
  by_cases e : q = p
  · rw [if_pos e, if_pos e]
  · rw [if_neg e, if_neg e]
    exact h.2 q hq⟩
theorem vw.iff {w : Nat → Int64} {g g' : nV} (h : vw w g) (e : ∀ p, p < 56 → g' p = g p) : vw w g' := ⟨h.1, fun p hp => by rw [e p hp]; exact h.2 p hp⟩
theorem wv_in (S : rS) (f j : Nat) (w : Nat → Int64) : ∀ k, k < 5 → wv (put S f j 5 w) f j k = w k := fun k hk => put_in S w hk
theorem wv_out {S : rS} {f j n f' i : Nat} {w : Nat → Int64} (h : f' ≠ f ∨ i + 5 ≤ j ∨ j + n ≤ i) : ∀ k, k < 5 → wv (put S f j n w) f' i k = wv S f' i k := fun k hk => put_out S w (by omega)
theorem r64 {B a : Nat} (hB : B = 0 ∨ B = 64 ∨ B = 128 ∨ B = 192 ∨ B = 256) (ha : a < 64) : nI (B + a) - nI (B + a) / 64 * 64 = nI a := by
  have : nI (B + a) - nI (B + a) / 64 * 64 = nI ((B + a) % 64) := pk_rem (d := 64) (by omega) (by decide) (by decide)
  rw [this]
  congr 1
  omega
/-- what the checker found of a node -/
def fnd (S : rS) (a : Nat) (F : nF) : Prop := S.1 29 a = nI F.1 ∧ S.1 30 a = rfI F.2.1 ∧ F.1 < 32 ∧ (∀ p, F.2.1 = some p → p < 56) ∧ vw (wv S 27 (5 * a)) F.2.2.1 ∧ vw (wv S 28 (5 * a)) F.2.2.2
abbrev hB (B : Nat) : Prop := B = 0 ∨ B = 64 ∨ B = 128 ∨ B = 192 ∨ B = 256
/-- only a node's findings are written -/
def ffr (a : Nat) (S S' : rS) : Prop := (∀ f i, ¬ ((f = 29 ∨ f = 30) ∧ i = a) → S'.1 f i = S.1 f i) ∧ ∀ f i, ¬ ((f = 27 ∨ f = 28) ∧ 5 * a ≤ i ∧ i < 5 * a + 5) → ¬ (f = 36 ∨ f = 37) → S'.2 f i = S.2 f i
theorem ffr.refl (a : Nat) (S : rS) : ffr a S S := ⟨fun _ _ _ => rfl, fun _ _ _ _ => rfl⟩
theorem ffr.trans {a : Nat} {A B C : rS} (h : ffr a A B) (k : ffr a B C) : ffr a A C := ⟨fun f i q => (k.1 f i q).trans (h.1 f i q), fun f i q1 q2 => (k.2 f i q1 q2).trans (h.2 f i q1 q2)⟩
/-- the work space is written -/
theorem ffr_w (a : Nat) (S : rS) (f : Nat) (hf : f = 36 ∨ f = 37) (w : Nat → Int64) : ffr a S (put S f 0 5 w) := ⟨fun _ _ _ => rfl, fun f' i q1 q2 => put_out S w (by omega)⟩
section RCA
variable {c : rX} {d : Nat} {S : rS} {K : Option Value → rS → Prop} {B a : Nat}
theorem r_five (ho : rOK c) (h1 : hB B) (h2 : a < 64) (hK : K (some (.int (nI (5 * a)))) S) : rM c d eX10_five [.ref c.2.2.1, .int (nI (B + a))] S K := by
  refine w_X10_five ho (nI (B + a)) ?_
  rw [r64 h1 h2, show (5 : Int32) * nI a = nI (5 * a) from pk_mul 5 a]
  exact hK
theorem r_typeOf (ho : rOK c) (h1 : hB B) (h2 : a < 64) (hK : K (some (.int (S.1 29 a))) S) : rM c d eX10_typeOf [.ref c.2.2.1, .int (nI (B + a))] S K := by
  refine w_X10_typeOf ho (nI (B + a)) ⟨a, ?_, hK⟩
  rw [r64 h1 h2]
  exact am_ix_n h2 (by decide)
theorem r_placeOf (ho : rOK c) (h1 : hB B) (h2 : a < 64) (hK : K (some (.int (S.1 30 a))) S) : rM c d eX10_placeOf [.ref c.2.2.1, .int (nI (B + a))] S K := by
  refine w_X10_placeOf ho (nI (B + a)) ⟨a, ?_, hK⟩
  rw [r64 h1 h2]
  exact am_ix_n h2 (by decide)
theorem k_m5 : ∀ t, t < 32 → ((nI t &&& (-5) = 0) ↔ t &&& 27 = 0) ∧ ((nI t &&& 4 = 0) ↔ t &&& 4 = 0) := by decide +kernel
/-- finish -/
theorem r_finish (ho : rOK c) (h1 : hB B) (h2 : a < 64) {t : Nat} {p : Option Nat} {Y N : nV} (ht : t < 32) (hp : ∀ q, p = some q → q < 56) (hY : vw (wv S 36 0) Y) (hN : vw (wv S 37 0) N)
    (hK : ∀ S', ffr a S S' → fnd S' a (nFin t p Y N) → K none S') : rM c (d + 2) eX10_finish [.ref c.2.2.1, .int (nI (B + a)), .int (nI t), .int (rfI p)] S K := by
  have ix : am_ix (nI (B + a) - nI (B + a) / 64 * 64) a 64 := by rw [r64 h1 h2]; exact am_ix_n h2 (by decide)
  refine w_X10_finish ho (nI (B + a)) (nI t) (rfI p) (r_five ho h1 h2 ⟨_, rfl, a, ix, a, ix, ?_⟩)
  have a1 : ∀ f i, ¬ ((f = 29 ∨ f = 30) ∧ i = a) → (rsi (rsi S 29 a (nI t)) 30 a (rfI p)).1 f i = S.1 f i := fun f i q => by rw [rsi_ne _ _ (by omega), rsi_ne _ _ (by omega)]
  have a2 : (rsi (rsi S 29 a (nI t)) 30 a (rfI p)).1 29 a = nI t := by rw [rsi_ne _ _ (by omega), rsi_i]
  have a3 : (rsi (rsi S 29 a (nI t)) 30 a (rfI p)).1 30 a = rfI p := rsi_i _ _ _ _
  have a4 : (rsi (rsi S 29 a (nI t)) 30 a (rfI p)).2 = S.2 := rfl
  generalize rsi (rsi S 29 a (nI t)) 30 a (rfI p) = S1 at a1 a2 a3 a4 ⊢
  refine v_copy ho (k1 := 27) (f1 := 36) (n1 := 5) (k2 := 18) (f2 := 27) (n2 := 320) (i := 0) (j := 5 * a) rfl rfl (by decide) (by omega) (by decide) (by decide) (Or.inl (by decide)) ⟨rfl, ?_⟩
  refine v_copy ho (k1 := 28) (f1 := 37) (n1 := 5) (k2 := 19) (f2 := 28) (n2 := 320) (i := 0) (j := 5 * a) rfl rfl (by decide) (by omega) (by decide) (by decide) (Or.inl (by decide)) ⟨rfl, ?_⟩
  have e36 : wv S1 36 0 = wv S 36 0 := by unfold wv; rw [a4]
  have e37 : wv (put S1 27 (5 * a) 5 (wv S1 36 0)) 37 0 = wv S1 37 0 := by
    funext k
    exact put_out _ _ (by omega)
  have e37b : wv S1 37 0 = wv S 37 0 := by unfold wv; rw [a4]
  rw [e37, e37b, e36]
  have b1 : (put (put S1 27 (5 * a) 5 (wv S 36 0)) 28 (5 * a) 5 (wv S 37 0)).1 = S1.1 := rfl
  have b2 : ∀ f i, ¬ ((f = 27 ∨ f = 28) ∧ 5 * a ≤ i ∧ i < 5 * a + 5) → (put (put S1 27 (5 * a) 5 (wv S 36 0)) 28 (5 * a) 5 (wv S 37 0)).2 f i = S.2 f i := fun f i q => by rw [put_out _ _ (by omega), put_out _ _ (by omega), a4]
  have b3 : vw (wv (put (put S1 27 (5 * a) 5 (wv S 36 0)) 28 (5 * a) 5 (wv S 37 0)) 27 (5 * a)) Y := hY.cong fun k hk => by rw [wv_out (Or.inl (by decide)) k hk, wv_in _ _ _ _ k hk]
  have b4 : vw (wv (put (put S1 27 (5 * a) 5 (wv S 36 0)) 28 (5 * a) 5 (wv S 37 0)) 28 (5 * a)) N := hN.cong fun k hk => wv_in _ _ _ _ k hk
  generalize put (put S1 27 (5 * a) 5 (wv S 36 0)) 28 (5 * a) 5 (wv S 37 0) = S2 at b1 b2 b3 b4 ⊢
  have kt := k_m5 t ht
  rw [kt.1, kt.2]
  -- the two settlings
  have fin : ∀ (S3 : rS) (Y1 N1 : nV), S3.1 = S1.1 → (∀ f i, ¬ ((f = 27 ∨ f = 28) ∧ 5 * a ≤ i ∧ i < 5 * a + 5) → S3.2 f i = S.2 f i) → vw (wv S3 27 (5 * a)) Y1 → vw (wv S3 28 (5 * a)) N1 → nNrm Y1 = (if t &&& 27 = 0 then nZ else nNrm Y) → nNrm N1 = (if t &&& 4 = 0 then nZ else nNrm N) → rG c eX10_finish (d + 1 + 1) (rQ c K) 86 [some (.ref c.2.2.1), none, none, none, some (.int (nI (5 * a)))] [] S3 := by
    intro S3 Y1 N1 c1 c2 c3 c4 c5 c6
    refine w_X10_finish_86 ho (nI (5 * a)) ?_
    refine v_settle ho (k1 := 18) (f1 := 27) (n1 := 320) rfl (by omega) (by decide) c3.1 ⟨rfl, ?_⟩
    have d4 : vw (wv (put S3 27 (5 * a) 5 (nrmW (wv S3 27 (5 * a)))) 28 (5 * a)) N1 := c4.cong fun k hk => wv_out (Or.inl (by decide)) k hk
    refine v_settle ho (k1 := 19) (f1 := 28) (n1 := 320) rfl (by omega) (by decide) d4.1 ⟨rfl, ?_⟩
    refine hK _ ⟨fun f i q => ?_, fun f i q1 q2 => ?_⟩ ⟨?_, ?_, ht, hp, ?_, ?_⟩
    · show S3.1 f i = S.1 f i
      rw [c1]; exact a1 f i q
    · rw [put_out _ _ (by omega), put_out _ _ (by omega)]; exact c2 f i q1
    · show S3.1 29 a = nI t
      rw [c1]; exact a2
    · show S3.1 30 a = rfI p
      rw [c1]; exact a3
    · show vw _ (if t &&& 27 = 0 then nZ else nNrm Y)
      rw [← c5]
      exact c3.nrm.cong fun k hk => by rw [wv_out (Or.inl (by decide)) k hk, wv_in _ _ _ _ k hk]
    · show vw _ (if t &&& 4 = 0 then nZ else nNrm N)
      rw [← c6]
      exact d4.nrm.cong fun k hk => wv_in _ _ _ _ k hk
  have nz : nNrm nZ = nZ := by unfold nNrm; split <;> rfl
  have clr27 : ∀ (S3 : rS) (N1 : nV), t &&& 27 = 0 → S3.1 = S1.1 → (∀ f i, ¬ ((f = 27 ∨ f = 28) ∧ 5 * a ≤ i ∧ i < 5 * a + 5) → S3.2 f i = S.2 f i) → vw (wv S3 28 (5 * a)) N1 → nNrm N1 = (if t &&& 4 = 0 then nZ else nNrm N) → rM c (d + 1) eX10_clear [.ref (c.2.2.1 + (18 + 1)), .int (nI (5 * a))] S3 (fun v S13 => v = none ∧ (rG c eX10_finish (d + 1 + 1) (rQ c K) 86 [some (.ref c.2.2.1), none, none, none, some (.int (nI (5 * a)))] [] S13)) := by
    intro S3 N1 hz c1 c2 c4 c6
    refine v_clear ho (k1 := 18) (f1 := 27) (n1 := 320) rfl (by omega) (by decide) ⟨rfl, fin _ nZ N1 c1 (fun f i q => by rw [put_out _ _ (by omega)]; exact c2 f i q) (vw_0.cong fun k hk => wv_in _ _ _ _ k hk) (c4.cong fun k hk => wv_out (Or.inl (by decide)) k hk) (by rw [if_pos hz, nz]) c6⟩
  refine ⟨fun q4 => ⟨fun q27 => ?_, fun q27 => ?_⟩, fun q4 => ?_⟩
  · exact fin S2 Y N b1 b2 b3 b4 (by rw [if_neg q27]) (by rw [if_neg q4])
  · exact clr27 S2 N q27 b1 b2 b4 (by rw [if_neg q4])
  · refine v_clear ho (k1 := 19) (f1 := 28) (n1 := 320) rfl (by omega) (by decide) ⟨rfl, ?_⟩
    have c2 : ∀ f i, ¬ ((f = 27 ∨ f = 28) ∧ 5 * a ≤ i ∧ i < 5 * a + 5) → (put S2 28 (5 * a) 5 fun _ => 0).2 f i = S.2 f i := fun f i q => by rw [put_out _ _ (by omega)]; exact b2 f i q
    have c4 : vw (wv (put S2 28 (5 * a) 5 fun _ => 0) 28 (5 * a)) nZ := vw_0.cong fun k hk => wv_in _ _ _ _ k hk
    refine ⟨fun q27 => ?_, fun q27 => ?_⟩
    · exact fin _ Y nZ b1 c2 (b3.cong fun k hk => wv_out (Or.inl (by decide)) k hk) c4 (by rw [if_neg q27]) (by rw [if_pos q4, nz])
    · exact clr27 _ nZ q27 b1 c2 c4 (by rw [if_pos q4, nz])
/-- start -/
theorem r_start (ho : rOK c) (h1 : hB B) (h2 : a < 64) (hK : ∀ S', ffr a S S' → (∀ k, k < 5 → wv S' 36 0 k = wv S 26 (5 * a) k) → (∀ k, k < 5 → wv S' 37 0 k = wv S 26 (5 * a) k) → K none S') : rM c (d + 1) eX10_start [.ref c.2.2.1, .int (nI (B + a))] S K := by
  refine w_X10_start ho (nI (B + a)) (r_five ho h1 h2 ⟨_, rfl, ?_⟩)
  refine v_copy ho (k1 := 17) (f1 := 26) (n1 := 320) (k2 := 27) (f2 := 36) (n2 := 5) (i := 5 * a) (j := 0) rfl rfl (by omega) (by decide) (by decide) (by decide) (Or.inl (by decide)) ⟨rfl, r_five ho h1 h2 ⟨_, rfl, ?_⟩⟩
  refine v_copy ho (k1 := 17) (f1 := 26) (n1 := 320) (k2 := 28) (f2 := 37) (n2 := 5) (i := 5 * a) (j := 0) rfl rfl (by omega) (by decide) (by decide) (by decide) (Or.inl (by decide)) ⟨rfl, ?_⟩
  refine hK _ ((ffr_w a S 36 (Or.inl rfl) _).trans (ffr_w a _ 37 (Or.inr rfl) _)) (fun k hk => ?_) (fun k hk => ?_)
  · rw [wv_out (Or.inl (by decide)) k hk]; exact wv_in _ _ _ _ k hk
  · rw [wv_in _ _ _ _ k hk]; exact wv_out (Or.inl (by decide)) k hk
/-- split -/
theorem r_split (ho : rOK c) {p : Nat} {Y N : nV} (hp : p < 56) (hY : vw (wv S 36 0) Y) (hN : vw (wv S 37 0) N) (hK : ∀ S', ffr a S S' → vw (wv S' 36 0) (nRes Y p 27) → vw (wv S' 37 0) (nRes N p 4) → K none S') : rM c (d + 1) eX10_split [.ref c.2.2.1, .int (nI p)] S K := by
  refine w_X10_split ho (nI p) ?_
  refine v_restrict ho (k1 := 27) (f1 := 36) (n1 := 5) (i := 0) (kk := 27) rfl (by decide) (by decide) (by decide) ⟨rfl, ?_⟩
  refine v_restrict ho (k1 := 28) (f1 := 37) (n1 := 5) (i := 0) (kk := 4) rfl (by decide) (by decide) (by decide) ⟨rfl, ?_⟩
  refine hK _ ((ffr_w a S 36 (Or.inl rfl) _).trans (ffr_w a _ 37 (Or.inr rfl) _)) ?_ ?_
  · exact (hY.res hp).cong fun k hk => by rw [wv_out (Or.inl (by decide)) k hk]; exact wv_in _ _ _ _ k hk
  · have h' : vw (wv (put S 36 0 5 (wRes (wv S 36 0) p 27)) 37 0) N := hN.cong fun k hk => wv_out (Or.inl (by decide)) k hk
    exact (h'.res hp).cong fun k hk => wv_in _ _ _ _ k hk
end RCA
