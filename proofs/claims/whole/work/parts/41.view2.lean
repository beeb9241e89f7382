/-! Bits of longs (after the kit's rows to paste), and the rest of the views' methods. -/
/-! ===== lN n to 2^64: shifts, and, or, masks, one bit ===== -/
theorem wb_tb (n : Nat) : (lN n).toBitVec = BitVec.ofNat 64 n := rfl
theorem wb_inj {a b : Int64} (h : a.toBitVec = b.toBitVec) : a = b := Int64.toBitVec_inj.mp h
theorem wb_tn {n : Nat} (h : n < 2 ^ 64) : (lN n).toBitVec.toNat = n := by rw [wb_tb, BitVec.toNat_ofNat, Nat.mod_eq_of_lt h]
theorem wb_of (x : Int64) : ∃ n, n < 2 ^ 64 ∧ x = lN n := ⟨x.toBitVec.toNat, x.toBitVec.isLt, wb_inj (by rw [wb_tb]; simp)⟩
theorem wb_of32 (x : Int32) : ∃ n, n < 2 ^ 32 ∧ x = nI n := ⟨x.toBitVec.toNat, x.toBitVec.isLt, Int32.toBitVec_inj.mp (by show _ = BitVec.ofNat 32 _; simp)⟩
theorem wb_c : ∀ k, k < 64 → ((nI k).toInt64 &&& 63) = lN k := by decide +kernel
theorem wb_cu : ∀ k, k < 64 → ((nI k).toInt64.toUInt64 &&& Int64.toUInt64 63) = UInt64.ofNat k := by decide +kernel
theorem wb_sm : ∀ k, k < 64 → (BitVec.ofNat 64 k).smod 64 = BitVec.ofNat 64 k := by decide +kernel
theorem wb_pw {a b : Nat} (h : a ≤ b) : 2 ^ b = 2 ^ a * 2 ^ (b - a) := by rw [← Nat.pow_add]; congr 1; omega
theorem wb_lt2 {a b : Nat} (h : a < b) : 2 ^ a < 2 ^ b := Nat.pow_lt_pow_right (by decide) h
theorem wb_mod (n : Nat) : lN n = lN (n % 2 ^ 64) := wb_inj (by rw [wb_tb, wb_tb]; apply BitVec.eq_of_toNat_eq; rw [BitVec.toNat_ofNat, BitVec.toNat_ofNat, Nat.mod_mod])
theorem wb_shr {n k : Nat} (hn : n < 2 ^ 64) (hk : k < 64) : ((lN n).toUInt64 >>> ((nI k).toInt64.toUInt64 &&& Int64.toUInt64 63)).toInt64 = lN (n / 2 ^ k) := by
  rw [wb_cu k hk]
  apply wb_inj
  apply BitVec.eq_of_toNat_eq
  show ((lN n).toUInt64 >>> UInt64.ofNat k).toNat = (BitVec.ofNat 64 _).toNat
  have h1 : (UInt64.ofNat k).toNat = k := by
    show (BitVec.ofNat 64 k).toNat = k
    rw [BitVec.toNat_ofNat, Nat.mod_eq_of_lt (by omega)]
  have h2 : (lN n).toUInt64.toNat = n := wb_tn hn
  rw [UInt64.toNat_shiftRight, h1, h2, Nat.mod_eq_of_lt hk, Nat.shiftRight_eq_div_pow, BitVec.toNat_ofNat, Nat.mod_eq_of_lt (Nat.lt_of_le_of_lt (Nat.div_le_self _ _) hn)]
theorem wb_shl (n : Nat) {k : Nat} (hk : k < 64) : lN n <<< ((nI k).toInt64 &&& 63) = lN (n * 2 ^ k) := by
  rw [wb_c k hk]
  apply wb_inj
  rw [Int64.toBitVec_shiftLeft, wb_tb, wb_tb, wb_tb, wb_sm k hk]
  apply BitVec.eq_of_toNat_eq
  rw [BitVec.shiftLeft_eq', BitVec.toNat_shiftLeft, BitVec.toNat_ofNat, BitVec.toNat_ofNat, BitVec.toNat_ofNat, Nat.mod_eq_of_lt (show k < 2 ^ 64 by omega), Nat.shiftLeft_eq, Nat.mul_mod, Nat.mod_mod, ← Nat.mul_mod]
theorem wb_and {a b : Nat} (ha : a < 2 ^ 64) (hb : b < 2 ^ 64) : lN a &&& lN b = lN (a &&& b) := by
  apply wb_inj
  rw [Int64.toBitVec_and, wb_tb, wb_tb, wb_tb]
  apply BitVec.eq_of_toNat_eq
  rw [BitVec.toNat_and, BitVec.toNat_ofNat, BitVec.toNat_ofNat, BitVec.toNat_ofNat, Nat.mod_eq_of_lt ha, Nat.mod_eq_of_lt hb, Nat.mod_eq_of_lt (Nat.and_lt_two_pow _ hb)]
theorem wb_or {a b : Nat} (ha : a < 2 ^ 64) (hb : b < 2 ^ 64) : lN a ||| lN b = lN (a ||| b) := by
  apply wb_inj
  rw [Int64.toBitVec_or, wb_tb, wb_tb, wb_tb]
  apply BitVec.eq_of_toNat_eq
  rw [BitVec.toNat_or, BitVec.toNat_ofNat, BitVec.toNat_ofNat, BitVec.toNat_ofNat, Nat.mod_eq_of_lt ha, Nat.mod_eq_of_lt hb, Nat.mod_eq_of_lt (Nat.or_lt_two_pow ha hb)]
theorem wb_mask {n k : Nat} (hn : n < 2 ^ 64) (hk : k < 64) : lN n &&& lN (2 ^ k - 1) = lN (n % 2 ^ k) := by
  rw [wb_and hn (by have := wb_lt2 hk; omega), Nat.and_two_pow_sub_one_eq_mod]
theorem wb_a1 {n : Nat} (hn : n < 2 ^ 64) : lN n &&& 1 = lN (n % 2) := wb_mask (k := 1) hn (by decide)
theorem wb_bit {n k : Nat} (hn : n < 2 ^ 64) (hk : k < 64) : ((lN n).toUInt64 >>> ((nI k).toInt64.toUInt64 &&& Int64.toUInt64 63)).toInt64 &&& 1 = lN (n / 2 ^ k % 2) := by
  rw [wb_shr hn hk, wb_a1 (Nat.lt_of_le_of_lt (Nat.div_le_self _ _) hn)]
/-- a bit of a long -/
def xb (w : Int64) (n : Nat) : Bool := w.toBitVec.getLsbD n
theorem xb_and (a b : Int64) (n : Nat) : xb (a &&& b) n = (xb a n && xb b n) := by simp [xb]
theorem xb_or (a b : Int64) (n : Nat) : xb (a ||| b) n = (xb a n || xb b n) := by simp [xb]
theorem xb_not (a : Int64) {n : Nat} (h : n < 64) : xb (a ^^^ (-1)) n = !xb a n := by
  have h1 : (-1 : Int64).toBitVec = BitVec.allOnes 64 := by decide
  simp [xb, h1, h]
theorem xb_0 (n : Nat) : xb 0 n = false := by simp [xb]
theorem xb_lN (m : Nat) {n : Nat} (h : n < 64) : xb (lN m) n = m.testBit n := by
  unfold xb
  rw [wb_tb, BitVec.getLsbD_ofNat]
  simp [h]
/-- the kinds that a word has at a path -/
def kd (w : Int64) (p : Nat) : Nat := w.toBitVec.toNat / 2 ^ (5 * p) % 32
theorem kd_lt (w : Int64) (p : Nat) : kd w p < 32 := Nat.mod_lt _ (by decide)
theorem kd_bit (w : Int64) (p : Nat) {j : Nat} (h : j < 5) : (kd w p).testBit j = xb w (5 * p + j) := by
  unfold kd xb
  rw [show (32 : Nat) = 2 ^ 5 by decide, Nat.testBit_mod_two_pow, Nat.testBit_div_two_pow]
  simp [h, BitVec.getLsbD, Nat.add_comm]
theorem nat_bits_0 {n : Nat} (h : n < 32) (hb : ∀ j, j < 5 → n.testBit j = false) : n = 0 := by
  have : ∀ n, n < 32 → (∀ j, j < 5 → n.testBit j = false) → n = 0 := by decide
  exact this n h hb
theorem kd_0 (w : Int64) (p : Nat) : kd w p = 0 ↔ ∀ j, j < 5 → xb w (5 * p + j) = false := by
  constructor
  · intro h j hj
    rw [← kd_bit w p hj, h]
    simp
  · intro h
    exact nat_bits_0 (kd_lt w p) fun j hj => by rw [kd_bit w p hj]; exact h j hj
theorem kd_of (w : Int64) {p : Nat} (hp : p < 7) : Int64.toInt32 ((Int64.toUInt64 w >>> ((Int32.toInt64 (5 * nI p)).toUInt64 &&& Int64.toUInt64 63)).toInt64) &&& 31 = nI (kd w p) := by
  obtain ⟨n, hn, rfl⟩ := wb_of w
  have e5 : (5 : Int32) * nI p = nI (5 * p) := pk_mul 5 p
  rw [e5, wb_shr hn (by omega), lN_i, pk_and _ 5 (by decide)]
  unfold kd
  rw [wb_tn hn]
  congr 1
  have h1 : (nI (n / 2 ^ (5 * p))).toBitVec.toNat = n / 2 ^ (5 * p) % 2 ^ 32 := by
    show (BitVec.ofNat 32 _).toNat = _
    rw [BitVec.toNat_ofNat]
  rw [h1]
  exact Nat.mod_mod_of_dvd _ (by decide)
/-- what restrict does to a word -/
def vRw (w : Int64) (p k : Nat) : Int64 := w &&& (lN ((31 - k) * 2 ^ (5 * p)) ^^^ (-1))
theorem vRw_of (w : Int64) {p k : Nat} (hp : p < 7) (hk : k < 32) : w &&& (((Int32.toInt64 (31 &&& (nI k ^^^ (-1)))) <<< (Int32.toInt64 (5 * nI p) &&& 63)) ^^^ (-1)) = vRw w p k := by
  have h1 : ∀ k, k < 32 → (31 : Int32) &&& (nI k ^^^ (-1)) = nI (31 - k) := by decide +kernel
  have e5 : (5 : Int32) * nI p = nI (5 * p) := pk_mul 5 p
  rw [h1 k hk, e5, nI_l (by omega), wb_shl _ (by omega)]
  rfl
theorem vRw_bit (w : Int64) {p k n : Nat} (hk : k < 32) (hn : n < 64) : xb (vRw w p k) n = (xb w n && !(decide (5 * p ≤ n) && decide (n < 5 * p + 5) && !k.testBit (n - 5 * p))) := by
  unfold vRw
  rw [xb_and, xb_not _ hn, xb_lN _ hn, Nat.mul_comm, Nat.testBit_two_pow_mul]
  congr 2
  have h1 : ∀ k, k < 32 → ∀ j, j < 5 → (31 - k).testBit j = !k.testBit j := by decide
  by_cases h2 : 5 * p ≤ n
  · by_cases h3 : n < 5 * p + 5
    · rw [h1 k hk (n - 5 * p) (by omega)]
      simp [h2, h3]
    · have h4 : (31 - k).testBit (n - 5 * p) = false := Nat.testBit_lt_two_pow (Nat.lt_of_lt_of_le (show 31 - k < 2 ^ 5 by omega) (Nat.pow_le_pow_right (by decide) (by omega)))
      simp [h2, h3, h4]
  · simp [h2]
section CV2
variable {c : cX} {d : Nat} {C : cS} {K : Option Value → cS → Prop} {t : Nat}
theorem c_kindsN {w : Int64} {p : Nat} (hp : p < 7) (hK : K (some (.int (nI (kd w p)))) C) : cM c d eX8_kindsIn [.long w, .int (nI p)] C K := c_kindsIn (kd_of w hp) hK
theorem nI_div7 {p : Nat} (h : p < 2 ^ 31) : nI p / 7 = nI (p / 7) := pk_div h (by decide) (by decide)
theorem nI_mod7 {p : Nat} (h : p < 2 ^ 31) : nI p - nI p / 7 * 7 = nI (p % 7) := pk_rem h (by decide) (by decide)
theorem c_word {s : Nat} (hV : VA C t) (hs : s < 17) (hK : K (some (.long (cJ C (t + 1) s))) C) : cM c d eX8_word [.ref t, .int (nI s)] C K :=
  w_X8_word t (nI s) ⟨fun h => absurd h (nI_pos (by omega)), fun _ => ⟨fun h => absurd h (i17 hs), fun _ => ⟨hV.1, t + 1, hV.2.1, 17, hV.2.2, s, am_ix_n hs (by decide), hK⟩⟩⟩
theorem c_says {p : Nat} (hV : VA C t) (hp : p < 119) (hK : K (some (.int (nI (kd (cJ C (t + 1) (p / 7)) (p % 7))))) C) : cM c (d + 1) eX8_says [.ref t, .int (nI p)] C K := by
  refine w_X8_says t (nI p) ⟨fun _ => ⟨hV.1, ?_⟩, fun h => absurd (nI_pos' (by omega)) h⟩
  rw [nI_mod7 (by omega), nI_div7 (by omega)]
  exact c_word hV (by omega) ⟨_, rfl, cle.refl C, c_kindsN (Nat.mod_lt _ (by decide)) ⟨_, rfl, cle.refl C, hK⟩⟩
/-- restrict, on a flag and words -/
def vRes (v : vT) (p k : Nat) : vT :=
  if kd (vRw (v.2 (p / 7)) (p % 7) k) (p % 7) = 0 then (1, vFill 0 (fun i => if i = p / 7 then vRw (v.2 i) (p % 7) k else v.2 i)) else (v.1, fun i => if i = p / 7 then vRw (v.2 i) (p % 7) k else v.2 i)
theorem csj_pv (C : cS) (t j : Nat) (v : Int64) : csj C (t + 1) j v = pv C t ((gv C t).1, fun i => if i = j then v else (gv C t).2 i) := by
  refine cS_ext rfl rfl rfl (funext fun b => funext fun i => ?_) (funext fun b => funext fun i => ?_) rfl
  · simp only [csj, pv, cwr, csi, gv, cI]
    by_cases h1 : i = 1 <;> by_cases h2 : b = t <;> simp [h1, h2]
  · simp only [csj, pv, cwr, csi, gv, cJ]
    by_cases h1 : b = t + 1 <;> by_cases h2 : i = j <;> simp [h1, h2]
theorem c_restrict {p k : Nat} (hV : VA C t) (hp : p < 119) (hk : k < 32) (hK : K none (pv C t (vRes (gv C t) p k))) : cM c (d + 1) eX8_restrict [.ref t, .int (nI p), .int (nI k)] C K := by
  have h119 : nI p < 119 := by
    have : nI p < nI 119 := (nI_ltI (by omega) (by decide)).mpr hp
    exact this
  refine w_X8_restrict t (nI p) (nI k) ⟨fun h => absurd h (nI_pos (by omega)), fun _ => ⟨fun _ => ⟨hV.1, t + 1, hV.2.1, 17, hV.2.2, ?_⟩, fun h => absurd h119 h⟩⟩
  rw [nI_mod7 (by omega), nI_div7 (by omega)]
  refine ⟨p / 7, am_ix_n (by omega) (by decide), p / 7, am_ix_n (by omega) (by decide), p / 7, am_ix_n (by omega) (by decide), ?_⟩
  rw [vRw_of _ (Nat.mod_lt _ (by decide)) hk]
  have e1 : cJ (csj C (t + 1) (p / 7) (vRw (cJ C (t + 1) (p / 7)) (p % 7) k)) (t + 1) (p / 7) = vRw (cJ C (t + 1) (p / 7)) (p % 7) k := by simp [csj, cJ]
  rw [e1]
  have e2 : csj C (t + 1) (p / 7) (vRw (cJ C (t + 1) (p / 7)) (p % 7) k) = pv C t ((gv C t).1, fun i => if i = p / 7 then vRw ((gv C t).2 i) (p % 7) k else (gv C t).2 i) := by
    rw [csj_pv]
    congr 2
    funext i
    by_cases h : i = p / 7
    · subst h; simp [gv]
    · simp [h]
  refine c_kindsN (Nat.mod_lt _ (by decide)) ⟨_, rfl, cle.refl _, fun hz => ?_, fun hz => ?_⟩
  · have hz' : ¬ kd (vRw ((gv C t).2 (p / 7)) (p % 7) k) (p % 7) = 0 := fun q => hz (by show nI (kd (vRw ((gv C t).2 (p / 7)) (p % 7) k) (p % 7)) = 0; rw [q]; rfl)
    rw [e2]
    unfold vRes at hK
    rw [if_neg hz'] at hK
    exact hK
  · have hz' : kd (vRw ((gv C t).2 (p / 7)) (p % 7) k) (p % 7) = 0 := by
      have h1 : nI (kd (vRw ((gv C t).2 (p / 7)) (p % 7) k) (p % 7)) = nI 0 := hz
      exact (nI_eq (Nat.lt_of_lt_of_le (kd_lt _ _) (by decide)) (by decide)).mp h1
    rw [e2]
    unfold vRes at hK
    rw [if_pos hz'] at hK
    refine c_sayNothing (hV.pv t _) ⟨rfl, cle_pv _ _ _, ?_⟩
    rw [pv_pv]
    have e3 : cJ (pv C t ((gv C t).1, fun i => if i = p / 7 then vRw ((gv C t).2 i) (p % 7) k else (gv C t).2 i)) (t + 1) = (fun i => if i = p / 7 then vRw ((gv C t).2 i) (p % 7) k else (gv C t).2 i) := cJ_cwr _ _ _
    rw [e3]
    exact hK
/-- no kind is left at some path -/
def lk (w : Int64) : Bool := (List.range 7).any fun p => kd w p == 0
theorem c_lacks {w : Int64} (hK : K (some (.int (if lk w then 1 else 0))) C) : cM c (d + 1) eX8_lacksKinds [.long w] C K := by
  refine w_X8_lacksKinds w ?_
  have key : ∀ n i : Nat, i + n = 7 → (∀ q, q < i → kd w q ≠ 0) → cG c eX8_lacksKinds (d + 1) (cQ K) 2 [some (.long w), none, some (.int (nI i))] [] C := by
    intro n
    induction n with
    | zero =>
      intro i hi hq
      have : i = 7 := by omega
      subst this
      refine w_X8_lacksKinds_2 w (nI 7) ⟨fun _ => ?_, fun h => absurd (by decide) h⟩
      have hl : lk w = false := by
        unfold lk
        rw [List.any_eq_false]
        intro p hp
        have := hq p (List.mem_range.mp hp)
        simpa using this
      rw [hl] at hK
      exact hK
    | succ n ih =>
      intro i hi hq
      refine w_X8_lacksKinds_2 w (nI i) ⟨fun h => absurd h (i7 (by omega)), fun _ => c_kindsN (by omega) ⟨_, rfl, cle.refl C, fun hz => ?_, fun hz => ?_⟩⟩
      · rw [nI_1]
        refine ih (i + 1) (by omega) fun q h => ?_
        by_cases e : q = i
        · subst e
          exact fun z => hz (by rw [z]; rfl)
        · exact hq q (by omega)
      · have h1 : nI (kd w i) = nI 0 := hz
        have h2 : kd w i = 0 := (nI_eq (Nat.lt_of_lt_of_le (kd_lt _ _) (by decide)) (by decide)).mp h1
        have hl : lk w = true := by
          unfold lk
          rw [List.any_eq_true]
          exact ⟨i, List.mem_range.mpr (by omega), by rw [h2]; rfl⟩
        rw [hl] at hK
        exact hK
  exact key 7 0 rfl fun q h => absurd h (Nat.not_lt_zero _)
end CV2
