theorem dX8_restrictFrom_0 : decode cX8_restrictFrom 0 = .ok (.iconst 0, 1) := by decide +kernel
theorem dX8_restrictFrom_1 : decode cX8_restrictFrom 1 = .ok (.istore 4, 2) := by decide +kernel
theorem dX8_restrictFrom_3 : decode cX8_restrictFrom 3 = .ok (.iload 4, 2) := by decide +kernel
theorem dX8_restrictFrom_5 : decode cX8_restrictFrom 5 = .ok (.bipush 7, 2) := by decide +kernel
theorem dX8_restrictFrom_7 : decode cX8_restrictFrom 7 = .ok (.if_icmp .ge 35, 3) := by decide +kernel
theorem dX8_restrictFrom_10 : decode cX8_restrictFrom 10 = .ok (.iload_n 1, 1) := by decide +kernel
theorem dX8_restrictFrom_11 : decode cX8_restrictFrom 11 = .ok (.iload 4, 2) := by decide +kernel
theorem dX8_restrictFrom_13 : decode cX8_restrictFrom 13 = .ok (.invokestatic 34, 3) := by decide +kernel
theorem dX8_restrictFrom_16 : decode cX8_restrictFrom 16 = .ok (.istore 5, 2) := by decide +kernel
theorem dX8_restrictFrom_18 : decode cX8_restrictFrom 18 = .ok (.iload 5, 2) := by decide +kernel
theorem dX8_restrictFrom_20 : decode cX8_restrictFrom 20 = .ok (.iconst (-1), 1) := by decide +kernel
theorem dX8_restrictFrom_21 : decode cX8_restrictFrom 21 = .ok (.if_icmp .eq 15, 3) := by decide +kernel
theorem dX8_restrictFrom_24 : decode cX8_restrictFrom 24 = .ok (.aload_n 0, 1) := by decide +kernel
theorem dX8_restrictFrom_25 : decode cX8_restrictFrom 25 = .ok (.iload 5, 2) := by decide +kernel
theorem dX8_restrictFrom_27 : decode cX8_restrictFrom 27 = .ok (.lload_n 2, 1) := by decide +kernel
theorem dX8_restrictFrom_28 : decode cX8_restrictFrom 28 = .ok (.iload 4, 2) := by decide +kernel
theorem dX8_restrictFrom_30 : decode cX8_restrictFrom 30 = .ok (.invokestatic 25, 3) := by decide +kernel
theorem dX8_restrictFrom_33 : decode cX8_restrictFrom 33 = .ok (.invokevirtual 38, 3) := by decide +kernel
theorem dX8_restrictFrom_36 : decode cX8_restrictFrom 36 = .ok (.iinc 4 1, 3) := by decide +kernel
theorem dX8_restrictFrom_39 : decode cX8_restrictFrom 39 = .ok (.goto (-36), 3) := by decide +kernel
theorem dX8_restrictFrom_42 : decode cX8_restrictFrom 42 = .ok (.return_, 1) := by decide +kernel
set_option maxRecDepth 20000 in
set_option maxHeartbeats 4000000 in
theorem w_X8_restrictFrom {c : cX} {d : Nat} {C : cS} {K : Option Value → cS → Prop} (t : Nat) (p0 : Int32) (p1 : Int64) (h : cG c eX8_restrictFrom (d + 1) (cQ K) 3 [some (.ref t), some (.int p0), some (.long p1), none, some (.int 0), none] [] C) : cM c (d + 1) eX8_restrictFrom [.ref t, .int p0, .long p1] C K := by
  refine cM.of2 (lv := [some (.ref t), some (.int p0), some (.long p1), none, none, none]) (by decide) (Nat.le_of_ble_eq_true rfl) rfl ?_
  refine ag_iconst (v := 0) dX8_restrictFrom_0 rfl ?_
  refine ag_istore (lv2 := [some (.ref t), some (.int p0), some (.long p1), none, some (.int 0), none]) dX8_restrictFrom_1 (Nat.le_of_ble_eq_true rfl) rfl ?_
  exact h
set_option maxRecDepth 20000 in
set_option maxHeartbeats 4000000 in
theorem w_X8_restrictFrom_3 {c : cX} {d : Nat} {C : cS} {K : Option Value → cS → Prop} (t : Nat) (v1 : Int32) (v2 : Int64) (v4 : Int32) (h : (7 ≤ v4 → (K none C)) ∧ (¬ 7 ≤ v4 → (cM c d eX9_reach [.int v1, .int v4] C (fun v C2 => ∃ z3 : Int32, v = some (.int z3) ∧ cle C C2 ∧ ((z3 = (-1) → (cG c eX8_restrictFrom (d + 1) (cQ K) 3 [some (.ref t), some (.int v1), some (.long v2), none, some (.int (v4 + 1)), none] [] C2)) ∧ (¬ z3 = (-1) → (cM c d eX8_kindsIn [.long v2, .int v4] C2 (fun v C6 => ∃ z7 : Int32, v = some (.int z7) ∧ cle C2 C6 ∧ (cT C6 t 8 2 ∧ (cM c d eX8_restrict (.ref t :: [.int z3, .int z7]) C6 (fun v C9 => v = none ∧ cle C6 C9 ∧ (cG c eX8_restrictFrom (d + 1) (cQ K) 3 [some (.ref t), some (.int v1), some (.long v2), none, some (.int (v4 + 1)), none] [] C9)))))))))))) : cG c eX8_restrictFrom (d + 1) (cQ K) 3 [some (.ref t), some (.int v1), some (.long v2), none, some (.int v4), none] [] C := by
  refine ag_iload dX8_restrictFrom_3 rfl ?_
  refine ag_bipush (v := 7) dX8_restrictFrom_5 (by decide) ?_
  refine ag_icmp_ge (tgt := 42) dX8_restrictFrom_7 rfl (fun hc1 => ?_) (fun hc1 => ?_)
  · have h := h.1 hc1
    exact ag_ret (v := none) dX8_restrictFrom_42 rfl ⟨_, rfl, _, rfl, h⟩ rfl
  · have h := h.2 hc1
    refine ag_iload_n dX8_restrictFrom_10 rfl ?_
    refine ag_iload dX8_restrictFrom_11 rfl ?_
    refine cr_callSN (as := [.int v1, .int v4]) (rest := []) dX8_restrictFrom_13 me_X9_reach ms_X9_reach ln_8_34 rfl rfl (Nat.le_of_ble_eq_true rfl) ?_
    refine cM.mono h ?_
    rintro v C2 ⟨z3, rfl, hL4, h⟩
    show cG _ _ _ _ _ _ [.int z3] _
    refine ag_istore (lv2 := [some (.ref t), some (.int v1), some (.long v2), none, some (.int v4), some (.int z3)]) dX8_restrictFrom_16 (Nat.le_of_ble_eq_true rfl) rfl ?_
    refine ag_iload dX8_restrictFrom_18 rfl ?_
    refine ag_iconst (v := (-1)) dX8_restrictFrom_20 rfl ?_
    refine ag_icmp_eq (tgt := 36) dX8_restrictFrom_21 rfl (fun hc5 => ?_) (fun hc5 => ?_)
    · have h := h.1 hc5
      refine ag_iinc (v2 := (v4 + 1)) (lv2 := [some (.ref t), some (.int v1), some (.long v2), none, some (.int (v4 + 1)), some (.int z3)]) dX8_restrictFrom_36 rfl rfl rfl ?_
      refine ag_goto (tgt := 3) dX8_restrictFrom_39 rfl ?_
      refine ag_drop 5 ?_
      exact h
    · have h := h.2 hc5
      refine ag_aload_n dX8_restrictFrom_24 rfl (Or.inr ⟨_, rfl⟩) ?_
      refine ag_iload dX8_restrictFrom_25 rfl ?_
      refine ag_lload_n dX8_restrictFrom_27 rfl ?_
      refine ag_iload dX8_restrictFrom_28 rfl ?_
      refine cr_callS (as := [.long v2, .int v4]) (rest := [.int z3, .ref t]) dX8_restrictFrom_30 me_X8_kindsIn ms_X8_kindsIn lk_8_25 rfl rfl (Nat.le_of_ble_eq_true rfl) ?_
      refine cM.mono h ?_
      rintro v C6 ⟨z7, rfl, hL8, h⟩
      show cG _ _ _ _ _ _ [.int z7, .int z3, .ref t] _
      obtain ⟨hT12, h⟩ := h
      refine cr_callV (as := [.int z3, .int z7]) (rest := []) dX8_restrictFrom_33 me_X8_restrict mi_X8_restrict lk_8_38 hT12 rfl rfl (Nat.le_of_ble_eq_true rfl) ?_
      refine cM.mono h ?_
      rintro v C9 ⟨rfl, hL11, h⟩
      have hT13 := cT.le (C := C6) hT12 hL11
      show cG _ _ _ _ _ _ [] _
      refine ag_iinc (v2 := (v4 + 1)) (lv2 := [some (.ref t), some (.int v1), some (.long v2), none, some (.int (v4 + 1)), some (.int z3)]) dX8_restrictFrom_36 rfl rfl rfl ?_
      refine ag_goto (tgt := 3) dX8_restrictFrom_39 rfl ?_
      refine ag_drop 5 ?_
      exact h
theorem dX8_keepBoth_0 : decode cX8_keepBoth 0 = .ok (.aload_n 0, 1) := by decide +kernel
theorem dX8_keepBoth_1 : decode cX8_keepBoth 1 = .ok (.getfield 15, 3) := by decide +kernel
theorem dX8_keepBoth_4 : decode cX8_keepBoth 4 = .ok (.ifCond .ne 10, 3) := by decide +kernel
theorem dX8_keepBoth_7 : decode cX8_keepBoth 7 = .ok (.aload_n 1, 1) := by decide +kernel
theorem dX8_keepBoth_8 : decode cX8_keepBoth 8 = .ok (.getfield 15, 3) := by decide +kernel
theorem dX8_keepBoth_11 : decode cX8_keepBoth 11 = .ok (.ifCond .eq 7, 3) := by decide +kernel
theorem dX8_keepBoth_14 : decode cX8_keepBoth 14 = .ok (.iconst 1, 1) := by decide +kernel
theorem dX8_keepBoth_15 : decode cX8_keepBoth 15 = .ok (.goto 4, 3) := by decide +kernel
theorem dX8_keepBoth_18 : decode cX8_keepBoth 18 = .ok (.iconst 0, 1) := by decide +kernel
theorem dX8_keepBoth_19 : decode cX8_keepBoth 19 = .ok (.istore_n 2, 1) := by decide +kernel
theorem dX8_keepBoth_20 : decode cX8_keepBoth 20 = .ok (.iconst 0, 1) := by decide +kernel
theorem dX8_keepBoth_21 : decode cX8_keepBoth 21 = .ok (.istore_n 3, 1) := by decide +kernel
theorem dX8_keepBoth_22 : decode cX8_keepBoth 22 = .ok (.iload_n 3, 1) := by decide +kernel
theorem dX8_keepBoth_23 : decode cX8_keepBoth 23 = .ok (.bipush 17, 2) := by decide +kernel
theorem dX8_keepBoth_25 : decode cX8_keepBoth 25 = .ok (.if_icmp .ge 46, 3) := by decide +kernel
theorem dX8_keepBoth_28 : decode cX8_keepBoth 28 = .ok (.aload_n 0, 1) := by decide +kernel
theorem dX8_keepBoth_29 : decode cX8_keepBoth 29 = .ok (.getfield 9, 3) := by decide +kernel
theorem dX8_keepBoth_32 : decode cX8_keepBoth 32 = .ok (.iload_n 3, 1) := by decide +kernel
theorem dX8_keepBoth_33 : decode cX8_keepBoth 33 = .ok (.dup2, 1) := by decide +kernel
theorem dX8_keepBoth_34 : decode cX8_keepBoth 34 = .ok (.laload, 1) := by decide +kernel
theorem dX8_keepBoth_35 : decode cX8_keepBoth 35 = .ok (.aload_n 1, 1) := by decide +kernel
theorem dX8_keepBoth_36 : decode cX8_keepBoth 36 = .ok (.getfield 9, 3) := by decide +kernel
theorem dX8_keepBoth_39 : decode cX8_keepBoth 39 = .ok (.iload_n 3, 1) := by decide +kernel
theorem dX8_keepBoth_40 : decode cX8_keepBoth 40 = .ok (.laload, 1) := by decide +kernel
theorem dX8_keepBoth_41 : decode cX8_keepBoth 41 = .ok (.land, 1) := by decide +kernel
theorem dX8_keepBoth_42 : decode cX8_keepBoth 42 = .ok (.lastore, 1) := by decide +kernel
theorem dX8_keepBoth_43 : decode cX8_keepBoth 43 = .ok (.iload_n 2, 1) := by decide +kernel
theorem dX8_keepBoth_44 : decode cX8_keepBoth 44 = .ok (.ifCond .ne 15, 3) := by decide +kernel
theorem dX8_keepBoth_47 : decode cX8_keepBoth 47 = .ok (.aload_n 0, 1) := by decide +kernel
theorem dX8_keepBoth_48 : decode cX8_keepBoth 48 = .ok (.getfield 9, 3) := by decide +kernel
theorem dX8_keepBoth_51 : decode cX8_keepBoth 51 = .ok (.iload_n 3, 1) := by decide +kernel
theorem dX8_keepBoth_52 : decode cX8_keepBoth 52 = .ok (.laload, 1) := by decide +kernel
theorem dX8_keepBoth_53 : decode cX8_keepBoth 53 = .ok (.invokestatic 42, 3) := by decide +kernel
theorem dX8_keepBoth_56 : decode cX8_keepBoth 56 = .ok (.ifCond .eq 7, 3) := by decide +kernel
theorem dX8_keepBoth_59 : decode cX8_keepBoth 59 = .ok (.iconst 1, 1) := by decide +kernel
theorem dX8_keepBoth_60 : decode cX8_keepBoth 60 = .ok (.goto 4, 3) := by decide +kernel
theorem dX8_keepBoth_63 : decode cX8_keepBoth 63 = .ok (.iconst 0, 1) := by decide +kernel
theorem dX8_keepBoth_64 : decode cX8_keepBoth 64 = .ok (.istore_n 2, 1) := by decide +kernel
theorem dX8_keepBoth_65 : decode cX8_keepBoth 65 = .ok (.iinc 3 1, 3) := by decide +kernel
theorem dX8_keepBoth_68 : decode cX8_keepBoth 68 = .ok (.goto (-46), 3) := by decide +kernel
theorem dX8_keepBoth_71 : decode cX8_keepBoth 71 = .ok (.iload_n 2, 1) := by decide +kernel
theorem dX8_keepBoth_72 : decode cX8_keepBoth 72 = .ok (.ifCond .eq 7, 3) := by decide +kernel
theorem dX8_keepBoth_75 : decode cX8_keepBoth 75 = .ok (.aload_n 0, 1) := by decide +kernel
theorem dX8_keepBoth_76 : decode cX8_keepBoth 76 = .ok (.invokevirtual 31, 3) := by decide +kernel
theorem dX8_keepBoth_79 : decode cX8_keepBoth 79 = .ok (.return_, 1) := by decide +kernel
set_option maxRecDepth 20000 in
set_option maxHeartbeats 4000000 in
theorem w_X8_keepBoth {c : cX} {d : Nat} {C : cS} {K : Option Value → cS → Prop} (t : Nat) (p0 : Option Nat) (h : cT C t 8 2 ∧ ((¬ (cI C t 1) = 0 → (cG c eX8_keepBoth (d + 1) (cQ K) 22 [some (.ref t), some (va_rf p0), some (.int 1), some (.int 0)] [] C)) ∧ ((cI C t 1) = 0 → (∃ a3 : Nat, p0 = some a3 ∧ (cT C a3 8 2 ∧ (((cI C a3 1) = 0 → (cG c eX8_keepBoth (d + 1) (cQ K) 22 [some (.ref t), some (va_rf p0), some (.int 0), some (.int 0)] [] C)) ∧ (¬ (cI C a3 1) = 0 → (cG c eX8_keepBoth (d + 1) (cQ K) 22 [some (.ref t), some (va_rf p0), some (.int 1), some (.int 0)] [] C)))))))) : cM c (d + 1) eX8_keepBoth [.ref t, va_rf p0] C K := by
  refine cM.of2 (lv := [some (.ref t), some (va_rf p0), none, none]) (by decide) (by simp only [am_sl_i, am_sl_r, am_sl_l, am_sl_o, am_sl_n]; exact Nat.le_of_ble_eq_true rfl) (by simp only [am_en, am_sl_i, am_sl_r, am_sl_l, am_sl_o, am_sl_n]; rfl) ?_
  refine ag_aload_n dX8_keepBoth_0 rfl (Or.inr ⟨_, rfl⟩) ?_
  obtain ⟨hT1, h⟩ := h
  refine cr_get (v := .int (cI C t 1)) dX8_keepBoth_1 fw_8_15 hT1 rfl ?_
  refine ag_if_ne (tgt := 14) dX8_keepBoth_4 rfl (fun hc2 => ?_) (fun hc2 => ?_)
  · have h := h.1 hc2
    refine ag_iconst (v := 1) dX8_keepBoth_14 rfl ?_
    refine ag_goto (tgt := 19) dX8_keepBoth_15 rfl ?_
    refine ag_istore_n (lv2 := [some (.ref t), some (va_rf p0), some (.int 1), none]) dX8_keepBoth_19 (Nat.le_of_ble_eq_true rfl) (by simp [am_st1, am_kill, va_rf_cat] <;> rfl) ?_
    refine ag_iconst (v := 0) dX8_keepBoth_20 rfl ?_
    refine ag_istore_n (lv2 := [some (.ref t), some (va_rf p0), some (.int 1), some (.int 0)]) dX8_keepBoth_21 (Nat.le_of_ble_eq_true rfl) rfl ?_
    exact h
  · have h := h.2 hc2
    refine ag_aload_n dX8_keepBoth_7 rfl (va_rf_or _) ?_
    obtain ⟨a3, hr4, h⟩ := h
    refine cr_stk (st' := [.ref a3]) (by rw [hr4]; rfl) ?_
    obtain ⟨hT5, h⟩ := h
    refine cr_get (v := .int (cI C a3 1)) dX8_keepBoth_8 fw_8_15 hT5 rfl ?_
    refine ag_if_eq (tgt := 18) dX8_keepBoth_11 rfl (fun hc6 => ?_) (fun hc6 => ?_)
    · have h := h.1 hc6
      refine ag_iconst (v := 0) dX8_keepBoth_18 rfl ?_
      refine ag_istore_n (lv2 := [some (.ref t), some (va_rf p0), some (.int 0), none]) dX8_keepBoth_19 (Nat.le_of_ble_eq_true rfl) (by simp [am_st1, am_kill, va_rf_cat] <;> rfl) ?_
      refine ag_iconst (v := 0) dX8_keepBoth_20 rfl ?_
      refine ag_istore_n (lv2 := [some (.ref t), some (va_rf p0), some (.int 0), some (.int 0)]) dX8_keepBoth_21 (Nat.le_of_ble_eq_true rfl) rfl ?_
      exact h
    · have h := h.2 hc6
      refine ag_iconst (v := 1) dX8_keepBoth_14 rfl ?_
      refine ag_goto (tgt := 19) dX8_keepBoth_15 rfl ?_
      refine ag_istore_n (lv2 := [some (.ref t), some (va_rf p0), some (.int 1), none]) dX8_keepBoth_19 (Nat.le_of_ble_eq_true rfl) (by simp [am_st1, am_kill, va_rf_cat] <;> rfl) ?_
      refine ag_iconst (v := 0) dX8_keepBoth_20 rfl ?_
      refine ag_istore_n (lv2 := [some (.ref t), some (va_rf p0), some (.int 1), some (.int 0)]) dX8_keepBoth_21 (Nat.le_of_ble_eq_true rfl) rfl ?_
      exact h
set_option maxRecDepth 20000 in
set_option maxHeartbeats 4000000 in
theorem w_X8_keepBoth_22 {c : cX} {d : Nat} {C : cS} {K : Option Value → cS → Prop} (t : Nat) (v1 : Option Nat) (v2 : Int32) (v3 : Int32) (h : (17 ≤ v3 → ((v2 = 0 → (K none C)) ∧ (¬ v2 = 0 → (cT C t 8 2 ∧ (cM c d eX8_sayNothing (.ref t :: []) C (fun v C3 => v = none ∧ cle C C3 ∧ (K none C3))))))) ∧ (¬ 17 ≤ v3 → (cT C t 8 2 ∧ (∃ a9 : Nat, (cR C t 0) = some a9 ∧ (∃ n12 : Nat, cT C a9 21 n12 ∧ (∃ j13 : Nat, am_ix v3 j13 n12 ∧ (∃ a15 : Nat, v1 = some a15 ∧ (cT C a15 8 2 ∧ (∃ a18 : Nat, (cR C a15 0) = some a18 ∧ (∃ n21 : Nat, cT C a18 21 n21 ∧ (∃ j22 : Nat, am_ix v3 j22 n21 ∧ (∃ j24 : Nat, am_ix v3 j24 n12 ∧ ((¬ v2 = 0 → (cG c eX8_keepBoth (d + 1) (cQ K) 22 [some (.ref t), some (va_rf v1), some (.int 1), some (.int (v3 + 1))] [] (csj C a9 j24 ((cJ C a9 j13) &&& (cJ C a18 j22))))) ∧ (v2 = 0 → (∃ j27 : Nat, am_ix v3 j27 n12 ∧ (cM c d eX8_lacksKinds [.long (cJ (csj C a9 j24 ((cJ C a9 j13) &&& (cJ C a18 j22))) a9 j27)] (csj C a9 j24 ((cJ C a9 j13) &&& (cJ C a18 j22))) (fun v C29 => ∃ z30 : Int32, v = some (.int z30) ∧ cle (csj C a9 j24 ((cJ C a9 j13) &&& (cJ C a18 j22))) C29 ∧ ((z30 = 0 → (cG c eX8_keepBoth (d + 1) (cQ K) 22 [some (.ref t), some (va_rf v1), some (.int 0), some (.int (v3 + 1))] [] C29)) ∧ (¬ z30 = 0 → (cG c eX8_keepBoth (d + 1) (cQ K) 22 [some (.ref t), some (va_rf v1), some (.int 1), some (.int (v3 + 1))] [] C29)))))))))))))))))))) : cG c eX8_keepBoth (d + 1) (cQ K) 22 [some (.ref t), some (va_rf v1), some (.int v2), some (.int v3)] [] C := by
  refine ag_iload_n dX8_keepBoth_22 rfl ?_
  refine ag_bipush (v := 17) dX8_keepBoth_23 (by decide) ?_
  refine ag_icmp_ge (tgt := 71) dX8_keepBoth_25 rfl (fun hc1 => ?_) (fun hc1 => ?_)
  · have h := h.1 hc1
    refine ag_iload_n dX8_keepBoth_71 rfl ?_
    refine ag_if_eq (tgt := 79) dX8_keepBoth_72 rfl (fun hc2 => ?_) (fun hc2 => ?_)
    · have h := h.1 hc2
      exact ag_ret (v := none) dX8_keepBoth_79 rfl ⟨_, rfl, _, rfl, h⟩ rfl
    · have h := h.2 hc2
      refine ag_aload_n dX8_keepBoth_75 rfl (Or.inr ⟨_, rfl⟩) ?_
      obtain ⟨hT6, h⟩ := h
      refine cr_callV (as := []) (rest := []) dX8_keepBoth_76 me_X8_sayNothing mi_X8_sayNothing lk_8_31 hT6 rfl rfl (Nat.le_of_ble_eq_true rfl) ?_
      refine cM.mono h ?_
      rintro v C3 ⟨rfl, hL5, h⟩
      have hT7 := cT.le (C := C) hT6 hL5
      show cG _ _ _ _ _ _ [] _
      exact ag_ret (v := none) dX8_keepBoth_79 rfl ⟨_, rfl, _, rfl, h⟩ rfl
  · have h := h.2 hc1
    refine ag_aload_n dX8_keepBoth_28 rfl (Or.inr ⟨_, rfl⟩) ?_
    obtain ⟨hT8, h⟩ := h
    refine cr_get (v := va_rf (cR C t 0)) dX8_keepBoth_29 fw_8_9 hT8 rfl ?_
    refine ag_iload_n dX8_keepBoth_32 rfl ?_
    refine ag_dup2 dX8_keepBoth_33 rfl (va_rf_cat _) ?_
    obtain ⟨a9, hr10, h⟩ := h
    refine cr_stk (st' := [.int v3, .ref a9, .int v3, va_rf (cR C t 0)]) (by rw [hr10]; rfl) ?_
    obtain ⟨n12, hT11, h⟩ := h
    obtain ⟨j13, hj14, h⟩ := h
    refine cr_ll (v := (cJ C a9 j13)) dX8_keepBoth_34 hT11 hj14 rfl ?_
    refine ag_aload_n dX8_keepBoth_35 rfl (va_rf_or _) ?_
    obtain ⟨a15, hr16, h⟩ := h
    refine cr_stk (st' := [.ref a15, .long (cJ C a9 j13), .int v3, va_rf (cR C t 0)]) (by rw [hr16]; rfl) ?_
    obtain ⟨hT17, h⟩ := h
    refine cr_get (v := va_rf (cR C a15 0)) dX8_keepBoth_36 fw_8_9 hT17 rfl ?_
    refine ag_iload_n dX8_keepBoth_39 rfl ?_
    obtain ⟨a18, hr19, h⟩ := h
    refine cr_stk (st' := [.int v3, .ref a18, .long (cJ C a9 j13), .int v3, va_rf (cR C t 0)]) (by rw [hr19]; rfl) ?_
    obtain ⟨n21, hT20, h⟩ := h
    obtain ⟨j22, hj23, h⟩ := h
    refine cr_ll (v := (cJ C a18 j22)) dX8_keepBoth_40 hT20 hj23 rfl ?_
    refine ag_land dX8_keepBoth_41 rfl ?_
    refine cr_stk (st' := [.long ((cJ C a9 j13) &&& (cJ C a18 j22)), .int v3, .ref a9]) (by rw [hr10]; rfl) ?_
    obtain ⟨j24, hj25, h⟩ := h
    refine cr_ls (C2 := (csj C a9 j24 ((cJ C a9 j13) &&& (cJ C a18 j22)))) dX8_keepBoth_42 hT11 hj25 rfl ?_
    refine ag_iload_n dX8_keepBoth_43 rfl ?_
    refine ag_if_ne (tgt := 59) dX8_keepBoth_44 rfl (fun hc26 => ?_) (fun hc26 => ?_)
    · have h := h.1 hc26
      refine ag_iconst (v := 1) dX8_keepBoth_59 rfl ?_
      refine ag_goto (tgt := 64) dX8_keepBoth_60 rfl ?_
      refine ag_istore_n (lv2 := [some (.ref t), some (va_rf v1), some (.int 1), some (.int v3)]) dX8_keepBoth_64 (Nat.le_of_ble_eq_true rfl) (by simp [am_st1, am_kill, va_rf_cat] <;> rfl) ?_
      refine ag_iinc (v2 := (v3 + 1)) (lv2 := [some (.ref t), some (va_rf v1), some (.int 1), some (.int (v3 + 1))]) dX8_keepBoth_65 rfl rfl rfl ?_
      refine ag_goto (tgt := 22) dX8_keepBoth_68 rfl ?_
      exact h
    · have h := h.2 hc26
      refine ag_aload_n dX8_keepBoth_47 rfl (Or.inr ⟨_, rfl⟩) ?_
      refine cr_get (v := va_rf (cR C t 0)) dX8_keepBoth_48 fw_8_9 hT8 rfl ?_
      refine ag_iload_n dX8_keepBoth_51 rfl ?_
      refine cr_stk (st' := [.int v3, .ref a9]) (by rw [hr10]; rfl) ?_
      obtain ⟨j27, hj28, h⟩ := h
      refine cr_ll (v := (cJ (csj C a9 j24 ((cJ C a9 j13) &&& (cJ C a18 j22))) a9 j27)) dX8_keepBoth_52 hT11 hj28 rfl ?_
      refine cr_callS (as := [.long (cJ (csj C a9 j24 ((cJ C a9 j13) &&& (cJ C a18 j22))) a9 j27)]) (rest := []) dX8_keepBoth_53 me_X8_lacksKinds ms_X8_lacksKinds lk_8_42 rfl rfl (Nat.le_of_ble_eq_true rfl) ?_
      refine cM.mono h ?_
      rintro v C29 ⟨z30, rfl, hL31, h⟩
      have hT32 := cT.le (C := (csj C a9 j24 ((cJ C a9 j13) &&& (cJ C a18 j22)))) hT8 hL31
      have hT33 := cT.le (C := (csj C a9 j24 ((cJ C a9 j13) &&& (cJ C a18 j22)))) hT11 hL31
      have hT34 := cT.le (C := (csj C a9 j24 ((cJ C a9 j13) &&& (cJ C a18 j22)))) hT17 hL31
      have hT35 := cT.le (C := (csj C a9 j24 ((cJ C a9 j13) &&& (cJ C a18 j22)))) hT20 hL31
      show cG _ _ _ _ _ _ [.int z30] _
      refine ag_if_eq (tgt := 63) dX8_keepBoth_56 rfl (fun hc36 => ?_) (fun hc36 => ?_)
      · have h := h.1 hc36
        refine ag_iconst (v := 0) dX8_keepBoth_63 rfl ?_
        refine ag_istore_n (lv2 := [some (.ref t), some (va_rf v1), some (.int 0), some (.int v3)]) dX8_keepBoth_64 (Nat.le_of_ble_eq_true rfl) (by simp [am_st1, am_kill, va_rf_cat] <;> rfl) ?_
        refine ag_iinc (v2 := (v3 + 1)) (lv2 := [some (.ref t), some (va_rf v1), some (.int 0), some (.int (v3 + 1))]) dX8_keepBoth_65 rfl rfl rfl ?_
        refine ag_goto (tgt := 22) dX8_keepBoth_68 rfl ?_
        exact h
      · have h := h.2 hc36
        refine ag_iconst (v := 1) dX8_keepBoth_59 rfl ?_
        refine ag_goto (tgt := 64) dX8_keepBoth_60 rfl ?_
        refine ag_istore_n (lv2 := [some (.ref t), some (va_rf v1), some (.int 1), some (.int v3)]) dX8_keepBoth_64 (Nat.le_of_ble_eq_true rfl) (by simp [am_st1, am_kill, va_rf_cat] <;> rfl) ?_
        refine ag_iinc (v2 := (v3 + 1)) (lv2 := [some (.ref t), some (va_rf v1), some (.int 1), some (.int (v3 + 1))]) dX8_keepBoth_65 rfl rfl rfl ?_
        refine ag_goto (tgt := 22) dX8_keepBoth_68 rfl ?_
        exact h
theorem dX8_allowEither_0 : decode cX8_allowEither 0 = .ok (.aload_n 0, 1) := by decide +kernel
theorem dX8_allowEither_1 : decode cX8_allowEither 1 = .ok (.aload_n 0, 1) := by decide +kernel
theorem dX8_allowEither_2 : decode cX8_allowEither 2 = .ok (.getfield 15, 3) := by decide +kernel
theorem dX8_allowEither_5 : decode cX8_allowEither 5 = .ok (.ifCond .eq 14, 3) := by decide +kernel
theorem dX8_allowEither_8 : decode cX8_allowEither 8 = .ok (.aload_n 1, 1) := by decide +kernel
theorem dX8_allowEither_9 : decode cX8_allowEither 9 = .ok (.getfield 15, 3) := by decide +kernel
theorem dX8_allowEither_12 : decode cX8_allowEither 12 = .ok (.ifCond .eq 7, 3) := by decide +kernel
theorem dX8_allowEither_15 : decode cX8_allowEither 15 = .ok (.iconst 1, 1) := by decide +kernel
theorem dX8_allowEither_16 : decode cX8_allowEither 16 = .ok (.goto 4, 3) := by decide +kernel
theorem dX8_allowEither_19 : decode cX8_allowEither 19 = .ok (.iconst 0, 1) := by decide +kernel
theorem dX8_allowEither_20 : decode cX8_allowEither 20 = .ok (.putfield 15, 3) := by decide +kernel
theorem dX8_allowEither_23 : decode cX8_allowEither 23 = .ok (.iconst 0, 1) := by decide +kernel
theorem dX8_allowEither_24 : decode cX8_allowEither 24 = .ok (.istore_n 2, 1) := by decide +kernel
theorem dX8_allowEither_25 : decode cX8_allowEither 25 = .ok (.iload_n 2, 1) := by decide +kernel
theorem dX8_allowEither_26 : decode cX8_allowEither 26 = .ok (.bipush 17, 2) := by decide +kernel
theorem dX8_allowEither_28 : decode cX8_allowEither 28 = .ok (.if_icmp .ge 24, 3) := by decide +kernel
theorem dX8_allowEither_31 : decode cX8_allowEither 31 = .ok (.aload_n 0, 1) := by decide +kernel
theorem dX8_allowEither_32 : decode cX8_allowEither 32 = .ok (.getfield 9, 3) := by decide +kernel
theorem dX8_allowEither_35 : decode cX8_allowEither 35 = .ok (.iload_n 2, 1) := by decide +kernel
theorem dX8_allowEither_36 : decode cX8_allowEither 36 = .ok (.dup2, 1) := by decide +kernel
theorem dX8_allowEither_37 : decode cX8_allowEither 37 = .ok (.laload, 1) := by decide +kernel
theorem dX8_allowEither_38 : decode cX8_allowEither 38 = .ok (.aload_n 1, 1) := by decide +kernel
theorem dX8_allowEither_39 : decode cX8_allowEither 39 = .ok (.getfield 9, 3) := by decide +kernel
theorem dX8_allowEither_42 : decode cX8_allowEither 42 = .ok (.iload_n 2, 1) := by decide +kernel
theorem dX8_allowEither_43 : decode cX8_allowEither 43 = .ok (.laload, 1) := by decide +kernel
theorem dX8_allowEither_44 : decode cX8_allowEither 44 = .ok (.lor, 1) := by decide +kernel
theorem dX8_allowEither_45 : decode cX8_allowEither 45 = .ok (.lastore, 1) := by decide +kernel
theorem dX8_allowEither_46 : decode cX8_allowEither 46 = .ok (.iinc 2 1, 3) := by decide +kernel
theorem dX8_allowEither_49 : decode cX8_allowEither 49 = .ok (.goto (-24), 3) := by decide +kernel
theorem dX8_allowEither_52 : decode cX8_allowEither 52 = .ok (.return_, 1) := by decide +kernel
set_option maxRecDepth 20000 in
set_option maxHeartbeats 4000000 in
theorem w_X8_allowEither {c : cX} {d : Nat} {C : cS} {K : Option Value → cS → Prop} (t : Nat) (p0 : Option Nat) (h : cT C t 8 2 ∧ (((cI C t 1) = 0 → (cG c eX8_allowEither d (cQ K) 25 [some (.ref t), some (va_rf p0), some (.int 0)] [] (csi C t 1 0))) ∧ (¬ (cI C t 1) = 0 → (∃ a3 : Nat, p0 = some a3 ∧ (cT C a3 8 2 ∧ (((cI C a3 1) = 0 → (cG c eX8_allowEither d (cQ K) 25 [some (.ref t), some (va_rf p0), some (.int 0)] [] (csi C t 1 0))) ∧ (¬ (cI C a3 1) = 0 → (cG c eX8_allowEither d (cQ K) 25 [some (.ref t), some (va_rf p0), some (.int 0)] [] (csi C t 1 1))))))))) : cM c d eX8_allowEither [.ref t, va_rf p0] C K := by
  refine cM.of2 (lv := [some (.ref t), some (va_rf p0), none]) (by decide) (by simp only [am_sl_i, am_sl_r, am_sl_l, am_sl_o, am_sl_n]; exact Nat.le_of_ble_eq_true rfl) (by simp only [am_en, am_sl_i, am_sl_r, am_sl_l, am_sl_o, am_sl_n]; rfl) ?_
  refine ag_aload_n dX8_allowEither_0 rfl (Or.inr ⟨_, rfl⟩) ?_
  refine ag_aload_n dX8_allowEither_1 rfl (Or.inr ⟨_, rfl⟩) ?_
  obtain ⟨hT1, h⟩ := h
  refine cr_get (v := .int (cI C t 1)) dX8_allowEither_2 fw_8_15 hT1 rfl ?_
  refine ag_if_eq (tgt := 19) dX8_allowEither_5 rfl (fun hc2 => ?_) (fun hc2 => ?_)
  · have h := h.1 hc2
    refine ag_iconst (v := 0) dX8_allowEither_19 rfl ?_
    refine cr_pi (C2 := (csi C t 1 0)) dX8_allowEither_20 pw_8_15 rfl hT1 (rB_ok (Or.inl rfl)) rfl ?_
    refine ag_iconst (v := 0) dX8_allowEither_23 rfl ?_
    refine ag_istore_n (lv2 := [some (.ref t), some (va_rf p0), some (.int 0)]) dX8_allowEither_24 (Nat.le_of_ble_eq_true rfl) (by simp [am_st1, am_kill, va_rf_cat] <;> rfl) ?_
    exact h
  · have h := h.2 hc2
    refine ag_aload_n dX8_allowEither_8 rfl (va_rf_or _) ?_
    obtain ⟨a3, hr4, h⟩ := h
    refine cr_stk (st' := [.ref a3, .ref t]) (by rw [hr4]; rfl) ?_
    obtain ⟨hT5, h⟩ := h
    refine cr_get (v := .int (cI C a3 1)) dX8_allowEither_9 fw_8_15 hT5 rfl ?_
    refine ag_if_eq (tgt := 19) dX8_allowEither_12 rfl (fun hc6 => ?_) (fun hc6 => ?_)
    · have h := h.1 hc6
      refine ag_iconst (v := 0) dX8_allowEither_19 rfl ?_
      refine cr_pi (C2 := (csi C t 1 0)) dX8_allowEither_20 pw_8_15 rfl hT1 (rB_ok (Or.inl rfl)) rfl ?_
      refine ag_iconst (v := 0) dX8_allowEither_23 rfl ?_
      refine ag_istore_n (lv2 := [some (.ref t), some (va_rf p0), some (.int 0)]) dX8_allowEither_24 (Nat.le_of_ble_eq_true rfl) (by simp [am_st1, am_kill, va_rf_cat] <;> rfl) ?_
      exact h
    · have h := h.2 hc6
      refine ag_iconst (v := 1) dX8_allowEither_15 rfl ?_
      refine ag_goto (tgt := 20) dX8_allowEither_16 rfl ?_
      refine cr_pi (C2 := (csi C t 1 1)) dX8_allowEither_20 pw_8_15 rfl hT1 (rB_ok (Or.inr rfl)) rfl ?_
      refine ag_iconst (v := 0) dX8_allowEither_23 rfl ?_
      refine ag_istore_n (lv2 := [some (.ref t), some (va_rf p0), some (.int 0)]) dX8_allowEither_24 (Nat.le_of_ble_eq_true rfl) (by simp [am_st1, am_kill, va_rf_cat] <;> rfl) ?_
      exact h
set_option maxRecDepth 20000 in
set_option maxHeartbeats 4000000 in
theorem w_X8_allowEither_25 {c : cX} {d : Nat} {C : cS} {K : Option Value → cS → Prop} (t : Nat) (v1 : Option Nat) (v2 : Int32) (h : (17 ≤ v2 → (K none C)) ∧ (¬ 17 ≤ v2 → (cT C t 8 2 ∧ (∃ a3 : Nat, (cR C t 0) = some a3 ∧ (∃ n6 : Nat, cT C a3 21 n6 ∧ (∃ j7 : Nat, am_ix v2 j7 n6 ∧ (∃ a9 : Nat, v1 = some a9 ∧ (cT C a9 8 2 ∧ (∃ a12 : Nat, (cR C a9 0) = some a12 ∧ (∃ n15 : Nat, cT C a12 21 n15 ∧ (∃ j16 : Nat, am_ix v2 j16 n15 ∧ (∃ j18 : Nat, am_ix v2 j18 n6 ∧ (cG c eX8_allowEither d (cQ K) 25 [some (.ref t), some (va_rf v1), some (.int (v2 + 1))] [] (csj C a3 j18 ((cJ C a3 j7) ||| (cJ C a12 j16)))))))))))))))) : cG c eX8_allowEither d (cQ K) 25 [some (.ref t), some (va_rf v1), some (.int v2)] [] C := by
  refine ag_iload_n dX8_allowEither_25 rfl ?_
  refine ag_bipush (v := 17) dX8_allowEither_26 (by decide) ?_
  refine ag_icmp_ge (tgt := 52) dX8_allowEither_28 rfl (fun hc1 => ?_) (fun hc1 => ?_)
  · have h := h.1 hc1
    exact ag_ret (v := none) dX8_allowEither_52 rfl ⟨_, rfl, _, rfl, h⟩ rfl
  · have h := h.2 hc1
    refine ag_aload_n dX8_allowEither_31 rfl (Or.inr ⟨_, rfl⟩) ?_
    obtain ⟨hT2, h⟩ := h
    refine cr_get (v := va_rf (cR C t 0)) dX8_allowEither_32 fw_8_9 hT2 rfl ?_
    refine ag_iload_n dX8_allowEither_35 rfl ?_
    refine ag_dup2 dX8_allowEither_36 rfl (va_rf_cat _) ?_
    obtain ⟨a3, hr4, h⟩ := h
    refine cr_stk (st' := [.int v2, .ref a3, .int v2, va_rf (cR C t 0)]) (by rw [hr4]; rfl) ?_
    obtain ⟨n6, hT5, h⟩ := h
    obtain ⟨j7, hj8, h⟩ := h
    refine cr_ll (v := (cJ C a3 j7)) dX8_allowEither_37 hT5 hj8 rfl ?_
    refine ag_aload_n dX8_allowEither_38 rfl (va_rf_or _) ?_
    obtain ⟨a9, hr10, h⟩ := h
    refine cr_stk (st' := [.ref a9, .long (cJ C a3 j7), .int v2, va_rf (cR C t 0)]) (by rw [hr10]; rfl) ?_
    obtain ⟨hT11, h⟩ := h
    refine cr_get (v := va_rf (cR C a9 0)) dX8_allowEither_39 fw_8_9 hT11 rfl ?_
    refine ag_iload_n dX8_allowEither_42 rfl ?_
    obtain ⟨a12, hr13, h⟩ := h
    refine cr_stk (st' := [.int v2, .ref a12, .long (cJ C a3 j7), .int v2, va_rf (cR C t 0)]) (by rw [hr13]; rfl) ?_
    obtain ⟨n15, hT14, h⟩ := h
    obtain ⟨j16, hj17, h⟩ := h
    refine cr_ll (v := (cJ C a12 j16)) dX8_allowEither_43 hT14 hj17 rfl ?_
    refine ag_lor dX8_allowEither_44 rfl ?_
    refine cr_stk (st' := [.long ((cJ C a3 j7) ||| (cJ C a12 j16)), .int v2, .ref a3]) (by rw [hr4]; rfl) ?_
    obtain ⟨j18, hj19, h⟩ := h
    refine cr_ls (C2 := (csj C a3 j18 ((cJ C a3 j7) ||| (cJ C a12 j16)))) dX8_allowEither_45 hT5 hj19 rfl ?_
    refine ag_iinc (v2 := (v2 + 1)) (lv2 := [some (.ref t), some (va_rf v1), some (.int (v2 + 1))]) dX8_allowEither_46 rfl rfl (by simp [am_st1, am_kill, va_rf_cat] <;> rfl) ?_
    refine ag_goto (tgt := 25) dX8_allowEither_49 rfl ?_
    exact h
theorem dX8_kindsIn_0 : decode cX8_kindsIn 0 = .ok (.lload_n 0, 1) := by decide +kernel
theorem dX8_kindsIn_1 : decode cX8_kindsIn 1 = .ok (.iconst 5, 1) := by decide +kernel
theorem dX8_kindsIn_2 : decode cX8_kindsIn 2 = .ok (.iload_n 2, 1) := by decide +kernel
theorem dX8_kindsIn_3 : decode cX8_kindsIn 3 = .ok (.imul, 1) := by decide +kernel
theorem dX8_kindsIn_4 : decode cX8_kindsIn 4 = .ok (.lushr, 1) := by decide +kernel
theorem dX8_kindsIn_5 : decode cX8_kindsIn 5 = .ok (.l2i, 1) := by decide +kernel
theorem dX8_kindsIn_6 : decode cX8_kindsIn 6 = .ok (.bipush 31, 2) := by decide +kernel
theorem dX8_kindsIn_8 : decode cX8_kindsIn 8 = .ok (.iand, 1) := by decide +kernel
theorem dX8_kindsIn_9 : decode cX8_kindsIn 9 = .ok (.ireturn, 1) := by decide +kernel
set_option maxRecDepth 20000 in
set_option maxHeartbeats 4000000 in
theorem w_X8_kindsIn {c : cX} {d : Nat} {C : cS} {K : Option Value → cS → Prop} (p0 : Int64) (p1 : Int32) (h : K (some (.int ((Int64.toInt32 ((Int64.toUInt64 p0 >>> ((Int32.toInt64 (5 * p1)).toUInt64 &&& Int64.toUInt64 63)).toInt64)) &&& 31))) C) : cM c d eX8_kindsIn [.long p0, .int p1] C K := by
  refine cM.of2 (lv := [some (.long p0), none, some (.int p1)]) (by decide) (Nat.le_of_ble_eq_true rfl) rfl ?_
  refine ag_lload_n dX8_kindsIn_0 rfl ?_
  refine ag_iconst (v := 5) dX8_kindsIn_1 rfl ?_
  refine ag_iload_n dX8_kindsIn_2 rfl ?_
  refine ag_imul dX8_kindsIn_3 rfl ?_
  refine ag_lushr dX8_kindsIn_4 rfl ?_
  refine ag_l2i dX8_kindsIn_5 rfl ?_
  refine ag_bipush (v := 31) dX8_kindsIn_6 (by decide) ?_
  refine ag_iand dX8_kindsIn_8 rfl ?_
  exact ag_ret (v := some (.int ((Int64.toInt32 ((Int64.toUInt64 p0 >>> ((Int32.toInt64 (5 * p1)).toUInt64 &&& Int64.toUInt64 63)).toInt64)) &&& 31))) dX8_kindsIn_9 ⟨_, rfl, rfl⟩ ⟨_, rfl, _, rfl, h⟩ rfl
theorem dX8_lacksKinds_0 : decode cX8_lacksKinds 0 = .ok (.iconst 0, 1) := by decide +kernel
theorem dX8_lacksKinds_1 : decode cX8_lacksKinds 1 = .ok (.istore_n 2, 1) := by decide +kernel
theorem dX8_lacksKinds_2 : decode cX8_lacksKinds 2 = .ok (.iload_n 2, 1) := by decide +kernel
theorem dX8_lacksKinds_3 : decode cX8_lacksKinds 3 = .ok (.bipush 7, 2) := by decide +kernel
theorem dX8_lacksKinds_5 : decode cX8_lacksKinds 5 = .ok (.if_icmp .ge 19, 3) := by decide +kernel
theorem dX8_lacksKinds_8 : decode cX8_lacksKinds 8 = .ok (.lload_n 0, 1) := by decide +kernel
theorem dX8_lacksKinds_9 : decode cX8_lacksKinds 9 = .ok (.iload_n 2, 1) := by decide +kernel
theorem dX8_lacksKinds_10 : decode cX8_lacksKinds 10 = .ok (.invokestatic 25, 3) := by decide +kernel
theorem dX8_lacksKinds_13 : decode cX8_lacksKinds 13 = .ok (.ifCond .ne 5, 3) := by decide +kernel
theorem dX8_lacksKinds_16 : decode cX8_lacksKinds 16 = .ok (.iconst 1, 1) := by decide +kernel
theorem dX8_lacksKinds_17 : decode cX8_lacksKinds 17 = .ok (.ireturn, 1) := by decide +kernel
theorem dX8_lacksKinds_18 : decode cX8_lacksKinds 18 = .ok (.iinc 2 1, 3) := by decide +kernel
theorem dX8_lacksKinds_21 : decode cX8_lacksKinds 21 = .ok (.goto (-19), 3) := by decide +kernel
theorem dX8_lacksKinds_24 : decode cX8_lacksKinds 24 = .ok (.iconst 0, 1) := by decide +kernel
theorem dX8_lacksKinds_25 : decode cX8_lacksKinds 25 = .ok (.ireturn, 1) := by decide +kernel
set_option maxRecDepth 20000 in
set_option maxHeartbeats 4000000 in
theorem w_X8_lacksKinds {c : cX} {d : Nat} {C : cS} {K : Option Value → cS → Prop} (p0 : Int64) (h : cG c eX8_lacksKinds (d + 1) (cQ K) 2 [some (.long p0), none, some (.int 0)] [] C) : cM c (d + 1) eX8_lacksKinds [.long p0] C K := by
  refine cM.of2 (lv := [some (.long p0), none, none]) (by decide) (Nat.le_of_ble_eq_true rfl) rfl ?_
  refine ag_iconst (v := 0) dX8_lacksKinds_0 rfl ?_
  refine ag_istore_n (lv2 := [some (.long p0), none, some (.int 0)]) dX8_lacksKinds_1 (Nat.le_of_ble_eq_true rfl) rfl ?_
  exact h
set_option maxRecDepth 20000 in
set_option maxHeartbeats 4000000 in
theorem w_X8_lacksKinds_2 {c : cX} {d : Nat} {C : cS} {K : Option Value → cS → Prop} (v0 : Int64) (v2 : Int32) (h : (7 ≤ v2 → (K (some (.int 0)) C)) ∧ (¬ 7 ≤ v2 → (cM c d eX8_kindsIn [.long v0, .int v2] C (fun v C2 => ∃ z3 : Int32, v = some (.int z3) ∧ cle C C2 ∧ ((¬ z3 = 0 → (cG c eX8_lacksKinds (d + 1) (cQ K) 2 [some (.long v0), none, some (.int (v2 + 1))] [] C2)) ∧ (z3 = 0 → (K (some (.int 1)) C2))))))) : cG c eX8_lacksKinds (d + 1) (cQ K) 2 [some (.long v0), none, some (.int v2)] [] C := by
  refine ag_iload_n dX8_lacksKinds_2 rfl ?_
  refine ag_bipush (v := 7) dX8_lacksKinds_3 (by decide) ?_
  refine ag_icmp_ge (tgt := 24) dX8_lacksKinds_5 rfl (fun hc1 => ?_) (fun hc1 => ?_)
  · have h := h.1 hc1
    refine ag_iconst (v := 0) dX8_lacksKinds_24 rfl ?_
    exact ag_ret (v := some (.int 0)) dX8_lacksKinds_25 ⟨_, rfl, rB_n (Or.inl rfl)⟩ ⟨_, rfl, _, rfl, h⟩ rfl
  · have h := h.2 hc1
    refine ag_lload_n dX8_lacksKinds_8 rfl ?_
    refine ag_iload_n dX8_lacksKinds_9 rfl ?_
    refine cr_callS (as := [.long v0, .int v2]) (rest := []) dX8_lacksKinds_10 me_X8_kindsIn ms_X8_kindsIn lk_8_25 rfl rfl (Nat.le_of_ble_eq_true rfl) ?_
    refine cM.mono h ?_
    rintro v C2 ⟨z3, rfl, hL4, h⟩
    show cG _ _ _ _ _ _ [.int z3] _
    refine ag_if_ne (tgt := 18) dX8_lacksKinds_13 rfl (fun hc5 => ?_) (fun hc5 => ?_)
    · have h := h.1 hc5
      refine ag_iinc (v2 := (v2 + 1)) (lv2 := [some (.long v0), none, some (.int (v2 + 1))]) dX8_lacksKinds_18 rfl rfl rfl ?_
      refine ag_goto (tgt := 2) dX8_lacksKinds_21 rfl ?_
      exact h
    · have h := h.2 hc5
      refine ag_iconst (v := 1) dX8_lacksKinds_16 rfl ?_
      exact ag_ret (v := some (.int 1)) dX8_lacksKinds_17 ⟨_, rfl, rB_n (Or.inr rfl)⟩ ⟨_, rfl, _, rfl, h⟩ rfl
