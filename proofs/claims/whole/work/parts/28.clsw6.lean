theorem dX6_readToEnd_0 : decode cX6_readToEnd 0 = .ok (.aload_n 0, 1) := by decide +kernel
theorem dX6_readToEnd_1 : decode cX6_readToEnd 1 = .ok (.iconst 0, 1) := by decide +kernel
theorem dX6_readToEnd_2 : decode cX6_readToEnd 2 = .ok (.invokevirtual 61, 3) := by decide +kernel
theorem dX6_readToEnd_5 : decode cX6_readToEnd 5 = .ok (.astore_n 1, 1) := by decide +kernel
theorem dX6_readToEnd_6 : decode cX6_readToEnd 6 = .ok (.aload_n 1, 1) := by decide +kernel
theorem dX6_readToEnd_7 : decode cX6_readToEnd 7 = .ok (.ifnull 15, 3) := by decide +kernel
theorem dX6_readToEnd_10 : decode cX6_readToEnd 10 = .ok (.aload_n 0, 1) := by decide +kernel
theorem dX6_readToEnd_11 : decode cX6_readToEnd 11 = .ok (.invokevirtual 43, 3) := by decide +kernel
theorem dX6_readToEnd_14 : decode cX6_readToEnd 14 = .ok (.iconst (-1), 1) := by decide +kernel
theorem dX6_readToEnd_15 : decode cX6_readToEnd 15 = .ok (.if_icmp .ne 7, 3) := by decide +kernel
theorem dX6_readToEnd_18 : decode cX6_readToEnd 18 = .ok (.aload_n 1, 1) := by decide +kernel
theorem dX6_readToEnd_19 : decode cX6_readToEnd 19 = .ok (.goto 4, 3) := by decide +kernel
theorem dX6_readToEnd_22 : decode cX6_readToEnd 22 = .ok (.aconst_null, 1) := by decide +kernel
theorem dX6_readToEnd_23 : decode cX6_readToEnd 23 = .ok (.areturn, 1) := by decide +kernel
set_option maxRecDepth 20000 in
set_option maxHeartbeats 4000000 in
theorem w_X6_readToEnd {c : cX} {d : Nat} {C : cS} {K : Option Value → cS → Prop} (t : Nat) (h : cT C t 6 8 ∧ (cM c d eX6_readPart (.ref t :: [.int 0]) C (fun v C1 => ∃ z2 : Option Nat, v = some (va_rf z2) ∧ cle C C1 ∧ ((z2 = none → (K (some (va_rf none)) C1)) ∧ (∀ a7 : Nat, z2 = some a7 → (cM c d eX6_peek (.ref t :: []) C1 (fun v C8 => ∃ z9 : Int32, v = some (.int z9) ∧ cle C1 C8 ∧ ((¬ z9 = (-1) → (K (some (va_rf none)) C8)) ∧ (z9 = (-1) → (K (some (va_rf z2)) C8)))))))))) : cM c (d + 1) eX6_readToEnd [.ref t] C K := by
  refine cM.of2 (lv := [some (.ref t), none]) (by decide) (Nat.le_of_ble_eq_true rfl) rfl ?_
  refine ag_aload_n dX6_readToEnd_0 rfl (Or.inr ⟨_, rfl⟩) ?_
  refine ag_iconst (v := 0) dX6_readToEnd_1 rfl ?_
  obtain ⟨hT4, h⟩ := h
  refine cr_callV (as := [.int 0]) (rest := []) dX6_readToEnd_2 me_X6_readPart mi_X6_readPart lk_6_61 hT4 rfl rfl (Nat.le_of_ble_eq_true rfl) ?_
  refine cM.mono h ?_
  rintro v C1 ⟨z2, rfl, hL3, h⟩
  have hT5 := cT.le (C := C) hT4 hL3
  show cG _ _ _ _ _ _ [va_rf z2] _
  refine ag_astore_n (lv2 := [some (.ref t), some (va_rf z2)]) dX6_readToEnd_5 (Nat.le_of_ble_eq_true rfl) rfl (va_rf_or _) ?_
  refine ag_aload_n dX6_readToEnd_6 rfl (va_rf_or _) ?_
  refine cr_ifnull (tgt := 22) dX6_readToEnd_7 rfl (fun hr6 => ?_) (fun a7 hr6 => ?_)
  · have h := h.1 hr6
    refine ag_null dX6_readToEnd_22 ?_
    refine cr_stk (st' := [va_rf none]) rfl ?_
    exact cr_aret dX6_readToEnd_23 ⟨_, rfl, Or.inl ⟨_, rfl⟩⟩ ⟨_, rfl, _, rfl, h⟩
  · have h := h.2 a7 hr6
    refine ag_aload_n dX6_readToEnd_10 rfl (Or.inr ⟨_, rfl⟩) ?_
    refine cr_callV (as := []) (rest := []) dX6_readToEnd_11 me_X6_peek mi_X6_peek lk_6_43 hT5 rfl rfl (Nat.le_of_ble_eq_true rfl) ?_
    refine cM.mono h ?_
    rintro v C8 ⟨z9, rfl, hL10, h⟩
    have hT11 := cT.le (C := C1) hT5 hL10
    show cG _ _ _ _ _ _ [.int z9] _
    refine ag_iconst (v := (-1)) dX6_readToEnd_14 rfl ?_
    refine ag_icmp_ne (tgt := 22) dX6_readToEnd_15 rfl (fun hc12 => ?_) (fun hc12 => ?_)
    · have h := h.1 hc12
      refine ag_null dX6_readToEnd_22 ?_
      refine cr_stk (st' := [va_rf none]) rfl ?_
      exact cr_aret dX6_readToEnd_23 ⟨_, rfl, Or.inl ⟨_, rfl⟩⟩ ⟨_, rfl, _, rfl, h⟩
    · have h := h.2 hc12
      refine ag_aload_n dX6_readToEnd_18 rfl (va_rf_or _) ?_
      refine ag_goto (tgt := 23) dX6_readToEnd_19 rfl ?_
      refine cr_stk (st' := [va_rf z2]) rfl ?_
      exact cr_aret dX6_readToEnd_23 ⟨_, rfl, Or.inl ⟨_, rfl⟩⟩ ⟨_, rfl, _, rfl, h⟩
theorem dX6_readPart_0 : decode cX6_readPart 0 = .ok (.aload_n 0, 1) := by decide +kernel
theorem dX6_readPart_1 : decode cX6_readPart 1 = .ok (.invokevirtual 43, 3) := by decide +kernel
theorem dX6_readPart_4 : decode cX6_readPart 4 = .ok (.istore_n 2, 1) := by decide +kernel
theorem dX6_readPart_5 : decode cX6_readPart 5 = .ok (.iload_n 2, 1) := by decide +kernel
theorem dX6_readPart_6 : decode cX6_readPart 6 = .ok (.bipush 40, 2) := by decide +kernel
theorem dX6_readPart_8 : decode cX6_readPart 8 = .ok (.if_icmp .ne 21, 3) := by decide +kernel
theorem dX6_readPart_11 : decode cX6_readPart 11 = .ok (.iload_n 1, 1) := by decide +kernel
theorem dX6_readPart_12 : decode cX6_readPart 12 = .ok (.bipush 6, 2) := by decide +kernel
theorem dX6_readPart_14 : decode cX6_readPart 14 = .ok (.if_icmp .ge 13, 3) := by decide +kernel
theorem dX6_readPart_17 : decode cX6_readPart 17 = .ok (.aload_n 0, 1) := by decide +kernel
theorem dX6_readPart_18 : decode cX6_readPart 18 = .ok (.iload_n 1, 1) := by decide +kernel
theorem dX6_readPart_19 : decode cX6_readPart 19 = .ok (.iconst 1, 1) := by decide +kernel
theorem dX6_readPart_20 : decode cX6_readPart 20 = .ok (.iadd, 1) := by decide +kernel
theorem dX6_readPart_21 : decode cX6_readPart 21 = .ok (.invokevirtual 65, 3) := by decide +kernel
theorem dX6_readPart_24 : decode cX6_readPart 24 = .ok (.goto 4, 3) := by decide +kernel
theorem dX6_readPart_27 : decode cX6_readPart 27 = .ok (.aconst_null, 1) := by decide +kernel
theorem dX6_readPart_28 : decode cX6_readPart 28 = .ok (.areturn, 1) := by decide +kernel
theorem dX6_readPart_29 : decode cX6_readPart 29 = .ok (.aload_n 0, 1) := by decide +kernel
theorem dX6_readPart_30 : decode cX6_readPart 30 = .ok (.iload_n 2, 1) := by decide +kernel
theorem dX6_readPart_31 : decode cX6_readPart 31 = .ok (.invokevirtual 68, 3) := by decide +kernel
theorem dX6_readPart_34 : decode cX6_readPart 34 = .ok (.istore_n 3, 1) := by decide +kernel
theorem dX6_readPart_35 : decode cX6_readPart 35 = .ok (.iload_n 3, 1) := by decide +kernel
theorem dX6_readPart_36 : decode cX6_readPart 36 = .ok (.iconst (-1), 1) := by decide +kernel
theorem dX6_readPart_37 : decode cX6_readPart 37 = .ok (.if_icmp .ne 12, 3) := by decide +kernel
theorem dX6_readPart_40 : decode cX6_readPart 40 = .ok (.iload_n 2, 1) := by decide +kernel
theorem dX6_readPart_41 : decode cX6_readPart 41 = .ok (.invokestatic 71, 3) := by decide +kernel
theorem dX6_readPart_44 : decode cX6_readPart 44 = .ok (.ifCond .ne 5, 3) := by decide +kernel
theorem dX6_readPart_47 : decode cX6_readPart 47 = .ok (.aconst_null, 1) := by decide +kernel
theorem dX6_readPart_48 : decode cX6_readPart 48 = .ok (.areturn, 1) := by decide +kernel
theorem dX6_readPart_49 : decode cX6_readPart 49 = .ok (.aload_n 0, 1) := by decide +kernel
theorem dX6_readPart_50 : decode cX6_readPart 50 = .ok (.dup, 1) := by decide +kernel
theorem dX6_readPart_51 : decode cX6_readPart 51 = .ok (.getfield 30, 3) := by decide +kernel
theorem dX6_readPart_54 : decode cX6_readPart 54 = .ok (.iconst 1, 1) := by decide +kernel
theorem dX6_readPart_55 : decode cX6_readPart 55 = .ok (.iadd, 1) := by decide +kernel
theorem dX6_readPart_56 : decode cX6_readPart 56 = .ok (.putfield 30, 3) := by decide +kernel
theorem dX6_readPart_59 : decode cX6_readPart 59 = .ok (.aload_n 0, 1) := by decide +kernel
theorem dX6_readPart_60 : decode cX6_readPart 60 = .ok (.iload_n 2, 1) := by decide +kernel
theorem dX6_readPart_61 : decode cX6_readPart 61 = .ok (.aload_n 0, 1) := by decide +kernel
theorem dX6_readPart_62 : decode cX6_readPart 62 = .ok (.getfield 30, 3) := by decide +kernel
theorem dX6_readPart_65 : decode cX6_readPart 65 = .ok (.iconst 1, 1) := by decide +kernel
theorem dX6_readPart_66 : decode cX6_readPart 66 = .ok (.isub, 1) := by decide +kernel
theorem dX6_readPart_67 : decode cX6_readPart 67 = .ok (.iload_n 3, 1) := by decide +kernel
theorem dX6_readPart_68 : decode cX6_readPart 68 = .ok (.aconst_null, 1) := by decide +kernel
theorem dX6_readPart_69 : decode cX6_readPart 69 = .ok (.aconst_null, 1) := by decide +kernel
theorem dX6_readPart_70 : decode cX6_readPart 70 = .ok (.aconst_null, 1) := by decide +kernel
theorem dX6_readPart_71 : decode cX6_readPart 71 = .ok (.invokevirtual 75, 3) := by decide +kernel
theorem dX6_readPart_74 : decode cX6_readPart 74 = .ok (.areturn, 1) := by decide +kernel
set_option maxRecDepth 20000 in
set_option maxHeartbeats 4000000 in
theorem w_X6_readPart {c : cX} {d : Nat} {C : cS} {K : Option Value → cS → Prop} (t : Nat) (p0 : Int32) (h : cT C t 6 8 ∧ (cM c d eX6_peek (.ref t :: []) C (fun v C1 => ∃ z2 : Int32, v = some (.int z2) ∧ cle C C1 ∧ ((¬ z2 = 40 → (cM c d eX6_slotOf (.ref t :: [.int z2]) C1 (fun v C7 => ∃ z8 : Int32, v = some (.int z8) ∧ cle C1 C7 ∧ ((¬ z8 = (-1) → (cG c eX6_readPart (d + 1) (cQ K) 49 [some (.ref t), none, some (.int z2), some (.int z8)] [] C7)) ∧ (z8 = (-1) → (cM c d eX6_isConstant [.int z2] C7 (fun v C12 => ∃ z13 : Int32, v = some (.int z13) ∧ cle C7 C12 ∧ ((¬ z13 = 0 → (cG c eX6_readPart (d + 1) (cQ K) 49 [some (.ref t), none, some (.int z2), some (.int z8)] [] C12)) ∧ (z13 = 0 → (K (some (va_rf none)) C12)))))))))) ∧ (z2 = 40 → ((6 ≤ p0 → (K (some (va_rf none)) C1)) ∧ (¬ 6 ≤ p0 → (cM c d eX6_readBracket (.ref t :: [.int (p0 + 1)]) C1 (fun v C18 => ∃ z19 : Option Nat, v = some (va_rf z19) ∧ cle C1 C18 ∧ (K (some (va_rf z19)) C18)))))))))) : cM c (d + 1) eX6_readPart [.ref t, .int p0] C K := by
  refine cM.of2 (lv := [some (.ref t), some (.int p0), none, none]) (by decide) (Nat.le_of_ble_eq_true rfl) rfl ?_
  refine ag_aload_n dX6_readPart_0 rfl (Or.inr ⟨_, rfl⟩) ?_
  obtain ⟨hT4, h⟩ := h
  refine cr_callV (as := []) (rest := []) dX6_readPart_1 me_X6_peek mi_X6_peek lk_6_43 hT4 rfl rfl (Nat.le_of_ble_eq_true rfl) ?_
  refine cM.mono h ?_
  rintro v C1 ⟨z2, rfl, hL3, h⟩
  have hT5 := cT.le (C := C) hT4 hL3
  show cG _ _ _ _ _ _ [.int z2] _
  refine ag_istore_n (lv2 := [some (.ref t), some (.int p0), some (.int z2), none]) dX6_readPart_4 (Nat.le_of_ble_eq_true rfl) rfl ?_
  refine ag_iload_n dX6_readPart_5 rfl ?_
  refine ag_bipush (v := 40) dX6_readPart_6 (by decide) ?_
  refine ag_icmp_ne (tgt := 29) dX6_readPart_8 rfl (fun hc6 => ?_) (fun hc6 => ?_)
  · have h := h.1 hc6
    refine ag_aload_n dX6_readPart_29 rfl (Or.inr ⟨_, rfl⟩) ?_
    refine ag_iload_n dX6_readPart_30 rfl ?_
    refine cr_callV (as := [.int z2]) (rest := []) dX6_readPart_31 me_X6_slotOf mi_X6_slotOf lk_6_68 hT5 rfl rfl (Nat.le_of_ble_eq_true rfl) ?_
    refine cM.mono h ?_
    rintro v C7 ⟨z8, rfl, hL9, h⟩
    have hT10 := cT.le (C := C1) hT5 hL9
    show cG _ _ _ _ _ _ [.int z8] _
    refine ag_istore_n (lv2 := [some (.ref t), some (.int p0), some (.int z2), some (.int z8)]) dX6_readPart_34 (Nat.le_of_ble_eq_true rfl) rfl ?_
    refine ag_iload_n dX6_readPart_35 rfl ?_
    refine ag_iconst (v := (-1)) dX6_readPart_36 rfl ?_
    refine ag_icmp_ne (tgt := 49) dX6_readPart_37 rfl (fun hc11 => ?_) (fun hc11 => ?_)
    · have h := h.1 hc11
      refine ag_drop 1 ?_
      exact h
    · have h := h.2 hc11
      refine ag_iload_n dX6_readPart_40 rfl ?_
      refine cr_callS (as := [.int z2]) (rest := []) dX6_readPart_41 me_X6_isConstant ms_X6_isConstant lk_6_71 rfl rfl (Nat.le_of_ble_eq_true rfl) ?_
      refine cM.mono h ?_
      rintro v C12 ⟨z13, rfl, hL14, h⟩
      have hT15 := cT.le (C := C7) hT10 hL14
      show cG _ _ _ _ _ _ [.int z13] _
      refine ag_if_ne (tgt := 49) dX6_readPart_44 rfl (fun hc16 => ?_) (fun hc16 => ?_)
      · have h := h.1 hc16
        refine ag_drop 1 ?_
        exact h
      · have h := h.2 hc16
        refine ag_null dX6_readPart_47 ?_
        refine cr_stk (st' := [va_rf none]) rfl ?_
        exact cr_aret dX6_readPart_48 ⟨_, rfl, Or.inl ⟨_, rfl⟩⟩ ⟨_, rfl, _, rfl, h⟩
  · have h := h.2 hc6
    refine ag_iload_n dX6_readPart_11 rfl ?_
    refine ag_bipush (v := 6) dX6_readPart_12 (by decide) ?_
    refine ag_icmp_ge (tgt := 27) dX6_readPart_14 rfl (fun hc17 => ?_) (fun hc17 => ?_)
    · have h := h.1 hc17
      refine ag_null dX6_readPart_27 ?_
      refine cr_stk (st' := [va_rf none]) rfl ?_
      exact cr_aret dX6_readPart_28 ⟨_, rfl, Or.inl ⟨_, rfl⟩⟩ ⟨_, rfl, _, rfl, h⟩
    · have h := h.2 hc17
      refine ag_aload_n dX6_readPart_17 rfl (Or.inr ⟨_, rfl⟩) ?_
      refine ag_iload_n dX6_readPart_18 rfl ?_
      refine ag_iconst (v := 1) dX6_readPart_19 rfl ?_
      refine ag_iadd dX6_readPart_20 rfl ?_
      refine cr_callV (as := [.int (p0 + 1)]) (rest := []) dX6_readPart_21 me_X6_readBracket mi_X6_readBracket lk_6_65 hT5 rfl rfl (Nat.le_of_ble_eq_true rfl) ?_
      refine cM.mono h ?_
      rintro v C18 ⟨z19, rfl, hL20, h⟩
      have hT21 := cT.le (C := C1) hT5 hL20
      show cG _ _ _ _ _ _ [va_rf z19] _
      refine ag_goto (tgt := 28) dX6_readPart_24 rfl ?_
      refine cr_stk (st' := [va_rf z19]) rfl ?_
      exact cr_aret dX6_readPart_28 ⟨_, rfl, Or.inl ⟨_, rfl⟩⟩ ⟨_, rfl, _, rfl, h⟩
set_option maxRecDepth 20000 in
set_option maxHeartbeats 4000000 in
theorem w_X6_readPart_49 {c : cX} {d : Nat} {C : cS} {K : Option Value → cS → Prop} (t : Nat) (v2 : Int32) (v3 : Int32) (h : cT C t 6 8 ∧ (cM c d eX6_newNode (.ref t :: [.int v2, .int (((cI C t 5) + 1) - 1), .int v3, .null, .null, .null]) (csi C t 5 ((cI C t 5) + 1)) (fun v C2 => ∃ z3 : Option Nat, v = some (va_rf z3) ∧ cle (csi C t 5 ((cI C t 5) + 1)) C2 ∧ (K (some (va_rf z3)) C2)))) : cG c eX6_readPart (d + 1) (cQ K) 49 [some (.ref t), none, some (.int v2), some (.int v3)] [] C := by
  refine ag_aload_n dX6_readPart_49 rfl (Or.inr ⟨_, rfl⟩) ?_
  refine ag_dup dX6_readPart_50 rfl ?_
  obtain ⟨hT1, h⟩ := h
  refine cr_get (v := .int (cI C t 5)) dX6_readPart_51 fw_6_30 hT1 rfl ?_
  refine ag_iconst (v := 1) dX6_readPart_54 rfl ?_
  refine ag_iadd dX6_readPart_55 rfl ?_
  refine cr_pi (C2 := (csi C t 5 ((cI C t 5) + 1))) dX6_readPart_56 pw_6_30 rfl hT1 (fun _ => ⟨rfl, rfl⟩) rfl ?_
  refine ag_aload_n dX6_readPart_59 rfl (Or.inr ⟨_, rfl⟩) ?_
  refine ag_iload_n dX6_readPart_60 rfl ?_
  refine ag_aload_n dX6_readPart_61 rfl (Or.inr ⟨_, rfl⟩) ?_
  refine cr_get (v := .int ((cI C t 5) + 1)) dX6_readPart_62 fw_6_30 hT1 (by simp [cz, cK, csi, csj, csr, cI, cJ, cR, va_rf]) ?_
  refine ag_iconst (v := 1) dX6_readPart_65 rfl ?_
  refine ag_isub dX6_readPart_66 rfl ?_
  refine ag_iload_n dX6_readPart_67 rfl ?_
  refine ag_null dX6_readPart_68 ?_
  refine ag_null dX6_readPart_69 ?_
  refine ag_null dX6_readPart_70 ?_
  refine cr_callV (as := [.int v2, .int (((cI C t 5) + 1) - 1), .int v3, .null, .null, .null]) (rest := []) dX6_readPart_71 me_X6_newNode mi_X6_newNode lk_6_75 hT1 rfl rfl (Nat.le_of_ble_eq_true rfl) ?_
  refine cM.mono h ?_
  rintro v C2 ⟨z3, rfl, hL4, h⟩
  have hT5 := cT.le (C := (csi C t 5 ((cI C t 5) + 1))) hT1 hL4
  show cG _ _ _ _ _ _ [va_rf z3] _
  refine cr_stk (st' := [va_rf z3]) rfl ?_
  exact cr_aret dX6_readPart_74 ⟨_, rfl, Or.inl ⟨_, rfl⟩⟩ ⟨_, rfl, _, rfl, h⟩
theorem dX6_readBracket_0 : decode cX6_readBracket 0 = .ok (.aload_n 0, 1) := by decide +kernel
theorem dX6_readBracket_1 : decode cX6_readBracket 1 = .ok (.getfield 30, 3) := by decide +kernel
theorem dX6_readBracket_4 : decode cX6_readBracket 4 = .ok (.istore_n 2, 1) := by decide +kernel
theorem dX6_readBracket_5 : decode cX6_readBracket 5 = .ok (.aload_n 0, 1) := by decide +kernel
theorem dX6_readBracket_6 : decode cX6_readBracket 6 = .ok (.dup, 1) := by decide +kernel
theorem dX6_readBracket_7 : decode cX6_readBracket 7 = .ok (.getfield 30, 3) := by decide +kernel
theorem dX6_readBracket_10 : decode cX6_readBracket 10 = .ok (.iconst 1, 1) := by decide +kernel
theorem dX6_readBracket_11 : decode cX6_readBracket 11 = .ok (.iadd, 1) := by decide +kernel
theorem dX6_readBracket_12 : decode cX6_readBracket 12 = .ok (.putfield 30, 3) := by decide +kernel
theorem dX6_readBracket_15 : decode cX6_readBracket 15 = .ok (.aload_n 0, 1) := by decide +kernel
theorem dX6_readBracket_16 : decode cX6_readBracket 16 = .ok (.invokevirtual 43, 3) := by decide +kernel
theorem dX6_readBracket_19 : decode cX6_readBracket 19 = .ok (.istore_n 3, 1) := by decide +kernel
theorem dX6_readBracket_20 : decode cX6_readBracket 20 = .ok (.aload_n 0, 1) := by decide +kernel
theorem dX6_readBracket_21 : decode cX6_readBracket 21 = .ok (.iload_n 3, 1) := by decide +kernel
theorem dX6_readBracket_22 : decode cX6_readBracket 22 = .ok (.invokevirtual 79, 3) := by decide +kernel
theorem dX6_readBracket_25 : decode cX6_readBracket 25 = .ok (.istore 4, 2) := by decide +kernel
theorem dX6_readBracket_27 : decode cX6_readBracket 27 = .ok (.iload 4, 2) := by decide +kernel
theorem dX6_readBracket_29 : decode cX6_readBracket 29 = .ok (.ifCond .ne 5, 3) := by decide +kernel
theorem dX6_readBracket_32 : decode cX6_readBracket 32 = .ok (.aconst_null, 1) := by decide +kernel
theorem dX6_readBracket_33 : decode cX6_readBracket 33 = .ok (.areturn, 1) := by decide +kernel
theorem dX6_readBracket_34 : decode cX6_readBracket 34 = .ok (.aload_n 0, 1) := by decide +kernel
theorem dX6_readBracket_35 : decode cX6_readBracket 35 = .ok (.dup, 1) := by decide +kernel
theorem dX6_readBracket_36 : decode cX6_readBracket 36 = .ok (.getfield 30, 3) := by decide +kernel
theorem dX6_readBracket_39 : decode cX6_readBracket 39 = .ok (.iconst 1, 1) := by decide +kernel
theorem dX6_readBracket_40 : decode cX6_readBracket 40 = .ok (.iadd, 1) := by decide +kernel
theorem dX6_readBracket_41 : decode cX6_readBracket 41 = .ok (.putfield 30, 3) := by decide +kernel
theorem dX6_readBracket_44 : decode cX6_readBracket 44 = .ok (.iload_n 3, 1) := by decide +kernel
theorem dX6_readBracket_45 : decode cX6_readBracket 45 = .ok (.bipush 58, 2) := by decide +kernel
theorem dX6_readBracket_47 : decode cX6_readBracket 47 = .ok (.if_icmp .ne 12, 3) := by decide +kernel
theorem dX6_readBracket_50 : decode cX6_readBracket 50 = .ok (.aload_n 0, 1) := by decide +kernel
theorem dX6_readBracket_51 : decode cX6_readBracket 51 = .ok (.iload_n 2, 1) := by decide +kernel
theorem dX6_readBracket_52 : decode cX6_readBracket 52 = .ok (.iload_n 1, 1) := by decide +kernel
theorem dX6_readBracket_53 : decode cX6_readBracket 53 = .ok (.invokevirtual 82, 3) := by decide +kernel
theorem dX6_readBracket_56 : decode cX6_readBracket 56 = .ok (.goto 12, 3) := by decide +kernel
theorem dX6_readBracket_59 : decode cX6_readBracket 59 = .ok (.aload_n 0, 1) := by decide +kernel
theorem dX6_readBracket_60 : decode cX6_readBracket 60 = .ok (.iload_n 3, 1) := by decide +kernel
theorem dX6_readBracket_61 : decode cX6_readBracket 61 = .ok (.iload 4, 2) := by decide +kernel
theorem dX6_readBracket_63 : decode cX6_readBracket 63 = .ok (.iload_n 2, 1) := by decide +kernel
theorem dX6_readBracket_64 : decode cX6_readBracket 64 = .ok (.iload_n 1, 1) := by decide +kernel
theorem dX6_readBracket_65 : decode cX6_readBracket 65 = .ok (.invokevirtual 86, 3) := by decide +kernel
theorem dX6_readBracket_68 : decode cX6_readBracket 68 = .ok (.astore 5, 2) := by decide +kernel
theorem dX6_readBracket_70 : decode cX6_readBracket 70 = .ok (.aload 5, 2) := by decide +kernel
theorem dX6_readBracket_72 : decode cX6_readBracket 72 = .ok (.ifnull 12, 3) := by decide +kernel
theorem dX6_readBracket_75 : decode cX6_readBracket 75 = .ok (.aload_n 0, 1) := by decide +kernel
theorem dX6_readBracket_76 : decode cX6_readBracket 76 = .ok (.invokevirtual 43, 3) := by decide +kernel
theorem dX6_readBracket_79 : decode cX6_readBracket 79 = .ok (.bipush 41, 2) := by decide +kernel
theorem dX6_readBracket_81 : decode cX6_readBracket 81 = .ok (.if_icmp .eq 5, 3) := by decide +kernel
theorem dX6_readBracket_84 : decode cX6_readBracket 84 = .ok (.aconst_null, 1) := by decide +kernel
theorem dX6_readBracket_85 : decode cX6_readBracket 85 = .ok (.areturn, 1) := by decide +kernel
theorem dX6_readBracket_86 : decode cX6_readBracket 86 = .ok (.aload_n 0, 1) := by decide +kernel
theorem dX6_readBracket_87 : decode cX6_readBracket 87 = .ok (.dup, 1) := by decide +kernel
theorem dX6_readBracket_88 : decode cX6_readBracket 88 = .ok (.getfield 30, 3) := by decide +kernel
theorem dX6_readBracket_91 : decode cX6_readBracket 91 = .ok (.iconst 1, 1) := by decide +kernel
theorem dX6_readBracket_92 : decode cX6_readBracket 92 = .ok (.iadd, 1) := by decide +kernel
theorem dX6_readBracket_93 : decode cX6_readBracket 93 = .ok (.putfield 30, 3) := by decide +kernel
theorem dX6_readBracket_96 : decode cX6_readBracket 96 = .ok (.aload 5, 2) := by decide +kernel
theorem dX6_readBracket_98 : decode cX6_readBracket 98 = .ok (.areturn, 1) := by decide +kernel
set_option maxRecDepth 20000 in
set_option maxHeartbeats 4000000 in
theorem w_X6_readBracket {c : cX} {d : Nat} {C : cS} {K : Option Value → cS → Prop} (t : Nat) (p0 : Int32) (h : cT C t 6 8 ∧ (cM c d eX6_peek (.ref t :: []) (csi C t 5 ((cI C t 5) + 1)) (fun v C2 => ∃ z3 : Int32, v = some (.int z3) ∧ cle (csi C t 5 ((cI C t 5) + 1)) C2 ∧ (cM c d eX6_partsOf (.ref t :: [.int z3]) C2 (fun v C6 => ∃ z7 : Int32, v = some (.int z7) ∧ cle C2 C6 ∧ ((¬ z7 = 0 → ((¬ z3 = 58 → (cM c d eX6_readOperation (.ref t :: [.int z3, .int z7, .int (cI C t 5), .int p0]) (csi C6 t 5 ((cI C6 t 5) + 1)) (fun v C12 => ∃ z13 : Option Nat, v = some (va_rf z13) ∧ cle (csi C6 t 5 ((cI C6 t 5) + 1)) C12 ∧ (cG c eX6_readBracket (d + 1) (cQ K) 68 [some (.ref t), none, none, none, none, none] [va_rf z13] C12)))) ∧ (z3 = 58 → (cM c d eX6_readBinding (.ref t :: [.int (cI C t 5), .int p0]) (csi C6 t 5 ((cI C6 t 5) + 1)) (fun v C16 => ∃ z17 : Option Nat, v = some (va_rf z17) ∧ cle (csi C6 t 5 ((cI C6 t 5) + 1)) C16 ∧ (cG c eX6_readBracket (d + 1) (cQ K) 68 [some (.ref t), none, none, none, none, none] [va_rf z17] C16)))))) ∧ (z7 = 0 → (K (some (va_rf none)) C6)))))))) : cM c (d + 1) eX6_readBracket [.ref t, .int p0] C K := by
  refine cM.of2 (lv := [some (.ref t), some (.int p0), none, none, none, none]) (by decide) (Nat.le_of_ble_eq_true rfl) rfl ?_
  refine ag_aload_n dX6_readBracket_0 rfl (Or.inr ⟨_, rfl⟩) ?_
  obtain ⟨hT1, h⟩ := h
  refine cr_get (v := .int (cI C t 5)) dX6_readBracket_1 fw_6_30 hT1 rfl ?_
  refine ag_istore_n (lv2 := [some (.ref t), some (.int p0), some (.int (cI C t 5)), none, none, none]) dX6_readBracket_4 (Nat.le_of_ble_eq_true rfl) rfl ?_
  refine ag_aload_n dX6_readBracket_5 rfl (Or.inr ⟨_, rfl⟩) ?_
  refine ag_dup dX6_readBracket_6 rfl ?_
  refine cr_get (v := .int (cI C t 5)) dX6_readBracket_7 fw_6_30 hT1 rfl ?_
  refine ag_iconst (v := 1) dX6_readBracket_10 rfl ?_
  refine ag_iadd dX6_readBracket_11 rfl ?_
  refine cr_pi (C2 := (csi C t 5 ((cI C t 5) + 1))) dX6_readBracket_12 pw_6_30 rfl hT1 (fun _ => ⟨rfl, rfl⟩) rfl ?_
  refine ag_aload_n dX6_readBracket_15 rfl (Or.inr ⟨_, rfl⟩) ?_
  refine cr_callV (as := []) (rest := []) dX6_readBracket_16 me_X6_peek mi_X6_peek lk_6_43 hT1 rfl rfl (Nat.le_of_ble_eq_true rfl) ?_
  refine cM.mono h ?_
  rintro v C2 ⟨z3, rfl, hL4, h⟩
  have hT5 := cT.le (C := (csi C t 5 ((cI C t 5) + 1))) hT1 hL4
  show cG _ _ _ _ _ _ [.int z3] _
  refine ag_istore_n (lv2 := [some (.ref t), some (.int p0), some (.int (cI C t 5)), some (.int z3), none, none]) dX6_readBracket_19 (Nat.le_of_ble_eq_true rfl) rfl ?_
  refine ag_aload_n dX6_readBracket_20 rfl (Or.inr ⟨_, rfl⟩) ?_
  refine ag_iload_n dX6_readBracket_21 rfl ?_
  refine cr_callV (as := [.int z3]) (rest := []) dX6_readBracket_22 me_X6_partsOf mi_X6_partsOf lk_6_79 hT5 rfl rfl (Nat.le_of_ble_eq_true rfl) ?_
  refine cM.mono h ?_
  rintro v C6 ⟨z7, rfl, hL8, h⟩
  have hT9 := cT.le (C := C2) hT5 hL8
  show cG _ _ _ _ _ _ [.int z7] _
  refine ag_istore (lv2 := [some (.ref t), some (.int p0), some (.int (cI C t 5)), some (.int z3), some (.int z7), none]) dX6_readBracket_25 (Nat.le_of_ble_eq_true rfl) rfl ?_
  refine ag_iload dX6_readBracket_27 rfl ?_
  refine ag_if_ne (tgt := 34) dX6_readBracket_29 rfl (fun hc10 => ?_) (fun hc10 => ?_)
  · have h := h.1 hc10
    refine ag_aload_n dX6_readBracket_34 rfl (Or.inr ⟨_, rfl⟩) ?_
    refine ag_dup dX6_readBracket_35 rfl ?_
    refine cr_get (v := .int (cI C6 t 5)) dX6_readBracket_36 fw_6_30 hT9 rfl ?_
    refine ag_iconst (v := 1) dX6_readBracket_39 rfl ?_
    refine ag_iadd dX6_readBracket_40 rfl ?_
    refine cr_pi (C2 := (csi C6 t 5 ((cI C6 t 5) + 1))) dX6_readBracket_41 pw_6_30 rfl hT9 (fun _ => ⟨rfl, rfl⟩) rfl ?_
    refine ag_iload_n dX6_readBracket_44 rfl ?_
    refine ag_bipush (v := 58) dX6_readBracket_45 (by decide) ?_
    refine ag_icmp_ne (tgt := 59) dX6_readBracket_47 rfl (fun hc11 => ?_) (fun hc11 => ?_)
    · have h := h.1 hc11
      refine ag_aload_n dX6_readBracket_59 rfl (Or.inr ⟨_, rfl⟩) ?_
      refine ag_iload_n dX6_readBracket_60 rfl ?_
      refine ag_iload dX6_readBracket_61 rfl ?_
      refine ag_iload_n dX6_readBracket_63 rfl ?_
      refine ag_iload_n dX6_readBracket_64 rfl ?_
      refine cr_callV (as := [.int z3, .int z7, .int (cI C t 5), .int p0]) (rest := []) dX6_readBracket_65 me_X6_readOperation mi_X6_readOperation lk_6_86 hT9 rfl rfl (Nat.le_of_ble_eq_true rfl) ?_
      refine cM.mono h ?_
      rintro v C12 ⟨z13, rfl, hL14, h⟩
      have hT15 := cT.le (C := (csi C6 t 5 ((cI C6 t 5) + 1))) hT9 hL14
      show cG _ _ _ _ _ _ [va_rf z13] _
      refine ag_drop 1 ?_
      refine ag_drop 2 ?_
      refine ag_drop 3 ?_
      refine ag_drop 4 ?_
      exact h
    · have h := h.2 hc11
      refine ag_aload_n dX6_readBracket_50 rfl (Or.inr ⟨_, rfl⟩) ?_
      refine ag_iload_n dX6_readBracket_51 rfl ?_
      refine ag_iload_n dX6_readBracket_52 rfl ?_
      refine cr_callV (as := [.int (cI C t 5), .int p0]) (rest := []) dX6_readBracket_53 me_X6_readBinding mi_X6_readBinding lk_6_82 hT9 rfl rfl (Nat.le_of_ble_eq_true rfl) ?_
      refine cM.mono h ?_
      rintro v C16 ⟨z17, rfl, hL18, h⟩
      have hT19 := cT.le (C := (csi C6 t 5 ((cI C6 t 5) + 1))) hT9 hL18
      show cG _ _ _ _ _ _ [va_rf z17] _
      refine ag_goto (tgt := 68) dX6_readBracket_56 rfl ?_
      refine ag_drop 1 ?_
      refine ag_drop 2 ?_
      refine ag_drop 3 ?_
      refine ag_drop 4 ?_
      exact h
  · have h := h.2 hc10
    refine ag_null dX6_readBracket_32 ?_
    refine cr_stk (st' := [va_rf none]) rfl ?_
    exact cr_aret dX6_readBracket_33 ⟨_, rfl, Or.inl ⟨_, rfl⟩⟩ ⟨_, rfl, _, rfl, h⟩
set_option maxRecDepth 20000 in
set_option maxHeartbeats 4000000 in
theorem w_X6_readBracket_68 {c : cX} {d : Nat} {C : cS} {K : Option Value → cS → Prop} (t : Nat) (s0 : Option Nat) (h : (s0 = none → (K (some (va_rf none)) C)) ∧ (∀ a2 : Nat, s0 = some a2 → (cT C t 6 8 ∧ (cM c d eX6_peek (.ref t :: []) C (fun v C3 => ∃ z4 : Int32, v = some (.int z4) ∧ cle C C3 ∧ ((z4 = 41 → (K (some (va_rf s0)) (csi C3 t 5 ((cI C3 t 5) + 1)))) ∧ (¬ z4 = 41 → (K (some (va_rf none)) C3)))))))) : cG c eX6_readBracket (d + 1) (cQ K) 68 [some (.ref t), none, none, none, none, none] [va_rf s0] C := by
  refine ag_astore (lv2 := [some (.ref t), none, none, none, none, some (va_rf s0)]) dX6_readBracket_68 (Nat.le_of_ble_eq_true rfl) rfl (va_rf_or _) ?_
  refine ag_aload dX6_readBracket_70 rfl (va_rf_or _) ?_
  refine cr_ifnull (tgt := 84) dX6_readBracket_72 rfl (fun hr1 => ?_) (fun a2 hr1 => ?_)
  · have h := h.1 hr1
    refine ag_null dX6_readBracket_84 ?_
    refine cr_stk (st' := [va_rf none]) rfl ?_
    exact cr_aret dX6_readBracket_85 ⟨_, rfl, Or.inl ⟨_, rfl⟩⟩ ⟨_, rfl, _, rfl, h⟩
  · have h := h.2 a2 hr1
    refine ag_aload_n dX6_readBracket_75 rfl (Or.inr ⟨_, rfl⟩) ?_
    obtain ⟨hT6, h⟩ := h
    refine cr_callV (as := []) (rest := []) dX6_readBracket_76 me_X6_peek mi_X6_peek lk_6_43 hT6 rfl rfl (Nat.le_of_ble_eq_true rfl) ?_
    refine cM.mono h ?_
    rintro v C3 ⟨z4, rfl, hL5, h⟩
    have hT7 := cT.le (C := C) hT6 hL5
    show cG _ _ _ _ _ _ [.int z4] _
    refine ag_bipush (v := 41) dX6_readBracket_79 (by decide) ?_
    refine ag_icmp_eq (tgt := 86) dX6_readBracket_81 rfl (fun hc8 => ?_) (fun hc8 => ?_)
    · have h := h.1 hc8
      refine ag_aload_n dX6_readBracket_86 rfl (Or.inr ⟨_, rfl⟩) ?_
      refine ag_dup dX6_readBracket_87 rfl ?_
      refine cr_get (v := .int (cI C3 t 5)) dX6_readBracket_88 fw_6_30 hT7 rfl ?_
      refine ag_iconst (v := 1) dX6_readBracket_91 rfl ?_
      refine ag_iadd dX6_readBracket_92 rfl ?_
      refine cr_pi (C2 := (csi C3 t 5 ((cI C3 t 5) + 1))) dX6_readBracket_93 pw_6_30 rfl hT7 (fun _ => ⟨rfl, rfl⟩) rfl ?_
      refine ag_aload dX6_readBracket_96 rfl (va_rf_or _) ?_
      refine cr_stk (st' := [va_rf s0]) rfl ?_
      exact cr_aret dX6_readBracket_98 ⟨_, rfl, Or.inl ⟨_, rfl⟩⟩ ⟨_, rfl, _, rfl, h⟩
    · have h := h.2 hc8
      refine ag_null dX6_readBracket_84 ?_
      refine cr_stk (st' := [va_rf none]) rfl ?_
      exact cr_aret dX6_readBracket_85 ⟨_, rfl, Or.inl ⟨_, rfl⟩⟩ ⟨_, rfl, _, rfl, h⟩
theorem dX6_readOperation_0 : decode cX6_readOperation 0 = .ok (.aload_n 0, 1) := by decide +kernel
theorem dX6_readOperation_1 : decode cX6_readOperation 1 = .ok (.iload 4, 2) := by decide +kernel
theorem dX6_readOperation_3 : decode cX6_readOperation 3 = .ok (.invokevirtual 61, 3) := by decide +kernel
theorem dX6_readOperation_6 : decode cX6_readOperation 6 = .ok (.astore 5, 2) := by decide +kernel
theorem dX6_readOperation_8 : decode cX6_readOperation 8 = .ok (.aload 5, 2) := by decide +kernel
theorem dX6_readOperation_10 : decode cX6_readOperation 10 = .ok (.ifnonnull 5, 3) := by decide +kernel
theorem dX6_readOperation_13 : decode cX6_readOperation 13 = .ok (.aconst_null, 1) := by decide +kernel
theorem dX6_readOperation_14 : decode cX6_readOperation 14 = .ok (.areturn, 1) := by decide +kernel
theorem dX6_readOperation_15 : decode cX6_readOperation 15 = .ok (.iload_n 2, 1) := by decide +kernel
theorem dX6_readOperation_16 : decode cX6_readOperation 16 = .ok (.iconst 2, 1) := by decide +kernel
theorem dX6_readOperation_17 : decode cX6_readOperation 17 = .ok (.if_icmp .lt 12, 3) := by decide +kernel
theorem dX6_readOperation_20 : decode cX6_readOperation 20 = .ok (.aload_n 0, 1) := by decide +kernel
theorem dX6_readOperation_21 : decode cX6_readOperation 21 = .ok (.iload 4, 2) := by decide +kernel
theorem dX6_readOperation_23 : decode cX6_readOperation 23 = .ok (.invokevirtual 61, 3) := by decide +kernel
theorem dX6_readOperation_26 : decode cX6_readOperation 26 = .ok (.goto 4, 3) := by decide +kernel
theorem dX6_readOperation_29 : decode cX6_readOperation 29 = .ok (.aconst_null, 1) := by decide +kernel
theorem dX6_readOperation_30 : decode cX6_readOperation 30 = .ok (.astore 6, 2) := by decide +kernel
theorem dX6_readOperation_32 : decode cX6_readOperation 32 = .ok (.aload 6, 2) := by decide +kernel
theorem dX6_readOperation_34 : decode cX6_readOperation 34 = .ok (.ifnonnull 10, 3) := by decide +kernel
theorem dX6_readOperation_37 : decode cX6_readOperation 37 = .ok (.iload_n 2, 1) := by decide +kernel
theorem dX6_readOperation_38 : decode cX6_readOperation 38 = .ok (.iconst 2, 1) := by decide +kernel
theorem dX6_readOperation_39 : decode cX6_readOperation 39 = .ok (.if_icmp .lt 5, 3) := by decide +kernel
theorem dX6_readOperation_42 : decode cX6_readOperation 42 = .ok (.aconst_null, 1) := by decide +kernel
theorem dX6_readOperation_43 : decode cX6_readOperation 43 = .ok (.areturn, 1) := by decide +kernel
theorem dX6_readOperation_44 : decode cX6_readOperation 44 = .ok (.iload_n 2, 1) := by decide +kernel
theorem dX6_readOperation_45 : decode cX6_readOperation 45 = .ok (.iconst 3, 1) := by decide +kernel
theorem dX6_readOperation_46 : decode cX6_readOperation 46 = .ok (.if_icmp .lt 12, 3) := by decide +kernel
theorem dX6_readOperation_49 : decode cX6_readOperation 49 = .ok (.aload_n 0, 1) := by decide +kernel
theorem dX6_readOperation_50 : decode cX6_readOperation 50 = .ok (.iload 4, 2) := by decide +kernel
theorem dX6_readOperation_52 : decode cX6_readOperation 52 = .ok (.invokevirtual 61, 3) := by decide +kernel
theorem dX6_readOperation_55 : decode cX6_readOperation 55 = .ok (.goto 4, 3) := by decide +kernel
theorem dX6_readOperation_58 : decode cX6_readOperation 58 = .ok (.aconst_null, 1) := by decide +kernel
theorem dX6_readOperation_59 : decode cX6_readOperation 59 = .ok (.astore 7, 2) := by decide +kernel
theorem dX6_readOperation_61 : decode cX6_readOperation 61 = .ok (.aload 7, 2) := by decide +kernel
theorem dX6_readOperation_63 : decode cX6_readOperation 63 = .ok (.ifnonnull 10, 3) := by decide +kernel
theorem dX6_readOperation_66 : decode cX6_readOperation 66 = .ok (.iload_n 2, 1) := by decide +kernel
theorem dX6_readOperation_67 : decode cX6_readOperation 67 = .ok (.iconst 3, 1) := by decide +kernel
theorem dX6_readOperation_68 : decode cX6_readOperation 68 = .ok (.if_icmp .lt 5, 3) := by decide +kernel
theorem dX6_readOperation_71 : decode cX6_readOperation 71 = .ok (.aconst_null, 1) := by decide +kernel
theorem dX6_readOperation_72 : decode cX6_readOperation 72 = .ok (.areturn, 1) := by decide +kernel
theorem dX6_readOperation_73 : decode cX6_readOperation 73 = .ok (.aload_n 0, 1) := by decide +kernel
theorem dX6_readOperation_74 : decode cX6_readOperation 74 = .ok (.iload_n 1, 1) := by decide +kernel
theorem dX6_readOperation_75 : decode cX6_readOperation 75 = .ok (.iload_n 3, 1) := by decide +kernel
theorem dX6_readOperation_76 : decode cX6_readOperation 76 = .ok (.iconst (-1), 1) := by decide +kernel
theorem dX6_readOperation_77 : decode cX6_readOperation 77 = .ok (.aload 5, 2) := by decide +kernel
theorem dX6_readOperation_79 : decode cX6_readOperation 79 = .ok (.aload 6, 2) := by decide +kernel
theorem dX6_readOperation_81 : decode cX6_readOperation 81 = .ok (.aload 7, 2) := by decide +kernel
theorem dX6_readOperation_83 : decode cX6_readOperation 83 = .ok (.invokevirtual 75, 3) := by decide +kernel
theorem dX6_readOperation_86 : decode cX6_readOperation 86 = .ok (.areturn, 1) := by decide +kernel
set_option maxRecDepth 20000 in
set_option maxHeartbeats 4000000 in
theorem w_X6_readOperation {c : cX} {d : Nat} {C : cS} {K : Option Value → cS → Prop} (t : Nat) (p0 : Int32) (p1 : Int32) (p2 : Int32) (p3 : Int32) (h : cT C t 6 8 ∧ (cM c d eX6_readPart (.ref t :: [.int p3]) C (fun v C1 => ∃ z2 : Option Nat, v = some (va_rf z2) ∧ cle C C1 ∧ ((z2 = none → (K (some (va_rf none)) C1)) ∧ (∀ a7 : Nat, z2 = some a7 → ((p1 < 2 → ((p1 < 2 → (cG c eX6_readOperation (d + 1) (cQ K) 44 [some (.ref t), some (.int p0), some (.int p1), some (.int p2), some (.int p3), some (va_rf z2), some (va_rf none), none] [] C1)) ∧ (¬ p1 < 2 → (K (some (va_rf none)) C1)))) ∧ (¬ p1 < 2 → (cM c d eX6_readPart (.ref t :: [.int p3]) C1 (fun v C10 => ∃ z11 : Option Nat, v = some (va_rf z11) ∧ cle C1 C10 ∧ ((z11 = none → ((p1 < 2 → (cG c eX6_readOperation (d + 1) (cQ K) 44 [some (.ref t), some (.int p0), some (.int p1), some (.int p2), some (.int p3), some (va_rf z2), some (va_rf z11), none] [] C10)) ∧ (¬ p1 < 2 → (K (some (va_rf none)) C10)))) ∧ (∀ a15 : Nat, z11 = some a15 → (cG c eX6_readOperation (d + 1) (cQ K) 44 [some (.ref t), some (.int p0), some (.int p1), some (.int p2), some (.int p3), some (va_rf z2), some (va_rf z11), none] [] C10)))))))))))) : cM c (d + 1) eX6_readOperation [.ref t, .int p0, .int p1, .int p2, .int p3] C K := by
  refine cM.of2 (lv := [some (.ref t), some (.int p0), some (.int p1), some (.int p2), some (.int p3), none, none, none]) (by decide) (Nat.le_of_ble_eq_true rfl) rfl ?_
  refine ag_aload_n dX6_readOperation_0 rfl (Or.inr ⟨_, rfl⟩) ?_
  refine ag_iload dX6_readOperation_1 rfl ?_
  obtain ⟨hT4, h⟩ := h
  refine cr_callV (as := [.int p3]) (rest := []) dX6_readOperation_3 me_X6_readPart mi_X6_readPart lk_6_61 hT4 rfl rfl (Nat.le_of_ble_eq_true rfl) ?_
  refine cM.mono h ?_
  rintro v C1 ⟨z2, rfl, hL3, h⟩
  have hT5 := cT.le (C := C) hT4 hL3
  show cG _ _ _ _ _ _ [va_rf z2] _
  refine ag_astore (lv2 := [some (.ref t), some (.int p0), some (.int p1), some (.int p2), some (.int p3), some (va_rf z2), none, none]) dX6_readOperation_6 (Nat.le_of_ble_eq_true rfl) rfl (va_rf_or _) ?_
  refine ag_aload dX6_readOperation_8 rfl (va_rf_or _) ?_
  refine cr_ifnonnull (tgt := 15) dX6_readOperation_10 rfl (fun a7 hr6 => ?_) (fun hr6 => ?_)
  · have h := h.2 a7 hr6
    refine ag_iload_n dX6_readOperation_15 rfl ?_
    refine ag_iconst (v := 2) dX6_readOperation_16 rfl ?_
    refine ag_icmp_lt (tgt := 29) dX6_readOperation_17 rfl (fun hc8 => ?_) (fun hc8 => ?_)
    · have h := h.1 hc8
      refine ag_null dX6_readOperation_29 ?_
      refine ag_astore (lv2 := [some (.ref t), some (.int p0), some (.int p1), some (.int p2), some (.int p3), some (va_rf z2), some (.null), none]) dX6_readOperation_30 (Nat.le_of_ble_eq_true rfl) (by simp [am_st1, am_kill, va_rf_cat] <;> rfl) (Or.inl rfl) ?_
      refine ag_aload dX6_readOperation_32 rfl (Or.inl rfl) ?_
      refine ag_ifnonnull_n dX6_readOperation_34 ?_
      refine ag_iload_n dX6_readOperation_37 rfl ?_
      refine ag_iconst (v := 2) dX6_readOperation_38 rfl ?_
      refine ag_icmp_lt (tgt := 44) dX6_readOperation_39 rfl (fun hc9 => ?_) (fun hc9 => ?_)
      · have h := h.1 hc9
        exact h
      · have h := h.2 hc9
        refine ag_null dX6_readOperation_42 ?_
        refine cr_stk (st' := [va_rf none]) rfl ?_
        exact cr_aret dX6_readOperation_43 ⟨_, rfl, Or.inl ⟨_, rfl⟩⟩ ⟨_, rfl, _, rfl, h⟩
    · have h := h.2 hc8
      refine ag_aload_n dX6_readOperation_20 rfl (Or.inr ⟨_, rfl⟩) ?_
      refine ag_iload dX6_readOperation_21 rfl ?_
      refine cr_callV (as := [.int p3]) (rest := []) dX6_readOperation_23 me_X6_readPart mi_X6_readPart lk_6_61 hT5 rfl rfl (Nat.le_of_ble_eq_true rfl) ?_
      refine cM.mono h ?_
      rintro v C10 ⟨z11, rfl, hL12, h⟩
      have hT13 := cT.le (C := C1) hT5 hL12
      show cG _ _ _ _ _ _ [va_rf z11] _
      refine ag_goto (tgt := 30) dX6_readOperation_26 rfl ?_
      refine ag_astore (lv2 := [some (.ref t), some (.int p0), some (.int p1), some (.int p2), some (.int p3), some (va_rf z2), some (va_rf z11), none]) dX6_readOperation_30 (Nat.le_of_ble_eq_true rfl) (by simp [am_st1, am_kill, va_rf_cat] <;> rfl) (va_rf_or _) ?_
      refine ag_aload dX6_readOperation_32 rfl (va_rf_or _) ?_
      refine cr_ifnonnull (tgt := 44) dX6_readOperation_34 rfl (fun a15 hr14 => ?_) (fun hr14 => ?_)
      · have h := h.2 a15 hr14
        exact h
      · have h := h.1 hr14
        refine ag_iload_n dX6_readOperation_37 rfl ?_
        refine ag_iconst (v := 2) dX6_readOperation_38 rfl ?_
        refine ag_icmp_lt (tgt := 44) dX6_readOperation_39 rfl (fun hc16 => ?_) (fun hc16 => ?_)
        · have h := h.1 hc16
          exact h
        · have h := h.2 hc16
          refine ag_null dX6_readOperation_42 ?_
          refine cr_stk (st' := [va_rf none]) rfl ?_
          exact cr_aret dX6_readOperation_43 ⟨_, rfl, Or.inl ⟨_, rfl⟩⟩ ⟨_, rfl, _, rfl, h⟩
  · have h := h.1 hr6
    refine ag_null dX6_readOperation_13 ?_
    refine cr_stk (st' := [va_rf none]) rfl ?_
    exact cr_aret dX6_readOperation_14 ⟨_, rfl, Or.inl ⟨_, rfl⟩⟩ ⟨_, rfl, _, rfl, h⟩
set_option maxRecDepth 20000 in
set_option maxHeartbeats 4000000 in
theorem w_X6_readOperation_44 {c : cX} {d : Nat} {C : cS} {K : Option Value → cS → Prop} (t : Nat) (v1 : Int32) (v2 : Int32) (v3 : Int32) (v4 : Int32) (v5 : Option Nat) (v6 : Option Nat) (h : (v2 < 3 → ((v2 < 3 → (cG c eX6_readOperation (d + 1) (cQ K) 73 [some (.ref t), some (.int v1), none, some (.int v3), none, some (va_rf v5), some (va_rf v6), some (va_rf none)] [] C)) ∧ (¬ v2 < 3 → (K (some (va_rf none)) C)))) ∧ (¬ v2 < 3 → (cT C t 6 8 ∧ (cM c d eX6_readPart (.ref t :: [.int v4]) C (fun v C3 => ∃ z4 : Option Nat, v = some (va_rf z4) ∧ cle C C3 ∧ ((z4 = none → ((v2 < 3 → (cG c eX6_readOperation (d + 1) (cQ K) 73 [some (.ref t), some (.int v1), none, some (.int v3), none, some (va_rf v5), some (va_rf v6), some (va_rf z4)] [] C3)) ∧ (¬ v2 < 3 → (K (some (va_rf none)) C3)))) ∧ (∀ a9 : Nat, z4 = some a9 → (cG c eX6_readOperation (d + 1) (cQ K) 73 [some (.ref t), some (.int v1), none, some (.int v3), none, some (va_rf v5), some (va_rf v6), some (va_rf z4)] [] C3)))))))) : cG c eX6_readOperation (d + 1) (cQ K) 44 [some (.ref t), some (.int v1), some (.int v2), some (.int v3), some (.int v4), some (va_rf v5), some (va_rf v6), none] [] C := by
  refine ag_iload_n dX6_readOperation_44 rfl ?_
  refine ag_iconst (v := 3) dX6_readOperation_45 rfl ?_
  refine ag_icmp_lt (tgt := 58) dX6_readOperation_46 rfl (fun hc1 => ?_) (fun hc1 => ?_)
  · have h := h.1 hc1
    refine ag_null dX6_readOperation_58 ?_
    refine ag_astore (lv2 := [some (.ref t), some (.int v1), some (.int v2), some (.int v3), some (.int v4), some (va_rf v5), some (va_rf v6), some (.null)]) dX6_readOperation_59 (Nat.le_of_ble_eq_true rfl) (by simp [am_st1, am_kill, va_rf_cat] <;> rfl) (Or.inl rfl) ?_
    refine ag_aload dX6_readOperation_61 rfl (Or.inl rfl) ?_
    refine ag_ifnonnull_n dX6_readOperation_63 ?_
    refine ag_iload_n dX6_readOperation_66 rfl ?_
    refine ag_iconst (v := 3) dX6_readOperation_67 rfl ?_
    refine ag_icmp_lt (tgt := 73) dX6_readOperation_68 rfl (fun hc2 => ?_) (fun hc2 => ?_)
    · have h := h.1 hc2
      refine ag_drop 2 ?_
      refine ag_drop 4 ?_
      exact h
    · have h := h.2 hc2
      refine ag_null dX6_readOperation_71 ?_
      refine cr_stk (st' := [va_rf none]) rfl ?_
      exact cr_aret dX6_readOperation_72 ⟨_, rfl, Or.inl ⟨_, rfl⟩⟩ ⟨_, rfl, _, rfl, h⟩
  · have h := h.2 hc1
    refine ag_aload_n dX6_readOperation_49 rfl (Or.inr ⟨_, rfl⟩) ?_
    refine ag_iload dX6_readOperation_50 rfl ?_
    obtain ⟨hT6, h⟩ := h
    refine cr_callV (as := [.int v4]) (rest := []) dX6_readOperation_52 me_X6_readPart mi_X6_readPart lk_6_61 hT6 rfl rfl (Nat.le_of_ble_eq_true rfl) ?_
    refine cM.mono h ?_
    rintro v C3 ⟨z4, rfl, hL5, h⟩
    have hT7 := cT.le (C := C) hT6 hL5
    show cG _ _ _ _ _ _ [va_rf z4] _
    refine ag_goto (tgt := 59) dX6_readOperation_55 rfl ?_
    refine ag_astore (lv2 := [some (.ref t), some (.int v1), some (.int v2), some (.int v3), some (.int v4), some (va_rf v5), some (va_rf v6), some (va_rf z4)]) dX6_readOperation_59 (Nat.le_of_ble_eq_true rfl) (by simp [am_st1, am_kill, va_rf_cat] <;> rfl) (va_rf_or _) ?_
    refine ag_aload dX6_readOperation_61 rfl (va_rf_or _) ?_
    refine cr_ifnonnull (tgt := 73) dX6_readOperation_63 rfl (fun a9 hr8 => ?_) (fun hr8 => ?_)
    · have h := h.2 a9 hr8
      refine ag_drop 2 ?_
      refine ag_drop 4 ?_
      exact h
    · have h := h.1 hr8
      refine ag_iload_n dX6_readOperation_66 rfl ?_
      refine ag_iconst (v := 3) dX6_readOperation_67 rfl ?_
      refine ag_icmp_lt (tgt := 73) dX6_readOperation_68 rfl (fun hc10 => ?_) (fun hc10 => ?_)
      · have h := h.1 hc10
        refine ag_drop 2 ?_
        refine ag_drop 4 ?_
        exact h
      · have h := h.2 hc10
        refine ag_null dX6_readOperation_71 ?_
        refine cr_stk (st' := [va_rf none]) rfl ?_
        exact cr_aret dX6_readOperation_72 ⟨_, rfl, Or.inl ⟨_, rfl⟩⟩ ⟨_, rfl, _, rfl, h⟩
set_option maxRecDepth 20000 in
set_option maxHeartbeats 4000000 in
theorem w_X6_readOperation_73 {c : cX} {d : Nat} {C : cS} {K : Option Value → cS → Prop} (t : Nat) (v1 : Int32) (v3 : Int32) (v5 : Option Nat) (v6 : Option Nat) (v7 : Option Nat) (h : cT C t 6 8 ∧ (cM c d eX6_newNode (.ref t :: [.int v1, .int v3, .int (-1), va_rf v5, va_rf v6, va_rf v7]) C (fun v C1 => ∃ z2 : Option Nat, v = some (va_rf z2) ∧ cle C C1 ∧ (K (some (va_rf z2)) C1)))) : cG c eX6_readOperation (d + 1) (cQ K) 73 [some (.ref t), some (.int v1), none, some (.int v3), none, some (va_rf v5), some (va_rf v6), some (va_rf v7)] [] C := by
  refine ag_aload_n dX6_readOperation_73 rfl (Or.inr ⟨_, rfl⟩) ?_
  refine ag_iload_n dX6_readOperation_74 rfl ?_
  refine ag_iload_n dX6_readOperation_75 rfl ?_
  refine ag_iconst (v := (-1)) dX6_readOperation_76 rfl ?_
  refine ag_aload dX6_readOperation_77 rfl (va_rf_or _) ?_
  refine ag_aload dX6_readOperation_79 rfl (va_rf_or _) ?_
  refine ag_aload dX6_readOperation_81 rfl (va_rf_or _) ?_
  obtain ⟨hT4, h⟩ := h
  refine cr_callV (as := [.int v1, .int v3, .int (-1), va_rf v5, va_rf v6, va_rf v7]) (rest := []) dX6_readOperation_83 me_X6_newNode mi_X6_newNode lk_6_75 hT4 rfl rfl (Nat.le_of_ble_eq_true rfl) ?_
  refine cM.mono h ?_
  rintro v C1 ⟨z2, rfl, hL3, h⟩
  have hT5 := cT.le (C := C) hT4 hL3
  show cG _ _ _ _ _ _ [va_rf z2] _
  refine cr_stk (st' := [va_rf z2]) rfl ?_
  exact cr_aret dX6_readOperation_86 ⟨_, rfl, Or.inl ⟨_, rfl⟩⟩ ⟨_, rfl, _, rfl, h⟩
theorem dX6_readBinding_0 : decode cX6_readBinding 0 = .ok (.aload_n 0, 1) := by decide +kernel
theorem dX6_readBinding_1 : decode cX6_readBinding 1 = .ok (.aload_n 0, 1) := by decide +kernel
theorem dX6_readBinding_2 : decode cX6_readBinding 2 = .ok (.invokevirtual 43, 3) := by decide +kernel
theorem dX6_readBinding_5 : decode cX6_readBinding 5 = .ok (.invokevirtual 55, 3) := by decide +kernel
theorem dX6_readBinding_8 : decode cX6_readBinding 8 = .ok (.istore_n 3, 1) := by decide +kernel
theorem dX6_readBinding_9 : decode cX6_readBinding 9 = .ok (.iload_n 3, 1) := by decide +kernel
theorem dX6_readBinding_10 : decode cX6_readBinding 10 = .ok (.iconst (-1), 1) := by decide +kernel
theorem dX6_readBinding_11 : decode cX6_readBinding 11 = .ok (.if_icmp .ne 5, 3) := by decide +kernel
theorem dX6_readBinding_14 : decode cX6_readBinding 14 = .ok (.aconst_null, 1) := by decide +kernel
theorem dX6_readBinding_15 : decode cX6_readBinding 15 = .ok (.areturn, 1) := by decide +kernel
theorem dX6_readBinding_16 : decode cX6_readBinding 16 = .ok (.aload_n 0, 1) := by decide +kernel
theorem dX6_readBinding_17 : decode cX6_readBinding 17 = .ok (.dup, 1) := by decide +kernel
theorem dX6_readBinding_18 : decode cX6_readBinding 18 = .ok (.getfield 30, 3) := by decide +kernel
theorem dX6_readBinding_21 : decode cX6_readBinding 21 = .ok (.iconst 1, 1) := by decide +kernel
theorem dX6_readBinding_22 : decode cX6_readBinding 22 = .ok (.iadd, 1) := by decide +kernel
theorem dX6_readBinding_23 : decode cX6_readBinding 23 = .ok (.putfield 30, 3) := by decide +kernel
theorem dX6_readBinding_26 : decode cX6_readBinding 26 = .ok (.aload_n 0, 1) := by decide +kernel
theorem dX6_readBinding_27 : decode cX6_readBinding 27 = .ok (.iload_n 2, 1) := by decide +kernel
theorem dX6_readBinding_28 : decode cX6_readBinding 28 = .ok (.invokevirtual 61, 3) := by decide +kernel
theorem dX6_readBinding_31 : decode cX6_readBinding 31 = .ok (.astore 4, 2) := by decide +kernel
theorem dX6_readBinding_33 : decode cX6_readBinding 33 = .ok (.aload 4, 2) := by decide +kernel
theorem dX6_readBinding_35 : decode cX6_readBinding 35 = .ok (.ifnull 12, 3) := by decide +kernel
theorem dX6_readBinding_38 : decode cX6_readBinding 38 = .ok (.aload_n 0, 1) := by decide +kernel
theorem dX6_readBinding_39 : decode cX6_readBinding 39 = .ok (.getfield 23, 3) := by decide +kernel
theorem dX6_readBinding_42 : decode cX6_readBinding 42 = .ok (.bipush 17, 2) := by decide +kernel
theorem dX6_readBinding_44 : decode cX6_readBinding 44 = .ok (.if_icmp .lt 5, 3) := by decide +kernel
theorem dX6_readBinding_47 : decode cX6_readBinding 47 = .ok (.aconst_null, 1) := by decide +kernel
theorem dX6_readBinding_48 : decode cX6_readBinding 48 = .ok (.areturn, 1) := by decide +kernel
theorem dX6_readBinding_49 : decode cX6_readBinding 49 = .ok (.aload_n 0, 1) := by decide +kernel
theorem dX6_readBinding_50 : decode cX6_readBinding 50 = .ok (.getfield 23, 3) := by decide +kernel
theorem dX6_readBinding_53 : decode cX6_readBinding 53 = .ok (.istore 5, 2) := by decide +kernel
theorem dX6_readBinding_55 : decode cX6_readBinding 55 = .ok (.aload_n 0, 1) := by decide +kernel
theorem dX6_readBinding_56 : decode cX6_readBinding 56 = .ok (.dup, 1) := by decide +kernel
theorem dX6_readBinding_57 : decode cX6_readBinding 57 = .ok (.getfield 23, 3) := by decide +kernel
theorem dX6_readBinding_60 : decode cX6_readBinding 60 = .ok (.iconst 1, 1) := by decide +kernel
theorem dX6_readBinding_61 : decode cX6_readBinding 61 = .ok (.iadd, 1) := by decide +kernel
theorem dX6_readBinding_62 : decode cX6_readBinding 62 = .ok (.putfield 23, 3) := by decide +kernel
theorem dX6_readBinding_65 : decode cX6_readBinding 65 = .ok (.aload_n 0, 1) := by decide +kernel
theorem dX6_readBinding_66 : decode cX6_readBinding 66 = .ok (.getfield 19, 3) := by decide +kernel
theorem dX6_readBinding_69 : decode cX6_readBinding 69 = .ok (.iload_n 3, 1) := by decide +kernel
theorem dX6_readBinding_70 : decode cX6_readBinding 70 = .ok (.iload 5, 2) := by decide +kernel
theorem dX6_readBinding_72 : decode cX6_readBinding 72 = .ok (.iastore, 1) := by decide +kernel
theorem dX6_readBinding_73 : decode cX6_readBinding 73 = .ok (.aload_n 0, 1) := by decide +kernel
theorem dX6_readBinding_74 : decode cX6_readBinding 74 = .ok (.iload_n 2, 1) := by decide +kernel
theorem dX6_readBinding_75 : decode cX6_readBinding 75 = .ok (.invokevirtual 61, 3) := by decide +kernel
theorem dX6_readBinding_78 : decode cX6_readBinding 78 = .ok (.astore 6, 2) := by decide +kernel
theorem dX6_readBinding_80 : decode cX6_readBinding 80 = .ok (.aload_n 0, 1) := by decide +kernel
theorem dX6_readBinding_81 : decode cX6_readBinding 81 = .ok (.getfield 19, 3) := by decide +kernel
theorem dX6_readBinding_84 : decode cX6_readBinding 84 = .ok (.iload_n 3, 1) := by decide +kernel
theorem dX6_readBinding_85 : decode cX6_readBinding 85 = .ok (.iconst (-1), 1) := by decide +kernel
theorem dX6_readBinding_86 : decode cX6_readBinding 86 = .ok (.iastore, 1) := by decide +kernel
theorem dX6_readBinding_87 : decode cX6_readBinding 87 = .ok (.aload 6, 2) := by decide +kernel
theorem dX6_readBinding_89 : decode cX6_readBinding 89 = .ok (.ifnonnull 7, 3) := by decide +kernel
theorem dX6_readBinding_92 : decode cX6_readBinding 92 = .ok (.aconst_null, 1) := by decide +kernel
theorem dX6_readBinding_93 : decode cX6_readBinding 93 = .ok (.goto 17, 3) := by decide +kernel
theorem dX6_readBinding_96 : decode cX6_readBinding 96 = .ok (.aload_n 0, 1) := by decide +kernel
theorem dX6_readBinding_97 : decode cX6_readBinding 97 = .ok (.bipush 58, 2) := by decide +kernel
theorem dX6_readBinding_99 : decode cX6_readBinding 99 = .ok (.iload_n 1, 1) := by decide +kernel
theorem dX6_readBinding_100 : decode cX6_readBinding 100 = .ok (.iload 5, 2) := by decide +kernel
theorem dX6_readBinding_102 : decode cX6_readBinding 102 = .ok (.aload 4, 2) := by decide +kernel
theorem dX6_readBinding_104 : decode cX6_readBinding 104 = .ok (.aload 6, 2) := by decide +kernel
theorem dX6_readBinding_106 : decode cX6_readBinding 106 = .ok (.aconst_null, 1) := by decide +kernel
theorem dX6_readBinding_107 : decode cX6_readBinding 107 = .ok (.invokevirtual 75, 3) := by decide +kernel
theorem dX6_readBinding_110 : decode cX6_readBinding 110 = .ok (.areturn, 1) := by decide +kernel
set_option maxRecDepth 20000 in
set_option maxHeartbeats 4000000 in
theorem w_X6_readBinding {c : cX} {d : Nat} {C : cS} {K : Option Value → cS → Prop} (t : Nat) (p0 : Int32) (p1 : Int32) (h : cT C t 6 8 ∧ (cM c d eX6_peek (.ref t :: []) C (fun v C1 => ∃ z2 : Int32, v = some (.int z2) ∧ cle C C1 ∧ (cM c d eX6_freeName (.ref t :: [.int z2]) C1 (fun v C6 => ∃ z7 : Int32, v = some (.int z7) ∧ cle C1 C6 ∧ ((¬ z7 = (-1) → (cM c d eX6_readPart (.ref t :: [.int p1]) (csi C6 t 5 ((cI C6 t 5) + 1)) (fun v C11 => ∃ z12 : Option Nat, v = some (va_rf z12) ∧ cle (csi C6 t 5 ((cI C6 t 5) + 1)) C11 ∧ ((z12 = none → (K (some (va_rf none)) C11)) ∧ (∀ a16 : Nat, z12 = some a16 → (((cI C11 t 3) < 17 → (∃ a18 : Nat, (cR C11 t 2) = some a18 ∧ (∃ n21 : Nat, cT C11 a18 20 n21 ∧ (∃ j22 : Nat, am_ix z7 j22 n21 ∧ (cM c d eX6_readPart (.ref t :: [.int p1]) (csi (csi C11 t 3 ((cI C11 t 3) + 1)) a18 j22 (cI C11 t 3)) (fun v C24 => ∃ z25 : Option Nat, v = some (va_rf z25) ∧ cle (csi (csi C11 t 3 ((cI C11 t 3) + 1)) a18 j22 (cI C11 t 3)) C24 ∧ (∃ a29 : Nat, (cR C24 t 2) = some a29 ∧ (∃ n32 : Nat, cT C24 a29 20 n32 ∧ (∃ j33 : Nat, am_ix z7 j33 n32 ∧ ((z25 = none → (K (some (va_rf none)) (csi C24 a29 j33 (-1)))) ∧ (∀ a36 : Nat, z25 = some a36 → (cM c d eX6_newNode (.ref t :: [.int 58, .int p0, .int (cI C11 t 3), va_rf z12, va_rf z25, .null]) (csi C24 a29 j33 (-1)) (fun v C37 => ∃ z38 : Option Nat, v = some (va_rf z38) ∧ cle (csi C24 a29 j33 (-1)) C37 ∧ (K (some (va_rf z38)) C37)))))))))))))) ∧ (¬ (cI C11 t 3) < 17 → (K (some (va_rf none)) C11)))))))) ∧ (z7 = (-1) → (K (some (va_rf none)) C6)))))))) : cM c (d + 1) eX6_readBinding [.ref t, .int p0, .int p1] C K := by
  refine cM.of2 (lv := [some (.ref t), some (.int p0), some (.int p1), none, none, none, none]) (by decide) (Nat.le_of_ble_eq_true rfl) rfl ?_
  refine ag_aload_n dX6_readBinding_0 rfl (Or.inr ⟨_, rfl⟩) ?_
  refine ag_aload_n dX6_readBinding_1 rfl (Or.inr ⟨_, rfl⟩) ?_
  obtain ⟨hT4, h⟩ := h
  refine cr_callV (as := []) (rest := [.ref t]) dX6_readBinding_2 me_X6_peek mi_X6_peek lk_6_43 hT4 rfl rfl (Nat.le_of_ble_eq_true rfl) ?_
  refine cM.mono h ?_
  rintro v C1 ⟨z2, rfl, hL3, h⟩
  have hT5 := cT.le (C := C) hT4 hL3
  show cG _ _ _ _ _ _ [.int z2, .ref t] _
  refine cr_callV (as := [.int z2]) (rest := []) dX6_readBinding_5 me_X6_freeName mi_X6_freeName lk_6_55 hT5 rfl rfl (Nat.le_of_ble_eq_true rfl) ?_
  refine cM.mono h ?_
  rintro v C6 ⟨z7, rfl, hL8, h⟩
  have hT9 := cT.le (C := C1) hT5 hL8
  show cG _ _ _ _ _ _ [.int z7] _
  refine ag_istore_n (lv2 := [some (.ref t), some (.int p0), some (.int p1), some (.int z7), none, none, none]) dX6_readBinding_8 (Nat.le_of_ble_eq_true rfl) rfl ?_
  refine ag_iload_n dX6_readBinding_9 rfl ?_
  refine ag_iconst (v := (-1)) dX6_readBinding_10 rfl ?_
  refine ag_icmp_ne (tgt := 16) dX6_readBinding_11 rfl (fun hc10 => ?_) (fun hc10 => ?_)
  · have h := h.1 hc10
    refine ag_aload_n dX6_readBinding_16 rfl (Or.inr ⟨_, rfl⟩) ?_
    refine ag_dup dX6_readBinding_17 rfl ?_
    refine cr_get (v := .int (cI C6 t 5)) dX6_readBinding_18 fw_6_30 hT9 rfl ?_
    refine ag_iconst (v := 1) dX6_readBinding_21 rfl ?_
    refine ag_iadd dX6_readBinding_22 rfl ?_
    refine cr_pi (C2 := (csi C6 t 5 ((cI C6 t 5) + 1))) dX6_readBinding_23 pw_6_30 rfl hT9 (fun _ => ⟨rfl, rfl⟩) rfl ?_
    refine ag_aload_n dX6_readBinding_26 rfl (Or.inr ⟨_, rfl⟩) ?_
    refine ag_iload_n dX6_readBinding_27 rfl ?_
    refine cr_callV (as := [.int p1]) (rest := []) dX6_readBinding_28 me_X6_readPart mi_X6_readPart lk_6_61 hT9 rfl rfl (Nat.le_of_ble_eq_true rfl) ?_
    refine cM.mono h ?_
    rintro v C11 ⟨z12, rfl, hL13, h⟩
    have hT14 := cT.le (C := (csi C6 t 5 ((cI C6 t 5) + 1))) hT9 hL13
    show cG _ _ _ _ _ _ [va_rf z12] _
    refine ag_astore (lv2 := [some (.ref t), some (.int p0), some (.int p1), some (.int z7), some (va_rf z12), none, none]) dX6_readBinding_31 (Nat.le_of_ble_eq_true rfl) rfl (va_rf_or _) ?_
    refine ag_aload dX6_readBinding_33 rfl (va_rf_or _) ?_
    refine cr_ifnull (tgt := 47) dX6_readBinding_35 rfl (fun hr15 => ?_) (fun a16 hr15 => ?_)
    · have h := h.1 hr15
      refine ag_null dX6_readBinding_47 ?_
      refine cr_stk (st' := [va_rf none]) rfl ?_
      exact cr_aret dX6_readBinding_48 ⟨_, rfl, Or.inl ⟨_, rfl⟩⟩ ⟨_, rfl, _, rfl, h⟩
    · have h := h.2 a16 hr15
      refine ag_aload_n dX6_readBinding_38 rfl (Or.inr ⟨_, rfl⟩) ?_
      refine cr_get (v := .int (cI C11 t 3)) dX6_readBinding_39 fw_6_23 hT14 rfl ?_
      refine ag_bipush (v := 17) dX6_readBinding_42 (by decide) ?_
      refine ag_icmp_lt (tgt := 49) dX6_readBinding_44 rfl (fun hc17 => ?_) (fun hc17 => ?_)
      · have h := h.1 hc17
        refine ag_aload_n dX6_readBinding_49 rfl (Or.inr ⟨_, rfl⟩) ?_
        refine cr_get (v := .int (cI C11 t 3)) dX6_readBinding_50 fw_6_23 hT14 rfl ?_
        refine ag_istore (lv2 := [some (.ref t), some (.int p0), some (.int p1), some (.int z7), some (va_rf z12), some (.int (cI C11 t 3)), none]) dX6_readBinding_53 (Nat.le_of_ble_eq_true rfl) (by simp [am_st1, am_kill, va_rf_cat] <;> rfl) ?_
        refine ag_aload_n dX6_readBinding_55 rfl (Or.inr ⟨_, rfl⟩) ?_
        refine ag_dup dX6_readBinding_56 rfl ?_
        refine cr_get (v := .int (cI C11 t 3)) dX6_readBinding_57 fw_6_23 hT14 rfl ?_
        refine ag_iconst (v := 1) dX6_readBinding_60 rfl ?_
        refine ag_iadd dX6_readBinding_61 rfl ?_
        refine cr_pi (C2 := (csi C11 t 3 ((cI C11 t 3) + 1))) dX6_readBinding_62 pw_6_23 rfl hT14 (fun _ => ⟨rfl, rfl⟩) rfl ?_
        refine ag_aload_n dX6_readBinding_65 rfl (Or.inr ⟨_, rfl⟩) ?_
        refine cr_get (v := va_rf (cR C11 t 2)) dX6_readBinding_66 fw_6_19 hT14 rfl ?_
        refine ag_iload_n dX6_readBinding_69 rfl ?_
        refine ag_iload dX6_readBinding_70 rfl ?_
        obtain ⟨a18, hr19, h⟩ := h
        refine cr_stk (st' := [.int (cI C11 t 3), .int z7, .ref a18]) (by rw [hr19]; rfl) ?_
        obtain ⟨n21, hT20, h⟩ := h
        obtain ⟨j22, hj23, h⟩ := h
        refine cr_is (C2 := (csi (csi C11 t 3 ((cI C11 t 3) + 1)) a18 j22 (cI C11 t 3))) dX6_readBinding_72 hT20 hj23 rfl ?_
        refine ag_aload_n dX6_readBinding_73 rfl (Or.inr ⟨_, rfl⟩) ?_
        refine ag_iload_n dX6_readBinding_74 rfl ?_
        refine cr_callV (as := [.int p1]) (rest := []) dX6_readBinding_75 me_X6_readPart mi_X6_readPart lk_6_61 hT14 rfl rfl (Nat.le_of_ble_eq_true rfl) ?_
        refine cM.mono h ?_
        rintro v C24 ⟨z25, rfl, hL26, h⟩
        have hT27 := cT.le (C := (csi (csi C11 t 3 ((cI C11 t 3) + 1)) a18 j22 (cI C11 t 3))) hT14 hL26
        have hT28 := cT.le (C := (csi (csi C11 t 3 ((cI C11 t 3) + 1)) a18 j22 (cI C11 t 3))) hT20 hL26
        show cG _ _ _ _ _ _ [va_rf z25] _
        refine ag_astore (lv2 := [some (.ref t), some (.int p0), some (.int p1), some (.int z7), some (va_rf z12), some (.int (cI C11 t 3)), some (va_rf z25)]) dX6_readBinding_78 (Nat.le_of_ble_eq_true rfl) rfl (va_rf_or _) ?_
        refine ag_aload_n dX6_readBinding_80 rfl (Or.inr ⟨_, rfl⟩) ?_
        refine cr_get (v := va_rf (cR C24 t 2)) dX6_readBinding_81 fw_6_19 hT27 rfl ?_
        refine ag_iload_n dX6_readBinding_84 rfl ?_
        refine ag_iconst (v := (-1)) dX6_readBinding_85 rfl ?_
        obtain ⟨a29, hr30, h⟩ := h
        refine cr_stk (st' := [.int (-1), .int z7, .ref a29]) (by rw [hr30]; rfl) ?_
        obtain ⟨n32, hT31, h⟩ := h
        obtain ⟨j33, hj34, h⟩ := h
        refine cr_is (C2 := (csi C24 a29 j33 (-1))) dX6_readBinding_86 hT31 hj34 rfl ?_
        refine ag_aload dX6_readBinding_87 rfl (va_rf_or _) ?_
        refine cr_ifnonnull (tgt := 96) dX6_readBinding_89 rfl (fun a36 hr35 => ?_) (fun hr35 => ?_)
        · have h := h.2 a36 hr35
          refine ag_aload_n dX6_readBinding_96 rfl (Or.inr ⟨_, rfl⟩) ?_
          refine ag_bipush (v := 58) dX6_readBinding_97 (by decide) ?_
          refine ag_iload_n dX6_readBinding_99 rfl ?_
          refine ag_iload dX6_readBinding_100 rfl ?_
          refine ag_aload dX6_readBinding_102 rfl (va_rf_or _) ?_
          refine ag_aload dX6_readBinding_104 rfl (va_rf_or _) ?_
          refine ag_null dX6_readBinding_106 ?_
          refine cr_callV (as := [.int 58, .int p0, .int (cI C11 t 3), va_rf z12, va_rf z25, .null]) (rest := []) dX6_readBinding_107 me_X6_newNode mi_X6_newNode lk_6_75 hT27 rfl rfl (Nat.le_of_ble_eq_true rfl) ?_
          refine cM.mono h ?_
          rintro v C37 ⟨z38, rfl, hL39, h⟩
          have hT40 := cT.le (C := (csi C24 a29 j33 (-1))) hT27 hL39
          have hT41 := cT.le (C := (csi C24 a29 j33 (-1))) hT28 hL39
          have hT42 := cT.le (C := (csi C24 a29 j33 (-1))) hT31 hL39
          show cG _ _ _ _ _ _ [va_rf z38] _
          refine cr_stk (st' := [va_rf z38]) rfl ?_
          exact cr_aret dX6_readBinding_110 ⟨_, rfl, Or.inl ⟨_, rfl⟩⟩ ⟨_, rfl, _, rfl, h⟩
        · have h := h.1 hr35
          refine ag_null dX6_readBinding_92 ?_
          refine ag_goto (tgt := 110) dX6_readBinding_93 rfl ?_
          refine cr_stk (st' := [va_rf none]) rfl ?_
          exact cr_aret dX6_readBinding_110 ⟨_, rfl, Or.inl ⟨_, rfl⟩⟩ ⟨_, rfl, _, rfl, h⟩
      · have h := h.2 hc17
        refine ag_null dX6_readBinding_47 ?_
        refine cr_stk (st' := [va_rf none]) rfl ?_
        exact cr_aret dX6_readBinding_48 ⟨_, rfl, Or.inl ⟨_, rfl⟩⟩ ⟨_, rfl, _, rfl, h⟩
  · have h := h.2 hc10
    refine ag_null dX6_readBinding_14 ?_
    refine cr_stk (st' := [va_rf none]) rfl ?_
    exact cr_aret dX6_readBinding_15 ⟨_, rfl, Or.inl ⟨_, rfl⟩⟩ ⟨_, rfl, _, rfl, h⟩
theorem dX6_newNode_0 : decode cX6_newNode 0 = .ok (.aload_n 0, 1) := by decide +kernel
theorem dX6_newNode_1 : decode cX6_newNode 1 = .ok (.getfield 27, 3) := by decide +kernel
theorem dX6_newNode_4 : decode cX6_newNode 4 = .ok (.istore 7, 2) := by decide +kernel
theorem dX6_newNode_6 : decode cX6_newNode 6 = .ok (.aload_n 0, 1) := by decide +kernel
theorem dX6_newNode_7 : decode cX6_newNode 7 = .ok (.dup, 1) := by decide +kernel
theorem dX6_newNode_8 : decode cX6_newNode 8 = .ok (.getfield 27, 3) := by decide +kernel
theorem dX6_newNode_11 : decode cX6_newNode 11 = .ok (.iconst 1, 1) := by decide +kernel
theorem dX6_newNode_12 : decode cX6_newNode 12 = .ok (.iadd, 1) := by decide +kernel
theorem dX6_newNode_13 : decode cX6_newNode 13 = .ok (.putfield 27, 3) := by decide +kernel
theorem dX6_newNode_16 : decode cX6_newNode 16 = .ok (.new 90, 3) := by decide +kernel
theorem dX6_newNode_19 : decode cX6_newNode 19 = .ok (.dup, 1) := by decide +kernel
theorem dX6_newNode_20 : decode cX6_newNode 20 = .ok (.iload_n 1, 1) := by decide +kernel
theorem dX6_newNode_21 : decode cX6_newNode 21 = .ok (.iload_n 2, 1) := by decide +kernel
theorem dX6_newNode_22 : decode cX6_newNode 22 = .ok (.iload 7, 2) := by decide +kernel
theorem dX6_newNode_24 : decode cX6_newNode 24 = .ok (.iload_n 3, 1) := by decide +kernel
theorem dX6_newNode_25 : decode cX6_newNode 25 = .ok (.aload 4, 2) := by decide +kernel
theorem dX6_newNode_27 : decode cX6_newNode 27 = .ok (.aload 5, 2) := by decide +kernel
theorem dX6_newNode_29 : decode cX6_newNode 29 = .ok (.aload 6, 2) := by decide +kernel
theorem dX6_newNode_31 : decode cX6_newNode 31 = .ok (.invokespecial 92, 3) := by decide +kernel
theorem dX6_newNode_34 : decode cX6_newNode 34 = .ok (.areturn, 1) := by decide +kernel
set_option maxRecDepth 20000 in
set_option maxHeartbeats 4000000 in
theorem w_X6_newNode {c : cX} {d : Nat} {C : cS} {K : Option Value → cS → Prop} (t : Nat) (p0 : Int32) (p1 : Int32) (p2 : Int32) (p3 : Option Nat) (p4 : Option Nat) (p5 : Option Nat) (hT0 : cT C t 6 8) (h : cM c d eX5_init (.ref ((csi C t 4 ((cI C t 4) + 1)).1) :: [.int p0, .int p1, .int (cI C t 4), .int p2, va_rf p3, va_rf p4, va_rf p5]) (cnw (csi C t 4 ((cI C t 4) + 1)) 5 7) (fun v C3 => v = none ∧ cle (cnw (csi C t 4 ((cI C t 4) + 1)) 5 7) C3 ∧ (K (some (va_rf (some ((csi C t 4 ((cI C t 4) + 1)).1)))) C3))) : cM c (d + 1) eX6_newNode [.ref t, .int p0, .int p1, .int p2, va_rf p3, va_rf p4, va_rf p5] C K := by
  refine cM.of2 (lv := [some (.ref t), some (.int p0), some (.int p1), some (.int p2), some (va_rf p3), some (va_rf p4), some (va_rf p5), none]) (by decide) (by simp only [am_sl_i, am_sl_r, am_sl_l, am_sl_o, am_sl_n]; exact Nat.le_of_ble_eq_true rfl) (by simp only [am_en, am_sl_i, am_sl_r, am_sl_l, am_sl_o, am_sl_n]; rfl) ?_
  refine ag_aload_n dX6_newNode_0 rfl (Or.inr ⟨_, rfl⟩) ?_
  refine cr_get (v := .int (cI C t 4)) dX6_newNode_1 fw_6_27 hT0 rfl ?_
  refine ag_istore (lv2 := [some (.ref t), some (.int p0), some (.int p1), some (.int p2), some (va_rf p3), some (va_rf p4), some (va_rf p5), some (.int (cI C t 4))]) dX6_newNode_4 (Nat.le_of_ble_eq_true rfl) (by simp [am_st1, am_kill, va_rf_cat] <;> rfl) ?_
  refine ag_aload_n dX6_newNode_6 rfl (Or.inr ⟨_, rfl⟩) ?_
  refine ag_dup dX6_newNode_7 rfl ?_
  refine cr_get (v := .int (cI C t 4)) dX6_newNode_8 fw_6_27 hT0 rfl ?_
  refine ag_iconst (v := 1) dX6_newNode_11 rfl ?_
  refine ag_iadd dX6_newNode_12 rfl ?_
  refine cr_pi (C2 := (csi C t 4 ((cI C t 4) + 1))) dX6_newNode_13 pw_6_27 rfl hT0 (fun _ => ⟨rfl, rfl⟩) rfl ?_
  refine cr_new (C2 := (cnw (csi C t 4 ((cI C t 4) + 1)) 5 7)) dX6_newNode_16 nw_6_90 nf_5 rfl ?_
  have hT1 := cT_nw (C := (csi C t 4 ((cI C t 4) + 1))) (t := 5) (n := 7) hT0
  have hT2 := cT.le (C := (csi C t 4 ((cI C t 4) + 1))) hT0 (cle_nw (csi C t 4 ((cI C t 4) + 1)) 5 7)
  refine ag_dup dX6_newNode_19 rfl ?_
  refine ag_iload_n dX6_newNode_20 rfl ?_
  refine ag_iload_n dX6_newNode_21 rfl ?_
  refine ag_iload dX6_newNode_22 rfl ?_
  refine ag_iload_n dX6_newNode_24 rfl ?_
  refine ag_aload dX6_newNode_25 rfl (va_rf_or _) ?_
  refine ag_aload dX6_newNode_27 rfl (va_rf_or _) ?_
  refine ag_aload dX6_newNode_29 rfl (va_rf_or _) ?_
  refine cr_callI (as := [.int p0, .int p1, .int (cI C t 4), .int p2, va_rf p3, va_rf p4, va_rf p5]) (rest := [.ref ((csi C t 4 ((cI C t 4) + 1)).1)]) dX6_newNode_31 me_X5_init mn_X5_init lk_6_92 rfl rfl (Nat.le_of_ble_eq_true rfl) ?_
  refine cM.mono h ?_
  rintro v C3 ⟨rfl, hL5, h⟩
  have hT6 := cT.le (C := (cnw (csi C t 4 ((cI C t 4) + 1)) 5 7)) hT2 hL5
  have hT7 := cT.le (C := (cnw (csi C t 4 ((cI C t 4) + 1)) 5 7)) hT1 hL5
  show cG _ _ _ _ _ _ [.ref ((csi C t 4 ((cI C t 4) + 1)).1)] _
  refine cr_stk (st' := [va_rf (some ((csi C t 4 ((cI C t 4) + 1)).1))]) rfl ?_
  exact cr_aret dX6_newNode_34 ⟨_, rfl, Or.inl ⟨_, rfl⟩⟩ ⟨_, rfl, _, rfl, h⟩
theorem dX6_peek_0 : decode cX6_peek 0 = .ok (.aload_n 0, 1) := by decide +kernel
theorem dX6_peek_1 : decode cX6_peek 1 = .ok (.getfield 9, 3) := by decide +kernel
theorem dX6_peek_4 : decode cX6_peek 4 = .ok (.aload_n 0, 1) := by decide +kernel
theorem dX6_peek_5 : decode cX6_peek 5 = .ok (.getfield 30, 3) := by decide +kernel
theorem dX6_peek_8 : decode cX6_peek 8 = .ok (.invokevirtual 95, 3) := by decide +kernel
theorem dX6_peek_11 : decode cX6_peek 11 = .ok (.ireturn, 1) := by decide +kernel
set_option maxRecDepth 20000 in
set_option maxHeartbeats 4000000 in
theorem w_X6_peek {c : cX} {d : Nat} {C : cS} {K : Option Value → cS → Prop} (t : Nat) (h : cT C t 6 8 ∧ (∃ a2 : Nat, (cR C t 0) = some a2 ∧ (cT C a2 7 2 ∧ (cM c d eX7_characterAt (.ref a2 :: [.int (cI C t 5)]) C (fun v C4 => ∃ z5 : Int32, v = some (.int z5) ∧ cle C C4 ∧ (K (some (.int z5)) C4)))))) : cM c (d + 1) eX6_peek [.ref t] C K := by
  refine cM.of2 (lv := [some (.ref t)]) (by decide) (Nat.le_of_ble_eq_true rfl) rfl ?_
  refine ag_aload_n dX6_peek_0 rfl (Or.inr ⟨_, rfl⟩) ?_
  obtain ⟨hT1, h⟩ := h
  refine cr_get (v := va_rf (cR C t 0)) dX6_peek_1 fw_6_9 hT1 rfl ?_
  refine ag_aload_n dX6_peek_4 rfl (Or.inr ⟨_, rfl⟩) ?_
  refine cr_get (v := .int (cI C t 5)) dX6_peek_5 fw_6_30 hT1 rfl ?_
  obtain ⟨a2, hr3, h⟩ := h
  refine cr_stk (st' := [.int (cI C t 5), .ref a2]) (by rw [hr3]; rfl) ?_
  obtain ⟨hT7, h⟩ := h
  refine cr_callV (as := [.int (cI C t 5)]) (rest := []) dX6_peek_8 me_X7_characterAt mi_X7_characterAt lk_6_95 hT7 rfl rfl (Nat.le_of_ble_eq_true rfl) ?_
  refine cM.mono h ?_
  rintro v C4 ⟨z5, rfl, hL6, h⟩
  have hT8 := cT.le (C := C) hT1 hL6
  have hT9 := cT.le (C := C) hT7 hL6
  show cG _ _ _ _ _ _ [.int z5] _
  exact ag_ret (v := some (.int z5)) dX6_peek_11 ⟨_, rfl, rfl⟩ ⟨_, rfl, _, rfl, h⟩ rfl
theorem dX6_slotOf_0 : decode cX6_slotOf 0 = .ok (.iload_n 1, 1) := by decide +kernel
theorem dX6_slotOf_1 : decode cX6_slotOf 1 = .ok (.bipush 97, 2) := by decide +kernel
theorem dX6_slotOf_3 : decode cX6_slotOf 3 = .ok (.if_icmp .lt 21, 3) := by decide +kernel
theorem dX6_slotOf_6 : decode cX6_slotOf 6 = .ok (.iload_n 1, 1) := by decide +kernel
theorem dX6_slotOf_7 : decode cX6_slotOf 7 = .ok (.bipush 105, 2) := by decide +kernel
theorem dX6_slotOf_9 : decode cX6_slotOf 9 = .ok (.if_icmp .ge 15, 3) := by decide +kernel
theorem dX6_slotOf_12 : decode cX6_slotOf 12 = .ok (.aload_n 0, 1) := by decide +kernel
theorem dX6_slotOf_13 : decode cX6_slotOf 13 = .ok (.getfield 19, 3) := by decide +kernel
theorem dX6_slotOf_16 : decode cX6_slotOf 16 = .ok (.iload_n 1, 1) := by decide +kernel
theorem dX6_slotOf_17 : decode cX6_slotOf 17 = .ok (.bipush 97, 2) := by decide +kernel
theorem dX6_slotOf_19 : decode cX6_slotOf 19 = .ok (.isub, 1) := by decide +kernel
theorem dX6_slotOf_20 : decode cX6_slotOf 20 = .ok (.iaload, 1) := by decide +kernel
theorem dX6_slotOf_21 : decode cX6_slotOf 21 = .ok (.goto 4, 3) := by decide +kernel
theorem dX6_slotOf_24 : decode cX6_slotOf 24 = .ok (.iconst (-1), 1) := by decide +kernel
theorem dX6_slotOf_25 : decode cX6_slotOf 25 = .ok (.ireturn, 1) := by decide +kernel
set_option maxRecDepth 20000 in
set_option maxHeartbeats 4000000 in
theorem w_X6_slotOf {c : cX} {d : Nat} {C : cS} {K : Option Value → cS → Prop} (t : Nat) (p0 : Int32) (h : (p0 < 97 → (K (some (.int (-1))) C)) ∧ (¬ p0 < 97 → ((105 ≤ p0 → (K (some (.int (-1))) C)) ∧ (¬ 105 ≤ p0 → (cT C t 6 8 ∧ (∃ a4 : Nat, (cR C t 2) = some a4 ∧ (∃ n7 : Nat, cT C a4 20 n7 ∧ (∃ j8 : Nat, am_ix (p0 - 97) j8 n7 ∧ (K (some (.int (cI C a4 j8))) C))))))))) : cM c d eX6_slotOf [.ref t, .int p0] C K := by
  refine cM.of2 (lv := [some (.ref t), some (.int p0)]) (by decide) (Nat.le_of_ble_eq_true rfl) rfl ?_
  refine ag_iload_n dX6_slotOf_0 rfl ?_
  refine ag_bipush (v := 97) dX6_slotOf_1 (by decide) ?_
  refine ag_icmp_lt (tgt := 24) dX6_slotOf_3 rfl (fun hc1 => ?_) (fun hc1 => ?_)
  · have h := h.1 hc1
    refine ag_iconst (v := (-1)) dX6_slotOf_24 rfl ?_
    exact ag_ret (v := some (.int (-1))) dX6_slotOf_25 ⟨_, rfl, rfl⟩ ⟨_, rfl, _, rfl, h⟩ rfl
  · have h := h.2 hc1
    refine ag_iload_n dX6_slotOf_6 rfl ?_
    refine ag_bipush (v := 105) dX6_slotOf_7 (by decide) ?_
    refine ag_icmp_ge (tgt := 24) dX6_slotOf_9 rfl (fun hc2 => ?_) (fun hc2 => ?_)
    · have h := h.1 hc2
      refine ag_iconst (v := (-1)) dX6_slotOf_24 rfl ?_
      exact ag_ret (v := some (.int (-1))) dX6_slotOf_25 ⟨_, rfl, rfl⟩ ⟨_, rfl, _, rfl, h⟩ rfl
    · have h := h.2 hc2
      refine ag_aload_n dX6_slotOf_12 rfl (Or.inr ⟨_, rfl⟩) ?_
      obtain ⟨hT3, h⟩ := h
      refine cr_get (v := va_rf (cR C t 2)) dX6_slotOf_13 fw_6_19 hT3 rfl ?_
      refine ag_iload_n dX6_slotOf_16 rfl ?_
      refine ag_bipush (v := 97) dX6_slotOf_17 (by decide) ?_
      refine ag_isub dX6_slotOf_19 rfl ?_
      obtain ⟨a4, hr5, h⟩ := h
      refine cr_stk (st' := [.int (p0 - 97), .ref a4]) (by rw [hr5]; rfl) ?_
      obtain ⟨n7, hT6, h⟩ := h
      obtain ⟨j8, hj9, h⟩ := h
      refine cr_il (v := (cI C a4 j8)) dX6_slotOf_20 hT6 hj9 rfl ?_
      refine ag_goto (tgt := 25) dX6_slotOf_21 rfl ?_
      exact ag_ret (v := some (.int (cI C a4 j8))) dX6_slotOf_25 ⟨_, rfl, rfl⟩ ⟨_, rfl, _, rfl, h⟩ rfl
theorem dX6_freeName_0 : decode cX6_freeName 0 = .ok (.iload_n 1, 1) := by decide +kernel
theorem dX6_freeName_1 : decode cX6_freeName 1 = .ok (.bipush 97, 2) := by decide +kernel
theorem dX6_freeName_3 : decode cX6_freeName 3 = .ok (.isub, 1) := by decide +kernel
theorem dX6_freeName_4 : decode cX6_freeName 4 = .ok (.istore_n 2, 1) := by decide +kernel
theorem dX6_freeName_5 : decode cX6_freeName 5 = .ok (.iload_n 2, 1) := by decide +kernel
theorem dX6_freeName_6 : decode cX6_freeName 6 = .ok (.iconst 2, 1) := by decide +kernel
theorem dX6_freeName_7 : decode cX6_freeName 7 = .ok (.if_icmp .lt 23, 3) := by decide +kernel
theorem dX6_freeName_10 : decode cX6_freeName 10 = .ok (.iload_n 2, 1) := by decide +kernel
theorem dX6_freeName_11 : decode cX6_freeName 11 = .ok (.bipush 8, 2) := by decide +kernel
theorem dX6_freeName_13 : decode cX6_freeName 13 = .ok (.if_icmp .ge 17, 3) := by decide +kernel
theorem dX6_freeName_16 : decode cX6_freeName 16 = .ok (.aload_n 0, 1) := by decide +kernel
theorem dX6_freeName_17 : decode cX6_freeName 17 = .ok (.getfield 19, 3) := by decide +kernel
theorem dX6_freeName_20 : decode cX6_freeName 20 = .ok (.iload_n 2, 1) := by decide +kernel
theorem dX6_freeName_21 : decode cX6_freeName 21 = .ok (.iaload, 1) := by decide +kernel
theorem dX6_freeName_22 : decode cX6_freeName 22 = .ok (.iconst (-1), 1) := by decide +kernel
theorem dX6_freeName_23 : decode cX6_freeName 23 = .ok (.if_icmp .ne 7, 3) := by decide +kernel
theorem dX6_freeName_26 : decode cX6_freeName 26 = .ok (.iload_n 2, 1) := by decide +kernel
theorem dX6_freeName_27 : decode cX6_freeName 27 = .ok (.goto 4, 3) := by decide +kernel
theorem dX6_freeName_30 : decode cX6_freeName 30 = .ok (.iconst (-1), 1) := by decide +kernel
theorem dX6_freeName_31 : decode cX6_freeName 31 = .ok (.ireturn, 1) := by decide +kernel
set_option maxRecDepth 20000 in
set_option maxHeartbeats 4000000 in
theorem w_X6_freeName {c : cX} {d : Nat} {C : cS} {K : Option Value → cS → Prop} (t : Nat) (p0 : Int32) (h : ((p0 - 97) < 2 → (K (some (.int (-1))) C)) ∧ (¬ (p0 - 97) < 2 → ((8 ≤ (p0 - 97) → (K (some (.int (-1))) C)) ∧ (¬ 8 ≤ (p0 - 97) → (cT C t 6 8 ∧ (∃ a4 : Nat, (cR C t 2) = some a4 ∧ (∃ n7 : Nat, cT C a4 20 n7 ∧ (∃ j8 : Nat, am_ix (p0 - 97) j8 n7 ∧ ((¬ (cI C a4 j8) = (-1) → (K (some (.int (-1))) C)) ∧ ((cI C a4 j8) = (-1) → (K (some (.int (p0 - 97))) C))))))))))) : cM c d eX6_freeName [.ref t, .int p0] C K := by
  refine cM.of2 (lv := [some (.ref t), some (.int p0), none]) (by decide) (Nat.le_of_ble_eq_true rfl) rfl ?_
  refine ag_iload_n dX6_freeName_0 rfl ?_
  refine ag_bipush (v := 97) dX6_freeName_1 (by decide) ?_
  refine ag_isub dX6_freeName_3 rfl ?_
  refine ag_istore_n (lv2 := [some (.ref t), some (.int p0), some (.int (p0 - 97))]) dX6_freeName_4 (Nat.le_of_ble_eq_true rfl) rfl ?_
  refine ag_iload_n dX6_freeName_5 rfl ?_
  refine ag_iconst (v := 2) dX6_freeName_6 rfl ?_
  refine ag_icmp_lt (tgt := 30) dX6_freeName_7 rfl (fun hc1 => ?_) (fun hc1 => ?_)
  · have h := h.1 hc1
    refine ag_iconst (v := (-1)) dX6_freeName_30 rfl ?_
    exact ag_ret (v := some (.int (-1))) dX6_freeName_31 ⟨_, rfl, rfl⟩ ⟨_, rfl, _, rfl, h⟩ rfl
  · have h := h.2 hc1
    refine ag_iload_n dX6_freeName_10 rfl ?_
    refine ag_bipush (v := 8) dX6_freeName_11 (by decide) ?_
    refine ag_icmp_ge (tgt := 30) dX6_freeName_13 rfl (fun hc2 => ?_) (fun hc2 => ?_)
    · have h := h.1 hc2
      refine ag_iconst (v := (-1)) dX6_freeName_30 rfl ?_
      exact ag_ret (v := some (.int (-1))) dX6_freeName_31 ⟨_, rfl, rfl⟩ ⟨_, rfl, _, rfl, h⟩ rfl
    · have h := h.2 hc2
      refine ag_aload_n dX6_freeName_16 rfl (Or.inr ⟨_, rfl⟩) ?_
      obtain ⟨hT3, h⟩ := h
      refine cr_get (v := va_rf (cR C t 2)) dX6_freeName_17 fw_6_19 hT3 rfl ?_
      refine ag_iload_n dX6_freeName_20 rfl ?_
      obtain ⟨a4, hr5, h⟩ := h
      refine cr_stk (st' := [.int (p0 - 97), .ref a4]) (by rw [hr5]; rfl) ?_
      obtain ⟨n7, hT6, h⟩ := h
      obtain ⟨j8, hj9, h⟩ := h
      refine cr_il (v := (cI C a4 j8)) dX6_freeName_21 hT6 hj9 rfl ?_
      refine ag_iconst (v := (-1)) dX6_freeName_22 rfl ?_
      refine ag_icmp_ne (tgt := 30) dX6_freeName_23 rfl (fun hc10 => ?_) (fun hc10 => ?_)
      · have h := h.1 hc10
        refine ag_iconst (v := (-1)) dX6_freeName_30 rfl ?_
        exact ag_ret (v := some (.int (-1))) dX6_freeName_31 ⟨_, rfl, rfl⟩ ⟨_, rfl, _, rfl, h⟩ rfl
      · have h := h.2 hc10
        refine ag_iload_n dX6_freeName_26 rfl ?_
        refine ag_goto (tgt := 31) dX6_freeName_27 rfl ?_
        exact ag_ret (v := some (.int (p0 - 97))) dX6_freeName_31 ⟨_, rfl, rfl⟩ ⟨_, rfl, _, rfl, h⟩ rfl
theorem dX6_hasFreeName_0 : decode cX6_hasFreeName 0 = .ok (.iconst 2, 1) := by decide +kernel
theorem dX6_hasFreeName_1 : decode cX6_hasFreeName 1 = .ok (.istore_n 1, 1) := by decide +kernel
theorem dX6_hasFreeName_2 : decode cX6_hasFreeName 2 = .ok (.iload_n 1, 1) := by decide +kernel
theorem dX6_hasFreeName_3 : decode cX6_hasFreeName 3 = .ok (.bipush 8, 2) := by decide +kernel
theorem dX6_hasFreeName_5 : decode cX6_hasFreeName 5 = .ok (.if_icmp .ge 21, 3) := by decide +kernel
theorem dX6_hasFreeName_8 : decode cX6_hasFreeName 8 = .ok (.aload_n 0, 1) := by decide +kernel
theorem dX6_hasFreeName_9 : decode cX6_hasFreeName 9 = .ok (.getfield 19, 3) := by decide +kernel
theorem dX6_hasFreeName_12 : decode cX6_hasFreeName 12 = .ok (.iload_n 1, 1) := by decide +kernel
theorem dX6_hasFreeName_13 : decode cX6_hasFreeName 13 = .ok (.iaload, 1) := by decide +kernel
theorem dX6_hasFreeName_14 : decode cX6_hasFreeName 14 = .ok (.iconst (-1), 1) := by decide +kernel
theorem dX6_hasFreeName_15 : decode cX6_hasFreeName 15 = .ok (.if_icmp .ne 5, 3) := by decide +kernel
theorem dX6_hasFreeName_18 : decode cX6_hasFreeName 18 = .ok (.iconst 1, 1) := by decide +kernel
theorem dX6_hasFreeName_19 : decode cX6_hasFreeName 19 = .ok (.ireturn, 1) := by decide +kernel
theorem dX6_hasFreeName_20 : decode cX6_hasFreeName 20 = .ok (.iinc 1 1, 3) := by decide +kernel
theorem dX6_hasFreeName_23 : decode cX6_hasFreeName 23 = .ok (.goto (-21), 3) := by decide +kernel
theorem dX6_hasFreeName_26 : decode cX6_hasFreeName 26 = .ok (.iconst 0, 1) := by decide +kernel
theorem dX6_hasFreeName_27 : decode cX6_hasFreeName 27 = .ok (.ireturn, 1) := by decide +kernel
set_option maxRecDepth 20000 in
set_option maxHeartbeats 4000000 in
theorem w_X6_hasFreeName {c : cX} {d : Nat} {C : cS} {K : Option Value → cS → Prop} (t : Nat) (h : cG c eX6_hasFreeName d (cQ K) 2 [some (.ref t), some (.int 2)] [] C) : cM c d eX6_hasFreeName [.ref t] C K := by
  refine cM.of2 (lv := [some (.ref t), none]) (by decide) (Nat.le_of_ble_eq_true rfl) rfl ?_
  refine ag_iconst (v := 2) dX6_hasFreeName_0 rfl ?_
  refine ag_istore_n (lv2 := [some (.ref t), some (.int 2)]) dX6_hasFreeName_1 (Nat.le_of_ble_eq_true rfl) rfl ?_
  exact h
set_option maxRecDepth 20000 in
set_option maxHeartbeats 4000000 in
theorem w_X6_hasFreeName_2 {c : cX} {d : Nat} {C : cS} {K : Option Value → cS → Prop} (t : Nat) (v1 : Int32) (h : (8 ≤ v1 → (K (some (.int 0)) C)) ∧ (¬ 8 ≤ v1 → (cT C t 6 8 ∧ (∃ a3 : Nat, (cR C t 2) = some a3 ∧ (∃ n6 : Nat, cT C a3 20 n6 ∧ (∃ j7 : Nat, am_ix v1 j7 n6 ∧ ((¬ (cI C a3 j7) = (-1) → (cG c eX6_hasFreeName d (cQ K) 2 [some (.ref t), some (.int (v1 + 1))] [] C)) ∧ ((cI C a3 j7) = (-1) → (K (some (.int 1)) C))))))))) : cG c eX6_hasFreeName d (cQ K) 2 [some (.ref t), some (.int v1)] [] C := by
  refine ag_iload_n dX6_hasFreeName_2 rfl ?_
  refine ag_bipush (v := 8) dX6_hasFreeName_3 (by decide) ?_
  refine ag_icmp_ge (tgt := 26) dX6_hasFreeName_5 rfl (fun hc1 => ?_) (fun hc1 => ?_)
  · have h := h.1 hc1
    refine ag_iconst (v := 0) dX6_hasFreeName_26 rfl ?_
    exact ag_ret (v := some (.int 0)) dX6_hasFreeName_27 ⟨_, rfl, rB_n (Or.inl rfl)⟩ ⟨_, rfl, _, rfl, h⟩ rfl
  · have h := h.2 hc1
    refine ag_aload_n dX6_hasFreeName_8 rfl (Or.inr ⟨_, rfl⟩) ?_
    obtain ⟨hT2, h⟩ := h
    refine cr_get (v := va_rf (cR C t 2)) dX6_hasFreeName_9 fw_6_19 hT2 rfl ?_
    refine ag_iload_n dX6_hasFreeName_12 rfl ?_
    obtain ⟨a3, hr4, h⟩ := h
    refine cr_stk (st' := [.int v1, .ref a3]) (by rw [hr4]; rfl) ?_
    obtain ⟨n6, hT5, h⟩ := h
    obtain ⟨j7, hj8, h⟩ := h
    refine cr_il (v := (cI C a3 j7)) dX6_hasFreeName_13 hT5 hj8 rfl ?_
    refine ag_iconst (v := (-1)) dX6_hasFreeName_14 rfl ?_
    refine ag_icmp_ne (tgt := 20) dX6_hasFreeName_15 rfl (fun hc9 => ?_) (fun hc9 => ?_)
    · have h := h.1 hc9
      refine ag_iinc (v2 := (v1 + 1)) (lv2 := [some (.ref t), some (.int (v1 + 1))]) dX6_hasFreeName_20 rfl rfl rfl ?_
      refine ag_goto (tgt := 2) dX6_hasFreeName_23 rfl ?_
      exact h
    · have h := h.2 hc9
      refine ag_iconst (v := 1) dX6_hasFreeName_18 rfl ?_
      exact ag_ret (v := some (.int 1)) dX6_hasFreeName_19 ⟨_, rfl, rB_n (Or.inr rfl)⟩ ⟨_, rfl, _, rfl, h⟩ rfl
theorem dX6_isConstant_0 : decode cX6_isConstant 0 = .ok (.iload_n 0, 1) := by decide +kernel
theorem dX6_isConstant_1 : decode cX6_isConstant 1 = .ok (.bipush 48, 2) := by decide +kernel
theorem dX6_isConstant_3 : decode cX6_isConstant 3 = .ok (.if_icmp .lt 9, 3) := by decide +kernel
theorem dX6_isConstant_6 : decode cX6_isConstant 6 = .ok (.iload_n 0, 1) := by decide +kernel
theorem dX6_isConstant_7 : decode cX6_isConstant 7 = .ok (.bipush 57, 2) := by decide +kernel
theorem dX6_isConstant_9 : decode cX6_isConstant 9 = .ok (.if_icmp .le 21, 3) := by decide +kernel
theorem dX6_isConstant_12 : decode cX6_isConstant 12 = .ok (.iload_n 0, 1) := by decide +kernel
theorem dX6_isConstant_13 : decode cX6_isConstant 13 = .ok (.bipush 35, 2) := by decide +kernel
theorem dX6_isConstant_15 : decode cX6_isConstant 15 = .ok (.if_icmp .eq 15, 3) := by decide +kernel
theorem dX6_isConstant_18 : decode cX6_isConstant 18 = .ok (.iload_n 0, 1) := by decide +kernel
theorem dX6_isConstant_19 : decode cX6_isConstant 19 = .ok (.bipush 126, 2) := by decide +kernel
theorem dX6_isConstant_21 : decode cX6_isConstant 21 = .ok (.if_icmp .eq 9, 3) := by decide +kernel
theorem dX6_isConstant_24 : decode cX6_isConstant 24 = .ok (.iload_n 0, 1) := by decide +kernel
theorem dX6_isConstant_25 : decode cX6_isConstant 25 = .ok (.bipush 46, 2) := by decide +kernel
theorem dX6_isConstant_27 : decode cX6_isConstant 27 = .ok (.if_icmp .ne 7, 3) := by decide +kernel
theorem dX6_isConstant_30 : decode cX6_isConstant 30 = .ok (.iconst 1, 1) := by decide +kernel
theorem dX6_isConstant_31 : decode cX6_isConstant 31 = .ok (.goto 4, 3) := by decide +kernel
theorem dX6_isConstant_34 : decode cX6_isConstant 34 = .ok (.iconst 0, 1) := by decide +kernel
theorem dX6_isConstant_35 : decode cX6_isConstant 35 = .ok (.ireturn, 1) := by decide +kernel
set_option maxRecDepth 20000 in
set_option maxHeartbeats 4000000 in
theorem w_X6_isConstant {c : cX} {d : Nat} {C : cS} {K : Option Value → cS → Prop} (p0 : Int32) (h : (p0 < 48 → (cG c eX6_isConstant d (cQ K) 12 [some (.int p0)] [] C)) ∧ (¬ p0 < 48 → ((p0 ≤ 57 → (K (some (.int 1)) C)) ∧ (¬ p0 ≤ 57 → (cG c eX6_isConstant d (cQ K) 12 [some (.int p0)] [] C))))) : cM c d eX6_isConstant [.int p0] C K := by
  refine cM.of2 (lv := [some (.int p0)]) (by decide) (Nat.le_of_ble_eq_true rfl) rfl ?_
  refine ag_iload_n dX6_isConstant_0 rfl ?_
  refine ag_bipush (v := 48) dX6_isConstant_1 (by decide) ?_
  refine ag_icmp_lt (tgt := 12) dX6_isConstant_3 rfl (fun hc1 => ?_) (fun hc1 => ?_)
  · have h := h.1 hc1
    exact h
  · have h := h.2 hc1
    refine ag_iload_n dX6_isConstant_6 rfl ?_
    refine ag_bipush (v := 57) dX6_isConstant_7 (by decide) ?_
    refine ag_icmp_le (tgt := 30) dX6_isConstant_9 rfl (fun hc2 => ?_) (fun hc2 => ?_)
    · have h := h.1 hc2
      refine ag_iconst (v := 1) dX6_isConstant_30 rfl ?_
      refine ag_goto (tgt := 35) dX6_isConstant_31 rfl ?_
      exact ag_ret (v := some (.int 1)) dX6_isConstant_35 ⟨_, rfl, rB_n (Or.inr rfl)⟩ ⟨_, rfl, _, rfl, h⟩ rfl
    · have h := h.2 hc2
      exact h
set_option maxRecDepth 20000 in
set_option maxHeartbeats 4000000 in
theorem w_X6_isConstant_12 {c : cX} {d : Nat} {C : cS} {K : Option Value → cS → Prop} (v0 : Int32) (h : (v0 = 35 → (K (some (.int 1)) C)) ∧ (¬ v0 = 35 → ((v0 = 126 → (K (some (.int 1)) C)) ∧ (¬ v0 = 126 → ((¬ v0 = 46 → (K (some (.int 0)) C)) ∧ (v0 = 46 → (K (some (.int 1)) C))))))) : cG c eX6_isConstant d (cQ K) 12 [some (.int v0)] [] C := by
  refine ag_iload_n dX6_isConstant_12 rfl ?_
  refine ag_bipush (v := 35) dX6_isConstant_13 (by decide) ?_
  refine ag_icmp_eq (tgt := 30) dX6_isConstant_15 rfl (fun hc1 => ?_) (fun hc1 => ?_)
  · have h := h.1 hc1
    refine ag_iconst (v := 1) dX6_isConstant_30 rfl ?_
    refine ag_goto (tgt := 35) dX6_isConstant_31 rfl ?_
    exact ag_ret (v := some (.int 1)) dX6_isConstant_35 ⟨_, rfl, rB_n (Or.inr rfl)⟩ ⟨_, rfl, _, rfl, h⟩ rfl
  · have h := h.2 hc1
    refine ag_iload_n dX6_isConstant_18 rfl ?_
    refine ag_bipush (v := 126) dX6_isConstant_19 (by decide) ?_
    refine ag_icmp_eq (tgt := 30) dX6_isConstant_21 rfl (fun hc2 => ?_) (fun hc2 => ?_)
    · have h := h.1 hc2
      refine ag_iconst (v := 1) dX6_isConstant_30 rfl ?_
      refine ag_goto (tgt := 35) dX6_isConstant_31 rfl ?_
      exact ag_ret (v := some (.int 1)) dX6_isConstant_35 ⟨_, rfl, rB_n (Or.inr rfl)⟩ ⟨_, rfl, _, rfl, h⟩ rfl
    · have h := h.2 hc2
      refine ag_iload_n dX6_isConstant_24 rfl ?_
      refine ag_bipush (v := 46) dX6_isConstant_25 (by decide) ?_
      refine ag_icmp_ne (tgt := 34) dX6_isConstant_27 rfl (fun hc3 => ?_) (fun hc3 => ?_)
      · have h := h.1 hc3
        refine ag_iconst (v := 0) dX6_isConstant_34 rfl ?_
        exact ag_ret (v := some (.int 0)) dX6_isConstant_35 ⟨_, rfl, rB_n (Or.inl rfl)⟩ ⟨_, rfl, _, rfl, h⟩ rfl
      · have h := h.2 hc3
        refine ag_iconst (v := 1) dX6_isConstant_30 rfl ?_
        refine ag_goto (tgt := 35) dX6_isConstant_31 rfl ?_
        exact ag_ret (v := some (.int 1)) dX6_isConstant_35 ⟨_, rfl, rB_n (Or.inr rfl)⟩ ⟨_, rfl, _, rfl, h⟩ rfl
theorem dX6_typeOf_0 : decode cX6_typeOf 0 = .ok (.iload_n 0, 1) := by decide +kernel
theorem dX6_typeOf_1 : decode cX6_typeOf 1 = .ok (.lookupswitch 65 #[(42, 51), (98, 56), (108, 59), (110, 54), (112, 62)], 51) := by decide +kernel
theorem dX6_typeOf_52 : decode cX6_typeOf 52 = .ok (.bipush 31, 2) := by decide +kernel
theorem dX6_typeOf_54 : decode cX6_typeOf 54 = .ok (.ireturn, 1) := by decide +kernel
theorem dX6_typeOf_55 : decode cX6_typeOf 55 = .ok (.iconst 1, 1) := by decide +kernel
theorem dX6_typeOf_56 : decode cX6_typeOf 56 = .ok (.ireturn, 1) := by decide +kernel
theorem dX6_typeOf_57 : decode cX6_typeOf 57 = .ok (.bipush 6, 2) := by decide +kernel
theorem dX6_typeOf_59 : decode cX6_typeOf 59 = .ok (.ireturn, 1) := by decide +kernel
theorem dX6_typeOf_60 : decode cX6_typeOf 60 = .ok (.bipush 24, 2) := by decide +kernel
theorem dX6_typeOf_62 : decode cX6_typeOf 62 = .ok (.ireturn, 1) := by decide +kernel
theorem dX6_typeOf_63 : decode cX6_typeOf 63 = .ok (.bipush 16, 2) := by decide +kernel
theorem dX6_typeOf_65 : decode cX6_typeOf 65 = .ok (.ireturn, 1) := by decide +kernel
theorem dX6_typeOf_66 : decode cX6_typeOf 66 = .ok (.iconst 0, 1) := by decide +kernel
theorem dX6_typeOf_67 : decode cX6_typeOf 67 = .ok (.ireturn, 1) := by decide +kernel
set_option maxRecDepth 20000 in
set_option maxHeartbeats 4000000 in
theorem w_X6_typeOf {c : cX} {d : Nat} {C : cS} {K : Option Value → cS → Prop} (p0 : Int32) (h : (p0 = 42 → (K (some (.int 31)) C)) ∧ (p0 = 98 → (K (some (.int 6)) C)) ∧ (p0 = 108 → (K (some (.int 24)) C)) ∧ (p0 = 110 → (K (some (.int 1)) C)) ∧ (p0 = 112 → (K (some (.int 16)) C)) ∧ (¬ p0 = 42 ∧ ¬ p0 = 98 ∧ ¬ p0 = 108 ∧ ¬ p0 = 110 ∧ ¬ p0 = 112 → (K (some (.int 0)) C))) : cM c d eX6_typeOf [.int p0] C K := by
  refine cM.of2 (lv := [some (.int p0)]) (by decide) (Nat.le_of_ble_eq_true rfl) rfl ?_
  refine ag_iload_n dX6_typeOf_0 rfl ?_
  obtain ⟨q1, q2, q3, q4, q5, q6⟩ := h
  by_cases hk7 : p0 = 42
  · refine ag_lookup (tgt := 52) (off := 51) dX6_typeOf_1 (by decide) (by rw [hk7]; decide) rfl ?_
    have h := q1 hk7
    refine ag_bipush (v := 31) dX6_typeOf_52 (by decide) ?_
    exact ag_ret (v := some (.int 31)) dX6_typeOf_54 ⟨_, rfl, rfl⟩ ⟨_, rfl, _, rfl, h⟩ rfl
  · by_cases hk8 : p0 = 98
    · refine ag_lookup (tgt := 57) (off := 56) dX6_typeOf_1 (by decide) (by rw [lv_osw (k := 42) hk7 (by decide)]; rw [hk8]; decide) rfl ?_
      have h := q2 hk8
      refine ag_bipush (v := 6) dX6_typeOf_57 (by decide) ?_
      exact ag_ret (v := some (.int 6)) dX6_typeOf_59 ⟨_, rfl, rfl⟩ ⟨_, rfl, _, rfl, h⟩ rfl
    · by_cases hk9 : p0 = 108
      · refine ag_lookup (tgt := 60) (off := 59) dX6_typeOf_1 (by decide) (by rw [lv_osw (k := 42) hk7 (by decide)]; rw [lv_osw (k := 98) hk8 (by decide)]; rw [hk9]; decide) rfl ?_
        have h := q3 hk9
        refine ag_bipush (v := 24) dX6_typeOf_60 (by decide) ?_
        exact ag_ret (v := some (.int 24)) dX6_typeOf_62 ⟨_, rfl, rfl⟩ ⟨_, rfl, _, rfl, h⟩ rfl
      · by_cases hk10 : p0 = 110
        · refine ag_lookup (tgt := 55) (off := 54) dX6_typeOf_1 (by decide) (by rw [lv_osw (k := 42) hk7 (by decide)]; rw [lv_osw (k := 98) hk8 (by decide)]; rw [lv_osw (k := 108) hk9 (by decide)]; rw [hk10]; decide) rfl ?_
          have h := q4 hk10
          refine ag_iconst (v := 1) dX6_typeOf_55 rfl ?_
          exact ag_ret (v := some (.int 1)) dX6_typeOf_56 ⟨_, rfl, rfl⟩ ⟨_, rfl, _, rfl, h⟩ rfl
        · by_cases hk11 : p0 = 112
          · refine ag_lookup (tgt := 63) (off := 62) dX6_typeOf_1 (by decide) (by rw [lv_osw (k := 42) hk7 (by decide)]; rw [lv_osw (k := 98) hk8 (by decide)]; rw [lv_osw (k := 108) hk9 (by decide)]; rw [lv_osw (k := 110) hk10 (by decide)]; rw [hk11]; decide) rfl ?_
            have h := q5 hk11
            refine ag_bipush (v := 16) dX6_typeOf_63 (by decide) ?_
            exact ag_ret (v := some (.int 16)) dX6_typeOf_65 ⟨_, rfl, rfl⟩ ⟨_, rfl, _, rfl, h⟩ rfl
          · refine ag_lookup (tgt := 66) (off := 65) dX6_typeOf_1 (by decide) (by rw [lv_osw (k := 42) hk7 (by decide)]; rw [lv_osw (k := 98) hk8 (by decide)]; rw [lv_osw (k := 108) hk9 (by decide)]; rw [lv_osw (k := 110) hk10 (by decide)]; rw [lv_osw (k := 112) hk11 (by decide)]; rfl) rfl ?_
            have h := q6 ⟨hk7, hk8, hk9, hk10, hk11⟩
            refine ag_iconst (v := 0) dX6_typeOf_66 rfl ?_
            exact ag_ret (v := some (.int 0)) dX6_typeOf_67 ⟨_, rfl, rfl⟩ ⟨_, rfl, _, rfl, h⟩ rfl
theorem dX6_partsOf_0 : decode cX6_partsOf 0 = .ok (.iload_n 1, 1) := by decide +kernel
theorem dX6_partsOf_1 : decode cX6_partsOf 1 = .ok (.lookupswitch 150 #[(33, 131), (38, 133), (43, 133), (45, 133), (58, 137), (60, 133), (63, 135), (65, 131), (66, 131), (67, 133), (68, 131), (69, 131), (78, 131), (80, 131), (124, 133)], 131) := by decide +kernel
theorem dX6_partsOf_132 : decode cX6_partsOf 132 = .ok (.iconst 1, 1) := by decide +kernel
theorem dX6_partsOf_133 : decode cX6_partsOf 133 = .ok (.ireturn, 1) := by decide +kernel
theorem dX6_partsOf_134 : decode cX6_partsOf 134 = .ok (.iconst 2, 1) := by decide +kernel
theorem dX6_partsOf_135 : decode cX6_partsOf 135 = .ok (.ireturn, 1) := by decide +kernel
theorem dX6_partsOf_136 : decode cX6_partsOf 136 = .ok (.iconst 3, 1) := by decide +kernel
theorem dX6_partsOf_137 : decode cX6_partsOf 137 = .ok (.ireturn, 1) := by decide +kernel
theorem dX6_partsOf_138 : decode cX6_partsOf 138 = .ok (.aload_n 0, 1) := by decide +kernel
theorem dX6_partsOf_139 : decode cX6_partsOf 139 = .ok (.invokevirtual 100, 3) := by decide +kernel
theorem dX6_partsOf_142 : decode cX6_partsOf 142 = .ok (.ifCond .eq 7, 3) := by decide +kernel
theorem dX6_partsOf_145 : decode cX6_partsOf 145 = .ok (.iconst 2, 1) := by decide +kernel
theorem dX6_partsOf_146 : decode cX6_partsOf 146 = .ok (.goto 4, 3) := by decide +kernel
theorem dX6_partsOf_149 : decode cX6_partsOf 149 = .ok (.iconst 0, 1) := by decide +kernel
theorem dX6_partsOf_150 : decode cX6_partsOf 150 = .ok (.ireturn, 1) := by decide +kernel
theorem dX6_partsOf_151 : decode cX6_partsOf 151 = .ok (.aload_n 0, 1) := by decide +kernel
theorem dX6_partsOf_152 : decode cX6_partsOf 152 = .ok (.getfield 15, 3) := by decide +kernel
theorem dX6_partsOf_155 : decode cX6_partsOf 155 = .ok (.iload_n 1, 1) := by decide +kernel
theorem dX6_partsOf_156 : decode cX6_partsOf 156 = .ok (.invokestatic 51, 3) := by decide +kernel
theorem dX6_partsOf_159 : decode cX6_partsOf 159 = .ok (.ifnull 7, 3) := by decide +kernel
theorem dX6_partsOf_162 : decode cX6_partsOf 162 = .ok (.iconst 1, 1) := by decide +kernel
theorem dX6_partsOf_163 : decode cX6_partsOf 163 = .ok (.goto 4, 3) := by decide +kernel
theorem dX6_partsOf_166 : decode cX6_partsOf 166 = .ok (.iconst 0, 1) := by decide +kernel
theorem dX6_partsOf_167 : decode cX6_partsOf 167 = .ok (.ireturn, 1) := by decide +kernel
set_option maxRecDepth 20000 in
set_option maxHeartbeats 4000000 in
theorem w_X6_partsOf {c : cX} {d : Nat} {C : cS} {K : Option Value → cS → Prop} (t : Nat) (p0 : Int32) (h : (p0 = 33 ∨ p0 = 65 ∨ p0 = 66 ∨ p0 = 68 ∨ p0 = 69 ∨ p0 = 78 ∨ p0 = 80 → (K (some (.int 1)) C)) ∧ (p0 = 38 ∨ p0 = 43 ∨ p0 = 45 ∨ p0 = 60 ∨ p0 = 67 ∨ p0 = 124 → (K (some (.int 2)) C)) ∧ (p0 = 58 → (cT C t 6 8 ∧ (cM c d eX6_hasFreeName (.ref t :: []) C (fun v C1 => ∃ z2 : Int32, v = some (.int z2) ∧ cle C C1 ∧ ((z2 = 0 → (K (some (.int 0)) C1)) ∧ (¬ z2 = 0 → (K (some (.int 2)) C1))))))) ∧ (p0 = 63 → (K (some (.int 3)) C)) ∧ (¬ p0 = 33 ∧ ¬ p0 = 38 ∧ ¬ p0 = 43 ∧ ¬ p0 = 45 ∧ ¬ p0 = 58 ∧ ¬ p0 = 60 ∧ ¬ p0 = 63 ∧ ¬ p0 = 65 ∧ ¬ p0 = 66 ∧ ¬ p0 = 67 ∧ ¬ p0 = 68 ∧ ¬ p0 = 69 ∧ ¬ p0 = 78 ∧ ¬ p0 = 80 ∧ ¬ p0 = 124 → (cT C t 6 8 ∧ (cM c d eX9_functionOf [va_rf (cR C t 1), .int p0] C (fun v C8 => ∃ z9 : Option Nat, v = some (va_rf z9) ∧ cle C C8 ∧ ((z9 = none → (K (some (.int 0)) C8)) ∧ (∀ a13 : Nat, z9 = some a13 → (K (some (.int 1)) C8)))))))) : cM c (d + 1) eX6_partsOf [.ref t, .int p0] C K := by
  refine cM.of2 (lv := [some (.ref t), some (.int p0)]) (by decide) (Nat.le_of_ble_eq_true rfl) rfl ?_
  refine ag_iload_n dX6_partsOf_0 rfl ?_
  obtain ⟨q14, q15, q16, q17, q18⟩ := h
  by_cases hk19 : p0 = 33
  · refine ag_lookup (tgt := 132) (off := 131) dX6_partsOf_1 (by decide) (by rw [hk19]; decide) rfl ?_
    have h := q14 (Or.inl hk19)
    refine ag_iconst (v := 1) dX6_partsOf_132 rfl ?_
    exact ag_ret (v := some (.int 1)) dX6_partsOf_133 ⟨_, rfl, rfl⟩ ⟨_, rfl, _, rfl, h⟩ rfl
  · by_cases hk20 : p0 = 38
    · refine ag_lookup (tgt := 134) (off := 133) dX6_partsOf_1 (by decide) (by rw [lv_osw (k := 33) hk19 (by decide)]; rw [hk20]; decide) rfl ?_
      have h := q15 (Or.inl hk20)
      refine ag_iconst (v := 2) dX6_partsOf_134 rfl ?_
      exact ag_ret (v := some (.int 2)) dX6_partsOf_135 ⟨_, rfl, rfl⟩ ⟨_, rfl, _, rfl, h⟩ rfl
    · by_cases hk21 : p0 = 43
      · refine ag_lookup (tgt := 134) (off := 133) dX6_partsOf_1 (by decide) (by rw [lv_osw (k := 33) hk19 (by decide)]; rw [lv_osw (k := 38) hk20 (by decide)]; rw [hk21]; decide) rfl ?_
        have h := q15 (Or.inr (Or.inl hk21))
        refine ag_iconst (v := 2) dX6_partsOf_134 rfl ?_
        exact ag_ret (v := some (.int 2)) dX6_partsOf_135 ⟨_, rfl, rfl⟩ ⟨_, rfl, _, rfl, h⟩ rfl
      · by_cases hk22 : p0 = 45
        · refine ag_lookup (tgt := 134) (off := 133) dX6_partsOf_1 (by decide) (by rw [lv_osw (k := 33) hk19 (by decide)]; rw [lv_osw (k := 38) hk20 (by decide)]; rw [lv_osw (k := 43) hk21 (by decide)]; rw [hk22]; decide) rfl ?_
          have h := q15 (Or.inr (Or.inr (Or.inl hk22)))
          refine ag_iconst (v := 2) dX6_partsOf_134 rfl ?_
          exact ag_ret (v := some (.int 2)) dX6_partsOf_135 ⟨_, rfl, rfl⟩ ⟨_, rfl, _, rfl, h⟩ rfl
        · by_cases hk23 : p0 = 58
          · refine ag_lookup (tgt := 138) (off := 137) dX6_partsOf_1 (by decide) (by rw [lv_osw (k := 33) hk19 (by decide)]; rw [lv_osw (k := 38) hk20 (by decide)]; rw [lv_osw (k := 43) hk21 (by decide)]; rw [lv_osw (k := 45) hk22 (by decide)]; rw [hk23]; decide) rfl ?_
            have h := q16 hk23
            refine ag_aload_n dX6_partsOf_138 rfl (Or.inr ⟨_, rfl⟩) ?_
            obtain ⟨hT4, h⟩ := h
            refine cr_callV (as := []) (rest := []) dX6_partsOf_139 me_X6_hasFreeName mi_X6_hasFreeName lk_6_100 hT4 rfl rfl (Nat.le_of_ble_eq_true rfl) ?_
            refine cM.mono h ?_
            rintro v C1 ⟨z2, rfl, hL3, h⟩
            have hT5 := cT.le (C := C) hT4 hL3
            show cG _ _ _ _ _ _ [.int z2] _
            refine ag_if_eq (tgt := 149) dX6_partsOf_142 rfl (fun hc6 => ?_) (fun hc6 => ?_)
            · have h := h.1 hc6
              refine ag_iconst (v := 0) dX6_partsOf_149 rfl ?_
              exact ag_ret (v := some (.int 0)) dX6_partsOf_150 ⟨_, rfl, rfl⟩ ⟨_, rfl, _, rfl, h⟩ rfl
            · have h := h.2 hc6
              refine ag_iconst (v := 2) dX6_partsOf_145 rfl ?_
              refine ag_goto (tgt := 150) dX6_partsOf_146 rfl ?_
              exact ag_ret (v := some (.int 2)) dX6_partsOf_150 ⟨_, rfl, rfl⟩ ⟨_, rfl, _, rfl, h⟩ rfl
          · by_cases hk24 : p0 = 60
            · refine ag_lookup (tgt := 134) (off := 133) dX6_partsOf_1 (by decide) (by rw [lv_osw (k := 33) hk19 (by decide)]; rw [lv_osw (k := 38) hk20 (by decide)]; rw [lv_osw (k := 43) hk21 (by decide)]; rw [lv_osw (k := 45) hk22 (by decide)]; rw [lv_osw (k := 58) hk23 (by decide)]; rw [hk24]; decide) rfl ?_
              have h := q15 (Or.inr (Or.inr (Or.inr (Or.inl hk24))))
              refine ag_iconst (v := 2) dX6_partsOf_134 rfl ?_
              exact ag_ret (v := some (.int 2)) dX6_partsOf_135 ⟨_, rfl, rfl⟩ ⟨_, rfl, _, rfl, h⟩ rfl
            · by_cases hk25 : p0 = 63
              · refine ag_lookup (tgt := 136) (off := 135) dX6_partsOf_1 (by decide) (by rw [lv_osw (k := 33) hk19 (by decide)]; rw [lv_osw (k := 38) hk20 (by decide)]; rw [lv_osw (k := 43) hk21 (by decide)]; rw [lv_osw (k := 45) hk22 (by decide)]; rw [lv_osw (k := 58) hk23 (by decide)]; rw [lv_osw (k := 60) hk24 (by decide)]; rw [hk25]; decide) rfl ?_
                have h := q17 hk25
                refine ag_iconst (v := 3) dX6_partsOf_136 rfl ?_
                exact ag_ret (v := some (.int 3)) dX6_partsOf_137 ⟨_, rfl, rfl⟩ ⟨_, rfl, _, rfl, h⟩ rfl
              · by_cases hk26 : p0 = 65
                · refine ag_lookup (tgt := 132) (off := 131) dX6_partsOf_1 (by decide) (by rw [lv_osw (k := 33) hk19 (by decide)]; rw [lv_osw (k := 38) hk20 (by decide)]; rw [lv_osw (k := 43) hk21 (by decide)]; rw [lv_osw (k := 45) hk22 (by decide)]; rw [lv_osw (k := 58) hk23 (by decide)]; rw [lv_osw (k := 60) hk24 (by decide)]; rw [lv_osw (k := 63) hk25 (by decide)]; rw [hk26]; decide) rfl ?_
                  have h := q14 (Or.inr (Or.inl hk26))
                  refine ag_iconst (v := 1) dX6_partsOf_132 rfl ?_
                  exact ag_ret (v := some (.int 1)) dX6_partsOf_133 ⟨_, rfl, rfl⟩ ⟨_, rfl, _, rfl, h⟩ rfl
                · by_cases hk27 : p0 = 66
                  · refine ag_lookup (tgt := 132) (off := 131) dX6_partsOf_1 (by decide) (by rw [lv_osw (k := 33) hk19 (by decide)]; rw [lv_osw (k := 38) hk20 (by decide)]; rw [lv_osw (k := 43) hk21 (by decide)]; rw [lv_osw (k := 45) hk22 (by decide)]; rw [lv_osw (k := 58) hk23 (by decide)]; rw [lv_osw (k := 60) hk24 (by decide)]; rw [lv_osw (k := 63) hk25 (by decide)]; rw [lv_osw (k := 65) hk26 (by decide)]; rw [hk27]; decide) rfl ?_
                    have h := q14 (Or.inr (Or.inr (Or.inl hk27)))
                    refine ag_iconst (v := 1) dX6_partsOf_132 rfl ?_
                    exact ag_ret (v := some (.int 1)) dX6_partsOf_133 ⟨_, rfl, rfl⟩ ⟨_, rfl, _, rfl, h⟩ rfl
                  · by_cases hk28 : p0 = 67
                    · refine ag_lookup (tgt := 134) (off := 133) dX6_partsOf_1 (by decide) (by rw [lv_osw (k := 33) hk19 (by decide)]; rw [lv_osw (k := 38) hk20 (by decide)]; rw [lv_osw (k := 43) hk21 (by decide)]; rw [lv_osw (k := 45) hk22 (by decide)]; rw [lv_osw (k := 58) hk23 (by decide)]; rw [lv_osw (k := 60) hk24 (by decide)]; rw [lv_osw (k := 63) hk25 (by decide)]; rw [lv_osw (k := 65) hk26 (by decide)]; rw [lv_osw (k := 66) hk27 (by decide)]; rw [hk28]; decide) rfl ?_
                      have h := q15 (Or.inr (Or.inr (Or.inr (Or.inr (Or.inl hk28)))))
                      refine ag_iconst (v := 2) dX6_partsOf_134 rfl ?_
                      exact ag_ret (v := some (.int 2)) dX6_partsOf_135 ⟨_, rfl, rfl⟩ ⟨_, rfl, _, rfl, h⟩ rfl
                    · by_cases hk29 : p0 = 68
                      · refine ag_lookup (tgt := 132) (off := 131) dX6_partsOf_1 (by decide) (by rw [lv_osw (k := 33) hk19 (by decide)]; rw [lv_osw (k := 38) hk20 (by decide)]; rw [lv_osw (k := 43) hk21 (by decide)]; rw [lv_osw (k := 45) hk22 (by decide)]; rw [lv_osw (k := 58) hk23 (by decide)]; rw [lv_osw (k := 60) hk24 (by decide)]; rw [lv_osw (k := 63) hk25 (by decide)]; rw [lv_osw (k := 65) hk26 (by decide)]; rw [lv_osw (k := 66) hk27 (by decide)]; rw [lv_osw (k := 67) hk28 (by decide)]; rw [hk29]; decide) rfl ?_
                        have h := q14 (Or.inr (Or.inr (Or.inr (Or.inl hk29))))
                        refine ag_iconst (v := 1) dX6_partsOf_132 rfl ?_
                        exact ag_ret (v := some (.int 1)) dX6_partsOf_133 ⟨_, rfl, rfl⟩ ⟨_, rfl, _, rfl, h⟩ rfl
                      · by_cases hk30 : p0 = 69
                        · refine ag_lookup (tgt := 132) (off := 131) dX6_partsOf_1 (by decide) (by rw [lv_osw (k := 33) hk19 (by decide)]; rw [lv_osw (k := 38) hk20 (by decide)]; rw [lv_osw (k := 43) hk21 (by decide)]; rw [lv_osw (k := 45) hk22 (by decide)]; rw [lv_osw (k := 58) hk23 (by decide)]; rw [lv_osw (k := 60) hk24 (by decide)]; rw [lv_osw (k := 63) hk25 (by decide)]; rw [lv_osw (k := 65) hk26 (by decide)]; rw [lv_osw (k := 66) hk27 (by decide)]; rw [lv_osw (k := 67) hk28 (by decide)]; rw [lv_osw (k := 68) hk29 (by decide)]; rw [hk30]; decide) rfl ?_
                          have h := q14 (Or.inr (Or.inr (Or.inr (Or.inr (Or.inl hk30)))))
                          refine ag_iconst (v := 1) dX6_partsOf_132 rfl ?_
                          exact ag_ret (v := some (.int 1)) dX6_partsOf_133 ⟨_, rfl, rfl⟩ ⟨_, rfl, _, rfl, h⟩ rfl
                        · by_cases hk31 : p0 = 78
                          · refine ag_lookup (tgt := 132) (off := 131) dX6_partsOf_1 (by decide) (by rw [lv_osw (k := 33) hk19 (by decide)]; rw [lv_osw (k := 38) hk20 (by decide)]; rw [lv_osw (k := 43) hk21 (by decide)]; rw [lv_osw (k := 45) hk22 (by decide)]; rw [lv_osw (k := 58) hk23 (by decide)]; rw [lv_osw (k := 60) hk24 (by decide)]; rw [lv_osw (k := 63) hk25 (by decide)]; rw [lv_osw (k := 65) hk26 (by decide)]; rw [lv_osw (k := 66) hk27 (by decide)]; rw [lv_osw (k := 67) hk28 (by decide)]; rw [lv_osw (k := 68) hk29 (by decide)]; rw [lv_osw (k := 69) hk30 (by decide)]; rw [hk31]; decide) rfl ?_
                            have h := q14 (Or.inr (Or.inr (Or.inr (Or.inr (Or.inr (Or.inl hk31))))))
                            refine ag_iconst (v := 1) dX6_partsOf_132 rfl ?_
                            exact ag_ret (v := some (.int 1)) dX6_partsOf_133 ⟨_, rfl, rfl⟩ ⟨_, rfl, _, rfl, h⟩ rfl
                          · by_cases hk32 : p0 = 80
                            · refine ag_lookup (tgt := 132) (off := 131) dX6_partsOf_1 (by decide) (by rw [lv_osw (k := 33) hk19 (by decide)]; rw [lv_osw (k := 38) hk20 (by decide)]; rw [lv_osw (k := 43) hk21 (by decide)]; rw [lv_osw (k := 45) hk22 (by decide)]; rw [lv_osw (k := 58) hk23 (by decide)]; rw [lv_osw (k := 60) hk24 (by decide)]; rw [lv_osw (k := 63) hk25 (by decide)]; rw [lv_osw (k := 65) hk26 (by decide)]; rw [lv_osw (k := 66) hk27 (by decide)]; rw [lv_osw (k := 67) hk28 (by decide)]; rw [lv_osw (k := 68) hk29 (by decide)]; rw [lv_osw (k := 69) hk30 (by decide)]; rw [lv_osw (k := 78) hk31 (by decide)]; rw [hk32]; decide) rfl ?_
                              have h := q14 (Or.inr (Or.inr (Or.inr (Or.inr (Or.inr (Or.inr hk32))))))
                              refine ag_iconst (v := 1) dX6_partsOf_132 rfl ?_
                              exact ag_ret (v := some (.int 1)) dX6_partsOf_133 ⟨_, rfl, rfl⟩ ⟨_, rfl, _, rfl, h⟩ rfl
                            · by_cases hk33 : p0 = 124
                              · refine ag_lookup (tgt := 134) (off := 133) dX6_partsOf_1 (by decide) (by rw [lv_osw (k := 33) hk19 (by decide)]; rw [lv_osw (k := 38) hk20 (by decide)]; rw [lv_osw (k := 43) hk21 (by decide)]; rw [lv_osw (k := 45) hk22 (by decide)]; rw [lv_osw (k := 58) hk23 (by decide)]; rw [lv_osw (k := 60) hk24 (by decide)]; rw [lv_osw (k := 63) hk25 (by decide)]; rw [lv_osw (k := 65) hk26 (by decide)]; rw [lv_osw (k := 66) hk27 (by decide)]; rw [lv_osw (k := 67) hk28 (by decide)]; rw [lv_osw (k := 68) hk29 (by decide)]; rw [lv_osw (k := 69) hk30 (by decide)]; rw [lv_osw (k := 78) hk31 (by decide)]; rw [lv_osw (k := 80) hk32 (by decide)]; rw [hk33]; decide) rfl ?_
                                have h := q15 (Or.inr (Or.inr (Or.inr (Or.inr (Or.inr hk33)))))
                                refine ag_iconst (v := 2) dX6_partsOf_134 rfl ?_
                                exact ag_ret (v := some (.int 2)) dX6_partsOf_135 ⟨_, rfl, rfl⟩ ⟨_, rfl, _, rfl, h⟩ rfl
                              · refine ag_lookup (tgt := 151) (off := 150) dX6_partsOf_1 (by decide) (by rw [lv_osw (k := 33) hk19 (by decide)]; rw [lv_osw (k := 38) hk20 (by decide)]; rw [lv_osw (k := 43) hk21 (by decide)]; rw [lv_osw (k := 45) hk22 (by decide)]; rw [lv_osw (k := 58) hk23 (by decide)]; rw [lv_osw (k := 60) hk24 (by decide)]; rw [lv_osw (k := 63) hk25 (by decide)]; rw [lv_osw (k := 65) hk26 (by decide)]; rw [lv_osw (k := 66) hk27 (by decide)]; rw [lv_osw (k := 67) hk28 (by decide)]; rw [lv_osw (k := 68) hk29 (by decide)]; rw [lv_osw (k := 69) hk30 (by decide)]; rw [lv_osw (k := 78) hk31 (by decide)]; rw [lv_osw (k := 80) hk32 (by decide)]; rw [lv_osw (k := 124) hk33 (by decide)]; rfl) rfl ?_
                                have h := q18 ⟨hk19, hk20, hk21, hk22, hk23, hk24, hk25, hk26, hk27, hk28, hk29, hk30, hk31, hk32, hk33⟩
                                refine ag_aload_n dX6_partsOf_151 rfl (Or.inr ⟨_, rfl⟩) ?_
                                obtain ⟨hT7, h⟩ := h
                                refine cr_get (v := va_rf (cR C t 1)) dX6_partsOf_152 fw_6_15 hT7 rfl ?_
                                refine ag_iload_n dX6_partsOf_155 rfl ?_
                                refine cr_callSN (as := [va_rf (cR C t 1), .int p0]) (rest := []) dX6_partsOf_156 me_X9_functionOf ms_X9_functionOf ln_6_51 rfl rfl (Nat.le_of_ble_eq_true rfl) ?_
                                refine cM.mono h ?_
                                rintro v C8 ⟨z9, rfl, hL10, h⟩
                                have hT11 := cT.le (C := C) hT7 hL10
                                show cG _ _ _ _ _ _ [va_rf z9] _
                                refine cr_ifnull (tgt := 166) dX6_partsOf_159 rfl (fun hr12 => ?_) (fun a13 hr12 => ?_)
                                · have h := h.1 hr12
                                  refine ag_iconst (v := 0) dX6_partsOf_166 rfl ?_
                                  exact ag_ret (v := some (.int 0)) dX6_partsOf_167 ⟨_, rfl, rfl⟩ ⟨_, rfl, _, rfl, h⟩ rfl
                                · have h := h.2 a13 hr12
                                  refine ag_iconst (v := 1) dX6_partsOf_162 rfl ?_
                                  refine ag_goto (tgt := 167) dX6_partsOf_163 rfl ?_
                                  exact ag_ret (v := some (.int 1)) dX6_partsOf_167 ⟨_, rfl, rfl⟩ ⟨_, rfl, _, rfl, h⟩ rfl
theorem dX7_init_0 : decode cX7_init 0 = .ok (.aload_n 0, 1) := by decide +kernel
theorem dX7_init_1 : decode cX7_init 1 = .ok (.invokespecial 3, 3) := by decide +kernel
theorem dX7_init_4 : decode cX7_init 4 = .ok (.aload_n 0, 1) := by decide +kernel
theorem dX7_init_5 : decode cX7_init 5 = .ok (.bipush 60, 2) := by decide +kernel
theorem dX7_init_7 : decode cX7_init 7 = .ok (.newarray .char, 2) := by decide +kernel
theorem dX7_init_9 : decode cX7_init 9 = .ok (.putfield 9, 3) := by decide +kernel
theorem dX7_init_12 : decode cX7_init 12 = .ok (.aload_n 0, 1) := by decide +kernel
theorem dX7_init_13 : decode cX7_init 13 = .ok (.iconst 0, 1) := by decide +kernel
theorem dX7_init_14 : decode cX7_init 14 = .ok (.putfield 15, 3) := by decide +kernel
theorem dX7_init_17 : decode cX7_init 17 = .ok (.return_, 1) := by decide +kernel
set_option maxRecDepth 20000 in
set_option maxHeartbeats 4000000 in
theorem w_X7_init {c : cX} {d : Nat} {C : cS} {K : Option Value → cS → Prop} (t : Nat) (hT0 : cT C t 7 2) (h : K none (csi (csr (cnw C 23 60) t 0 (some C.1)) t 1 0)) : cM c (d + 1) eX7_init [.ref t] C K := by
  refine cM.of2 (lv := [some (.ref t)]) (by decide) (Nat.le_of_ble_eq_true rfl) rfl ?_
  refine ag_aload_n dX7_init_0 rfl (Or.inr ⟨_, rfl⟩) ?_
  refine ag_obj dX7_init_1 lo_7_3 io_1 io_2 (Nat.le_of_ble_eq_true rfl) ?_
  refine ag_aload_n dX7_init_4 rfl (Or.inr ⟨_, rfl⟩) ?_
  refine ag_bipush (v := 60) dX7_init_5 (by decide) ?_
  refine cr_newa (t := 23) (C2 := (cnw C 23 60)) dX7_init_7 rfl ac_char (by decide) (by decide) (by decide) (fun _ => rfl) rfl ?_
  have hT1 := cT_nw (C := C) (t := 23) (n := 60) hT0
  have hT2 := cT.le (C := C) hT0 (cle_nw C 23 60)
  refine cr_prF (r := (some C.1)) (C2 := (csr (cnw C 23 60) t 0 (some C.1))) dX7_init_9 rfl pw_7_9 rfl (Or.inr ⟨_, rfl⟩) hT2 rfl ?_
  refine ag_aload_n dX7_init_12 rfl (Or.inr ⟨_, rfl⟩) ?_
  refine ag_iconst (v := 0) dX7_init_13 rfl ?_
  refine cr_pi (C2 := (csi (csr (cnw C 23 60) t 0 (some C.1)) t 1 0)) dX7_init_14 pw_7_15 rfl hT2 (fun _ => ⟨rfl, rfl⟩) rfl ?_
  exact ag_ret (v := none) dX7_init_17 rfl ⟨_, rfl, _, rfl, h⟩ rfl
theorem dX7_append_0 : decode cX7_append 0 = .ok (.aload_n 0, 1) := by decide +kernel
theorem dX7_append_1 : decode cX7_append 1 = .ok (.getfield 15, 3) := by decide +kernel
theorem dX7_append_4 : decode cX7_append 4 = .ok (.bipush 60, 2) := by decide +kernel
theorem dX7_append_6 : decode cX7_append 6 = .ok (.if_icmp .lt 5, 3) := by decide +kernel
theorem dX7_append_9 : decode cX7_append 9 = .ok (.iconst 0, 1) := by decide +kernel
theorem dX7_append_10 : decode cX7_append 10 = .ok (.ireturn, 1) := by decide +kernel
theorem dX7_append_11 : decode cX7_append 11 = .ok (.aload_n 0, 1) := by decide +kernel
theorem dX7_append_12 : decode cX7_append 12 = .ok (.getfield 9, 3) := by decide +kernel
theorem dX7_append_15 : decode cX7_append 15 = .ok (.aload_n 0, 1) := by decide +kernel
theorem dX7_append_16 : decode cX7_append 16 = .ok (.getfield 15, 3) := by decide +kernel
theorem dX7_append_19 : decode cX7_append 19 = .ok (.iload_n 1, 1) := by decide +kernel
theorem dX7_append_20 : decode cX7_append 20 = .ok (.castore, 1) := by decide +kernel
theorem dX7_append_21 : decode cX7_append 21 = .ok (.aload_n 0, 1) := by decide +kernel
theorem dX7_append_22 : decode cX7_append 22 = .ok (.dup, 1) := by decide +kernel
theorem dX7_append_23 : decode cX7_append 23 = .ok (.getfield 15, 3) := by decide +kernel
theorem dX7_append_26 : decode cX7_append 26 = .ok (.iconst 1, 1) := by decide +kernel
theorem dX7_append_27 : decode cX7_append 27 = .ok (.iadd, 1) := by decide +kernel
theorem dX7_append_28 : decode cX7_append 28 = .ok (.putfield 15, 3) := by decide +kernel
theorem dX7_append_31 : decode cX7_append 31 = .ok (.iconst 1, 1) := by decide +kernel
theorem dX7_append_32 : decode cX7_append 32 = .ok (.ireturn, 1) := by decide +kernel
set_option maxRecDepth 20000 in
set_option maxHeartbeats 4000000 in
theorem w_X7_append {c : cX} {d : Nat} {C : cS} {K : Option Value → cS → Prop} (t : Nat) (p0 : Int32) (h : cT C t 7 2 ∧ (((cI C t 1) < 60 → (∃ a3 : Nat, (cR C t 0) = some a3 ∧ (∃ n6 : Nat, cT C a3 23 n6 ∧ (∃ j7 : Nat, am_ix (cI C t 1) j7 n6 ∧ (narrow .char (.int p0) = .int p0 ∧ (K (some (.int 1)) (csi (csi C a3 j7 p0) t 1 ((cI (csi C a3 j7 p0) t 1) + 1)))))))) ∧ (¬ (cI C t 1) < 60 → (K (some (.int 0)) C)))) : cM c d eX7_append [.ref t, .int p0] C K := by
  refine cM.of2 (lv := [some (.ref t), some (.int p0)]) (by decide) (Nat.le_of_ble_eq_true rfl) rfl ?_
  refine ag_aload_n dX7_append_0 rfl (Or.inr ⟨_, rfl⟩) ?_
  obtain ⟨hT1, h⟩ := h
  refine cr_get (v := .int (cI C t 1)) dX7_append_1 fw_7_15 hT1 rfl ?_
  refine ag_bipush (v := 60) dX7_append_4 (by decide) ?_
  refine ag_icmp_lt (tgt := 11) dX7_append_6 rfl (fun hc2 => ?_) (fun hc2 => ?_)
  · have h := h.1 hc2
    refine ag_aload_n dX7_append_11 rfl (Or.inr ⟨_, rfl⟩) ?_
    refine cr_get (v := va_rf (cR C t 0)) dX7_append_12 fw_7_9 hT1 rfl ?_
    refine ag_aload_n dX7_append_15 rfl (Or.inr ⟨_, rfl⟩) ?_
    refine cr_get (v := .int (cI C t 1)) dX7_append_16 fw_7_15 hT1 rfl ?_
    refine ag_iload_n dX7_append_19 rfl ?_
    obtain ⟨a3, hr4, h⟩ := h
    refine cr_stk (st' := [.int p0, .int (cI C t 1), .ref a3]) (by rw [hr4]; rfl) ?_
    obtain ⟨n6, hT5, h⟩ := h
    obtain ⟨j7, hj8, h⟩ := h
    obtain ⟨hb9, h⟩ := h
    refine cr_cs (C2 := (csi C a3 j7 p0)) dX7_append_20 hT5 hj8 hb9 rfl ?_
    refine ag_aload_n dX7_append_21 rfl (Or.inr ⟨_, rfl⟩) ?_
    refine ag_dup dX7_append_22 rfl ?_
    refine cr_get (v := .int (cI (csi C a3 j7 p0) t 1)) dX7_append_23 fw_7_15 hT1 rfl ?_
    refine ag_iconst (v := 1) dX7_append_26 rfl ?_
    refine ag_iadd dX7_append_27 rfl ?_
    refine cr_pi (C2 := (csi (csi C a3 j7 p0) t 1 ((cI (csi C a3 j7 p0) t 1) + 1))) dX7_append_28 pw_7_15 rfl hT1 (fun _ => ⟨rfl, rfl⟩) rfl ?_
    refine ag_iconst (v := 1) dX7_append_31 rfl ?_
    exact ag_ret (v := some (.int 1)) dX7_append_32 ⟨_, rfl, rB_n (Or.inr rfl)⟩ ⟨_, rfl, _, rfl, h⟩ rfl
  · have h := h.2 hc2
    refine ag_iconst (v := 0) dX7_append_9 rfl ?_
    exact ag_ret (v := some (.int 0)) dX7_append_10 ⟨_, rfl, rB_n (Or.inl rfl)⟩ ⟨_, rfl, _, rfl, h⟩ rfl
theorem dX7_empty_0 : decode cX7_empty 0 = .ok (.aload_n 0, 1) := by decide +kernel
theorem dX7_empty_1 : decode cX7_empty 1 = .ok (.iconst 0, 1) := by decide +kernel
theorem dX7_empty_2 : decode cX7_empty 2 = .ok (.putfield 15, 3) := by decide +kernel
theorem dX7_empty_5 : decode cX7_empty 5 = .ok (.return_, 1) := by decide +kernel
set_option maxRecDepth 20000 in
set_option maxHeartbeats 4000000 in
theorem w_X7_empty {c : cX} {d : Nat} {C : cS} {K : Option Value → cS → Prop} (t : Nat) (h : cT C t 7 2 ∧ (K none (csi C t 1 0))) : cM c d eX7_empty [.ref t] C K := by
  refine cM.of2 (lv := [some (.ref t)]) (by decide) (Nat.le_of_ble_eq_true rfl) rfl ?_
  refine ag_aload_n dX7_empty_0 rfl (Or.inr ⟨_, rfl⟩) ?_
  refine ag_iconst (v := 0) dX7_empty_1 rfl ?_
  obtain ⟨hT1, h⟩ := h
  refine cr_pi (C2 := (csi C t 1 0)) dX7_empty_2 pw_7_15 rfl hT1 (fun _ => ⟨rfl, rfl⟩) rfl ?_
  exact ag_ret (v := none) dX7_empty_5 rfl ⟨_, rfl, _, rfl, h⟩ rfl
theorem dX7_characterAt_0 : decode cX7_characterAt 0 = .ok (.iload_n 1, 1) := by decide +kernel
theorem dX7_characterAt_1 : decode cX7_characterAt 1 = .ok (.ifCond .lt 20, 3) := by decide +kernel
theorem dX7_characterAt_4 : decode cX7_characterAt 4 = .ok (.iload_n 1, 1) := by decide +kernel
theorem dX7_characterAt_5 : decode cX7_characterAt 5 = .ok (.aload_n 0, 1) := by decide +kernel
theorem dX7_characterAt_6 : decode cX7_characterAt 6 = .ok (.getfield 15, 3) := by decide +kernel
theorem dX7_characterAt_9 : decode cX7_characterAt 9 = .ok (.if_icmp .ge 12, 3) := by decide +kernel
theorem dX7_characterAt_12 : decode cX7_characterAt 12 = .ok (.aload_n 0, 1) := by decide +kernel
theorem dX7_characterAt_13 : decode cX7_characterAt 13 = .ok (.getfield 9, 3) := by decide +kernel
theorem dX7_characterAt_16 : decode cX7_characterAt 16 = .ok (.iload_n 1, 1) := by decide +kernel
theorem dX7_characterAt_17 : decode cX7_characterAt 17 = .ok (.caload, 1) := by decide +kernel
theorem dX7_characterAt_18 : decode cX7_characterAt 18 = .ok (.goto 4, 3) := by decide +kernel
theorem dX7_characterAt_21 : decode cX7_characterAt 21 = .ok (.iconst (-1), 1) := by decide +kernel
theorem dX7_characterAt_22 : decode cX7_characterAt 22 = .ok (.ireturn, 1) := by decide +kernel
set_option maxRecDepth 20000 in
set_option maxHeartbeats 4000000 in
theorem w_X7_characterAt {c : cX} {d : Nat} {C : cS} {K : Option Value → cS → Prop} (t : Nat) (p0 : Int32) (h : (p0 < 0 → (K (some (.int (-1))) C)) ∧ (¬ p0 < 0 → (cT C t 7 2 ∧ (((cI C t 1) ≤ p0 → (K (some (.int (-1))) C)) ∧ (¬ (cI C t 1) ≤ p0 → (∃ a4 : Nat, (cR C t 0) = some a4 ∧ (∃ n7 : Nat, cT C a4 23 n7 ∧ (∃ j8 : Nat, am_ix p0 j8 n7 ∧ (K (some (.int (cI C a4 j8))) C))))))))) : cM c d eX7_characterAt [.ref t, .int p0] C K := by
  refine cM.of2 (lv := [some (.ref t), some (.int p0)]) (by decide) (Nat.le_of_ble_eq_true rfl) rfl ?_
  refine ag_iload_n dX7_characterAt_0 rfl ?_
  refine ag_if_lt (tgt := 21) dX7_characterAt_1 rfl (fun hc1 => ?_) (fun hc1 => ?_)
  · have h := h.1 hc1
    refine ag_iconst (v := (-1)) dX7_characterAt_21 rfl ?_
    exact ag_ret (v := some (.int (-1))) dX7_characterAt_22 ⟨_, rfl, rfl⟩ ⟨_, rfl, _, rfl, h⟩ rfl
  · have h := h.2 hc1
    refine ag_iload_n dX7_characterAt_4 rfl ?_
    refine ag_aload_n dX7_characterAt_5 rfl (Or.inr ⟨_, rfl⟩) ?_
    obtain ⟨hT2, h⟩ := h
    refine cr_get (v := .int (cI C t 1)) dX7_characterAt_6 fw_7_15 hT2 rfl ?_
    refine ag_icmp_ge (tgt := 21) dX7_characterAt_9 rfl (fun hc3 => ?_) (fun hc3 => ?_)
    · have h := h.1 hc3
      refine ag_iconst (v := (-1)) dX7_characterAt_21 rfl ?_
      exact ag_ret (v := some (.int (-1))) dX7_characterAt_22 ⟨_, rfl, rfl⟩ ⟨_, rfl, _, rfl, h⟩ rfl
    · have h := h.2 hc3
      refine ag_aload_n dX7_characterAt_12 rfl (Or.inr ⟨_, rfl⟩) ?_
      refine cr_get (v := va_rf (cR C t 0)) dX7_characterAt_13 fw_7_9 hT2 rfl ?_
      refine ag_iload_n dX7_characterAt_16 rfl ?_
      obtain ⟨a4, hr5, h⟩ := h
      refine cr_stk (st' := [.int p0, .ref a4]) (by rw [hr5]; rfl) ?_
      obtain ⟨n7, hT6, h⟩ := h
      obtain ⟨j8, hj9, h⟩ := h
      refine cr_cl (v := (cI C a4 j8)) dX7_characterAt_17 hT6 hj9 rfl ?_
      refine ag_goto (tgt := 22) dX7_characterAt_18 rfl ?_
      exact ag_ret (v := some (.int (cI C a4 j8))) dX7_characterAt_22 ⟨_, rfl, rfl⟩ ⟨_, rfl, _, rfl, h⟩ rfl
theorem dX8_init_0 : decode cX8_init 0 = .ok (.aload_n 0, 1) := by decide +kernel
theorem dX8_init_1 : decode cX8_init 1 = .ok (.invokespecial 3, 3) := by decide +kernel
theorem dX8_init_4 : decode cX8_init 4 = .ok (.aload_n 0, 1) := by decide +kernel
theorem dX8_init_5 : decode cX8_init 5 = .ok (.bipush 17, 2) := by decide +kernel
theorem dX8_init_7 : decode cX8_init 7 = .ok (.newarray .long, 2) := by decide +kernel
theorem dX8_init_9 : decode cX8_init 9 = .ok (.putfield 9, 3) := by decide +kernel
theorem dX8_init_12 : decode cX8_init 12 = .ok (.aload_n 0, 1) := by decide +kernel
theorem dX8_init_13 : decode cX8_init 13 = .ok (.iconst 0, 1) := by decide +kernel
theorem dX8_init_14 : decode cX8_init 14 = .ok (.putfield 15, 3) := by decide +kernel
theorem dX8_init_17 : decode cX8_init 17 = .ok (.return_, 1) := by decide +kernel
set_option maxRecDepth 20000 in
set_option maxHeartbeats 4000000 in
theorem w_X8_init {c : cX} {d : Nat} {C : cS} {K : Option Value → cS → Prop} (t : Nat) (hT0 : cT C t 8 2) (h : K none (csi (csr (cnw C 21 17) t 0 (some C.1)) t 1 0)) : cM c (d + 1) eX8_init [.ref t] C K := by
  refine cM.of2 (lv := [some (.ref t)]) (by decide) (Nat.le_of_ble_eq_true rfl) rfl ?_
  refine ag_aload_n dX8_init_0 rfl (Or.inr ⟨_, rfl⟩) ?_
  refine ag_obj dX8_init_1 lo_8_3 io_1 io_2 (Nat.le_of_ble_eq_true rfl) ?_
  refine ag_aload_n dX8_init_4 rfl (Or.inr ⟨_, rfl⟩) ?_
  refine ag_bipush (v := 17) dX8_init_5 (by decide) ?_
  refine cr_newa (t := 21) (C2 := (cnw C 21 17)) dX8_init_7 rfl ac_long (by decide) (by decide) (by decide) (fun _ => rfl) rfl ?_
  have hT1 := cT_nw (C := C) (t := 21) (n := 17) hT0
  have hT2 := cT.le (C := C) hT0 (cle_nw C 21 17)
  refine cr_prF (r := (some C.1)) (C2 := (csr (cnw C 21 17) t 0 (some C.1))) dX8_init_9 rfl pw_8_9 rfl (Or.inr ⟨_, rfl⟩) hT2 rfl ?_
  refine ag_aload_n dX8_init_12 rfl (Or.inr ⟨_, rfl⟩) ?_
  refine ag_iconst (v := 0) dX8_init_13 rfl ?_
  refine cr_pi (C2 := (csi (csr (cnw C 21 17) t 0 (some C.1)) t 1 0)) dX8_init_14 pw_8_15 rfl hT2 (rB_ok (Or.inl rfl)) rfl ?_
  exact ag_ret (v := none) dX8_init_17 rfl ⟨_, rfl, _, rfl, h⟩ rfl
theorem dX8_sayAnything_0 : decode cX8_sayAnything 0 = .ok (.aload_n 0, 1) := by decide +kernel
theorem dX8_sayAnything_1 : decode cX8_sayAnything 1 = .ok (.iconst 0, 1) := by decide +kernel
theorem dX8_sayAnything_2 : decode cX8_sayAnything 2 = .ok (.putfield 15, 3) := by decide +kernel
theorem dX8_sayAnything_5 : decode cX8_sayAnything 5 = .ok (.iconst 0, 1) := by decide +kernel
theorem dX8_sayAnything_6 : decode cX8_sayAnything 6 = .ok (.istore_n 1, 1) := by decide +kernel
theorem dX8_sayAnything_7 : decode cX8_sayAnything 7 = .ok (.iload_n 1, 1) := by decide +kernel
theorem dX8_sayAnything_8 : decode cX8_sayAnything 8 = .ok (.bipush 17, 2) := by decide +kernel
theorem dX8_sayAnything_10 : decode cX8_sayAnything 10 = .ok (.if_icmp .ge 18, 3) := by decide +kernel
theorem dX8_sayAnything_13 : decode cX8_sayAnything 13 = .ok (.aload_n 0, 1) := by decide +kernel
theorem dX8_sayAnything_14 : decode cX8_sayAnything 14 = .ok (.getfield 9, 3) := by decide +kernel
theorem dX8_sayAnything_17 : decode cX8_sayAnything 17 = .ok (.iload_n 1, 1) := by decide +kernel
theorem dX8_sayAnything_18 : decode cX8_sayAnything 18 = .ok (.ldc2_w 19, 3) := by decide +kernel
theorem dX8_sayAnything_21 : decode cX8_sayAnything 21 = .ok (.lastore, 1) := by decide +kernel
theorem dX8_sayAnything_22 : decode cX8_sayAnything 22 = .ok (.iinc 1 1, 3) := by decide +kernel
theorem dX8_sayAnything_25 : decode cX8_sayAnything 25 = .ok (.goto (-18), 3) := by decide +kernel
theorem dX8_sayAnything_28 : decode cX8_sayAnything 28 = .ok (.return_, 1) := by decide +kernel
set_option maxRecDepth 20000 in
set_option maxHeartbeats 4000000 in
theorem w_X8_sayAnything {c : cX} {d : Nat} {C : cS} {K : Option Value → cS → Prop} (t : Nat) (h : cT C t 8 2 ∧ (cG c eX8_sayAnything d (cQ K) 7 [some (.ref t), some (.int 0)] [] (csi C t 1 0))) : cM c d eX8_sayAnything [.ref t] C K := by
  refine cM.of2 (lv := [some (.ref t), none]) (by decide) (Nat.le_of_ble_eq_true rfl) rfl ?_
  refine ag_aload_n dX8_sayAnything_0 rfl (Or.inr ⟨_, rfl⟩) ?_
  refine ag_iconst (v := 0) dX8_sayAnything_1 rfl ?_
  obtain ⟨hT1, h⟩ := h
  refine cr_pi (C2 := (csi C t 1 0)) dX8_sayAnything_2 pw_8_15 rfl hT1 (rB_ok (Or.inl rfl)) rfl ?_
  refine ag_iconst (v := 0) dX8_sayAnything_5 rfl ?_
  refine ag_istore_n (lv2 := [some (.ref t), some (.int 0)]) dX8_sayAnything_6 (Nat.le_of_ble_eq_true rfl) rfl ?_
  exact h
set_option maxRecDepth 20000 in
set_option maxHeartbeats 4000000 in
theorem w_X8_sayAnything_7 {c : cX} {d : Nat} {C : cS} {K : Option Value → cS → Prop} (t : Nat) (v1 : Int32) (h : (17 ≤ v1 → (K none C)) ∧ (¬ 17 ≤ v1 → (cT C t 8 2 ∧ (∃ a3 : Nat, (cR C t 0) = some a3 ∧ (∃ n6 : Nat, cT C a3 21 n6 ∧ (∃ j7 : Nat, am_ix v1 j7 n6 ∧ (cG c eX8_sayAnything d (cQ K) 7 [some (.ref t), some (.int (v1 + 1))] [] (csj C a3 j7 34359738367)))))))) : cG c eX8_sayAnything d (cQ K) 7 [some (.ref t), some (.int v1)] [] C := by
  refine ag_iload_n dX8_sayAnything_7 rfl ?_
  refine ag_bipush (v := 17) dX8_sayAnything_8 (by decide) ?_
  refine ag_icmp_ge (tgt := 28) dX8_sayAnything_10 rfl (fun hc1 => ?_) (fun hc1 => ?_)
  · have h := h.1 hc1
    exact ag_ret (v := none) dX8_sayAnything_28 rfl ⟨_, rfl, _, rfl, h⟩ rfl
  · have h := h.2 hc1
    refine ag_aload_n dX8_sayAnything_13 rfl (Or.inr ⟨_, rfl⟩) ?_
    obtain ⟨hT2, h⟩ := h
    refine cr_get (v := va_rf (cR C t 0)) dX8_sayAnything_14 fw_8_9 hT2 rfl ?_
    refine ag_iload_n dX8_sayAnything_17 rfl ?_
    refine ag_ldc2 dX8_sayAnything_18 kl_8_19 ?_
    obtain ⟨a3, hr4, h⟩ := h
    refine cr_stk (st' := [.long 34359738367, .int v1, .ref a3]) (by rw [hr4]; rfl) ?_
    obtain ⟨n6, hT5, h⟩ := h
    obtain ⟨j7, hj8, h⟩ := h
    refine cr_ls (C2 := (csj C a3 j7 34359738367)) dX8_sayAnything_21 hT5 hj8 rfl ?_
    refine ag_iinc (v2 := (v1 + 1)) (lv2 := [some (.ref t), some (.int (v1 + 1))]) dX8_sayAnything_22 rfl rfl rfl ?_
    refine ag_goto (tgt := 7) dX8_sayAnything_25 rfl ?_
    exact h
theorem dX8_sayNothing_0 : decode cX8_sayNothing 0 = .ok (.aload_n 0, 1) := by decide +kernel
theorem dX8_sayNothing_1 : decode cX8_sayNothing 1 = .ok (.iconst 1, 1) := by decide +kernel
theorem dX8_sayNothing_2 : decode cX8_sayNothing 2 = .ok (.putfield 15, 3) := by decide +kernel
theorem dX8_sayNothing_5 : decode cX8_sayNothing 5 = .ok (.iconst 0, 1) := by decide +kernel
theorem dX8_sayNothing_6 : decode cX8_sayNothing 6 = .ok (.istore_n 1, 1) := by decide +kernel
theorem dX8_sayNothing_7 : decode cX8_sayNothing 7 = .ok (.iload_n 1, 1) := by decide +kernel
theorem dX8_sayNothing_8 : decode cX8_sayNothing 8 = .ok (.bipush 17, 2) := by decide +kernel
theorem dX8_sayNothing_10 : decode cX8_sayNothing 10 = .ok (.if_icmp .ge 16, 3) := by decide +kernel
theorem dX8_sayNothing_13 : decode cX8_sayNothing 13 = .ok (.aload_n 0, 1) := by decide +kernel
theorem dX8_sayNothing_14 : decode cX8_sayNothing 14 = .ok (.getfield 9, 3) := by decide +kernel
theorem dX8_sayNothing_17 : decode cX8_sayNothing 17 = .ok (.iload_n 1, 1) := by decide +kernel
theorem dX8_sayNothing_18 : decode cX8_sayNothing 18 = .ok (.lconst 0, 1) := by decide +kernel
theorem dX8_sayNothing_19 : decode cX8_sayNothing 19 = .ok (.lastore, 1) := by decide +kernel
theorem dX8_sayNothing_20 : decode cX8_sayNothing 20 = .ok (.iinc 1 1, 3) := by decide +kernel
theorem dX8_sayNothing_23 : decode cX8_sayNothing 23 = .ok (.goto (-16), 3) := by decide +kernel
theorem dX8_sayNothing_26 : decode cX8_sayNothing 26 = .ok (.return_, 1) := by decide +kernel
set_option maxRecDepth 20000 in
set_option maxHeartbeats 4000000 in
theorem w_X8_sayNothing {c : cX} {d : Nat} {C : cS} {K : Option Value → cS → Prop} (t : Nat) (h : cT C t 8 2 ∧ (cG c eX8_sayNothing d (cQ K) 7 [some (.ref t), some (.int 0)] [] (csi C t 1 1))) : cM c d eX8_sayNothing [.ref t] C K := by
  refine cM.of2 (lv := [some (.ref t), none]) (by decide) (Nat.le_of_ble_eq_true rfl) rfl ?_
  refine ag_aload_n dX8_sayNothing_0 rfl (Or.inr ⟨_, rfl⟩) ?_
  refine ag_iconst (v := 1) dX8_sayNothing_1 rfl ?_
  obtain ⟨hT1, h⟩ := h
  refine cr_pi (C2 := (csi C t 1 1)) dX8_sayNothing_2 pw_8_15 rfl hT1 (rB_ok (Or.inr rfl)) rfl ?_
  refine ag_iconst (v := 0) dX8_sayNothing_5 rfl ?_
  refine ag_istore_n (lv2 := [some (.ref t), some (.int 0)]) dX8_sayNothing_6 (Nat.le_of_ble_eq_true rfl) rfl ?_
  exact h
set_option maxRecDepth 20000 in
set_option maxHeartbeats 4000000 in
theorem w_X8_sayNothing_7 {c : cX} {d : Nat} {C : cS} {K : Option Value → cS → Prop} (t : Nat) (v1 : Int32) (h : (17 ≤ v1 → (K none C)) ∧ (¬ 17 ≤ v1 → (cT C t 8 2 ∧ (∃ a3 : Nat, (cR C t 0) = some a3 ∧ (∃ n6 : Nat, cT C a3 21 n6 ∧ (∃ j7 : Nat, am_ix v1 j7 n6 ∧ (cG c eX8_sayNothing d (cQ K) 7 [some (.ref t), some (.int (v1 + 1))] [] (csj C a3 j7 0)))))))) : cG c eX8_sayNothing d (cQ K) 7 [some (.ref t), some (.int v1)] [] C := by
  refine ag_iload_n dX8_sayNothing_7 rfl ?_
  refine ag_bipush (v := 17) dX8_sayNothing_8 (by decide) ?_
  refine ag_icmp_ge (tgt := 26) dX8_sayNothing_10 rfl (fun hc1 => ?_) (fun hc1 => ?_)
  · have h := h.1 hc1
    exact ag_ret (v := none) dX8_sayNothing_26 rfl ⟨_, rfl, _, rfl, h⟩ rfl
  · have h := h.2 hc1
    refine ag_aload_n dX8_sayNothing_13 rfl (Or.inr ⟨_, rfl⟩) ?_
    obtain ⟨hT2, h⟩ := h
    refine cr_get (v := va_rf (cR C t 0)) dX8_sayNothing_14 fw_8_9 hT2 rfl ?_
    refine ag_iload_n dX8_sayNothing_17 rfl ?_
    refine ag_lconst (v := 0) dX8_sayNothing_18 (by decide) ?_
    obtain ⟨a3, hr4, h⟩ := h
    refine cr_stk (st' := [.long 0, .int v1, .ref a3]) (by rw [hr4]; rfl) ?_
    obtain ⟨n6, hT5, h⟩ := h
    obtain ⟨j7, hj8, h⟩ := h
    refine cr_ls (C2 := (csj C a3 j7 0)) dX8_sayNothing_19 hT5 hj8 rfl ?_
    refine ag_iinc (v2 := (v1 + 1)) (lv2 := [some (.ref t), some (.int (v1 + 1))]) dX8_sayNothing_20 rfl rfl rfl ?_
    refine ag_goto (tgt := 7) dX8_sayNothing_23 rfl ?_
    exact h
theorem dX8_copy_0 : decode cX8_copy 0 = .ok (.aload_n 0, 1) := by decide +kernel
theorem dX8_copy_1 : decode cX8_copy 1 = .ok (.aload_n 1, 1) := by decide +kernel
theorem dX8_copy_2 : decode cX8_copy 2 = .ok (.getfield 15, 3) := by decide +kernel
theorem dX8_copy_5 : decode cX8_copy 5 = .ok (.putfield 15, 3) := by decide +kernel
theorem dX8_copy_8 : decode cX8_copy 8 = .ok (.iconst 0, 1) := by decide +kernel
theorem dX8_copy_9 : decode cX8_copy 9 = .ok (.istore_n 2, 1) := by decide +kernel
theorem dX8_copy_10 : decode cX8_copy 10 = .ok (.iload_n 2, 1) := by decide +kernel
theorem dX8_copy_11 : decode cX8_copy 11 = .ok (.bipush 17, 2) := by decide +kernel
theorem dX8_copy_13 : decode cX8_copy 13 = .ok (.if_icmp .ge 21, 3) := by decide +kernel
theorem dX8_copy_16 : decode cX8_copy 16 = .ok (.aload_n 0, 1) := by decide +kernel
theorem dX8_copy_17 : decode cX8_copy 17 = .ok (.getfield 9, 3) := by decide +kernel
theorem dX8_copy_20 : decode cX8_copy 20 = .ok (.iload_n 2, 1) := by decide +kernel
theorem dX8_copy_21 : decode cX8_copy 21 = .ok (.aload_n 1, 1) := by decide +kernel
theorem dX8_copy_22 : decode cX8_copy 22 = .ok (.getfield 9, 3) := by decide +kernel
theorem dX8_copy_25 : decode cX8_copy 25 = .ok (.iload_n 2, 1) := by decide +kernel
theorem dX8_copy_26 : decode cX8_copy 26 = .ok (.laload, 1) := by decide +kernel
theorem dX8_copy_27 : decode cX8_copy 27 = .ok (.lastore, 1) := by decide +kernel
theorem dX8_copy_28 : decode cX8_copy 28 = .ok (.iinc 2 1, 3) := by decide +kernel
theorem dX8_copy_31 : decode cX8_copy 31 = .ok (.goto (-21), 3) := by decide +kernel
theorem dX8_copy_34 : decode cX8_copy 34 = .ok (.return_, 1) := by decide +kernel
set_option maxRecDepth 20000 in
set_option maxHeartbeats 4000000 in
theorem w_X8_copy {c : cX} {d : Nat} {C : cS} {K : Option Value → cS → Prop} (t : Nat) (p0 : Option Nat) (h : ∃ a1 : Nat, p0 = some a1 ∧ (cT C a1 8 2 ∧ (cT C t 8 2 ∧ (rB (cI C a1 1) ∧ (cG c eX8_copy d (cQ K) 10 [some (.ref t), some (va_rf p0), some (.int 0)] [] (csi C t 1 (cI C a1 1))))))) : cM c d eX8_copy [.ref t, va_rf p0] C K := by
  refine cM.of2 (lv := [some (.ref t), some (va_rf p0), none]) (by decide) (by simp only [am_sl_i, am_sl_r, am_sl_l, am_sl_o, am_sl_n]; exact Nat.le_of_ble_eq_true rfl) (by simp only [am_en, am_sl_i, am_sl_r, am_sl_l, am_sl_o, am_sl_n]; rfl) ?_
  refine ag_aload_n dX8_copy_0 rfl (Or.inr ⟨_, rfl⟩) ?_
  refine ag_aload_n dX8_copy_1 rfl (va_rf_or _) ?_
  obtain ⟨a1, hr2, h⟩ := h
  refine cr_stk (st' := [.ref a1, .ref t]) (by rw [hr2]; rfl) ?_
  obtain ⟨hT3, h⟩ := h
  refine cr_get (v := .int (cI C a1 1)) dX8_copy_2 fw_8_15 hT3 rfl ?_
  obtain ⟨hT4, h⟩ := h
  obtain ⟨hb5, h⟩ := h
  refine cr_pi (C2 := (csi C t 1 (cI C a1 1))) dX8_copy_5 pw_8_15 rfl hT4 (rB_ok hb5) rfl ?_
  refine ag_iconst (v := 0) dX8_copy_8 rfl ?_
  refine ag_istore_n (lv2 := [some (.ref t), some (va_rf p0), some (.int 0)]) dX8_copy_9 (Nat.le_of_ble_eq_true rfl) (by simp [am_st1, am_kill, va_rf_cat] <;> rfl) ?_
  exact h
set_option maxRecDepth 20000 in
set_option maxHeartbeats 4000000 in
theorem w_X8_copy_10 {c : cX} {d : Nat} {C : cS} {K : Option Value → cS → Prop} (t : Nat) (v1 : Option Nat) (v2 : Int32) (h : (17 ≤ v2 → (K none C)) ∧ (¬ 17 ≤ v2 → (cT C t 8 2 ∧ (∃ a3 : Nat, v1 = some a3 ∧ (cT C a3 8 2 ∧ (∃ a6 : Nat, (cR C a3 0) = some a6 ∧ (∃ n9 : Nat, cT C a6 21 n9 ∧ (∃ j10 : Nat, am_ix v2 j10 n9 ∧ (∃ a12 : Nat, (cR C t 0) = some a12 ∧ (∃ n15 : Nat, cT C a12 21 n15 ∧ (∃ j16 : Nat, am_ix v2 j16 n15 ∧ (cG c eX8_copy d (cQ K) 10 [some (.ref t), some (va_rf v1), some (.int (v2 + 1))] [] (csj C a12 j16 (cJ C a6 j10)))))))))))))) : cG c eX8_copy d (cQ K) 10 [some (.ref t), some (va_rf v1), some (.int v2)] [] C := by
  refine ag_iload_n dX8_copy_10 rfl ?_
  refine ag_bipush (v := 17) dX8_copy_11 (by decide) ?_
  refine ag_icmp_ge (tgt := 34) dX8_copy_13 rfl (fun hc1 => ?_) (fun hc1 => ?_)
  · have h := h.1 hc1
    exact ag_ret (v := none) dX8_copy_34 rfl ⟨_, rfl, _, rfl, h⟩ rfl
  · have h := h.2 hc1
    refine ag_aload_n dX8_copy_16 rfl (Or.inr ⟨_, rfl⟩) ?_
    obtain ⟨hT2, h⟩ := h
    refine cr_get (v := va_rf (cR C t 0)) dX8_copy_17 fw_8_9 hT2 rfl ?_
    refine ag_iload_n dX8_copy_20 rfl ?_
    refine ag_aload_n dX8_copy_21 rfl (va_rf_or _) ?_
    obtain ⟨a3, hr4, h⟩ := h
    refine cr_stk (st' := [.ref a3, .int v2, va_rf (cR C t 0)]) (by rw [hr4]; rfl) ?_
    obtain ⟨hT5, h⟩ := h
    refine cr_get (v := va_rf (cR C a3 0)) dX8_copy_22 fw_8_9 hT5 rfl ?_
    refine ag_iload_n dX8_copy_25 rfl ?_
    obtain ⟨a6, hr7, h⟩ := h
    refine cr_stk (st' := [.int v2, .ref a6, .int v2, va_rf (cR C t 0)]) (by rw [hr7]; rfl) ?_
    obtain ⟨n9, hT8, h⟩ := h
    obtain ⟨j10, hj11, h⟩ := h
    refine cr_ll (v := (cJ C a6 j10)) dX8_copy_26 hT8 hj11 rfl ?_
    obtain ⟨a12, hr13, h⟩ := h
    refine cr_stk (st' := [.long (cJ C a6 j10), .int v2, .ref a12]) (by rw [hr13]; rfl) ?_
    obtain ⟨n15, hT14, h⟩ := h
    obtain ⟨j16, hj17, h⟩ := h
    refine cr_ls (C2 := (csj C a12 j16 (cJ C a6 j10))) dX8_copy_27 hT14 hj17 rfl ?_
    refine ag_iinc (v2 := (v2 + 1)) (lv2 := [some (.ref t), some (va_rf v1), some (.int (v2 + 1))]) dX8_copy_28 rfl rfl (by simp [am_st1, am_kill, va_rf_cat] <;> rfl) ?_
    refine ag_goto (tgt := 10) dX8_copy_31 rfl ?_
    exact h
theorem dX8_word_0 : decode cX8_word 0 = .ok (.iload_n 1, 1) := by decide +kernel
theorem dX8_word_1 : decode cX8_word 1 = .ok (.ifCond .lt 18, 3) := by decide +kernel
theorem dX8_word_4 : decode cX8_word 4 = .ok (.iload_n 1, 1) := by decide +kernel
theorem dX8_word_5 : decode cX8_word 5 = .ok (.bipush 17, 2) := by decide +kernel
theorem dX8_word_7 : decode cX8_word 7 = .ok (.if_icmp .ge 12, 3) := by decide +kernel
theorem dX8_word_10 : decode cX8_word 10 = .ok (.aload_n 0, 1) := by decide +kernel
theorem dX8_word_11 : decode cX8_word 11 = .ok (.getfield 9, 3) := by decide +kernel
theorem dX8_word_14 : decode cX8_word 14 = .ok (.iload_n 1, 1) := by decide +kernel
theorem dX8_word_15 : decode cX8_word 15 = .ok (.laload, 1) := by decide +kernel
theorem dX8_word_16 : decode cX8_word 16 = .ok (.goto 4, 3) := by decide +kernel
theorem dX8_word_19 : decode cX8_word 19 = .ok (.lconst 0, 1) := by decide +kernel
theorem dX8_word_20 : decode cX8_word 20 = .ok (.lreturn, 1) := by decide +kernel
set_option maxRecDepth 20000 in
set_option maxHeartbeats 4000000 in
theorem w_X8_word {c : cX} {d : Nat} {C : cS} {K : Option Value → cS → Prop} (t : Nat) (p0 : Int32) (h : (p0 < 0 → (K (some (.long 0)) C)) ∧ (¬ p0 < 0 → ((17 ≤ p0 → (K (some (.long 0)) C)) ∧ (¬ 17 ≤ p0 → (cT C t 8 2 ∧ (∃ a4 : Nat, (cR C t 0) = some a4 ∧ (∃ n7 : Nat, cT C a4 21 n7 ∧ (∃ j8 : Nat, am_ix p0 j8 n7 ∧ (K (some (.long (cJ C a4 j8))) C))))))))) : cM c d eX8_word [.ref t, .int p0] C K := by
  refine cM.of2 (lv := [some (.ref t), some (.int p0)]) (by decide) (Nat.le_of_ble_eq_true rfl) rfl ?_
  refine ag_iload_n dX8_word_0 rfl ?_
  refine ag_if_lt (tgt := 19) dX8_word_1 rfl (fun hc1 => ?_) (fun hc1 => ?_)
  · have h := h.1 hc1
    refine ag_lconst (v := 0) dX8_word_19 (by decide) ?_
    exact ag_ret (v := some (.long 0)) dX8_word_20 rfl ⟨_, rfl, _, rfl, h⟩ rfl
  · have h := h.2 hc1
    refine ag_iload_n dX8_word_4 rfl ?_
    refine ag_bipush (v := 17) dX8_word_5 (by decide) ?_
    refine ag_icmp_ge (tgt := 19) dX8_word_7 rfl (fun hc2 => ?_) (fun hc2 => ?_)
    · have h := h.1 hc2
      refine ag_lconst (v := 0) dX8_word_19 (by decide) ?_
      exact ag_ret (v := some (.long 0)) dX8_word_20 rfl ⟨_, rfl, _, rfl, h⟩ rfl
    · have h := h.2 hc2
      refine ag_aload_n dX8_word_10 rfl (Or.inr ⟨_, rfl⟩) ?_
      obtain ⟨hT3, h⟩ := h
      refine cr_get (v := va_rf (cR C t 0)) dX8_word_11 fw_8_9 hT3 rfl ?_
      refine ag_iload_n dX8_word_14 rfl ?_
      obtain ⟨a4, hr5, h⟩ := h
      refine cr_stk (st' := [.int p0, .ref a4]) (by rw [hr5]; rfl) ?_
      obtain ⟨n7, hT6, h⟩ := h
      obtain ⟨j8, hj9, h⟩ := h
      refine cr_ll (v := (cJ C a4 j8)) dX8_word_15 hT6 hj9 rfl ?_
      refine ag_goto (tgt := 20) dX8_word_16 rfl ?_
      exact ag_ret (v := some (.long (cJ C a4 j8))) dX8_word_20 rfl ⟨_, rfl, _, rfl, h⟩ rfl
theorem dX8_says_0 : decode cX8_says 0 = .ok (.iload_n 1, 1) := by decide +kernel
theorem dX8_says_1 : decode cX8_says 1 = .ok (.ifCond .ge 7, 3) := by decide +kernel
theorem dX8_says_4 : decode cX8_says 4 = .ok (.iconst 0, 1) := by decide +kernel
theorem dX8_says_5 : decode cX8_says 5 = .ok (.goto 18, 3) := by decide +kernel
theorem dX8_says_8 : decode cX8_says 8 = .ok (.aload_n 0, 1) := by decide +kernel
theorem dX8_says_9 : decode cX8_says 9 = .ok (.iload_n 1, 1) := by decide +kernel
theorem dX8_says_10 : decode cX8_says 10 = .ok (.bipush 7, 2) := by decide +kernel
theorem dX8_says_12 : decode cX8_says 12 = .ok (.idiv, 1) := by decide +kernel
theorem dX8_says_13 : decode cX8_says 13 = .ok (.invokevirtual 21, 3) := by decide +kernel
theorem dX8_says_16 : decode cX8_says 16 = .ok (.iload_n 1, 1) := by decide +kernel
theorem dX8_says_17 : decode cX8_says 17 = .ok (.bipush 7, 2) := by decide +kernel
theorem dX8_says_19 : decode cX8_says 19 = .ok (.irem, 1) := by decide +kernel
theorem dX8_says_20 : decode cX8_says 20 = .ok (.invokestatic 25, 3) := by decide +kernel
theorem dX8_says_23 : decode cX8_says 23 = .ok (.ireturn, 1) := by decide +kernel
set_option maxRecDepth 20000 in
set_option maxHeartbeats 4000000 in
theorem w_X8_says {c : cX} {d : Nat} {C : cS} {K : Option Value → cS → Prop} (t : Nat) (p0 : Int32) (h : (0 ≤ p0 → (cT C t 8 2 ∧ (cM c d eX8_word (.ref t :: [.int (p0 / 7)]) C (fun v C2 => ∃ z3 : Int64, v = some (.long z3) ∧ cle C C2 ∧ (cM c d eX8_kindsIn [.long z3, .int (p0 - p0 / 7 * 7)] C2 (fun v C7 => ∃ z8 : Int32, v = some (.int z8) ∧ cle C2 C7 ∧ (K (some (.int z8)) C7))))))) ∧ (¬ 0 ≤ p0 → (K (some (.int 0)) C))) : cM c (d + 1) eX8_says [.ref t, .int p0] C K := by
  refine cM.of2 (lv := [some (.ref t), some (.int p0)]) (by decide) (Nat.le_of_ble_eq_true rfl) rfl ?_
  refine ag_iload_n dX8_says_0 rfl ?_
  refine ag_if_ge (tgt := 8) dX8_says_1 rfl (fun hc1 => ?_) (fun hc1 => ?_)
  · have h := h.1 hc1
    refine ag_aload_n dX8_says_8 rfl (Or.inr ⟨_, rfl⟩) ?_
    refine ag_iload_n dX8_says_9 rfl ?_
    refine ag_bipush (v := 7) dX8_says_10 (by decide) ?_
    refine ag_idiv dX8_says_12 (by decide) rfl ?_
    obtain ⟨hT5, h⟩ := h
    refine cr_callV (as := [.int (p0 / 7)]) (rest := []) dX8_says_13 me_X8_word mi_X8_word lk_8_21 hT5 rfl rfl (Nat.le_of_ble_eq_true rfl) ?_
    refine cM.mono h ?_
    rintro v C2 ⟨z3, rfl, hL4, h⟩
    have hT6 := cT.le (C := C) hT5 hL4
    show cG _ _ _ _ _ _ [.long z3] _
    refine ag_iload_n dX8_says_16 rfl ?_
    refine ag_bipush (v := 7) dX8_says_17 (by decide) ?_
    refine ag_irem dX8_says_19 (by decide) rfl ?_
    refine cr_callS (as := [.long z3, .int (p0 - p0 / 7 * 7)]) (rest := []) dX8_says_20 me_X8_kindsIn ms_X8_kindsIn lk_8_25 rfl rfl (Nat.le_of_ble_eq_true rfl) ?_
    refine cM.mono h ?_
    rintro v C7 ⟨z8, rfl, hL9, h⟩
    have hT10 := cT.le (C := C2) hT6 hL9
    show cG _ _ _ _ _ _ [.int z8] _
    exact ag_ret (v := some (.int z8)) dX8_says_23 ⟨_, rfl, rfl⟩ ⟨_, rfl, _, rfl, h⟩ rfl
  · have h := h.2 hc1
    refine ag_iconst (v := 0) dX8_says_4 rfl ?_
    refine ag_goto (tgt := 23) dX8_says_5 rfl ?_
    exact ag_ret (v := some (.int 0)) dX8_says_23 ⟨_, rfl, rfl⟩ ⟨_, rfl, _, rfl, h⟩ rfl
theorem dX8_restrict_0 : decode cX8_restrict 0 = .ok (.iload_n 1, 1) := by decide +kernel
theorem dX8_restrict_1 : decode cX8_restrict 1 = .ok (.ifCond .lt 9, 3) := by decide +kernel
theorem dX8_restrict_4 : decode cX8_restrict 4 = .ok (.iload_n 1, 1) := by decide +kernel
theorem dX8_restrict_5 : decode cX8_restrict 5 = .ok (.bipush 119, 2) := by decide +kernel
theorem dX8_restrict_7 : decode cX8_restrict 7 = .ok (.if_icmp .lt 4, 3) := by decide +kernel
theorem dX8_restrict_10 : decode cX8_restrict 10 = .ok (.return_, 1) := by decide +kernel
theorem dX8_restrict_11 : decode cX8_restrict 11 = .ok (.iload_n 1, 1) := by decide +kernel
theorem dX8_restrict_12 : decode cX8_restrict 12 = .ok (.bipush 7, 2) := by decide +kernel
theorem dX8_restrict_14 : decode cX8_restrict 14 = .ok (.idiv, 1) := by decide +kernel
theorem dX8_restrict_15 : decode cX8_restrict 15 = .ok (.istore_n 3, 1) := by decide +kernel
theorem dX8_restrict_16 : decode cX8_restrict 16 = .ok (.iload_n 1, 1) := by decide +kernel
theorem dX8_restrict_17 : decode cX8_restrict 17 = .ok (.bipush 7, 2) := by decide +kernel
theorem dX8_restrict_19 : decode cX8_restrict 19 = .ok (.irem, 1) := by decide +kernel
theorem dX8_restrict_20 : decode cX8_restrict 20 = .ok (.istore 4, 2) := by decide +kernel
theorem dX8_restrict_22 : decode cX8_restrict 22 = .ok (.bipush 31, 2) := by decide +kernel
theorem dX8_restrict_24 : decode cX8_restrict 24 = .ok (.iload_n 2, 1) := by decide +kernel
theorem dX8_restrict_25 : decode cX8_restrict 25 = .ok (.iconst (-1), 1) := by decide +kernel
theorem dX8_restrict_26 : decode cX8_restrict 26 = .ok (.ixor, 1) := by decide +kernel
theorem dX8_restrict_27 : decode cX8_restrict 27 = .ok (.iand, 1) := by decide +kernel
theorem dX8_restrict_28 : decode cX8_restrict 28 = .ok (.i2l, 1) := by decide +kernel
theorem dX8_restrict_29 : decode cX8_restrict 29 = .ok (.lstore 5, 2) := by decide +kernel
theorem dX8_restrict_31 : decode cX8_restrict 31 = .ok (.aload_n 0, 1) := by decide +kernel
theorem dX8_restrict_32 : decode cX8_restrict 32 = .ok (.getfield 9, 3) := by decide +kernel
theorem dX8_restrict_35 : decode cX8_restrict 35 = .ok (.iload_n 3, 1) := by decide +kernel
theorem dX8_restrict_36 : decode cX8_restrict 36 = .ok (.dup2, 1) := by decide +kernel
theorem dX8_restrict_37 : decode cX8_restrict 37 = .ok (.laload, 1) := by decide +kernel
theorem dX8_restrict_38 : decode cX8_restrict 38 = .ok (.lload 5, 2) := by decide +kernel
theorem dX8_restrict_40 : decode cX8_restrict 40 = .ok (.iconst 5, 1) := by decide +kernel
theorem dX8_restrict_41 : decode cX8_restrict 41 = .ok (.iload 4, 2) := by decide +kernel
theorem dX8_restrict_43 : decode cX8_restrict 43 = .ok (.imul, 1) := by decide +kernel
theorem dX8_restrict_44 : decode cX8_restrict 44 = .ok (.lshl, 1) := by decide +kernel
theorem dX8_restrict_45 : decode cX8_restrict 45 = .ok (.ldc2_w 29, 3) := by decide +kernel
theorem dX8_restrict_48 : decode cX8_restrict 48 = .ok (.lxor, 1) := by decide +kernel
theorem dX8_restrict_49 : decode cX8_restrict 49 = .ok (.land, 1) := by decide +kernel
theorem dX8_restrict_50 : decode cX8_restrict 50 = .ok (.lastore, 1) := by decide +kernel
theorem dX8_restrict_51 : decode cX8_restrict 51 = .ok (.aload_n 0, 1) := by decide +kernel
theorem dX8_restrict_52 : decode cX8_restrict 52 = .ok (.getfield 9, 3) := by decide +kernel
theorem dX8_restrict_55 : decode cX8_restrict 55 = .ok (.iload_n 3, 1) := by decide +kernel
theorem dX8_restrict_56 : decode cX8_restrict 56 = .ok (.laload, 1) := by decide +kernel
theorem dX8_restrict_57 : decode cX8_restrict 57 = .ok (.iload 4, 2) := by decide +kernel
theorem dX8_restrict_59 : decode cX8_restrict 59 = .ok (.invokestatic 25, 3) := by decide +kernel
theorem dX8_restrict_62 : decode cX8_restrict 62 = .ok (.ifCond .ne 7, 3) := by decide +kernel
theorem dX8_restrict_65 : decode cX8_restrict 65 = .ok (.aload_n 0, 1) := by decide +kernel
theorem dX8_restrict_66 : decode cX8_restrict 66 = .ok (.invokevirtual 31, 3) := by decide +kernel
theorem dX8_restrict_69 : decode cX8_restrict 69 = .ok (.return_, 1) := by decide +kernel
set_option maxRecDepth 20000 in
set_option maxHeartbeats 4000000 in
theorem w_X8_restrict {c : cX} {d : Nat} {C : cS} {K : Option Value → cS → Prop} (t : Nat) (p0 : Int32) (p1 : Int32) (h : (p0 < 0 → (K none C)) ∧ (¬ p0 < 0 → ((p0 < 119 → (cT C t 8 2 ∧ (∃ a4 : Nat, (cR C t 0) = some a4 ∧ (∃ n7 : Nat, cT C a4 21 n7 ∧ (∃ j8 : Nat, am_ix (p0 / 7) j8 n7 ∧ (∃ j10 : Nat, am_ix (p0 / 7) j10 n7 ∧ (∃ j12 : Nat, am_ix (p0 / 7) j12 n7 ∧ (cM c d eX8_kindsIn [.long (cJ (csj C a4 j10 ((cJ C a4 j8) &&& (((Int32.toInt64 (31 &&& (p1 ^^^ (-1)))) <<< (Int32.toInt64 (5 * (p0 - p0 / 7 * 7)) &&& 63)) ^^^ (-1)))) a4 j12), .int (p0 - p0 / 7 * 7)] (csj C a4 j10 ((cJ C a4 j8) &&& (((Int32.toInt64 (31 &&& (p1 ^^^ (-1)))) <<< (Int32.toInt64 (5 * (p0 - p0 / 7 * 7)) &&& 63)) ^^^ (-1)))) (fun v C14 => ∃ z15 : Int32, v = some (.int z15) ∧ cle (csj C a4 j10 ((cJ C a4 j8) &&& (((Int32.toInt64 (31 &&& (p1 ^^^ (-1)))) <<< (Int32.toInt64 (5 * (p0 - p0 / 7 * 7)) &&& 63)) ^^^ (-1)))) C14 ∧ ((¬ z15 = 0 → (K none C14)) ∧ (z15 = 0 → (cM c d eX8_sayNothing (.ref t :: []) C14 (fun v C20 => v = none ∧ cle C14 C20 ∧ (K none C20)))))))))))))) ∧ (¬ p0 < 119 → (K none C))))) : cM c (d + 1) eX8_restrict [.ref t, .int p0, .int p1] C K := by
  refine cM.of2 (lv := [some (.ref t), some (.int p0), some (.int p1), none, none, none, none]) (by decide) (Nat.le_of_ble_eq_true rfl) rfl ?_
  refine ag_iload_n dX8_restrict_0 rfl ?_
  refine ag_if_lt (tgt := 10) dX8_restrict_1 rfl (fun hc1 => ?_) (fun hc1 => ?_)
  · have h := h.1 hc1
    exact ag_ret (v := none) dX8_restrict_10 rfl ⟨_, rfl, _, rfl, h⟩ rfl
  · have h := h.2 hc1
    refine ag_iload_n dX8_restrict_4 rfl ?_
    refine ag_bipush (v := 119) dX8_restrict_5 (by decide) ?_
    refine ag_icmp_lt (tgt := 11) dX8_restrict_7 rfl (fun hc2 => ?_) (fun hc2 => ?_)
    · have h := h.1 hc2
      refine ag_iload_n dX8_restrict_11 rfl ?_
      refine ag_bipush (v := 7) dX8_restrict_12 (by decide) ?_
      refine ag_idiv dX8_restrict_14 (by decide) rfl ?_
      refine ag_istore_n (lv2 := [some (.ref t), some (.int p0), some (.int p1), some (.int (p0 / 7)), none, none, none]) dX8_restrict_15 (Nat.le_of_ble_eq_true rfl) rfl ?_
      refine ag_iload_n dX8_restrict_16 rfl ?_
      refine ag_bipush (v := 7) dX8_restrict_17 (by decide) ?_
      refine ag_irem dX8_restrict_19 (by decide) rfl ?_
      refine ag_istore (lv2 := [some (.ref t), some (.int p0), some (.int p1), some (.int (p0 / 7)), some (.int (p0 - p0 / 7 * 7)), none, none]) dX8_restrict_20 (Nat.le_of_ble_eq_true rfl) rfl ?_
      refine ag_bipush (v := 31) dX8_restrict_22 (by decide) ?_
      refine ag_iload_n dX8_restrict_24 rfl ?_
      refine ag_iconst (v := (-1)) dX8_restrict_25 rfl ?_
      refine ag_ixor dX8_restrict_26 rfl ?_
      refine ag_iand dX8_restrict_27 rfl ?_
      refine ag_i2l dX8_restrict_28 rfl ?_
      refine ag_lstore (lv2 := [some (.ref t), some (.int p0), some (.int p1), some (.int (p0 / 7)), some (.int (p0 - p0 / 7 * 7)), some (.long (Int32.toInt64 (31 &&& (p1 ^^^ (-1))))), none]) dX8_restrict_29 (Nat.le_of_ble_eq_true rfl) rfl ?_
      refine ag_aload_n dX8_restrict_31 rfl (Or.inr ⟨_, rfl⟩) ?_
      obtain ⟨hT3, h⟩ := h
      refine cr_get (v := va_rf (cR C t 0)) dX8_restrict_32 fw_8_9 hT3 rfl ?_
      refine ag_iload_n dX8_restrict_35 rfl ?_
      refine ag_dup2 dX8_restrict_36 rfl (va_rf_cat _) ?_
      obtain ⟨a4, hr5, h⟩ := h
      refine cr_stk (st' := [.int (p0 / 7), .ref a4, .int (p0 / 7), va_rf (cR C t 0)]) (by rw [hr5]; rfl) ?_
      obtain ⟨n7, hT6, h⟩ := h
      obtain ⟨j8, hj9, h⟩ := h
      refine cr_ll (v := (cJ C a4 j8)) dX8_restrict_37 hT6 hj9 rfl ?_
      refine ag_lload dX8_restrict_38 rfl ?_
      refine ag_iconst (v := 5) dX8_restrict_40 rfl ?_
      refine ag_iload dX8_restrict_41 rfl ?_
      refine ag_imul dX8_restrict_43 rfl ?_
      refine ag_lshl dX8_restrict_44 rfl ?_
      refine ag_ldc2 dX8_restrict_45 kl_8_29 ?_
      refine ag_lxor dX8_restrict_48 rfl ?_
      refine ag_land dX8_restrict_49 rfl ?_
      refine cr_stk (st' := [.long ((cJ C a4 j8) &&& (((Int32.toInt64 (31 &&& (p1 ^^^ (-1)))) <<< (Int32.toInt64 (5 * (p0 - p0 / 7 * 7)) &&& 63)) ^^^ (-1))), .int (p0 / 7), .ref a4]) (by rw [hr5]; rfl) ?_
      obtain ⟨j10, hj11, h⟩ := h
      refine cr_ls (C2 := (csj C a4 j10 ((cJ C a4 j8) &&& (((Int32.toInt64 (31 &&& (p1 ^^^ (-1)))) <<< (Int32.toInt64 (5 * (p0 - p0 / 7 * 7)) &&& 63)) ^^^ (-1))))) dX8_restrict_50 hT6 hj11 rfl ?_
      refine ag_aload_n dX8_restrict_51 rfl (Or.inr ⟨_, rfl⟩) ?_
      refine cr_get (v := va_rf (cR C t 0)) dX8_restrict_52 fw_8_9 hT3 rfl ?_
      refine ag_iload_n dX8_restrict_55 rfl ?_
      refine cr_stk (st' := [.int (p0 / 7), .ref a4]) (by rw [hr5]; rfl) ?_
      obtain ⟨j12, hj13, h⟩ := h
      refine cr_ll (v := (cJ (csj C a4 j10 ((cJ C a4 j8) &&& (((Int32.toInt64 (31 &&& (p1 ^^^ (-1)))) <<< (Int32.toInt64 (5 * (p0 - p0 / 7 * 7)) &&& 63)) ^^^ (-1)))) a4 j12)) dX8_restrict_56 hT6 hj13 rfl ?_
      refine ag_iload dX8_restrict_57 rfl ?_
      refine cr_callS (as := [.long (cJ (csj C a4 j10 ((cJ C a4 j8) &&& (((Int32.toInt64 (31 &&& (p1 ^^^ (-1)))) <<< (Int32.toInt64 (5 * (p0 - p0 / 7 * 7)) &&& 63)) ^^^ (-1)))) a4 j12), .int (p0 - p0 / 7 * 7)]) (rest := []) dX8_restrict_59 me_X8_kindsIn ms_X8_kindsIn lk_8_25 rfl rfl (Nat.le_of_ble_eq_true rfl) ?_
      refine cM.mono h ?_
      rintro v C14 ⟨z15, rfl, hL16, h⟩
      have hT17 := cT.le (C := (csj C a4 j10 ((cJ C a4 j8) &&& (((Int32.toInt64 (31 &&& (p1 ^^^ (-1)))) <<< (Int32.toInt64 (5 * (p0 - p0 / 7 * 7)) &&& 63)) ^^^ (-1))))) hT3 hL16
      have hT18 := cT.le (C := (csj C a4 j10 ((cJ C a4 j8) &&& (((Int32.toInt64 (31 &&& (p1 ^^^ (-1)))) <<< (Int32.toInt64 (5 * (p0 - p0 / 7 * 7)) &&& 63)) ^^^ (-1))))) hT6 hL16
      show cG _ _ _ _ _ _ [.int z15] _
      refine ag_if_ne (tgt := 69) dX8_restrict_62 rfl (fun hc19 => ?_) (fun hc19 => ?_)
      · have h := h.1 hc19
        exact ag_ret (v := none) dX8_restrict_69 rfl ⟨_, rfl, _, rfl, h⟩ rfl
      · have h := h.2 hc19
        refine ag_aload_n dX8_restrict_65 rfl (Or.inr ⟨_, rfl⟩) ?_
        refine cr_callV (as := []) (rest := []) dX8_restrict_66 me_X8_sayNothing mi_X8_sayNothing lk_8_31 hT17 rfl rfl (Nat.le_of_ble_eq_true rfl) ?_
        refine cM.mono h ?_
        rintro v C20 ⟨rfl, hL22, h⟩
        have hT23 := cT.le (C := C14) hT17 hL22
        have hT24 := cT.le (C := C14) hT18 hL22
        show cG _ _ _ _ _ _ [] _
        exact ag_ret (v := none) dX8_restrict_69 rfl ⟨_, rfl, _, rfl, h⟩ rfl
    · have h := h.2 hc2
      exact ag_ret (v := none) dX8_restrict_10 rfl ⟨_, rfl, _, rfl, h⟩ rfl
