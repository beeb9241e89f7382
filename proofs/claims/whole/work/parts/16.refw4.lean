theorem dX10_concludeLet_0 : decode cX10_concludeLet 0 = .ok (.aload_n 0, 1) := by decide +kernel
theorem dX10_concludeLet_1 : decode cX10_concludeLet 1 = .ok (.getfield 29, 3) := by decide +kernel
theorem dX10_concludeLet_4 : decode cX10_concludeLet 4 = .ok (.iload_n 1, 1) := by decide +kernel
theorem dX10_concludeLet_5 : decode cX10_concludeLet 5 = .ok (.iaload, 1) := by decide +kernel
theorem dX10_concludeLet_6 : decode cX10_concludeLet 6 = .ok (.istore_n 2, 1) := by decide +kernel
theorem dX10_concludeLet_7 : decode cX10_concludeLet 7 = .ok (.aload_n 0, 1) := by decide +kernel
theorem dX10_concludeLet_8 : decode cX10_concludeLet 8 = .ok (.getfield 23, 3) := by decide +kernel
theorem dX10_concludeLet_11 : decode cX10_concludeLet 11 = .ok (.iload_n 1, 1) := by decide +kernel
theorem dX10_concludeLet_12 : decode cX10_concludeLet 12 = .ok (.iaload, 1) := by decide +kernel
theorem dX10_concludeLet_13 : decode cX10_concludeLet 13 = .ok (.istore_n 3, 1) := by decide +kernel
theorem dX10_concludeLet_14 : decode cX10_concludeLet 14 = .ok (.aload_n 0, 1) := by decide +kernel
theorem dX10_concludeLet_15 : decode cX10_concludeLet 15 = .ok (.getfield 70, 3) := by decide +kernel
theorem dX10_concludeLet_18 : decode cX10_concludeLet 18 = .ok (.aload_n 0, 1) := by decide +kernel
theorem dX10_concludeLet_19 : decode cX10_concludeLet 19 = .ok (.iload_n 3, 1) := by decide +kernel
theorem dX10_concludeLet_20 : decode cX10_concludeLet 20 = .ok (.invokevirtual 219, 3) := by decide +kernel
theorem dX10_concludeLet_23 : decode cX10_concludeLet 23 = .ok (.aload_n 0, 1) := by decide +kernel
theorem dX10_concludeLet_24 : decode cX10_concludeLet 24 = .ok (.getfield 97, 3) := by decide +kernel
theorem dX10_concludeLet_27 : decode cX10_concludeLet 27 = .ok (.iconst 0, 1) := by decide +kernel
theorem dX10_concludeLet_28 : decode cX10_concludeLet 28 = .ok (.invokestatic 222, 3) := by decide +kernel
theorem dX10_concludeLet_31 : decode cX10_concludeLet 31 = .ok (.aload_n 0, 1) := by decide +kernel
theorem dX10_concludeLet_32 : decode cX10_concludeLet 32 = .ok (.getfield 73, 3) := by decide +kernel
theorem dX10_concludeLet_35 : decode cX10_concludeLet 35 = .ok (.aload_n 0, 1) := by decide +kernel
theorem dX10_concludeLet_36 : decode cX10_concludeLet 36 = .ok (.iload_n 3, 1) := by decide +kernel
theorem dX10_concludeLet_37 : decode cX10_concludeLet 37 = .ok (.invokevirtual 219, 3) := by decide +kernel
theorem dX10_concludeLet_40 : decode cX10_concludeLet 40 = .ok (.aload_n 0, 1) := by decide +kernel
theorem dX10_concludeLet_41 : decode cX10_concludeLet 41 = .ok (.getfield 100, 3) := by decide +kernel
theorem dX10_concludeLet_44 : decode cX10_concludeLet 44 = .ok (.iconst 0, 1) := by decide +kernel
theorem dX10_concludeLet_45 : decode cX10_concludeLet 45 = .ok (.invokestatic 222, 3) := by decide +kernel
theorem dX10_concludeLet_48 : decode cX10_concludeLet 48 = .ok (.aload_n 0, 1) := by decide +kernel
theorem dX10_concludeLet_49 : decode cX10_concludeLet 49 = .ok (.getfield 88, 3) := by decide +kernel
theorem dX10_concludeLet_52 : decode cX10_concludeLet 52 = .ok (.iload_n 2, 1) := by decide +kernel
theorem dX10_concludeLet_53 : decode cX10_concludeLet 53 = .ok (.baload, 1) := by decide +kernel
theorem dX10_concludeLet_54 : decode cX10_concludeLet 54 = .ok (.ifCond .eq 19, 3) := by decide +kernel
theorem dX10_concludeLet_57 : decode cX10_concludeLet 57 = .ok (.aload_n 0, 1) := by decide +kernel
theorem dX10_concludeLet_58 : decode cX10_concludeLet 58 = .ok (.iload_n 3, 1) := by decide +kernel
theorem dX10_concludeLet_59 : decode cX10_concludeLet 59 = .ok (.invokevirtual 246, 3) := by decide +kernel
theorem dX10_concludeLet_62 : decode cX10_concludeLet 62 = .ok (.bipush 7, 2) := by decide +kernel
theorem dX10_concludeLet_64 : decode cX10_concludeLet 64 = .ok (.idiv, 1) := by decide +kernel
theorem dX10_concludeLet_65 : decode cX10_concludeLet 65 = .ok (.iload_n 2, 1) := by decide +kernel
theorem dX10_concludeLet_66 : decode cX10_concludeLet 66 = .ok (.if_icmp .ne 7, 3) := by decide +kernel
theorem dX10_concludeLet_69 : decode cX10_concludeLet 69 = .ok (.iconst 1, 1) := by decide +kernel
theorem dX10_concludeLet_70 : decode cX10_concludeLet 70 = .ok (.goto 4, 3) := by decide +kernel
theorem dX10_concludeLet_73 : decode cX10_concludeLet 73 = .ok (.iconst 0, 1) := by decide +kernel
theorem dX10_concludeLet_74 : decode cX10_concludeLet 74 = .ok (.istore 4, 2) := by decide +kernel
theorem dX10_concludeLet_76 : decode cX10_concludeLet 76 = .ok (.aload_n 0, 1) := by decide +kernel
theorem dX10_concludeLet_77 : decode cX10_concludeLet 77 = .ok (.getfield 88, 3) := by decide +kernel
theorem dX10_concludeLet_80 : decode cX10_concludeLet 80 = .ok (.iload_n 2, 1) := by decide +kernel
theorem dX10_concludeLet_81 : decode cX10_concludeLet 81 = .ok (.baload, 1) := by decide +kernel
theorem dX10_concludeLet_82 : decode cX10_concludeLet 82 = .ok (.ifCond .eq 19, 3) := by decide +kernel
theorem dX10_concludeLet_85 : decode cX10_concludeLet 85 = .ok (.aload_n 0, 1) := by decide +kernel
theorem dX10_concludeLet_86 : decode cX10_concludeLet 86 = .ok (.getfield 97, 3) := by decide +kernel
theorem dX10_concludeLet_89 : decode cX10_concludeLet 89 = .ok (.iload_n 2, 1) := by decide +kernel
theorem dX10_concludeLet_90 : decode cX10_concludeLet 90 = .ok (.invokestatic 312, 3) := by decide +kernel
theorem dX10_concludeLet_93 : decode cX10_concludeLet 93 = .ok (.aload_n 0, 1) := by decide +kernel
theorem dX10_concludeLet_94 : decode cX10_concludeLet 94 = .ok (.getfield 100, 3) := by decide +kernel
theorem dX10_concludeLet_97 : decode cX10_concludeLet 97 = .ok (.iload_n 2, 1) := by decide +kernel
theorem dX10_concludeLet_98 : decode cX10_concludeLet 98 = .ok (.invokestatic 312, 3) := by decide +kernel
theorem dX10_concludeLet_101 : decode cX10_concludeLet 101 = .ok (.aload_n 0, 1) := by decide +kernel
theorem dX10_concludeLet_102 : decode cX10_concludeLet 102 = .ok (.iload_n 1, 1) := by decide +kernel
theorem dX10_concludeLet_103 : decode cX10_concludeLet 103 = .ok (.aload_n 0, 1) := by decide +kernel
theorem dX10_concludeLet_104 : decode cX10_concludeLet 104 = .ok (.iload_n 3, 1) := by decide +kernel
theorem dX10_concludeLet_105 : decode cX10_concludeLet 105 = .ok (.invokevirtual 249, 3) := by decide +kernel
theorem dX10_concludeLet_108 : decode cX10_concludeLet 108 = .ok (.aload_n 0, 1) := by decide +kernel
theorem dX10_concludeLet_109 : decode cX10_concludeLet 109 = .ok (.iload_n 3, 1) := by decide +kernel
theorem dX10_concludeLet_110 : decode cX10_concludeLet 110 = .ok (.invokevirtual 246, 3) := by decide +kernel
theorem dX10_concludeLet_113 : decode cX10_concludeLet 113 = .ok (.iconst (-1), 1) := by decide +kernel
theorem dX10_concludeLet_114 : decode cX10_concludeLet 114 = .ok (.if_icmp .eq 8, 3) := by decide +kernel
theorem dX10_concludeLet_117 : decode cX10_concludeLet 117 = .ok (.iload 4, 2) := by decide +kernel
theorem dX10_concludeLet_119 : decode cX10_concludeLet 119 = .ok (.ifCond .eq 7, 3) := by decide +kernel
theorem dX10_concludeLet_122 : decode cX10_concludeLet 122 = .ok (.iconst (-1), 1) := by decide +kernel
theorem dX10_concludeLet_123 : decode cX10_concludeLet 123 = .ok (.goto 8, 3) := by decide +kernel
theorem dX10_concludeLet_126 : decode cX10_concludeLet 126 = .ok (.aload_n 0, 1) := by decide +kernel
theorem dX10_concludeLet_127 : decode cX10_concludeLet 127 = .ok (.iload_n 3, 1) := by decide +kernel
theorem dX10_concludeLet_128 : decode cX10_concludeLet 128 = .ok (.invokevirtual 246, 3) := by decide +kernel
theorem dX10_concludeLet_131 : decode cX10_concludeLet 131 = .ok (.invokevirtual 235, 3) := by decide +kernel
theorem dX10_concludeLet_134 : decode cX10_concludeLet 134 = .ok (.return_, 1) := by decide +kernel
set_option maxRecDepth 20000 in
set_option maxHeartbeats 4000000 in
theorem w_X10_concludeLet {c : rX} {d : Nat} {S : rS} {K : Option Value → rS → Prop} (ho : rOK c) (p0 : Int32) (h : ∃ j1 : Nat, am_ix p0 j1 320 ∧ (∃ j3 : Nat, am_ix p0 j3 320 ∧ (rM c d eX10_five (.ref c.2.2.1 :: [.int (S.1 6 j3)]) S (fun v S5 => ∃ z6 : Int32, v = some (.int z6) ∧ (rM c d eX10_copy [.ref (c.2.2.1 + (18 + 1)), .int z6, .ref (c.2.2.1 + (27 + 1)), .int 0] S5 (fun v S7 => v = none ∧ (rM c d eX10_five (.ref c.2.2.1 :: [.int (S.1 6 j3)]) S7 (fun v S9 => ∃ z10 : Int32, v = some (.int z10) ∧ (rM c d eX10_copy [.ref (c.2.2.1 + (19 + 1)), .int z10, .ref (c.2.2.1 + (28 + 1)), .int 0] S9 (fun v S11 => v = none ∧ (∃ j13 : Nat, am_ix (S.1 8 j1) j13 8 ∧ (((S11.1 33 j13) = 0 → (rG c eX10_concludeLet (d + 1) (rQ c K) 74 [some (.ref c.2.2.1), some (.int p0), some (.int (S.1 8 j1)), some (.int (S.1 6 j3)), none] [.int 0] S11)) ∧ (¬ (S11.1 33 j13) = 0 → (rM c d eX10_placeOf (.ref c.2.2.1 :: [.int (S.1 6 j3)]) S11 (fun v S16 => ∃ z17 : Int32, v = some (.int z17) ∧ ((¬ (z17 / 7) = (S.1 8 j1) → (rG c eX10_concludeLet (d + 1) (rQ c K) 74 [some (.ref c.2.2.1), some (.int p0), some (.int (S.1 8 j1)), some (.int (S.1 6 j3)), none] [.int 0] S16)) ∧ ((z17 / 7) = (S.1 8 j1) → (rG c eX10_concludeLet (d + 1) (rQ c K) 74 [some (.ref c.2.2.1), some (.int p0), some (.int (S.1 8 j1)), some (.int (S.1 6 j3)), none] [.int 1] S16)))))))))))))))))) : rM c (d + 1) eX10_concludeLet [.ref c.2.2.1, .int p0] S K := by
  refine rM.of (by decide) (Nat.le_of_ble_eq_true rfl) ?_
  show rG c eX10_concludeLet (d + 1) (rQ c K) 0 [some (.ref c.2.2.1), some (.int p0), none, none, none] [] S
  refine ag_aload_n dX10_concludeLet_0 rfl (Or.inr ⟨_, rfl⟩) ?_
  refine rr_get (v := .ref (c.2.2.1 + (5 + 1))) ho dX10_concludeLet_1 fw_10_29 rfl ?_
  refine ag_iload_n dX10_concludeLet_4 rfl ?_
  obtain ⟨j1, hj2, h⟩ := h
  refine rr_il (v := S.1 8 j1) ho dX10_concludeLet_5 (k := 5) (f := 8) rfl hj2 rfl ?_
  refine ag_istore_n (lv2 := [some (.ref c.2.2.1), some (.int p0), some (.int (S.1 8 j1)), none, none]) dX10_concludeLet_6 (Nat.le_of_ble_eq_true rfl) rfl ?_
  refine ag_aload_n dX10_concludeLet_7 rfl (Or.inr ⟨_, rfl⟩) ?_
  refine rr_get (v := .ref (c.2.2.1 + (3 + 1))) ho dX10_concludeLet_8 fw_10_23 rfl ?_
  refine ag_iload_n dX10_concludeLet_11 rfl ?_
  obtain ⟨j3, hj4, h⟩ := h
  refine rr_il (v := S.1 6 j3) ho dX10_concludeLet_12 (k := 3) (f := 6) rfl hj4 rfl ?_
  refine ag_istore_n (lv2 := [some (.ref c.2.2.1), some (.int p0), some (.int (S.1 8 j1)), some (.int (S.1 6 j3)), none]) dX10_concludeLet_13 (Nat.le_of_ble_eq_true rfl) rfl ?_
  refine ag_aload_n dX10_concludeLet_14 rfl (Or.inr ⟨_, rfl⟩) ?_
  refine rr_get (v := .ref (c.2.2.1 + (18 + 1))) ho dX10_concludeLet_15 fw_10_70 rfl ?_
  refine ag_aload_n dX10_concludeLet_18 rfl (Or.inr ⟨_, rfl⟩) ?_
  refine ag_iload_n dX10_concludeLet_19 rfl ?_
  refine rr_call (as := [.int (S.1 6 j3)]) (rest := [.ref (c.2.2.1 + (18 + 1))]) ho dX10_concludeLet_20 me_X10_five mi_X10_five lk_10_219 rfl rfl (Nat.le_of_ble_eq_true rfl) ?_
  refine rM.mono h ?_
  rintro v S5 ⟨z6, rfl, h⟩
  show rG _ _ _ _ _ _ [.int z6, .ref (c.2.2.1 + (18 + 1))] _
  refine ag_aload_n dX10_concludeLet_23 rfl (Or.inr ⟨_, rfl⟩) ?_
  refine rr_get (v := .ref (c.2.2.1 + (27 + 1))) ho dX10_concludeLet_24 fw_10_97 rfl ?_
  refine ag_iconst (v := 0) dX10_concludeLet_27 rfl ?_
  refine rr_calls (as := [.ref (c.2.2.1 + (18 + 1)), .int z6, .ref (c.2.2.1 + (27 + 1)), .int 0]) (rest := []) dX10_concludeLet_28 me_X10_copy ms_X10_copy lk_10_222 rfl rfl (Nat.le_of_ble_eq_true rfl) ?_
  refine rM.mono h ?_
  rintro v S7 ⟨rfl, h⟩
  show rG _ _ _ _ _ _ [] _
  refine ag_aload_n dX10_concludeLet_31 rfl (Or.inr ⟨_, rfl⟩) ?_
  refine rr_get (v := .ref (c.2.2.1 + (19 + 1))) ho dX10_concludeLet_32 fw_10_73 rfl ?_
  refine ag_aload_n dX10_concludeLet_35 rfl (Or.inr ⟨_, rfl⟩) ?_
  refine ag_iload_n dX10_concludeLet_36 rfl ?_
  refine rr_call (as := [.int (S.1 6 j3)]) (rest := [.ref (c.2.2.1 + (19 + 1))]) ho dX10_concludeLet_37 me_X10_five mi_X10_five lk_10_219 rfl rfl (Nat.le_of_ble_eq_true rfl) ?_
  refine rM.mono h ?_
  rintro v S9 ⟨z10, rfl, h⟩
  show rG _ _ _ _ _ _ [.int z10, .ref (c.2.2.1 + (19 + 1))] _
  refine ag_aload_n dX10_concludeLet_40 rfl (Or.inr ⟨_, rfl⟩) ?_
  refine rr_get (v := .ref (c.2.2.1 + (28 + 1))) ho dX10_concludeLet_41 fw_10_100 rfl ?_
  refine ag_iconst (v := 0) dX10_concludeLet_44 rfl ?_
  refine rr_calls (as := [.ref (c.2.2.1 + (19 + 1)), .int z10, .ref (c.2.2.1 + (28 + 1)), .int 0]) (rest := []) dX10_concludeLet_45 me_X10_copy ms_X10_copy lk_10_222 rfl rfl (Nat.le_of_ble_eq_true rfl) ?_
  refine rM.mono h ?_
  rintro v S11 ⟨rfl, h⟩
  show rG _ _ _ _ _ _ [] _
  refine ag_aload_n dX10_concludeLet_48 rfl (Or.inr ⟨_, rfl⟩) ?_
  refine rr_get (v := .ref (c.2.2.1 + (24 + 1))) ho dX10_concludeLet_49 fw_10_88 rfl ?_
  refine ag_iload_n dX10_concludeLet_52 rfl ?_
  obtain ⟨j13, hj14, h⟩ := h
  refine rr_zl (v := S11.1 33 j13) ho dX10_concludeLet_53 (k := 24) (f := 33) rfl hj14 rfl ?_
  refine ag_if_eq (tgt := 73) dX10_concludeLet_54 rfl (fun hc15 => ?_) (fun hc15 => ?_)
  · have h := h.1 hc15
    refine ag_iconst (v := 0) dX10_concludeLet_73 rfl ?_
    exact h
  · have h := h.2 hc15
    refine ag_aload_n dX10_concludeLet_57 rfl (Or.inr ⟨_, rfl⟩) ?_
    refine ag_iload_n dX10_concludeLet_58 rfl ?_
    refine rr_call (as := [.int (S.1 6 j3)]) (rest := []) ho dX10_concludeLet_59 me_X10_placeOf mi_X10_placeOf lk_10_246 rfl rfl (Nat.le_of_ble_eq_true rfl) ?_
    refine rM.mono h ?_
    rintro v S16 ⟨z17, rfl, h⟩
    show rG _ _ _ _ _ _ [.int z17] _
    refine ag_bipush (v := 7) dX10_concludeLet_62 (by decide) ?_
    refine ag_idiv dX10_concludeLet_64 (by decide) rfl ?_
    refine ag_iload_n dX10_concludeLet_65 rfl ?_
    refine ag_icmp_ne (tgt := 73) dX10_concludeLet_66 rfl (fun hc18 => ?_) (fun hc18 => ?_)
    · have h := h.1 hc18
      refine ag_iconst (v := 0) dX10_concludeLet_73 rfl ?_
      exact h
    · have h := h.2 hc18
      refine ag_iconst (v := 1) dX10_concludeLet_69 rfl ?_
      refine ag_goto (tgt := 74) dX10_concludeLet_70 rfl ?_
      exact h
set_option maxRecDepth 20000 in
set_option maxHeartbeats 4000000 in
theorem w_X10_concludeLet_74 {c : rX} {d : Nat} {S : rS} {K : Option Value → rS → Prop} (ho : rOK c) (v1 : Int32) (v2 : Int32) (v3 : Int32) (s0 : Int32) (h : ∃ j1 : Nat, am_ix v2 j1 8 ∧ (((S.1 33 j1) = 0 → (rG c eX10_concludeLet (d + 1) (rQ c K) 101 [some (.ref c.2.2.1), some (.int v1), none, some (.int v3), some (.int s0)] [] S)) ∧ (¬ (S.1 33 j1) = 0 → (rM c d eX10_drop [.ref (c.2.2.1 + (27 + 1)), .int v2] S (fun v S4 => v = none ∧ (rM c d eX10_drop [.ref (c.2.2.1 + (28 + 1)), .int v2] S4 (fun v S6 => v = none ∧ (rG c eX10_concludeLet (d + 1) (rQ c K) 101 [some (.ref c.2.2.1), some (.int v1), none, some (.int v3), some (.int s0)] [] S6)))))))) : rG c eX10_concludeLet (d + 1) (rQ c K) 74 [some (.ref c.2.2.1), some (.int v1), some (.int v2), some (.int v3), none] [.int s0] S := by
  refine ag_istore (lv2 := [some (.ref c.2.2.1), some (.int v1), some (.int v2), some (.int v3), some (.int s0)]) dX10_concludeLet_74 (Nat.le_of_ble_eq_true rfl) rfl ?_
  refine ag_aload_n dX10_concludeLet_76 rfl (Or.inr ⟨_, rfl⟩) ?_
  refine rr_get (v := .ref (c.2.2.1 + (24 + 1))) ho dX10_concludeLet_77 fw_10_88 rfl ?_
  refine ag_iload_n dX10_concludeLet_80 rfl ?_
  obtain ⟨j1, hj2, h⟩ := h
  refine rr_zl (v := S.1 33 j1) ho dX10_concludeLet_81 (k := 24) (f := 33) rfl hj2 rfl ?_
  refine ag_if_eq (tgt := 101) dX10_concludeLet_82 rfl (fun hc3 => ?_) (fun hc3 => ?_)
  · have h := h.1 hc3
    refine ag_drop 2 ?_
    exact h
  · have h := h.2 hc3
    refine ag_aload_n dX10_concludeLet_85 rfl (Or.inr ⟨_, rfl⟩) ?_
    refine rr_get (v := .ref (c.2.2.1 + (27 + 1))) ho dX10_concludeLet_86 fw_10_97 rfl ?_
    refine ag_iload_n dX10_concludeLet_89 rfl ?_
    refine rr_calls (as := [.ref (c.2.2.1 + (27 + 1)), .int v2]) (rest := []) dX10_concludeLet_90 me_X10_drop ms_X10_drop lk_10_312 rfl rfl (Nat.le_of_ble_eq_true rfl) ?_
    refine rM.mono h ?_
    rintro v S4 ⟨rfl, h⟩
    show rG _ _ _ _ _ _ [] _
    refine ag_aload_n dX10_concludeLet_93 rfl (Or.inr ⟨_, rfl⟩) ?_
    refine rr_get (v := .ref (c.2.2.1 + (28 + 1))) ho dX10_concludeLet_94 fw_10_100 rfl ?_
    refine ag_iload_n dX10_concludeLet_97 rfl ?_
    refine rr_calls (as := [.ref (c.2.2.1 + (28 + 1)), .int v2]) (rest := []) dX10_concludeLet_98 me_X10_drop ms_X10_drop lk_10_312 rfl rfl (Nat.le_of_ble_eq_true rfl) ?_
    refine rM.mono h ?_
    rintro v S6 ⟨rfl, h⟩
    show rG _ _ _ _ _ _ [] _
    refine ag_drop 2 ?_
    exact h
set_option maxRecDepth 20000 in
set_option maxHeartbeats 4000000 in
theorem w_X10_concludeLet_101 {c : rX} {d : Nat} {S : rS} {K : Option Value → rS → Prop} (ho : rOK c) (v1 : Int32) (v3 : Int32) (v4 : Int32) (h : rM c d eX10_typeOf (.ref c.2.2.1 :: [.int v3]) S (fun v S1 => ∃ z2 : Int32, v = some (.int z2) ∧ (rM c d eX10_placeOf (.ref c.2.2.1 :: [.int v3]) S1 (fun v S3 => ∃ z4 : Int32, v = some (.int z4) ∧ ((z4 = (-1) → (rM c d eX10_finish (.ref c.2.2.1 :: [.int v1, .int z2, .int (-1)]) S3 (fun v S6 => v = none ∧ (K none S6)))) ∧ (¬ z4 = (-1) → ((v4 = 0 → (rM c d eX10_placeOf (.ref c.2.2.1 :: [.int v3]) S3 (fun v S9 => ∃ z10 : Int32, v = some (.int z10) ∧ (rM c d eX10_finish (.ref c.2.2.1 :: [.int v1, .int z2, .int z10]) S9 (fun v S11 => v = none ∧ (K none S11)))))) ∧ (¬ v4 = 0 → (rM c d eX10_finish (.ref c.2.2.1 :: [.int v1, .int z2, .int (-1)]) S3 (fun v S13 => v = none ∧ (K none S13))))))))))) : rG c eX10_concludeLet (d + 1) (rQ c K) 101 [some (.ref c.2.2.1), some (.int v1), none, some (.int v3), some (.int v4)] [] S := by
  refine ag_aload_n dX10_concludeLet_101 rfl (Or.inr ⟨_, rfl⟩) ?_
  refine ag_iload_n dX10_concludeLet_102 rfl ?_
  refine ag_aload_n dX10_concludeLet_103 rfl (Or.inr ⟨_, rfl⟩) ?_
  refine ag_iload_n dX10_concludeLet_104 rfl ?_
  refine rr_call (as := [.int v3]) (rest := [.int v1, .ref c.2.2.1]) ho dX10_concludeLet_105 me_X10_typeOf mi_X10_typeOf lk_10_249 rfl rfl (Nat.le_of_ble_eq_true rfl) ?_
  refine rM.mono h ?_
  rintro v S1 ⟨z2, rfl, h⟩
  show rG _ _ _ _ _ _ [.int z2, .int v1, .ref c.2.2.1] _
  refine ag_aload_n dX10_concludeLet_108 rfl (Or.inr ⟨_, rfl⟩) ?_
  refine ag_iload_n dX10_concludeLet_109 rfl ?_
  refine rr_call (as := [.int v3]) (rest := [.int z2, .int v1, .ref c.2.2.1]) ho dX10_concludeLet_110 me_X10_placeOf mi_X10_placeOf lk_10_246 rfl rfl (Nat.le_of_ble_eq_true rfl) ?_
  refine rM.mono h ?_
  rintro v S3 ⟨z4, rfl, h⟩
  show rG _ _ _ _ _ _ [.int z4, .int z2, .int v1, .ref c.2.2.1] _
  refine ag_iconst (v := (-1)) dX10_concludeLet_113 rfl ?_
  refine ag_icmp_eq (tgt := 122) dX10_concludeLet_114 rfl (fun hc5 => ?_) (fun hc5 => ?_)
  · have h := h.1 hc5
    refine ag_iconst (v := (-1)) dX10_concludeLet_122 rfl ?_
    refine ag_goto (tgt := 131) dX10_concludeLet_123 rfl ?_
    refine rr_call (as := [.int v1, .int z2, .int (-1)]) (rest := []) ho dX10_concludeLet_131 me_X10_finish mi_X10_finish lk_10_235 rfl rfl (Nat.le_of_ble_eq_true rfl) ?_
    refine rM.mono h ?_
    rintro v S6 ⟨rfl, h⟩
    show rG _ _ _ _ _ _ [] _
    exact ag_ret (v := none) dX10_concludeLet_134 rfl ⟨_, rfl, _, rfl, h⟩ rfl
  · have h := h.2 hc5
    refine ag_iload dX10_concludeLet_117 rfl ?_
    refine ag_if_eq (tgt := 126) dX10_concludeLet_119 rfl (fun hc8 => ?_) (fun hc8 => ?_)
    · have h := h.1 hc8
      refine ag_aload_n dX10_concludeLet_126 rfl (Or.inr ⟨_, rfl⟩) ?_
      refine ag_iload_n dX10_concludeLet_127 rfl ?_
      refine rr_call (as := [.int v3]) (rest := [.int z2, .int v1, .ref c.2.2.1]) ho dX10_concludeLet_128 me_X10_placeOf mi_X10_placeOf lk_10_246 rfl rfl (Nat.le_of_ble_eq_true rfl) ?_
      refine rM.mono h ?_
      rintro v S9 ⟨z10, rfl, h⟩
      show rG _ _ _ _ _ _ [.int z10, .int z2, .int v1, .ref c.2.2.1] _
      refine rr_call (as := [.int v1, .int z2, .int z10]) (rest := []) ho dX10_concludeLet_131 me_X10_finish mi_X10_finish lk_10_235 rfl rfl (Nat.le_of_ble_eq_true rfl) ?_
      refine rM.mono h ?_
      rintro v S11 ⟨rfl, h⟩
      show rG _ _ _ _ _ _ [] _
      exact ag_ret (v := none) dX10_concludeLet_134 rfl ⟨_, rfl, _, rfl, h⟩ rfl
    · have h := h.2 hc8
      refine ag_iconst (v := (-1)) dX10_concludeLet_122 rfl ?_
      refine ag_goto (tgt := 131) dX10_concludeLet_123 rfl ?_
      refine rr_call (as := [.int v1, .int z2, .int (-1)]) (rest := []) ho dX10_concludeLet_131 me_X10_finish mi_X10_finish lk_10_235 rfl rfl (Nat.le_of_ble_eq_true rfl) ?_
      refine rM.mono h ?_
      rintro v S13 ⟨rfl, h⟩
      show rG _ _ _ _ _ _ [] _
      exact ag_ret (v := none) dX10_concludeLet_134 rfl ⟨_, rfl, _, rfl, h⟩ rfl
theorem dX10_concludeCall_0 : decode cX10_concludeCall 0 = .ok (.aload_n 0, 1) := by decide +kernel
theorem dX10_concludeCall_1 : decode cX10_concludeCall 1 = .ok (.getfield 17, 3) := by decide +kernel
theorem dX10_concludeCall_4 : decode cX10_concludeCall 4 = .ok (.iload_n 1, 1) := by decide +kernel
theorem dX10_concludeCall_5 : decode cX10_concludeCall 5 = .ok (.iaload, 1) := by decide +kernel
theorem dX10_concludeCall_6 : decode cX10_concludeCall 6 = .ok (.bipush 71, 2) := by decide +kernel
theorem dX10_concludeCall_8 : decode cX10_concludeCall 8 = .ok (.isub, 1) := by decide +kernel
theorem dX10_concludeCall_9 : decode cX10_concludeCall 9 = .ok (.istore_n 2, 1) := by decide +kernel
theorem dX10_concludeCall_10 : decode cX10_concludeCall 10 = .ok (.aload_n 0, 1) := by decide +kernel
theorem dX10_concludeCall_11 : decode cX10_concludeCall 11 = .ok (.getfield 20, 3) := by decide +kernel
theorem dX10_concludeCall_14 : decode cX10_concludeCall 14 = .ok (.iload_n 1, 1) := by decide +kernel
theorem dX10_concludeCall_15 : decode cX10_concludeCall 15 = .ok (.iaload, 1) := by decide +kernel
theorem dX10_concludeCall_16 : decode cX10_concludeCall 16 = .ok (.istore_n 3, 1) := by decide +kernel
theorem dX10_concludeCall_17 : decode cX10_concludeCall 17 = .ok (.aload_n 0, 1) := by decide +kernel
theorem dX10_concludeCall_18 : decode cX10_concludeCall 18 = .ok (.iload_n 3, 1) := by decide +kernel
theorem dX10_concludeCall_19 : decode cX10_concludeCall 19 = .ok (.invokevirtual 249, 3) := by decide +kernel
theorem dX10_concludeCall_22 : decode cX10_concludeCall 22 = .ok (.aload_n 0, 1) := by decide +kernel
theorem dX10_concludeCall_23 : decode cX10_concludeCall 23 = .ok (.getfield 48, 3) := by decide +kernel
theorem dX10_concludeCall_26 : decode cX10_concludeCall 26 = .ok (.iload_n 2, 1) := by decide +kernel
theorem dX10_concludeCall_27 : decode cX10_concludeCall 27 = .ok (.iaload, 1) := by decide +kernel
theorem dX10_concludeCall_28 : decode cX10_concludeCall 28 = .ok (.iconst (-1), 1) := by decide +kernel
theorem dX10_concludeCall_29 : decode cX10_concludeCall 29 = .ok (.ixor, 1) := by decide +kernel
theorem dX10_concludeCall_30 : decode cX10_concludeCall 30 = .ok (.iand, 1) := by decide +kernel
theorem dX10_concludeCall_31 : decode cX10_concludeCall 31 = .ok (.ifCond .eq 9, 3) := by decide +kernel
theorem dX10_concludeCall_34 : decode cX10_concludeCall 34 = .ok (.aload_n 0, 1) := by decide +kernel
theorem dX10_concludeCall_35 : decode cX10_concludeCall 35 = .ok (.iload_n 1, 1) := by decide +kernel
theorem dX10_concludeCall_36 : decode cX10_concludeCall 36 = .ok (.invokevirtual 302, 3) := by decide +kernel
theorem dX10_concludeCall_39 : decode cX10_concludeCall 39 = .ok (.return_, 1) := by decide +kernel
theorem dX10_concludeCall_40 : decode cX10_concludeCall 40 = .ok (.aload_n 0, 1) := by decide +kernel
theorem dX10_concludeCall_41 : decode cX10_concludeCall 41 = .ok (.iload_n 3, 1) := by decide +kernel
theorem dX10_concludeCall_42 : decode cX10_concludeCall 42 = .ok (.invokevirtual 246, 3) := by decide +kernel
theorem dX10_concludeCall_45 : decode cX10_concludeCall 45 = .ok (.istore 4, 2) := by decide +kernel
theorem dX10_concludeCall_47 : decode cX10_concludeCall 47 = .ok (.iconst 0, 1) := by decide +kernel
theorem dX10_concludeCall_48 : decode cX10_concludeCall 48 = .ok (.istore 5, 2) := by decide +kernel
theorem dX10_concludeCall_50 : decode cX10_concludeCall 50 = .ok (.iload 5, 2) := by decide +kernel
theorem dX10_concludeCall_52 : decode cX10_concludeCall 52 = .ok (.bipush 7, 2) := by decide +kernel
theorem dX10_concludeCall_54 : decode cX10_concludeCall 54 = .ok (.if_icmp .ge 77, 3) := by decide +kernel
theorem dX10_concludeCall_57 : decode cX10_concludeCall 57 = .ok (.iload 4, 2) := by decide +kernel
theorem dX10_concludeCall_59 : decode cX10_concludeCall 59 = .ok (.iconst (-1), 1) := by decide +kernel
theorem dX10_concludeCall_60 : decode cX10_concludeCall 60 = .ok (.if_icmp .eq 71, 3) := by decide +kernel
theorem dX10_concludeCall_63 : decode cX10_concludeCall 63 = .ok (.iload 4, 2) := by decide +kernel
theorem dX10_concludeCall_65 : decode cX10_concludeCall 65 = .ok (.iload 5, 2) := by decide +kernel
theorem dX10_concludeCall_67 : decode cX10_concludeCall 67 = .ok (.invokestatic 315, 3) := by decide +kernel
theorem dX10_concludeCall_70 : decode cX10_concludeCall 70 = .ok (.istore 6, 2) := by decide +kernel
theorem dX10_concludeCall_72 : decode cX10_concludeCall 72 = .ok (.iload 6, 2) := by decide +kernel
theorem dX10_concludeCall_74 : decode cX10_concludeCall 74 = .ok (.iconst (-1), 1) := by decide +kernel
theorem dX10_concludeCall_75 : decode cX10_concludeCall 75 = .ok (.if_icmp .ne 6, 3) := by decide +kernel
theorem dX10_concludeCall_78 : decode cX10_concludeCall 78 = .ok (.goto 47, 3) := by decide +kernel
theorem dX10_concludeCall_81 : decode cX10_concludeCall 81 = .ok (.aload_n 0, 1) := by decide +kernel
theorem dX10_concludeCall_82 : decode cX10_concludeCall 82 = .ok (.getfield 97, 3) := by decide +kernel
theorem dX10_concludeCall_85 : decode cX10_concludeCall 85 = .ok (.iconst 0, 1) := by decide +kernel
theorem dX10_concludeCall_86 : decode cX10_concludeCall 86 = .ok (.iload 6, 2) := by decide +kernel
theorem dX10_concludeCall_88 : decode cX10_concludeCall 88 = .ok (.aload_n 0, 1) := by decide +kernel
theorem dX10_concludeCall_89 : decode cX10_concludeCall 89 = .ok (.getfield 54, 3) := by decide +kernel
theorem dX10_concludeCall_92 : decode cX10_concludeCall 92 = .ok (.bipush 7, 2) := by decide +kernel
theorem dX10_concludeCall_94 : decode cX10_concludeCall 94 = .ok (.iload_n 2, 1) := by decide +kernel
theorem dX10_concludeCall_95 : decode cX10_concludeCall 95 = .ok (.imul, 1) := by decide +kernel
theorem dX10_concludeCall_96 : decode cX10_concludeCall 96 = .ok (.iload 5, 2) := by decide +kernel
theorem dX10_concludeCall_98 : decode cX10_concludeCall 98 = .ok (.iadd, 1) := by decide +kernel
theorem dX10_concludeCall_99 : decode cX10_concludeCall 99 = .ok (.iaload, 1) := by decide +kernel
theorem dX10_concludeCall_100 : decode cX10_concludeCall 100 = .ok (.invokestatic 289, 3) := by decide +kernel
theorem dX10_concludeCall_103 : decode cX10_concludeCall 103 = .ok (.aload_n 0, 1) := by decide +kernel
theorem dX10_concludeCall_104 : decode cX10_concludeCall 104 = .ok (.getfield 100, 3) := by decide +kernel
theorem dX10_concludeCall_107 : decode cX10_concludeCall 107 = .ok (.iconst 0, 1) := by decide +kernel
theorem dX10_concludeCall_108 : decode cX10_concludeCall 108 = .ok (.iload 6, 2) := by decide +kernel
theorem dX10_concludeCall_110 : decode cX10_concludeCall 110 = .ok (.aload_n 0, 1) := by decide +kernel
theorem dX10_concludeCall_111 : decode cX10_concludeCall 111 = .ok (.getfield 57, 3) := by decide +kernel
theorem dX10_concludeCall_114 : decode cX10_concludeCall 114 = .ok (.bipush 7, 2) := by decide +kernel
theorem dX10_concludeCall_116 : decode cX10_concludeCall 116 = .ok (.iload_n 2, 1) := by decide +kernel
theorem dX10_concludeCall_117 : decode cX10_concludeCall 117 = .ok (.imul, 1) := by decide +kernel
theorem dX10_concludeCall_118 : decode cX10_concludeCall 118 = .ok (.iload 5, 2) := by decide +kernel
theorem dX10_concludeCall_120 : decode cX10_concludeCall 120 = .ok (.iadd, 1) := by decide +kernel
theorem dX10_concludeCall_121 : decode cX10_concludeCall 121 = .ok (.iaload, 1) := by decide +kernel
theorem dX10_concludeCall_122 : decode cX10_concludeCall 122 = .ok (.invokestatic 289, 3) := by decide +kernel
theorem dX10_concludeCall_125 : decode cX10_concludeCall 125 = .ok (.iinc 5 1, 3) := by decide +kernel
theorem dX10_concludeCall_128 : decode cX10_concludeCall 128 = .ok (.goto (-78), 3) := by decide +kernel
theorem dX10_concludeCall_131 : decode cX10_concludeCall 131 = .ok (.aload_n 0, 1) := by decide +kernel
theorem dX10_concludeCall_132 : decode cX10_concludeCall 132 = .ok (.iload_n 1, 1) := by decide +kernel
theorem dX10_concludeCall_133 : decode cX10_concludeCall 133 = .ok (.aload_n 0, 1) := by decide +kernel
theorem dX10_concludeCall_134 : decode cX10_concludeCall 134 = .ok (.getfield 51, 3) := by decide +kernel
theorem dX10_concludeCall_137 : decode cX10_concludeCall 137 = .ok (.iload_n 2, 1) := by decide +kernel
theorem dX10_concludeCall_138 : decode cX10_concludeCall 138 = .ok (.iaload, 1) := by decide +kernel
theorem dX10_concludeCall_139 : decode cX10_concludeCall 139 = .ok (.iconst (-1), 1) := by decide +kernel
theorem dX10_concludeCall_140 : decode cX10_concludeCall 140 = .ok (.invokevirtual 235, 3) := by decide +kernel
theorem dX10_concludeCall_143 : decode cX10_concludeCall 143 = .ok (.return_, 1) := by decide +kernel
set_option maxRecDepth 20000 in
set_option maxHeartbeats 4000000 in
theorem w_X10_concludeCall {c : rX} {d : Nat} {S : rS} {K : Option Value → rS → Prop} (ho : rOK c) (p0 : Int32) (h : ∃ j1 : Nat, am_ix p0 j1 320 ∧ (∃ j3 : Nat, am_ix p0 j3 320 ∧ (rM c d eX10_typeOf (.ref c.2.2.1 :: [.int (S.1 5 j3)]) S (fun v S5 => ∃ z6 : Int32, v = some (.int z6) ∧ (∃ j7 : Nat, am_ix ((S.1 4 j1) - 71) j7 3 ∧ (((z6 &&& ((S5.1 14 j7) ^^^ (-1))) = 0 → (rM c d eX10_placeOf (.ref c.2.2.1 :: [.int (S.1 5 j3)]) S5 (fun v S10 => ∃ z11 : Int32, v = some (.int z11) ∧ (rG c eX10_concludeCall (d + 1) (rQ c K) 50 [some (.ref c.2.2.1), some (.int p0), some (.int ((S.1 4 j1) - 71)), none, some (.int z11), some (.int 0), none] [] S10)))) ∧ (¬ (z6 &&& ((S5.1 14 j7) ^^^ (-1))) = 0 → (rM c d eX10_refuse (.ref c.2.2.1 :: [.int p0]) S5 (fun v S12 => v = none ∧ (K none S12)))))))))) : rM c (d + 1) eX10_concludeCall [.ref c.2.2.1, .int p0] S K := by
  refine rM.of (by decide) (Nat.le_of_ble_eq_true rfl) ?_
  show rG c eX10_concludeCall (d + 1) (rQ c K) 0 [some (.ref c.2.2.1), some (.int p0), none, none, none, none, none] [] S
  refine ag_aload_n dX10_concludeCall_0 rfl (Or.inr ⟨_, rfl⟩) ?_
  refine rr_get (v := .ref (c.2.2.1 + (1 + 1))) ho dX10_concludeCall_1 fw_10_17 rfl ?_
  refine ag_iload_n dX10_concludeCall_4 rfl ?_
  obtain ⟨j1, hj2, h⟩ := h
  refine rr_il (v := S.1 4 j1) ho dX10_concludeCall_5 (k := 1) (f := 4) rfl hj2 rfl ?_
  refine ag_bipush (v := 71) dX10_concludeCall_6 (by decide) ?_
  refine ag_isub dX10_concludeCall_8 rfl ?_
  refine ag_istore_n (lv2 := [some (.ref c.2.2.1), some (.int p0), some (.int ((S.1 4 j1) - 71)), none, none, none, none]) dX10_concludeCall_9 (Nat.le_of_ble_eq_true rfl) rfl ?_
  refine ag_aload_n dX10_concludeCall_10 rfl (Or.inr ⟨_, rfl⟩) ?_
  refine rr_get (v := .ref (c.2.2.1 + (2 + 1))) ho dX10_concludeCall_11 fw_10_20 rfl ?_
  refine ag_iload_n dX10_concludeCall_14 rfl ?_
  obtain ⟨j3, hj4, h⟩ := h
  refine rr_il (v := S.1 5 j3) ho dX10_concludeCall_15 (k := 2) (f := 5) rfl hj4 rfl ?_
  refine ag_istore_n (lv2 := [some (.ref c.2.2.1), some (.int p0), some (.int ((S.1 4 j1) - 71)), some (.int (S.1 5 j3)), none, none, none]) dX10_concludeCall_16 (Nat.le_of_ble_eq_true rfl) rfl ?_
  refine ag_aload_n dX10_concludeCall_17 rfl (Or.inr ⟨_, rfl⟩) ?_
  refine ag_iload_n dX10_concludeCall_18 rfl ?_
  refine rr_call (as := [.int (S.1 5 j3)]) (rest := []) ho dX10_concludeCall_19 me_X10_typeOf mi_X10_typeOf lk_10_249 rfl rfl (Nat.le_of_ble_eq_true rfl) ?_
  refine rM.mono h ?_
  rintro v S5 ⟨z6, rfl, h⟩
  show rG _ _ _ _ _ _ [.int z6] _
  refine ag_aload_n dX10_concludeCall_22 rfl (Or.inr ⟨_, rfl⟩) ?_
  refine rr_get (v := .ref (c.2.2.1 + (11 + 1))) ho dX10_concludeCall_23 fw_10_48 rfl ?_
  refine ag_iload_n dX10_concludeCall_26 rfl ?_
  obtain ⟨j7, hj8, h⟩ := h
  refine rr_il (v := S5.1 14 j7) ho dX10_concludeCall_27 (k := 11) (f := 14) rfl hj8 rfl ?_
  refine ag_iconst (v := (-1)) dX10_concludeCall_28 rfl ?_
  refine ag_ixor dX10_concludeCall_29 rfl ?_
  refine ag_iand dX10_concludeCall_30 rfl ?_
  refine ag_if_eq (tgt := 40) dX10_concludeCall_31 rfl (fun hc9 => ?_) (fun hc9 => ?_)
  · have h := h.1 hc9
    refine ag_aload_n dX10_concludeCall_40 rfl (Or.inr ⟨_, rfl⟩) ?_
    refine ag_iload_n dX10_concludeCall_41 rfl ?_
    refine rr_call (as := [.int (S.1 5 j3)]) (rest := []) ho dX10_concludeCall_42 me_X10_placeOf mi_X10_placeOf lk_10_246 rfl rfl (Nat.le_of_ble_eq_true rfl) ?_
    refine rM.mono h ?_
    rintro v S10 ⟨z11, rfl, h⟩
    show rG _ _ _ _ _ _ [.int z11] _
    refine ag_istore (lv2 := [some (.ref c.2.2.1), some (.int p0), some (.int ((S.1 4 j1) - 71)), some (.int (S.1 5 j3)), some (.int z11), none, none]) dX10_concludeCall_45 (Nat.le_of_ble_eq_true rfl) rfl ?_
    refine ag_iconst (v := 0) dX10_concludeCall_47 rfl ?_
    refine ag_istore (lv2 := [some (.ref c.2.2.1), some (.int p0), some (.int ((S.1 4 j1) - 71)), some (.int (S.1 5 j3)), some (.int z11), some (.int 0), none]) dX10_concludeCall_48 (Nat.le_of_ble_eq_true rfl) rfl ?_
    refine ag_drop 3 ?_
    exact h
  · have h := h.2 hc9
    refine ag_aload_n dX10_concludeCall_34 rfl (Or.inr ⟨_, rfl⟩) ?_
    refine ag_iload_n dX10_concludeCall_35 rfl ?_
    refine rr_call (as := [.int p0]) (rest := []) ho dX10_concludeCall_36 me_X10_refuse mi_X10_refuse lk_10_302 rfl rfl (Nat.le_of_ble_eq_true rfl) ?_
    refine rM.mono h ?_
    rintro v S12 ⟨rfl, h⟩
    show rG _ _ _ _ _ _ [] _
    exact ag_ret (v := none) dX10_concludeCall_39 rfl ⟨_, rfl, _, rfl, h⟩ rfl
set_option maxRecDepth 20000 in
set_option maxHeartbeats 4000000 in
theorem w_X10_concludeCall_50 {c : rX} {d : Nat} {S : rS} {K : Option Value → rS → Prop} (ho : rOK c) (v1 : Int32) (v2 : Int32) (v4 : Int32) (v5 : Int32) (h : (7 ≤ v5 → (rG c eX10_concludeCall (d + 1) (rQ c K) 131 [some (.ref c.2.2.1), some (.int v1), some (.int v2), none, none, none, none] [] S)) ∧ (¬ 7 ≤ v5 → ((v4 = (-1) → (rG c eX10_concludeCall (d + 1) (rQ c K) 131 [some (.ref c.2.2.1), some (.int v1), some (.int v2), none, none, none, none] [] S)) ∧ (¬ v4 = (-1) → (rM c d eX10_joined [.int v4, .int v5] S (fun v S3 => ∃ z4 : Int32, v = some (.int z4) ∧ ((¬ z4 = (-1) → (∃ j6 : Nat, am_ix ((7 * v2) + v5) j6 21 ∧ (rM c d eX10_restrict [.ref (c.2.2.1 + (27 + 1)), .int 0, .int z4, .int (S3.1 16 j6)] S3 (fun v S8 => v = none ∧ (∃ j10 : Nat, am_ix ((7 * v2) + v5) j10 21 ∧ (rM c d eX10_restrict [.ref (c.2.2.1 + (28 + 1)), .int 0, .int z4, .int (S8.1 17 j10)] S8 (fun v S12 => v = none ∧ (rG c eX10_concludeCall (d + 1) (rQ c K) 50 [some (.ref c.2.2.1), some (.int v1), some (.int v2), none, some (.int v4), some (.int (v5 + 1)), none] [] S12)))))))) ∧ (z4 = (-1) → (rG c eX10_concludeCall (d + 1) (rQ c K) 50 [some (.ref c.2.2.1), some (.int v1), some (.int v2), none, some (.int v4), some (.int (v5 + 1)), none] [] S3))))))))) : rG c eX10_concludeCall (d + 1) (rQ c K) 50 [some (.ref c.2.2.1), some (.int v1), some (.int v2), none, some (.int v4), some (.int v5), none] [] S := by
  refine ag_iload dX10_concludeCall_50 rfl ?_
  refine ag_bipush (v := 7) dX10_concludeCall_52 (by decide) ?_
  refine ag_icmp_ge (tgt := 131) dX10_concludeCall_54 rfl (fun hc1 => ?_) (fun hc1 => ?_)
  · have h := h.1 hc1
    refine ag_drop 4 ?_
    refine ag_drop 5 ?_
    exact h
  · have h := h.2 hc1
    refine ag_iload dX10_concludeCall_57 rfl ?_
    refine ag_iconst (v := (-1)) dX10_concludeCall_59 rfl ?_
    refine ag_icmp_eq (tgt := 131) dX10_concludeCall_60 rfl (fun hc2 => ?_) (fun hc2 => ?_)
    · have h := h.1 hc2
      refine ag_drop 4 ?_
      refine ag_drop 5 ?_
      exact h
    · have h := h.2 hc2
      refine ag_iload dX10_concludeCall_63 rfl ?_
      refine ag_iload dX10_concludeCall_65 rfl ?_
      refine rr_calls (as := [.int v4, .int v5]) (rest := []) dX10_concludeCall_67 me_X10_joined ms_X10_joined lk_10_315 rfl rfl (Nat.le_of_ble_eq_true rfl) ?_
      refine rM.mono h ?_
      rintro v S3 ⟨z4, rfl, h⟩
      show rG _ _ _ _ _ _ [.int z4] _
      refine ag_istore (lv2 := [some (.ref c.2.2.1), some (.int v1), some (.int v2), none, some (.int v4), some (.int v5), some (.int z4)]) dX10_concludeCall_70 (Nat.le_of_ble_eq_true rfl) rfl ?_
      refine ag_iload dX10_concludeCall_72 rfl ?_
      refine ag_iconst (v := (-1)) dX10_concludeCall_74 rfl ?_
      refine ag_icmp_ne (tgt := 81) dX10_concludeCall_75 rfl (fun hc5 => ?_) (fun hc5 => ?_)
      · have h := h.1 hc5
        refine ag_aload_n dX10_concludeCall_81 rfl (Or.inr ⟨_, rfl⟩) ?_
        refine rr_get (v := .ref (c.2.2.1 + (27 + 1))) ho dX10_concludeCall_82 fw_10_97 rfl ?_
        refine ag_iconst (v := 0) dX10_concludeCall_85 rfl ?_
        refine ag_iload dX10_concludeCall_86 rfl ?_
        refine ag_aload_n dX10_concludeCall_88 rfl (Or.inr ⟨_, rfl⟩) ?_
        refine rr_get (v := .ref (c.2.2.1 + (13 + 1))) ho dX10_concludeCall_89 fw_10_54 rfl ?_
        refine ag_bipush (v := 7) dX10_concludeCall_92 (by decide) ?_
        refine ag_iload_n dX10_concludeCall_94 rfl ?_
        refine ag_imul dX10_concludeCall_95 rfl ?_
        refine ag_iload dX10_concludeCall_96 rfl ?_
        refine ag_iadd dX10_concludeCall_98 rfl ?_
        obtain ⟨j6, hj7, h⟩ := h
        refine rr_il (v := S3.1 16 j6) ho dX10_concludeCall_99 (k := 13) (f := 16) rfl hj7 rfl ?_
        refine rr_calls (as := [.ref (c.2.2.1 + (27 + 1)), .int 0, .int z4, .int (S3.1 16 j6)]) (rest := []) dX10_concludeCall_100 me_X10_restrict ms_X10_restrict lk_10_289 rfl rfl (Nat.le_of_ble_eq_true rfl) ?_
        refine rM.mono h ?_
        rintro v S8 ⟨rfl, h⟩
        show rG _ _ _ _ _ _ [] _
        refine ag_aload_n dX10_concludeCall_103 rfl (Or.inr ⟨_, rfl⟩) ?_
        refine rr_get (v := .ref (c.2.2.1 + (28 + 1))) ho dX10_concludeCall_104 fw_10_100 rfl ?_
        refine ag_iconst (v := 0) dX10_concludeCall_107 rfl ?_
        refine ag_iload dX10_concludeCall_108 rfl ?_
        refine ag_aload_n dX10_concludeCall_110 rfl (Or.inr ⟨_, rfl⟩) ?_
        refine rr_get (v := .ref (c.2.2.1 + (14 + 1))) ho dX10_concludeCall_111 fw_10_57 rfl ?_
        refine ag_bipush (v := 7) dX10_concludeCall_114 (by decide) ?_
        refine ag_iload_n dX10_concludeCall_116 rfl ?_
        refine ag_imul dX10_concludeCall_117 rfl ?_
        refine ag_iload dX10_concludeCall_118 rfl ?_
        refine ag_iadd dX10_concludeCall_120 rfl ?_
        obtain ⟨j10, hj11, h⟩ := h
        refine rr_il (v := S8.1 17 j10) ho dX10_concludeCall_121 (k := 14) (f := 17) rfl hj11 rfl ?_
        refine rr_calls (as := [.ref (c.2.2.1 + (28 + 1)), .int 0, .int z4, .int (S8.1 17 j10)]) (rest := []) dX10_concludeCall_122 me_X10_restrict ms_X10_restrict lk_10_289 rfl rfl (Nat.le_of_ble_eq_true rfl) ?_
        refine rM.mono h ?_
        rintro v S12 ⟨rfl, h⟩
        show rG _ _ _ _ _ _ [] _
        refine ag_iinc (v2 := (v5 + 1)) (lv2 := [some (.ref c.2.2.1), some (.int v1), some (.int v2), none, some (.int v4), some (.int (v5 + 1)), some (.int z4)]) dX10_concludeCall_125 rfl rfl rfl ?_
        refine ag_goto (tgt := 50) dX10_concludeCall_128 rfl ?_
        refine ag_drop 6 ?_
        exact h
      · have h := h.2 hc5
        refine ag_goto (tgt := 125) dX10_concludeCall_78 rfl ?_
        refine ag_iinc (v2 := (v5 + 1)) (lv2 := [some (.ref c.2.2.1), some (.int v1), some (.int v2), none, some (.int v4), some (.int (v5 + 1)), some (.int z4)]) dX10_concludeCall_125 rfl rfl rfl ?_
        refine ag_goto (tgt := 50) dX10_concludeCall_128 rfl ?_
        refine ag_drop 6 ?_
        exact h
set_option maxRecDepth 20000 in
set_option maxHeartbeats 4000000 in
theorem w_X10_concludeCall_131 {c : rX} {d : Nat} {S : rS} {K : Option Value → rS → Prop} (ho : rOK c) (v1 : Int32) (v2 : Int32) (h : ∃ j1 : Nat, am_ix v2 j1 3 ∧ (rM c d eX10_finish (.ref c.2.2.1 :: [.int v1, .int (S.1 15 j1), .int (-1)]) S (fun v S3 => v = none ∧ (K none S3)))) : rG c eX10_concludeCall (d + 1) (rQ c K) 131 [some (.ref c.2.2.1), some (.int v1), some (.int v2), none, none, none, none] [] S := by
  refine ag_aload_n dX10_concludeCall_131 rfl (Or.inr ⟨_, rfl⟩) ?_
  refine ag_iload_n dX10_concludeCall_132 rfl ?_
  refine ag_aload_n dX10_concludeCall_133 rfl (Or.inr ⟨_, rfl⟩) ?_
  refine rr_get (v := .ref (c.2.2.1 + (12 + 1))) ho dX10_concludeCall_134 fw_10_51 rfl ?_
  refine ag_iload_n dX10_concludeCall_137 rfl ?_
  obtain ⟨j1, hj2, h⟩ := h
  refine rr_il (v := S.1 15 j1) ho dX10_concludeCall_138 (k := 12) (f := 15) rfl hj2 rfl ?_
  refine ag_iconst (v := (-1)) dX10_concludeCall_139 rfl ?_
  refine rr_call (as := [.int v1, .int (S.1 15 j1), .int (-1)]) (rest := []) ho dX10_concludeCall_140 me_X10_finish mi_X10_finish lk_10_235 rfl rfl (Nat.le_of_ble_eq_true rfl) ?_
  refine rM.mono h ?_
  rintro v S3 ⟨rfl, h⟩
  show rG _ _ _ _ _ _ [] _
  exact ag_ret (v := none) dX10_concludeCall_143 rfl ⟨_, rfl, _, rfl, h⟩ rfl
theorem dX10_joined_0 : decode cX10_joined 0 = .ok (.iload_n 1, 1) := by decide +kernel
theorem dX10_joined_1 : decode cX10_joined 1 = .ok (.ifCond .ne 5, 3) := by decide +kernel
theorem dX10_joined_4 : decode cX10_joined 4 = .ok (.iload_n 0, 1) := by decide +kernel
theorem dX10_joined_5 : decode cX10_joined 5 = .ok (.ireturn, 1) := by decide +kernel
theorem dX10_joined_6 : decode cX10_joined 6 = .ok (.iload_n 1, 1) := by decide +kernel
theorem dX10_joined_7 : decode cX10_joined 7 = .ok (.iconst 3, 1) := by decide +kernel
theorem dX10_joined_8 : decode cX10_joined 8 = .ok (.if_icmp .ge 18, 3) := by decide +kernel
theorem dX10_joined_11 : decode cX10_joined 11 = .ok (.iload_n 0, 1) := by decide +kernel
theorem dX10_joined_12 : decode cX10_joined 12 = .ok (.iload_n 1, 1) := by decide +kernel
theorem dX10_joined_13 : decode cX10_joined 13 = .ok (.iconst 1, 1) := by decide +kernel
theorem dX10_joined_14 : decode cX10_joined 14 = .ok (.if_icmp .ne 7, 3) := by decide +kernel
theorem dX10_joined_17 : decode cX10_joined 17 = .ok (.iconst 1, 1) := by decide +kernel
theorem dX10_joined_18 : decode cX10_joined 18 = .ok (.goto 4, 3) := by decide +kernel
theorem dX10_joined_21 : decode cX10_joined 21 = .ok (.iconst 0, 1) := by decide +kernel
theorem dX10_joined_22 : decode cX10_joined 22 = .ok (.invokestatic 305, 3) := by decide +kernel
theorem dX10_joined_25 : decode cX10_joined 25 = .ok (.ireturn, 1) := by decide +kernel
theorem dX10_joined_26 : decode cX10_joined 26 = .ok (.iload_n 0, 1) := by decide +kernel
theorem dX10_joined_27 : decode cX10_joined 27 = .ok (.iload_n 1, 1) := by decide +kernel
theorem dX10_joined_28 : decode cX10_joined 28 = .ok (.iconst 5, 1) := by decide +kernel
theorem dX10_joined_29 : decode cX10_joined 29 = .ok (.if_icmp .ge 7, 3) := by decide +kernel
theorem dX10_joined_32 : decode cX10_joined 32 = .ok (.iconst 1, 1) := by decide +kernel
theorem dX10_joined_33 : decode cX10_joined 33 = .ok (.goto 4, 3) := by decide +kernel
theorem dX10_joined_36 : decode cX10_joined 36 = .ok (.iconst 0, 1) := by decide +kernel
theorem dX10_joined_37 : decode cX10_joined 37 = .ok (.invokestatic 305, 3) := by decide +kernel
theorem dX10_joined_40 : decode cX10_joined 40 = .ok (.istore_n 2, 1) := by decide +kernel
theorem dX10_joined_41 : decode cX10_joined 41 = .ok (.iload_n 2, 1) := by decide +kernel
theorem dX10_joined_42 : decode cX10_joined 42 = .ok (.iconst (-1), 1) := by decide +kernel
theorem dX10_joined_43 : decode cX10_joined 43 = .ok (.if_icmp .ne 7, 3) := by decide +kernel
theorem dX10_joined_46 : decode cX10_joined 46 = .ok (.iconst (-1), 1) := by decide +kernel
theorem dX10_joined_47 : decode cX10_joined 47 = .ok (.goto 19, 3) := by decide +kernel
theorem dX10_joined_50 : decode cX10_joined 50 = .ok (.iload_n 2, 1) := by decide +kernel
theorem dX10_joined_51 : decode cX10_joined 51 = .ok (.iload_n 1, 1) := by decide +kernel
theorem dX10_joined_52 : decode cX10_joined 52 = .ok (.iconst 2, 1) := by decide +kernel
theorem dX10_joined_53 : decode cX10_joined 53 = .ok (.irem, 1) := by decide +kernel
theorem dX10_joined_54 : decode cX10_joined 54 = .ok (.iconst 1, 1) := by decide +kernel
theorem dX10_joined_55 : decode cX10_joined 55 = .ok (.if_icmp .ne 7, 3) := by decide +kernel
theorem dX10_joined_58 : decode cX10_joined 58 = .ok (.iconst 1, 1) := by decide +kernel
theorem dX10_joined_59 : decode cX10_joined 59 = .ok (.goto 4, 3) := by decide +kernel
theorem dX10_joined_62 : decode cX10_joined 62 = .ok (.iconst 0, 1) := by decide +kernel
theorem dX10_joined_63 : decode cX10_joined 63 = .ok (.invokestatic 305, 3) := by decide +kernel
theorem dX10_joined_66 : decode cX10_joined 66 = .ok (.ireturn, 1) := by decide +kernel
set_option maxRecDepth 20000 in
set_option maxHeartbeats 4000000 in
theorem w_X10_joined {c : rX} {d : Nat} {S : rS} {K : Option Value → rS → Prop} (ho : rOK c) (p0 : Int32) (p1 : Int32) (h : (¬ p1 = 0 → ((3 ≤ p1 → ((5 ≤ p1 → (rG c eX10_joined (d + 1) (rQ c K) 37 [none, some (.int p1), none] [.int 0, .int p0] S)) ∧ (¬ 5 ≤ p1 → (rG c eX10_joined (d + 1) (rQ c K) 37 [none, some (.int p1), none] [.int 1, .int p0] S)))) ∧ (¬ 3 ≤ p1 → ((¬ p1 = 1 → (rM c d eX10_further [.int p0, .int 0] S (fun v S5 => ∃ z6 : Int32, v = some (.int z6) ∧ (K (some (.int z6)) S5)))) ∧ (p1 = 1 → (rM c d eX10_further [.int p0, .int 1] S (fun v S7 => ∃ z8 : Int32, v = some (.int z8) ∧ (K (some (.int z8)) S7)))))))) ∧ (p1 = 0 → (K (some (.int p0)) S))) : rM c (d + 1) eX10_joined [.int p0, .int p1] S K := by
  refine rM.of (by decide) (Nat.le_of_ble_eq_true rfl) ?_
  show rG c eX10_joined (d + 1) (rQ c K) 0 [some (.int p0), some (.int p1), none] [] S
  refine ag_iload_n dX10_joined_0 rfl ?_
  refine ag_if_ne (tgt := 6) dX10_joined_1 rfl (fun hc1 => ?_) (fun hc1 => ?_)
  · have h := h.1 hc1
    refine ag_iload_n dX10_joined_6 rfl ?_
    refine ag_iconst (v := 3) dX10_joined_7 rfl ?_
    refine ag_icmp_ge (tgt := 26) dX10_joined_8 rfl (fun hc2 => ?_) (fun hc2 => ?_)
    · have h := h.1 hc2
      refine ag_iload_n dX10_joined_26 rfl ?_
      refine ag_iload_n dX10_joined_27 rfl ?_
      refine ag_iconst (v := 5) dX10_joined_28 rfl ?_
      refine ag_icmp_ge (tgt := 36) dX10_joined_29 rfl (fun hc3 => ?_) (fun hc3 => ?_)
      · have h := h.1 hc3
        refine ag_iconst (v := 0) dX10_joined_36 rfl ?_
        refine ag_drop 0 ?_
        exact h
      · have h := h.2 hc3
        refine ag_iconst (v := 1) dX10_joined_32 rfl ?_
        refine ag_goto (tgt := 37) dX10_joined_33 rfl ?_
        refine ag_drop 0 ?_
        exact h
    · have h := h.2 hc2
      refine ag_iload_n dX10_joined_11 rfl ?_
      refine ag_iload_n dX10_joined_12 rfl ?_
      refine ag_iconst (v := 1) dX10_joined_13 rfl ?_
      refine ag_icmp_ne (tgt := 21) dX10_joined_14 rfl (fun hc4 => ?_) (fun hc4 => ?_)
      · have h := h.1 hc4
        refine ag_iconst (v := 0) dX10_joined_21 rfl ?_
        refine rr_calls (as := [.int p0, .int 0]) (rest := []) dX10_joined_22 me_X10_further ms_X10_further lk_10_305 rfl rfl (Nat.le_of_ble_eq_true rfl) ?_
        refine rM.mono h ?_
        rintro v S5 ⟨z6, rfl, h⟩
        show rG _ _ _ _ _ _ [.int z6] _
        exact ag_ret (v := some (.int z6)) dX10_joined_25 ⟨_, rfl, rfl⟩ ⟨_, rfl, _, rfl, h⟩ rfl
      · have h := h.2 hc4
        refine ag_iconst (v := 1) dX10_joined_17 rfl ?_
        refine ag_goto (tgt := 22) dX10_joined_18 rfl ?_
        refine rr_calls (as := [.int p0, .int 1]) (rest := []) dX10_joined_22 me_X10_further ms_X10_further lk_10_305 rfl rfl (Nat.le_of_ble_eq_true rfl) ?_
        refine rM.mono h ?_
        rintro v S7 ⟨z8, rfl, h⟩
        show rG _ _ _ _ _ _ [.int z8] _
        exact ag_ret (v := some (.int z8)) dX10_joined_25 ⟨_, rfl, rfl⟩ ⟨_, rfl, _, rfl, h⟩ rfl
  · have h := h.2 hc1
    refine ag_iload_n dX10_joined_4 rfl ?_
    exact ag_ret (v := some (.int p0)) dX10_joined_5 ⟨_, rfl, rfl⟩ ⟨_, rfl, _, rfl, h⟩ rfl
set_option maxRecDepth 20000 in
set_option maxHeartbeats 4000000 in
theorem w_X10_joined_37 {c : rX} {d : Nat} {S : rS} {K : Option Value → rS → Prop} (ho : rOK c) (v1 : Int32) (s0 : Int32) (s1 : Int32) (h : rM c d eX10_further [.int s1, .int s0] S (fun v S1 => ∃ z2 : Int32, v = some (.int z2) ∧ ((¬ z2 = (-1) → ((¬ (v1 - v1 / 2 * 2) = 1 → (rM c d eX10_further [.int z2, .int 0] S1 (fun v S5 => ∃ z6 : Int32, v = some (.int z6) ∧ (K (some (.int z6)) S5)))) ∧ ((v1 - v1 / 2 * 2) = 1 → (rM c d eX10_further [.int z2, .int 1] S1 (fun v S7 => ∃ z8 : Int32, v = some (.int z8) ∧ (K (some (.int z8)) S7)))))) ∧ (z2 = (-1) → (K (some (.int (-1))) S1))))) : rG c eX10_joined (d + 1) (rQ c K) 37 [none, some (.int v1), none] [.int s0, .int s1] S := by
  refine rr_calls (as := [.int s1, .int s0]) (rest := []) dX10_joined_37 me_X10_further ms_X10_further lk_10_305 rfl rfl (Nat.le_of_ble_eq_true rfl) ?_
  refine rM.mono h ?_
  rintro v S1 ⟨z2, rfl, h⟩
  show rG _ _ _ _ _ _ [.int z2] _
  refine ag_istore_n (lv2 := [none, some (.int v1), some (.int z2)]) dX10_joined_40 (Nat.le_of_ble_eq_true rfl) rfl ?_
  refine ag_iload_n dX10_joined_41 rfl ?_
  refine ag_iconst (v := (-1)) dX10_joined_42 rfl ?_
  refine ag_icmp_ne (tgt := 50) dX10_joined_43 rfl (fun hc3 => ?_) (fun hc3 => ?_)
  · have h := h.1 hc3
    refine ag_iload_n dX10_joined_50 rfl ?_
    refine ag_iload_n dX10_joined_51 rfl ?_
    refine ag_iconst (v := 2) dX10_joined_52 rfl ?_
    refine ag_irem dX10_joined_53 (by decide) rfl ?_
    refine ag_iconst (v := 1) dX10_joined_54 rfl ?_
    refine ag_icmp_ne (tgt := 62) dX10_joined_55 rfl (fun hc4 => ?_) (fun hc4 => ?_)
    · have h := h.1 hc4
      refine ag_iconst (v := 0) dX10_joined_62 rfl ?_
      refine rr_calls (as := [.int z2, .int 0]) (rest := []) dX10_joined_63 me_X10_further ms_X10_further lk_10_305 rfl rfl (Nat.le_of_ble_eq_true rfl) ?_
      refine rM.mono h ?_
      rintro v S5 ⟨z6, rfl, h⟩
      show rG _ _ _ _ _ _ [.int z6] _
      exact ag_ret (v := some (.int z6)) dX10_joined_66 ⟨_, rfl, rfl⟩ ⟨_, rfl, _, rfl, h⟩ rfl
    · have h := h.2 hc4
      refine ag_iconst (v := 1) dX10_joined_58 rfl ?_
      refine ag_goto (tgt := 63) dX10_joined_59 rfl ?_
      refine rr_calls (as := [.int z2, .int 1]) (rest := []) dX10_joined_63 me_X10_further ms_X10_further lk_10_305 rfl rfl (Nat.le_of_ble_eq_true rfl) ?_
      refine rM.mono h ?_
      rintro v S7 ⟨z8, rfl, h⟩
      show rG _ _ _ _ _ _ [.int z8] _
      exact ag_ret (v := some (.int z8)) dX10_joined_66 ⟨_, rfl, rfl⟩ ⟨_, rfl, _, rfl, h⟩ rfl
  · have h := h.2 hc3
    refine ag_iconst (v := (-1)) dX10_joined_46 rfl ?_
    refine ag_goto (tgt := 66) dX10_joined_47 rfl ?_
    exact ag_ret (v := some (.int (-1))) dX10_joined_66 ⟨_, rfl, rfl⟩ ⟨_, rfl, _, rfl, h⟩ rfl
theorem dX10_everything_0 : decode cX10_everything 0 = .ok (.iconst 0, 1) := by decide +kernel
theorem dX10_everything_1 : decode cX10_everything 1 = .ok (.istore_n 2, 1) := by decide +kernel
theorem dX10_everything_2 : decode cX10_everything 2 = .ok (.iload_n 2, 1) := by decide +kernel
theorem dX10_everything_3 : decode cX10_everything 3 = .ok (.iconst 5, 1) := by decide +kernel
theorem dX10_everything_4 : decode cX10_everything 4 = .ok (.if_icmp .ge 15, 3) := by decide +kernel
theorem dX10_everything_7 : decode cX10_everything 7 = .ok (.aload_n 1, 1) := by decide +kernel
theorem dX10_everything_8 : decode cX10_everything 8 = .ok (.iload_n 2, 1) := by decide +kernel
theorem dX10_everything_9 : decode cX10_everything 9 = .ok (.ldc2_w 207, 3) := by decide +kernel
theorem dX10_everything_12 : decode cX10_everything 12 = .ok (.lastore, 1) := by decide +kernel
theorem dX10_everything_13 : decode cX10_everything 13 = .ok (.iinc 2 1, 3) := by decide +kernel
theorem dX10_everything_16 : decode cX10_everything 16 = .ok (.goto (-14), 3) := by decide +kernel
theorem dX10_everything_19 : decode cX10_everything 19 = .ok (.iconst 0, 1) := by decide +kernel
theorem dX10_everything_20 : decode cX10_everything 20 = .ok (.istore_n 2, 1) := by decide +kernel
theorem dX10_everything_21 : decode cX10_everything 21 = .ok (.iload_n 2, 1) := by decide +kernel
theorem dX10_everything_22 : decode cX10_everything 22 = .ok (.bipush 8, 2) := by decide +kernel
theorem dX10_everything_24 : decode cX10_everything 24 = .ok (.if_icmp .ge 26, 3) := by decide +kernel
theorem dX10_everything_27 : decode cX10_everything 27 = .ok (.aload_n 0, 1) := by decide +kernel
theorem dX10_everything_28 : decode cX10_everything 28 = .ok (.getfield 88, 3) := by decide +kernel
theorem dX10_everything_31 : decode cX10_everything 31 = .ok (.iload_n 2, 1) := by decide +kernel
theorem dX10_everything_32 : decode cX10_everything 32 = .ok (.iconst 0, 1) := by decide +kernel
theorem dX10_everything_33 : decode cX10_everything 33 = .ok (.bastore, 1) := by decide +kernel
theorem dX10_everything_34 : decode cX10_everything 34 = .ok (.aload_n 0, 1) := by decide +kernel
theorem dX10_everything_35 : decode cX10_everything 35 = .ok (.getfield 85, 3) := by decide +kernel
theorem dX10_everything_38 : decode cX10_everything 38 = .ok (.iload_n 2, 1) := by decide +kernel
theorem dX10_everything_39 : decode cX10_everything 39 = .ok (.bipush 7, 2) := by decide +kernel
theorem dX10_everything_41 : decode cX10_everything 41 = .ok (.iload_n 2, 1) := by decide +kernel
theorem dX10_everything_42 : decode cX10_everything 42 = .ok (.imul, 1) := by decide +kernel
theorem dX10_everything_43 : decode cX10_everything 43 = .ok (.iastore, 1) := by decide +kernel
theorem dX10_everything_44 : decode cX10_everything 44 = .ok (.iinc 2 1, 3) := by decide +kernel
theorem dX10_everything_47 : decode cX10_everything 47 = .ok (.goto (-26), 3) := by decide +kernel
theorem dX10_everything_50 : decode cX10_everything 50 = .ok (.return_, 1) := by decide +kernel
set_option maxRecDepth 20000 in
set_option maxHeartbeats 4000000 in
theorem w_X10_everything {c : rX} {d : Nat} {S : rS} {K : Option Value → rS → Prop} (ho : rOK c) {kp0 fp0 np0 : Nat} (hp0 : rT[kp0]? = some (fp0, 21, np0)) (h : rG c eX10_everything d (rQ c K) 2 [some (.ref c.2.2.1), some (.ref (c.2.2.1 + (kp0 + 1))), some (.int 0)] [] S) : rM c d eX10_everything [.ref c.2.2.1, .ref (c.2.2.1 + (kp0 + 1))] S K := by
  refine rM.of (by decide) (Nat.le_of_ble_eq_true rfl) ?_
  show rG c eX10_everything d (rQ c K) 0 [some (.ref c.2.2.1), some (.ref (c.2.2.1 + (kp0 + 1))), none] [] S
  refine ag_iconst (v := 0) dX10_everything_0 rfl ?_
  refine ag_istore_n (lv2 := [some (.ref c.2.2.1), some (.ref (c.2.2.1 + (kp0 + 1))), some (.int 0)]) dX10_everything_1 (Nat.le_of_ble_eq_true rfl) rfl ?_
  exact h
set_option maxRecDepth 20000 in
set_option maxHeartbeats 4000000 in
theorem w_X10_everything_2 {c : rX} {d : Nat} {S : rS} {K : Option Value → rS → Prop} (ho : rOK c) {kp0 fp0 np0 : Nat} (hp0 : rT[kp0]? = some (fp0, 21, np0)) (v2 : Int32) (h : (5 ≤ v2 → (rG c eX10_everything d (rQ c K) 21 [some (.ref c.2.2.1), none, some (.int 0)] [] S)) ∧ (¬ 5 ≤ v2 → (∃ j2 : Nat, am_ix v2 j2 np0 ∧ (rG c eX10_everything d (rQ c K) 2 [some (.ref c.2.2.1), some (.ref (c.2.2.1 + (kp0 + 1))), some (.int (v2 + 1))] [] (rsj S fp0 j2 72057594037927935))))) : rG c eX10_everything d (rQ c K) 2 [some (.ref c.2.2.1), some (.ref (c.2.2.1 + (kp0 + 1))), some (.int v2)] [] S := by
  refine ag_iload_n dX10_everything_2 rfl ?_
  refine ag_iconst (v := 5) dX10_everything_3 rfl ?_
  refine ag_icmp_ge (tgt := 19) dX10_everything_4 rfl (fun hc1 => ?_) (fun hc1 => ?_)
  · have h := h.1 hc1
    refine ag_iconst (v := 0) dX10_everything_19 rfl ?_
    refine ag_istore_n (lv2 := [some (.ref c.2.2.1), some (.ref (c.2.2.1 + (kp0 + 1))), some (.int 0)]) dX10_everything_20 (Nat.le_of_ble_eq_true rfl) rfl ?_
    refine ag_drop 1 ?_
    exact h
  · have h := h.2 hc1
    refine ag_aload_n dX10_everything_7 rfl (Or.inr ⟨_, rfl⟩) ?_
    refine ag_iload_n dX10_everything_8 rfl ?_
    refine ag_ldc2 dX10_everything_9 kl_10_207 ?_
    obtain ⟨j2, hj3, h⟩ := h
    refine rr_ls (S2 := (rsj S fp0 j2 72057594037927935)) ho dX10_everything_12 hp0 hj3 rfl ?_
    refine ag_iinc (v2 := (v2 + 1)) (lv2 := [some (.ref c.2.2.1), some (.ref (c.2.2.1 + (kp0 + 1))), some (.int (v2 + 1))]) dX10_everything_13 rfl rfl rfl ?_
    refine ag_goto (tgt := 2) dX10_everything_16 rfl ?_
    exact h
set_option maxRecDepth 20000 in
set_option maxHeartbeats 4000000 in
theorem w_X10_everything_21 {c : rX} {d : Nat} {S : rS} {K : Option Value → rS → Prop} (ho : rOK c) (v2 : Int32) (h : (8 ≤ v2 → (K none S)) ∧ (¬ 8 ≤ v2 → (∃ j2 : Nat, am_ix v2 j2 8 ∧ (∃ j4 : Nat, am_ix v2 j4 8 ∧ (rG c eX10_everything d (rQ c K) 21 [some (.ref c.2.2.1), none, some (.int (v2 + 1))] [] (rsi (rsi S 33 j2 0) 32 j4 (7 * v2))))))) : rG c eX10_everything d (rQ c K) 21 [some (.ref c.2.2.1), none, some (.int v2)] [] S := by
  refine ag_iload_n dX10_everything_21 rfl ?_
  refine ag_bipush (v := 8) dX10_everything_22 (by decide) ?_
  refine ag_icmp_ge (tgt := 50) dX10_everything_24 rfl (fun hc1 => ?_) (fun hc1 => ?_)
  · have h := h.1 hc1
    exact ag_ret (v := none) dX10_everything_50 rfl ⟨_, rfl, _, rfl, h⟩ rfl
  · have h := h.2 hc1
    refine ag_aload_n dX10_everything_27 rfl (Or.inr ⟨_, rfl⟩) ?_
    refine rr_get (v := .ref (c.2.2.1 + (24 + 1))) ho dX10_everything_28 fw_10_88 rfl ?_
    refine ag_iload_n dX10_everything_31 rfl ?_
    refine ag_iconst (v := 0) dX10_everything_32 rfl ?_
    obtain ⟨j2, hj3, h⟩ := h
    refine rr_zs (S2 := (rsi S 33 j2 0)) ho dX10_everything_33 (k := 24) (f := 33) rfl hj3 (Or.inl rfl) rfl ?_
    refine ag_aload_n dX10_everything_34 rfl (Or.inr ⟨_, rfl⟩) ?_
    refine rr_get (v := .ref (c.2.2.1 + (23 + 1))) ho dX10_everything_35 fw_10_85 rfl ?_
    refine ag_iload_n dX10_everything_38 rfl ?_
    refine ag_bipush (v := 7) dX10_everything_39 (by decide) ?_
    refine ag_iload_n dX10_everything_41 rfl ?_
    refine ag_imul dX10_everything_42 rfl ?_
    obtain ⟨j4, hj5, h⟩ := h
    refine rr_is (S2 := (rsi (rsi S 33 j2 0) 32 j4 (7 * v2))) ho dX10_everything_43 (k := 23) (f := 32) rfl hj5 rfl ?_
    refine ag_iinc (v2 := (v2 + 1)) (lv2 := [some (.ref c.2.2.1), none, some (.int (v2 + 1))]) dX10_everything_44 rfl rfl rfl ?_
    refine ag_goto (tgt := 21) dX10_everything_47 rfl ?_
    exact h
theorem dX10_define_0 : decode cX10_define 0 = .ok (.aload_n 0, 1) := by decide +kernel
theorem dX10_define_1 : decode cX10_define 1 = .ok (.iconst 0, 1) := by decide +kernel
theorem dX10_define_2 : decode cX10_define 2 = .ok (.putfield 148, 3) := by decide +kernel
theorem dX10_define_5 : decode cX10_define 5 = .ok (.aload_n 0, 1) := by decide +kernel
theorem dX10_define_6 : decode cX10_define 6 = .ok (.iconst (-1), 1) := by decide +kernel
theorem dX10_define_7 : decode cX10_define 7 = .ok (.putfield 9, 3) := by decide +kernel
theorem dX10_define_10 : decode cX10_define 10 = .ok (.aload_n 0, 1) := by decide +kernel
theorem dX10_define_11 : decode cX10_define 11 = .ok (.iconst 0, 1) := by decide +kernel
theorem dX10_define_12 : decode cX10_define 12 = .ok (.putfield 154, 3) := by decide +kernel
theorem dX10_define_15 : decode cX10_define 15 = .ok (.aload_n 0, 1) := by decide +kernel
theorem dX10_define_16 : decode cX10_define 16 = .ok (.invokevirtual 175, 3) := by decide +kernel
theorem dX10_define_19 : decode cX10_define 19 = .ok (.bipush 71, 2) := by decide +kernel
theorem dX10_define_21 : decode cX10_define 21 = .ok (.isub, 1) := by decide +kernel
theorem dX10_define_22 : decode cX10_define 22 = .ok (.istore_n 1, 1) := by decide +kernel
theorem dX10_define_23 : decode cX10_define 23 = .ok (.iload_n 1, 1) := by decide +kernel
theorem dX10_define_24 : decode cX10_define 24 = .ok (.ifCond .lt 21, 3) := by decide +kernel
theorem dX10_define_27 : decode cX10_define 27 = .ok (.iload_n 1, 1) := by decide +kernel
theorem dX10_define_28 : decode cX10_define 28 = .ok (.iconst 3, 1) := by decide +kernel
theorem dX10_define_29 : decode cX10_define 29 = .ok (.if_icmp .ge 16, 3) := by decide +kernel
theorem dX10_define_32 : decode cX10_define 32 = .ok (.aload_n 0, 1) := by decide +kernel
theorem dX10_define_33 : decode cX10_define 33 = .ok (.getfield 41, 3) := by decide +kernel
theorem dX10_define_36 : decode cX10_define 36 = .ok (.iload_n 1, 1) := by decide +kernel
theorem dX10_define_37 : decode cX10_define 37 = .ok (.baload, 1) := by decide +kernel
theorem dX10_define_38 : decode cX10_define 38 = .ok (.ifCond .ne 7, 3) := by decide +kernel
theorem dX10_define_41 : decode cX10_define 41 = .ok (.iconst 1, 1) := by decide +kernel
theorem dX10_define_42 : decode cX10_define 42 = .ok (.goto 4, 3) := by decide +kernel
theorem dX10_define_45 : decode cX10_define 45 = .ok (.iconst 0, 1) := by decide +kernel
theorem dX10_define_46 : decode cX10_define 46 = .ok (.istore_n 2, 1) := by decide +kernel
theorem dX10_define_47 : decode cX10_define 47 = .ok (.iload_n 2, 1) := by decide +kernel
theorem dX10_define_48 : decode cX10_define 48 = .ok (.ifCond .eq 13, 3) := by decide +kernel
theorem dX10_define_51 : decode cX10_define 51 = .ok (.aload_n 0, 1) := by decide +kernel
theorem dX10_define_52 : decode cX10_define 52 = .ok (.dup, 1) := by decide +kernel
theorem dX10_define_53 : decode cX10_define 53 = .ok (.getfield 154, 3) := by decide +kernel
theorem dX10_define_56 : decode cX10_define 56 = .ok (.iconst 1, 1) := by decide +kernel
theorem dX10_define_57 : decode cX10_define 57 = .ok (.iadd, 1) := by decide +kernel
theorem dX10_define_58 : decode cX10_define 58 = .ok (.putfield 154, 3) := by decide +kernel
theorem dX10_define_61 : decode cX10_define 61 = .ok (.aload_n 0, 1) := by decide +kernel
theorem dX10_define_62 : decode cX10_define 62 = .ok (.invokevirtual 175, 3) := by decide +kernel
theorem dX10_define_65 : decode cX10_define 65 = .ok (.bipush 97, 2) := by decide +kernel
theorem dX10_define_67 : decode cX10_define 67 = .ok (.isub, 1) := by decide +kernel
theorem dX10_define_68 : decode cX10_define 68 = .ok (.istore_n 3, 1) := by decide +kernel
theorem dX10_define_69 : decode cX10_define 69 = .ok (.iload_n 2, 1) := by decide +kernel
theorem dX10_define_70 : decode cX10_define 70 = .ok (.ifCond .eq 18, 3) := by decide +kernel
theorem dX10_define_73 : decode cX10_define 73 = .ok (.iload_n 3, 1) := by decide +kernel
theorem dX10_define_74 : decode cX10_define 74 = .ok (.iconst 1, 1) := by decide +kernel
theorem dX10_define_75 : decode cX10_define 75 = .ok (.if_icmp .le 13, 3) := by decide +kernel
theorem dX10_define_78 : decode cX10_define 78 = .ok (.iload_n 3, 1) := by decide +kernel
theorem dX10_define_79 : decode cX10_define 79 = .ok (.bipush 8, 2) := by decide +kernel
theorem dX10_define_81 : decode cX10_define 81 = .ok (.if_icmp .ge 7, 3) := by decide +kernel
theorem dX10_define_84 : decode cX10_define 84 = .ok (.iconst 1, 1) := by decide +kernel
theorem dX10_define_85 : decode cX10_define 85 = .ok (.goto 4, 3) := by decide +kernel
theorem dX10_define_88 : decode cX10_define 88 = .ok (.iconst 0, 1) := by decide +kernel
theorem dX10_define_89 : decode cX10_define 89 = .ok (.istore_n 2, 1) := by decide +kernel
theorem dX10_define_90 : decode cX10_define 90 = .ok (.iload_n 2, 1) := by decide +kernel
theorem dX10_define_91 : decode cX10_define 91 = .ok (.ifCond .eq 13, 3) := by decide +kernel
theorem dX10_define_94 : decode cX10_define 94 = .ok (.aload_n 0, 1) := by decide +kernel
theorem dX10_define_95 : decode cX10_define 95 = .ok (.dup, 1) := by decide +kernel
theorem dX10_define_96 : decode cX10_define 96 = .ok (.getfield 154, 3) := by decide +kernel
theorem dX10_define_99 : decode cX10_define 99 = .ok (.iconst 1, 1) := by decide +kernel
theorem dX10_define_100 : decode cX10_define 100 = .ok (.iadd, 1) := by decide +kernel
theorem dX10_define_101 : decode cX10_define 101 = .ok (.putfield 154, 3) := by decide +kernel
theorem dX10_define_104 : decode cX10_define 104 = .ok (.aload_n 0, 1) := by decide +kernel
theorem dX10_define_105 : decode cX10_define 105 = .ok (.invokevirtual 175, 3) := by decide +kernel
theorem dX10_define_108 : decode cX10_define 108 = .ok (.bipush 42, 2) := by decide +kernel
theorem dX10_define_110 : decode cX10_define 110 = .ok (.if_icmp .ne 8, 3) := by decide +kernel
theorem dX10_define_113 : decode cX10_define 113 = .ok (.bipush 31, 2) := by decide +kernel
theorem dX10_define_115 : decode cX10_define 115 = .ok (.goto 59, 3) := by decide +kernel
theorem dX10_define_118 : decode cX10_define 118 = .ok (.aload_n 0, 1) := by decide +kernel
theorem dX10_define_119 : decode cX10_define 119 = .ok (.invokevirtual 175, 3) := by decide +kernel
theorem dX10_define_122 : decode cX10_define 122 = .ok (.bipush 110, 2) := by decide +kernel
theorem dX10_define_124 : decode cX10_define 124 = .ok (.if_icmp .ne 7, 3) := by decide +kernel
theorem dX10_define_127 : decode cX10_define 127 = .ok (.iconst 1, 1) := by decide +kernel
theorem dX10_define_128 : decode cX10_define 128 = .ok (.goto 46, 3) := by decide +kernel
theorem dX10_define_131 : decode cX10_define 131 = .ok (.aload_n 0, 1) := by decide +kernel
theorem dX10_define_132 : decode cX10_define 132 = .ok (.invokevirtual 175, 3) := by decide +kernel
theorem dX10_define_135 : decode cX10_define 135 = .ok (.bipush 98, 2) := by decide +kernel
theorem dX10_define_137 : decode cX10_define 137 = .ok (.if_icmp .ne 8, 3) := by decide +kernel
theorem dX10_define_140 : decode cX10_define 140 = .ok (.bipush 6, 2) := by decide +kernel
theorem dX10_define_142 : decode cX10_define 142 = .ok (.goto 32, 3) := by decide +kernel
theorem dX10_define_145 : decode cX10_define 145 = .ok (.aload_n 0, 1) := by decide +kernel
theorem dX10_define_146 : decode cX10_define 146 = .ok (.invokevirtual 175, 3) := by decide +kernel
theorem dX10_define_149 : decode cX10_define 149 = .ok (.bipush 108, 2) := by decide +kernel
theorem dX10_define_151 : decode cX10_define 151 = .ok (.if_icmp .ne 8, 3) := by decide +kernel
theorem dX10_define_154 : decode cX10_define 154 = .ok (.bipush 24, 2) := by decide +kernel
theorem dX10_define_156 : decode cX10_define 156 = .ok (.goto 18, 3) := by decide +kernel
theorem dX10_define_159 : decode cX10_define 159 = .ok (.aload_n 0, 1) := by decide +kernel
theorem dX10_define_160 : decode cX10_define 160 = .ok (.invokevirtual 175, 3) := by decide +kernel
theorem dX10_define_163 : decode cX10_define 163 = .ok (.bipush 112, 2) := by decide +kernel
theorem dX10_define_165 : decode cX10_define 165 = .ok (.if_icmp .ne 8, 3) := by decide +kernel
theorem dX10_define_168 : decode cX10_define 168 = .ok (.bipush 16, 2) := by decide +kernel
theorem dX10_define_170 : decode cX10_define 170 = .ok (.goto 4, 3) := by decide +kernel
theorem dX10_define_173 : decode cX10_define 173 = .ok (.iconst 0, 1) := by decide +kernel
theorem dX10_define_174 : decode cX10_define 174 = .ok (.istore 4, 2) := by decide +kernel
theorem dX10_define_176 : decode cX10_define 176 = .ok (.iload_n 2, 1) := by decide +kernel
theorem dX10_define_177 : decode cX10_define 177 = .ok (.ifCond .eq 12, 3) := by decide +kernel
theorem dX10_define_180 : decode cX10_define 180 = .ok (.iload 4, 2) := by decide +kernel
theorem dX10_define_182 : decode cX10_define 182 = .ok (.ifCond .le 7, 3) := by decide +kernel
theorem dX10_define_185 : decode cX10_define 185 = .ok (.iconst 1, 1) := by decide +kernel
theorem dX10_define_186 : decode cX10_define 186 = .ok (.goto 4, 3) := by decide +kernel
theorem dX10_define_189 : decode cX10_define 189 = .ok (.iconst 0, 1) := by decide +kernel
theorem dX10_define_190 : decode cX10_define 190 = .ok (.istore_n 2, 1) := by decide +kernel
theorem dX10_define_191 : decode cX10_define 191 = .ok (.iload_n 2, 1) := by decide +kernel
theorem dX10_define_192 : decode cX10_define 192 = .ok (.ifCond .eq 13, 3) := by decide +kernel
theorem dX10_define_195 : decode cX10_define 195 = .ok (.aload_n 0, 1) := by decide +kernel
theorem dX10_define_196 : decode cX10_define 196 = .ok (.dup, 1) := by decide +kernel
theorem dX10_define_197 : decode cX10_define 197 = .ok (.getfield 154, 3) := by decide +kernel
theorem dX10_define_200 : decode cX10_define 200 = .ok (.iconst 1, 1) := by decide +kernel
theorem dX10_define_201 : decode cX10_define 201 = .ok (.iadd, 1) := by decide +kernel
theorem dX10_define_202 : decode cX10_define 202 = .ok (.putfield 154, 3) := by decide +kernel
theorem dX10_define_205 : decode cX10_define 205 = .ok (.iload_n 2, 1) := by decide +kernel
theorem dX10_define_206 : decode cX10_define 206 = .ok (.ifCond .eq 13, 3) := by decide +kernel
theorem dX10_define_209 : decode cX10_define 209 = .ok (.aload_n 0, 1) := by decide +kernel
theorem dX10_define_210 : decode cX10_define 210 = .ok (.iconst 1, 1) := by decide +kernel
theorem dX10_define_211 : decode cX10_define 211 = .ok (.iload_n 3, 1) := by decide +kernel
theorem dX10_define_212 : decode cX10_define 212 = .ok (.ishl, 1) := by decide +kernel
theorem dX10_define_213 : decode cX10_define 213 = .ok (.invokevirtual 318, 3) := by decide +kernel
theorem dX10_define_216 : decode cX10_define 216 = .ok (.ifCond .ne 17, 3) := by decide +kernel
theorem dX10_define_219 : decode cX10_define 219 = .ok (.aload_n 0, 1) := by decide +kernel
theorem dX10_define_220 : decode cX10_define 220 = .ok (.aload_n 0, 1) := by decide +kernel
theorem dX10_define_221 : decode cX10_define 221 = .ok (.getfield 154, 3) := by decide +kernel
theorem dX10_define_224 : decode cX10_define 224 = .ok (.putfield 9, 3) := by decide +kernel
theorem dX10_define_227 : decode cX10_define 227 = .ok (.aload_n 0, 1) := by decide +kernel
theorem dX10_define_228 : decode cX10_define 228 = .ok (.iconst 1, 1) := by decide +kernel
theorem dX10_define_229 : decode cX10_define 229 = .ok (.invokevirtual 321, 3) := by decide +kernel
theorem dX10_define_232 : decode cX10_define 232 = .ok (.ireturn, 1) := by decide +kernel
theorem dX10_define_233 : decode cX10_define 233 = .ok (.aload_n 0, 1) := by decide +kernel
theorem dX10_define_234 : decode cX10_define 234 = .ok (.aload_n 0, 1) := by decide +kernel
theorem dX10_define_235 : decode cX10_define 235 = .ok (.getfield 139, 3) := by decide +kernel
theorem dX10_define_238 : decode cX10_define 238 = .ok (.invokevirtual 324, 3) := by decide +kernel
theorem dX10_define_241 : decode cX10_define 241 = .ok (.aload_n 0, 1) := by decide +kernel
theorem dX10_define_242 : decode cX10_define 242 = .ok (.getfield 139, 3) := by decide +kernel
theorem dX10_define_245 : decode cX10_define 245 = .ok (.iconst 0, 1) := by decide +kernel
theorem dX10_define_246 : decode cX10_define 246 = .ok (.bipush 7, 2) := by decide +kernel
theorem dX10_define_248 : decode cX10_define 248 = .ok (.iload_n 3, 1) := by decide +kernel
theorem dX10_define_249 : decode cX10_define 249 = .ok (.imul, 1) := by decide +kernel
theorem dX10_define_250 : decode cX10_define 250 = .ok (.iload 4, 2) := by decide +kernel
theorem dX10_define_252 : decode cX10_define 252 = .ok (.invokestatic 252, 3) := by decide +kernel
theorem dX10_define_255 : decode cX10_define 255 = .ok (.aload_n 0, 1) := by decide +kernel
theorem dX10_define_256 : decode cX10_define 256 = .ok (.aload_n 0, 1) := by decide +kernel
theorem dX10_define_257 : decode cX10_define 257 = .ok (.getfield 35, 3) := by decide +kernel
theorem dX10_define_260 : decode cX10_define 260 = .ok (.iconst 4, 1) := by decide +kernel
theorem dX10_define_261 : decode cX10_define 261 = .ok (.iaload, 1) := by decide +kernel
theorem dX10_define_262 : decode cX10_define 262 = .ok (.aload_n 0, 1) := by decide +kernel
theorem dX10_define_263 : decode cX10_define 263 = .ok (.getfield 139, 3) := by decide +kernel
theorem dX10_define_266 : decode cX10_define 266 = .ok (.invokevirtual 328, 3) := by decide +kernel
theorem dX10_define_269 : decode cX10_define 269 = .ok (.ifCond .ne 9, 3) := by decide +kernel
theorem dX10_define_272 : decode cX10_define 272 = .ok (.aload_n 0, 1) := by decide +kernel
theorem dX10_define_273 : decode cX10_define 273 = .ok (.iconst 2, 1) := by decide +kernel
theorem dX10_define_274 : decode cX10_define 274 = .ok (.invokevirtual 321, 3) := by decide +kernel
theorem dX10_define_277 : decode cX10_define 277 = .ok (.ireturn, 1) := by decide +kernel
theorem dX10_define_278 : decode cX10_define 278 = .ok (.aload_n 0, 1) := by decide +kernel
theorem dX10_define_279 : decode cX10_define 279 = .ok (.aload_n 0, 1) := by decide +kernel
theorem dX10_define_280 : decode cX10_define 280 = .ok (.getfield 35, 3) := by decide +kernel
theorem dX10_define_283 : decode cX10_define 283 = .ok (.iconst 4, 1) := by decide +kernel
theorem dX10_define_284 : decode cX10_define 284 = .ok (.iaload, 1) := by decide +kernel
theorem dX10_define_285 : decode cX10_define 285 = .ok (.invokevirtual 219, 3) := by decide +kernel
theorem dX10_define_288 : decode cX10_define 288 = .ok (.istore 5, 2) := by decide +kernel
theorem dX10_define_290 : decode cX10_define 290 = .ok (.iconst 0, 1) := by decide +kernel
theorem dX10_define_291 : decode cX10_define 291 = .ok (.istore 6, 2) := by decide +kernel
theorem dX10_define_293 : decode cX10_define 293 = .ok (.iload 6, 2) := by decide +kernel
theorem dX10_define_295 : decode cX10_define 295 = .ok (.bipush 7, 2) := by decide +kernel
theorem dX10_define_297 : decode cX10_define 297 = .ok (.if_icmp .ge 65, 3) := by decide +kernel
theorem dX10_define_300 : decode cX10_define 300 = .ok (.aload_n 0, 1) := by decide +kernel
theorem dX10_define_301 : decode cX10_define 301 = .ok (.getfield 54, 3) := by decide +kernel
theorem dX10_define_304 : decode cX10_define 304 = .ok (.bipush 7, 2) := by decide +kernel
theorem dX10_define_306 : decode cX10_define 306 = .ok (.iload_n 1, 1) := by decide +kernel
theorem dX10_define_307 : decode cX10_define 307 = .ok (.imul, 1) := by decide +kernel
theorem dX10_define_308 : decode cX10_define 308 = .ok (.iload 6, 2) := by decide +kernel
theorem dX10_define_310 : decode cX10_define 310 = .ok (.iadd, 1) := by decide +kernel
theorem dX10_define_311 : decode cX10_define 311 = .ok (.aload_n 0, 1) := by decide +kernel
theorem dX10_define_312 : decode cX10_define 312 = .ok (.getfield 70, 3) := by decide +kernel
theorem dX10_define_315 : decode cX10_define 315 = .ok (.iload 5, 2) := by decide +kernel
theorem dX10_define_317 : decode cX10_define 317 = .ok (.bipush 7, 2) := by decide +kernel
theorem dX10_define_319 : decode cX10_define 319 = .ok (.iload_n 3, 1) := by decide +kernel
theorem dX10_define_320 : decode cX10_define 320 = .ok (.imul, 1) := by decide +kernel
theorem dX10_define_321 : decode cX10_define 321 = .ok (.iload 6, 2) := by decide +kernel
theorem dX10_define_323 : decode cX10_define 323 = .ok (.iadd, 1) := by decide +kernel
theorem dX10_define_324 : decode cX10_define 324 = .ok (.invokestatic 298, 3) := by decide +kernel
theorem dX10_define_327 : decode cX10_define 327 = .ok (.iastore, 1) := by decide +kernel
theorem dX10_define_328 : decode cX10_define 328 = .ok (.aload_n 0, 1) := by decide +kernel
theorem dX10_define_329 : decode cX10_define 329 = .ok (.getfield 57, 3) := by decide +kernel
theorem dX10_define_332 : decode cX10_define 332 = .ok (.bipush 7, 2) := by decide +kernel
theorem dX10_define_334 : decode cX10_define 334 = .ok (.iload_n 1, 1) := by decide +kernel
theorem dX10_define_335 : decode cX10_define 335 = .ok (.imul, 1) := by decide +kernel
theorem dX10_define_336 : decode cX10_define 336 = .ok (.iload 6, 2) := by decide +kernel
theorem dX10_define_338 : decode cX10_define 338 = .ok (.iadd, 1) := by decide +kernel
theorem dX10_define_339 : decode cX10_define 339 = .ok (.aload_n 0, 1) := by decide +kernel
theorem dX10_define_340 : decode cX10_define 340 = .ok (.getfield 73, 3) := by decide +kernel
theorem dX10_define_343 : decode cX10_define 343 = .ok (.iload 5, 2) := by decide +kernel
theorem dX10_define_345 : decode cX10_define 345 = .ok (.bipush 7, 2) := by decide +kernel
theorem dX10_define_347 : decode cX10_define 347 = .ok (.iload_n 3, 1) := by decide +kernel
theorem dX10_define_348 : decode cX10_define 348 = .ok (.imul, 1) := by decide +kernel
theorem dX10_define_349 : decode cX10_define 349 = .ok (.iload 6, 2) := by decide +kernel
theorem dX10_define_351 : decode cX10_define 351 = .ok (.iadd, 1) := by decide +kernel
theorem dX10_define_352 : decode cX10_define 352 = .ok (.invokestatic 298, 3) := by decide +kernel
theorem dX10_define_355 : decode cX10_define 355 = .ok (.iastore, 1) := by decide +kernel
theorem dX10_define_356 : decode cX10_define 356 = .ok (.iinc 6 1, 3) := by decide +kernel
theorem dX10_define_359 : decode cX10_define 359 = .ok (.goto (-66), 3) := by decide +kernel
theorem dX10_define_362 : decode cX10_define 362 = .ok (.aload_n 0, 1) := by decide +kernel
theorem dX10_define_363 : decode cX10_define 363 = .ok (.getfield 41, 3) := by decide +kernel
theorem dX10_define_366 : decode cX10_define 366 = .ok (.iload_n 1, 1) := by decide +kernel
theorem dX10_define_367 : decode cX10_define 367 = .ok (.iconst 1, 1) := by decide +kernel
theorem dX10_define_368 : decode cX10_define 368 = .ok (.bastore, 1) := by decide +kernel
theorem dX10_define_369 : decode cX10_define 369 = .ok (.aload_n 0, 1) := by decide +kernel
theorem dX10_define_370 : decode cX10_define 370 = .ok (.getfield 45, 3) := by decide +kernel
theorem dX10_define_373 : decode cX10_define 373 = .ok (.iload_n 1, 1) := by decide +kernel
theorem dX10_define_374 : decode cX10_define 374 = .ok (.iload_n 3, 1) := by decide +kernel
theorem dX10_define_375 : decode cX10_define 375 = .ok (.iastore, 1) := by decide +kernel
theorem dX10_define_376 : decode cX10_define 376 = .ok (.aload_n 0, 1) := by decide +kernel
theorem dX10_define_377 : decode cX10_define 377 = .ok (.getfield 48, 3) := by decide +kernel
theorem dX10_define_380 : decode cX10_define 380 = .ok (.iload_n 1, 1) := by decide +kernel
theorem dX10_define_381 : decode cX10_define 381 = .ok (.iload 4, 2) := by decide +kernel
theorem dX10_define_383 : decode cX10_define 383 = .ok (.iastore, 1) := by decide +kernel
theorem dX10_define_384 : decode cX10_define 384 = .ok (.aload_n 0, 1) := by decide +kernel
theorem dX10_define_385 : decode cX10_define 385 = .ok (.getfield 51, 3) := by decide +kernel
theorem dX10_define_388 : decode cX10_define 388 = .ok (.iload_n 1, 1) := by decide +kernel
theorem dX10_define_389 : decode cX10_define 389 = .ok (.aload_n 0, 1) := by decide +kernel
theorem dX10_define_390 : decode cX10_define 390 = .ok (.aload_n 0, 1) := by decide +kernel
theorem dX10_define_391 : decode cX10_define 391 = .ok (.getfield 35, 3) := by decide +kernel
theorem dX10_define_394 : decode cX10_define 394 = .ok (.iconst 4, 1) := by decide +kernel
theorem dX10_define_395 : decode cX10_define 395 = .ok (.iaload, 1) := by decide +kernel
theorem dX10_define_396 : decode cX10_define 396 = .ok (.invokevirtual 249, 3) := by decide +kernel
theorem dX10_define_399 : decode cX10_define 399 = .ok (.iastore, 1) := by decide +kernel
theorem dX10_define_400 : decode cX10_define 400 = .ok (.aload_n 0, 1) := by decide +kernel
theorem dX10_define_401 : decode cX10_define 401 = .ok (.iload_n 1, 1) := by decide +kernel
theorem dX10_define_402 : decode cX10_define 402 = .ok (.invokevirtual 332, 3) := by decide +kernel
theorem dX10_define_405 : decode cX10_define 405 = .ok (.aload_n 0, 1) := by decide +kernel
theorem dX10_define_406 : decode cX10_define 406 = .ok (.getfield 51, 3) := by decide +kernel
theorem dX10_define_409 : decode cX10_define 409 = .ok (.iload_n 1, 1) := by decide +kernel
theorem dX10_define_410 : decode cX10_define 410 = .ok (.iaload, 1) := by decide +kernel
theorem dX10_define_411 : decode cX10_define 411 = .ok (.ireturn, 1) := by decide +kernel
set_option maxRecDepth 20000 in
set_option maxHeartbeats 4000000 in
theorem w_X10_define {c : rX} {d : Nat} {S : rS} {K : Option Value → rS → Prop} (ho : rOK c)  (h : rM c d eX10_peek (.ref c.2.2.1 :: []) (rsi (rsi (rsi S 0 0 0) 1 0 (-1)) 20 0 0) (fun v S1 => ∃ z2 : Int32, v = some (.int z2) ∧ (((z2 - 71) < 0 → (rG c eX10_define (d + 1) (rQ c K) 46 [some (.ref c.2.2.1), some (.int (z2 - 71)), none, none, none, none, none] [.int 0] S1)) ∧ (¬ (z2 - 71) < 0 → ((3 ≤ (z2 - 71) → (rG c eX10_define (d + 1) (rQ c K) 46 [some (.ref c.2.2.1), some (.int (z2 - 71)), none, none, none, none, none] [.int 0] S1)) ∧ (¬ 3 ≤ (z2 - 71) → (∃ j5 : Nat, am_ix (z2 - 71) j5 3 ∧ ((¬ (S1.1 12 j5) = 0 → (rG c eX10_define (d + 1) (rQ c K) 46 [some (.ref c.2.2.1), some (.int (z2 - 71)), none, none, none, none, none] [.int 0] S1)) ∧ ((S1.1 12 j5) = 0 → (rG c eX10_define (d + 1) (rQ c K) 46 [some (.ref c.2.2.1), some (.int (z2 - 71)), none, none, none, none, none] [.int 1] S1)))))))))) : rM c (d + 1) eX10_define [.ref c.2.2.1] S K := by
  refine rM.of (by decide) (Nat.le_of_ble_eq_true rfl) ?_
  show rG c eX10_define (d + 1) (rQ c K) 0 [some (.ref c.2.2.1), none, none, none, none, none, none] [] S
  refine ag_aload_n dX10_define_0 rfl (Or.inr ⟨_, rfl⟩) ?_
  refine ag_iconst (v := 0) dX10_define_1 rfl ?_
  refine rr_put (S2 := (rsi S 0 0 0)) ho dX10_define_2 pw_10_148 rfl (fun _ => ⟨rfl, rfl⟩) rfl ?_
  refine ag_aload_n dX10_define_5 rfl (Or.inr ⟨_, rfl⟩) ?_
  refine ag_iconst (v := (-1)) dX10_define_6 rfl ?_
  refine rr_put (S2 := (rsi (rsi S 0 0 0) 1 0 (-1))) ho dX10_define_7 pw_10_9 rfl (fun _ => ⟨rfl, rfl⟩) rfl ?_
  refine ag_aload_n dX10_define_10 rfl (Or.inr ⟨_, rfl⟩) ?_
  refine ag_iconst (v := 0) dX10_define_11 rfl ?_
  refine rr_put (S2 := (rsi (rsi (rsi S 0 0 0) 1 0 (-1)) 20 0 0)) ho dX10_define_12 pw_10_154 rfl (fun _ => ⟨rfl, rfl⟩) rfl ?_
  refine ag_aload_n dX10_define_15 rfl (Or.inr ⟨_, rfl⟩) ?_
  refine rr_call (as := []) (rest := []) ho dX10_define_16 me_X10_peek mi_X10_peek lk_10_175 rfl rfl (Nat.le_of_ble_eq_true rfl) ?_
  refine rM.mono h ?_
  rintro v S1 ⟨z2, rfl, h⟩
  show rG _ _ _ _ _ _ [.int z2] _
  refine ag_bipush (v := 71) dX10_define_19 (by decide) ?_
  refine ag_isub dX10_define_21 rfl ?_
  refine ag_istore_n (lv2 := [some (.ref c.2.2.1), some (.int (z2 - 71)), none, none, none, none, none]) dX10_define_22 (Nat.le_of_ble_eq_true rfl) rfl ?_
  refine ag_iload_n dX10_define_23 rfl ?_
  refine ag_if_lt (tgt := 45) dX10_define_24 rfl (fun hc3 => ?_) (fun hc3 => ?_)
  · have h := h.1 hc3
    refine ag_iconst (v := 0) dX10_define_45 rfl ?_
    exact h
  · have h := h.2 hc3
    refine ag_iload_n dX10_define_27 rfl ?_
    refine ag_iconst (v := 3) dX10_define_28 rfl ?_
    refine ag_icmp_ge (tgt := 45) dX10_define_29 rfl (fun hc4 => ?_) (fun hc4 => ?_)
    · have h := h.1 hc4
      refine ag_iconst (v := 0) dX10_define_45 rfl ?_
      exact h
    · have h := h.2 hc4
      refine ag_aload_n dX10_define_32 rfl (Or.inr ⟨_, rfl⟩) ?_
      refine rr_get (v := .ref (c.2.2.1 + (9 + 1))) ho dX10_define_33 fw_10_41 rfl ?_
      refine ag_iload_n dX10_define_36 rfl ?_
      obtain ⟨j5, hj6, h⟩ := h
      refine rr_zl (v := S1.1 12 j5) ho dX10_define_37 (k := 9) (f := 12) rfl hj6 rfl ?_
      refine ag_if_ne (tgt := 45) dX10_define_38 rfl (fun hc7 => ?_) (fun hc7 => ?_)
      · have h := h.1 hc7
        refine ag_iconst (v := 0) dX10_define_45 rfl ?_
        exact h
      · have h := h.2 hc7
        refine ag_iconst (v := 1) dX10_define_41 rfl ?_
        refine ag_goto (tgt := 46) dX10_define_42 rfl ?_
        exact h
set_option maxRecDepth 20000 in
set_option maxHeartbeats 4000000 in
theorem w_X10_define_46 {c : rX} {d : Nat} {S : rS} {K : Option Value → rS → Prop} (ho : rOK c) (v1 : Int32) (s0 : Int32) (h : (s0 = 0 → (rG c eX10_define (d + 1) (rQ c K) 61 [some (.ref c.2.2.1), some (.int v1), some (.int s0), none, none, none, none] [] S)) ∧ (¬ s0 = 0 → (rG c eX10_define (d + 1) (rQ c K) 61 [some (.ref c.2.2.1), some (.int v1), some (.int s0), none, none, none, none] [] (rsi S 20 0 ((S.1 20 0) + 1))))) : rG c eX10_define (d + 1) (rQ c K) 46 [some (.ref c.2.2.1), some (.int v1), none, none, none, none, none] [.int s0] S := by
  refine ag_istore_n (lv2 := [some (.ref c.2.2.1), some (.int v1), some (.int s0), none, none, none, none]) dX10_define_46 (Nat.le_of_ble_eq_true rfl) rfl ?_
  refine ag_iload_n dX10_define_47 rfl ?_
  refine ag_if_eq (tgt := 61) dX10_define_48 rfl (fun hc1 => ?_) (fun hc1 => ?_)
  · have h := h.1 hc1
    exact h
  · have h := h.2 hc1
    refine ag_aload_n dX10_define_51 rfl (Or.inr ⟨_, rfl⟩) ?_
    refine ag_dup dX10_define_52 rfl ?_
    refine rr_get (v := .int (S.1 20 0)) ho dX10_define_53 fw_10_154 rfl ?_
    refine ag_iconst (v := 1) dX10_define_56 rfl ?_
    refine ag_iadd dX10_define_57 rfl ?_
    refine rr_put (S2 := (rsi S 20 0 ((S.1 20 0) + 1))) ho dX10_define_58 pw_10_154 rfl (fun _ => ⟨rfl, rfl⟩) rfl ?_
    exact h
set_option maxRecDepth 20000 in
set_option maxHeartbeats 4000000 in
theorem w_X10_define_61 {c : rX} {d : Nat} {S : rS} {K : Option Value → rS → Prop} (ho : rOK c) (v1 : Int32) (v2 : Int32) (h : rM c d eX10_peek (.ref c.2.2.1 :: []) S (fun v S1 => ∃ z2 : Int32, v = some (.int z2) ∧ ((v2 = 0 → (rG c eX10_define (d + 1) (rQ c K) 89 [some (.ref c.2.2.1), some (.int v1), none, some (.int (z2 - 97)), none, none, none] [.int 0] S1)) ∧ (¬ v2 = 0 → (((z2 - 97) ≤ 1 → (rG c eX10_define (d + 1) (rQ c K) 89 [some (.ref c.2.2.1), some (.int v1), none, some (.int (z2 - 97)), none, none, none] [.int 0] S1)) ∧ (¬ (z2 - 97) ≤ 1 → ((8 ≤ (z2 - 97) → (rG c eX10_define (d + 1) (rQ c K) 89 [some (.ref c.2.2.1), some (.int v1), none, some (.int (z2 - 97)), none, none, none] [.int 0] S1)) ∧ (¬ 8 ≤ (z2 - 97) → (rG c eX10_define (d + 1) (rQ c K) 89 [some (.ref c.2.2.1), some (.int v1), none, some (.int (z2 - 97)), none, none, none] [.int 1] S1))))))))) : rG c eX10_define (d + 1) (rQ c K) 61 [some (.ref c.2.2.1), some (.int v1), some (.int v2), none, none, none, none] [] S := by
  refine ag_aload_n dX10_define_61 rfl (Or.inr ⟨_, rfl⟩) ?_
  refine rr_call (as := []) (rest := []) ho dX10_define_62 me_X10_peek mi_X10_peek lk_10_175 rfl rfl (Nat.le_of_ble_eq_true rfl) ?_
  refine rM.mono h ?_
  rintro v S1 ⟨z2, rfl, h⟩
  show rG _ _ _ _ _ _ [.int z2] _
  refine ag_bipush (v := 97) dX10_define_65 (by decide) ?_
  refine ag_isub dX10_define_67 rfl ?_
  refine ag_istore_n (lv2 := [some (.ref c.2.2.1), some (.int v1), some (.int v2), some (.int (z2 - 97)), none, none, none]) dX10_define_68 (Nat.le_of_ble_eq_true rfl) rfl ?_
  refine ag_iload_n dX10_define_69 rfl ?_
  refine ag_if_eq (tgt := 88) dX10_define_70 rfl (fun hc3 => ?_) (fun hc3 => ?_)
  · have h := h.1 hc3
    refine ag_iconst (v := 0) dX10_define_88 rfl ?_
    refine ag_drop 2 ?_
    exact h
  · have h := h.2 hc3
    refine ag_iload_n dX10_define_73 rfl ?_
    refine ag_iconst (v := 1) dX10_define_74 rfl ?_
    refine ag_icmp_le (tgt := 88) dX10_define_75 rfl (fun hc4 => ?_) (fun hc4 => ?_)
    · have h := h.1 hc4
      refine ag_iconst (v := 0) dX10_define_88 rfl ?_
      refine ag_drop 2 ?_
      exact h
    · have h := h.2 hc4
      refine ag_iload_n dX10_define_78 rfl ?_
      refine ag_bipush (v := 8) dX10_define_79 (by decide) ?_
      refine ag_icmp_ge (tgt := 88) dX10_define_81 rfl (fun hc5 => ?_) (fun hc5 => ?_)
      · have h := h.1 hc5
        refine ag_iconst (v := 0) dX10_define_88 rfl ?_
        refine ag_drop 2 ?_
        exact h
      · have h := h.2 hc5
        refine ag_iconst (v := 1) dX10_define_84 rfl ?_
        refine ag_goto (tgt := 89) dX10_define_85 rfl ?_
        refine ag_drop 2 ?_
        exact h
set_option maxRecDepth 20000 in
set_option maxHeartbeats 4000000 in
theorem w_X10_define_89 {c : rX} {d : Nat} {S : rS} {K : Option Value → rS → Prop} (ho : rOK c) (v1 : Int32) (v3 : Int32) (s0 : Int32) (h : (s0 = 0 → (rG c eX10_define (d + 1) (rQ c K) 104 [some (.ref c.2.2.1), some (.int v1), some (.int s0), some (.int v3), none, none, none] [] S)) ∧ (¬ s0 = 0 → (rG c eX10_define (d + 1) (rQ c K) 104 [some (.ref c.2.2.1), some (.int v1), some (.int s0), some (.int v3), none, none, none] [] (rsi S 20 0 ((S.1 20 0) + 1))))) : rG c eX10_define (d + 1) (rQ c K) 89 [some (.ref c.2.2.1), some (.int v1), none, some (.int v3), none, none, none] [.int s0] S := by
  refine ag_istore_n (lv2 := [some (.ref c.2.2.1), some (.int v1), some (.int s0), some (.int v3), none, none, none]) dX10_define_89 (Nat.le_of_ble_eq_true rfl) rfl ?_
  refine ag_iload_n dX10_define_90 rfl ?_
  refine ag_if_eq (tgt := 104) dX10_define_91 rfl (fun hc1 => ?_) (fun hc1 => ?_)
  · have h := h.1 hc1
    exact h
  · have h := h.2 hc1
    refine ag_aload_n dX10_define_94 rfl (Or.inr ⟨_, rfl⟩) ?_
    refine ag_dup dX10_define_95 rfl ?_
    refine rr_get (v := .int (S.1 20 0)) ho dX10_define_96 fw_10_154 rfl ?_
    refine ag_iconst (v := 1) dX10_define_99 rfl ?_
    refine ag_iadd dX10_define_100 rfl ?_
    refine rr_put (S2 := (rsi S 20 0 ((S.1 20 0) + 1))) ho dX10_define_101 pw_10_154 rfl (fun _ => ⟨rfl, rfl⟩) rfl ?_
    exact h
set_option maxRecDepth 20000 in
set_option maxHeartbeats 4000000 in
theorem w_X10_define_104 {c : rX} {d : Nat} {S : rS} {K : Option Value → rS → Prop} (ho : rOK c) (v1 : Int32) (v2 : Int32) (v3 : Int32) (h : rM c d eX10_peek (.ref c.2.2.1 :: []) S (fun v S1 => ∃ z2 : Int32, v = some (.int z2) ∧ ((¬ z2 = 42 → (rM c d eX10_peek (.ref c.2.2.1 :: []) S1 (fun v S4 => ∃ z5 : Int32, v = some (.int z5) ∧ ((¬ z5 = 110 → (rM c d eX10_peek (.ref c.2.2.1 :: []) S4 (fun v S7 => ∃ z8 : Int32, v = some (.int z8) ∧ ((¬ z8 = 98 → (rM c d eX10_peek (.ref c.2.2.1 :: []) S7 (fun v S10 => ∃ z11 : Int32, v = some (.int z11) ∧ ((¬ z11 = 108 → (rM c d eX10_peek (.ref c.2.2.1 :: []) S10 (fun v S13 => ∃ z14 : Int32, v = some (.int z14) ∧ ((¬ z14 = 112 → ((v2 = 0 → (rG c eX10_define (d + 1) (rQ c K) 190 [some (.ref c.2.2.1), some (.int v1), none, some (.int v3), some (.int 0), none, none] [.int 0] S13)) ∧ (¬ v2 = 0 → (rG c eX10_define (d + 1) (rQ c K) 190 [some (.ref c.2.2.1), some (.int v1), none, some (.int v3), some (.int 0), none, none] [.int 0] S13)))) ∧ (z14 = 112 → ((v2 = 0 → (rG c eX10_define (d + 1) (rQ c K) 190 [some (.ref c.2.2.1), some (.int v1), none, some (.int v3), some (.int 16), none, none] [.int 0] S13)) ∧ (¬ v2 = 0 → (rG c eX10_define (d + 1) (rQ c K) 190 [some (.ref c.2.2.1), some (.int v1), none, some (.int v3), some (.int 16), none, none] [.int 1] S13)))))))) ∧ (z11 = 108 → ((v2 = 0 → (rG c eX10_define (d + 1) (rQ c K) 190 [some (.ref c.2.2.1), some (.int v1), none, some (.int v3), some (.int 24), none, none] [.int 0] S10)) ∧ (¬ v2 = 0 → (rG c eX10_define (d + 1) (rQ c K) 190 [some (.ref c.2.2.1), some (.int v1), none, some (.int v3), some (.int 24), none, none] [.int 1] S10)))))))) ∧ (z8 = 98 → ((v2 = 0 → (rG c eX10_define (d + 1) (rQ c K) 190 [some (.ref c.2.2.1), some (.int v1), none, some (.int v3), some (.int 6), none, none] [.int 0] S7)) ∧ (¬ v2 = 0 → (rG c eX10_define (d + 1) (rQ c K) 190 [some (.ref c.2.2.1), some (.int v1), none, some (.int v3), some (.int 6), none, none] [.int 1] S7)))))))) ∧ (z5 = 110 → ((v2 = 0 → (rG c eX10_define (d + 1) (rQ c K) 190 [some (.ref c.2.2.1), some (.int v1), none, some (.int v3), some (.int 1), none, none] [.int 0] S4)) ∧ (¬ v2 = 0 → (rG c eX10_define (d + 1) (rQ c K) 190 [some (.ref c.2.2.1), some (.int v1), none, some (.int v3), some (.int 1), none, none] [.int 1] S4)))))))) ∧ (z2 = 42 → ((v2 = 0 → (rG c eX10_define (d + 1) (rQ c K) 190 [some (.ref c.2.2.1), some (.int v1), none, some (.int v3), some (.int 31), none, none] [.int 0] S1)) ∧ (¬ v2 = 0 → (rG c eX10_define (d + 1) (rQ c K) 190 [some (.ref c.2.2.1), some (.int v1), none, some (.int v3), some (.int 31), none, none] [.int 1] S1))))))) : rG c eX10_define (d + 1) (rQ c K) 104 [some (.ref c.2.2.1), some (.int v1), some (.int v2), some (.int v3), none, none, none] [] S := by
  refine ag_aload_n dX10_define_104 rfl (Or.inr ⟨_, rfl⟩) ?_
  refine rr_call (as := []) (rest := []) ho dX10_define_105 me_X10_peek mi_X10_peek lk_10_175 rfl rfl (Nat.le_of_ble_eq_true rfl) ?_
  refine rM.mono h ?_
  rintro v S1 ⟨z2, rfl, h⟩
  show rG _ _ _ _ _ _ [.int z2] _
  refine ag_bipush (v := 42) dX10_define_108 (by decide) ?_
  refine ag_icmp_ne (tgt := 118) dX10_define_110 rfl (fun hc3 => ?_) (fun hc3 => ?_)
  · have h := h.1 hc3
    refine ag_aload_n dX10_define_118 rfl (Or.inr ⟨_, rfl⟩) ?_
    refine rr_call (as := []) (rest := []) ho dX10_define_119 me_X10_peek mi_X10_peek lk_10_175 rfl rfl (Nat.le_of_ble_eq_true rfl) ?_
    refine rM.mono h ?_
    rintro v S4 ⟨z5, rfl, h⟩
    show rG _ _ _ _ _ _ [.int z5] _
    refine ag_bipush (v := 110) dX10_define_122 (by decide) ?_
    refine ag_icmp_ne (tgt := 131) dX10_define_124 rfl (fun hc6 => ?_) (fun hc6 => ?_)
    · have h := h.1 hc6
      refine ag_aload_n dX10_define_131 rfl (Or.inr ⟨_, rfl⟩) ?_
      refine rr_call (as := []) (rest := []) ho dX10_define_132 me_X10_peek mi_X10_peek lk_10_175 rfl rfl (Nat.le_of_ble_eq_true rfl) ?_
      refine rM.mono h ?_
      rintro v S7 ⟨z8, rfl, h⟩
      show rG _ _ _ _ _ _ [.int z8] _
      refine ag_bipush (v := 98) dX10_define_135 (by decide) ?_
      refine ag_icmp_ne (tgt := 145) dX10_define_137 rfl (fun hc9 => ?_) (fun hc9 => ?_)
      · have h := h.1 hc9
        refine ag_aload_n dX10_define_145 rfl (Or.inr ⟨_, rfl⟩) ?_
        refine rr_call (as := []) (rest := []) ho dX10_define_146 me_X10_peek mi_X10_peek lk_10_175 rfl rfl (Nat.le_of_ble_eq_true rfl) ?_
        refine rM.mono h ?_
        rintro v S10 ⟨z11, rfl, h⟩
        show rG _ _ _ _ _ _ [.int z11] _
        refine ag_bipush (v := 108) dX10_define_149 (by decide) ?_
        refine ag_icmp_ne (tgt := 159) dX10_define_151 rfl (fun hc12 => ?_) (fun hc12 => ?_)
        · have h := h.1 hc12
          refine ag_aload_n dX10_define_159 rfl (Or.inr ⟨_, rfl⟩) ?_
          refine rr_call (as := []) (rest := []) ho dX10_define_160 me_X10_peek mi_X10_peek lk_10_175 rfl rfl (Nat.le_of_ble_eq_true rfl) ?_
          refine rM.mono h ?_
          rintro v S13 ⟨z14, rfl, h⟩
          show rG _ _ _ _ _ _ [.int z14] _
          refine ag_bipush (v := 112) dX10_define_163 (by decide) ?_
          refine ag_icmp_ne (tgt := 173) dX10_define_165 rfl (fun hc15 => ?_) (fun hc15 => ?_)
          · have h := h.1 hc15
            refine ag_iconst (v := 0) dX10_define_173 rfl ?_
            refine ag_istore (lv2 := [some (.ref c.2.2.1), some (.int v1), some (.int v2), some (.int v3), some (.int 0), none, none]) dX10_define_174 (Nat.le_of_ble_eq_true rfl) rfl ?_
            refine ag_iload_n dX10_define_176 rfl ?_
            refine ag_if_eq (tgt := 189) dX10_define_177 rfl (fun hc16 => ?_) (fun hc16 => ?_)
            · have h := h.1 hc16
              refine ag_iconst (v := 0) dX10_define_189 rfl ?_
              refine ag_drop 2 ?_
              exact h
            · have h := h.2 hc16
              refine ag_iload dX10_define_180 rfl ?_
              refine ag_if_le (tgt := 189) dX10_define_182 rfl (fun _ => ?_) (fun q => absurd q (by decide))
              refine ag_iconst (v := 0) dX10_define_189 rfl ?_
              refine ag_drop 2 ?_
              exact h
          · have h := h.2 hc15
            refine ag_bipush (v := 16) dX10_define_168 (by decide) ?_
            refine ag_goto (tgt := 174) dX10_define_170 rfl ?_
            refine ag_istore (lv2 := [some (.ref c.2.2.1), some (.int v1), some (.int v2), some (.int v3), some (.int 16), none, none]) dX10_define_174 (Nat.le_of_ble_eq_true rfl) rfl ?_
            refine ag_iload_n dX10_define_176 rfl ?_
            refine ag_if_eq (tgt := 189) dX10_define_177 rfl (fun hc17 => ?_) (fun hc17 => ?_)
            · have h := h.1 hc17
              refine ag_iconst (v := 0) dX10_define_189 rfl ?_
              refine ag_drop 2 ?_
              exact h
            · have h := h.2 hc17
              refine ag_iload dX10_define_180 rfl ?_
              refine ag_if_le (tgt := 189) dX10_define_182 rfl (fun q => absurd q (by decide)) (fun _ => ?_)
              refine ag_iconst (v := 1) dX10_define_185 rfl ?_
              refine ag_goto (tgt := 190) dX10_define_186 rfl ?_
              refine ag_drop 2 ?_
              exact h
        · have h := h.2 hc12
          refine ag_bipush (v := 24) dX10_define_154 (by decide) ?_
          refine ag_goto (tgt := 174) dX10_define_156 rfl ?_
          refine ag_istore (lv2 := [some (.ref c.2.2.1), some (.int v1), some (.int v2), some (.int v3), some (.int 24), none, none]) dX10_define_174 (Nat.le_of_ble_eq_true rfl) rfl ?_
          refine ag_iload_n dX10_define_176 rfl ?_
          refine ag_if_eq (tgt := 189) dX10_define_177 rfl (fun hc18 => ?_) (fun hc18 => ?_)
          · have h := h.1 hc18
            refine ag_iconst (v := 0) dX10_define_189 rfl ?_
            refine ag_drop 2 ?_
            exact h
          · have h := h.2 hc18
            refine ag_iload dX10_define_180 rfl ?_
            refine ag_if_le (tgt := 189) dX10_define_182 rfl (fun q => absurd q (by decide)) (fun _ => ?_)
            refine ag_iconst (v := 1) dX10_define_185 rfl ?_
            refine ag_goto (tgt := 190) dX10_define_186 rfl ?_
            refine ag_drop 2 ?_
            exact h
      · have h := h.2 hc9
        refine ag_bipush (v := 6) dX10_define_140 (by decide) ?_
        refine ag_goto (tgt := 174) dX10_define_142 rfl ?_
        refine ag_istore (lv2 := [some (.ref c.2.2.1), some (.int v1), some (.int v2), some (.int v3), some (.int 6), none, none]) dX10_define_174 (Nat.le_of_ble_eq_true rfl) rfl ?_
        refine ag_iload_n dX10_define_176 rfl ?_
        refine ag_if_eq (tgt := 189) dX10_define_177 rfl (fun hc19 => ?_) (fun hc19 => ?_)
        · have h := h.1 hc19
          refine ag_iconst (v := 0) dX10_define_189 rfl ?_
          refine ag_drop 2 ?_
          exact h
        · have h := h.2 hc19
          refine ag_iload dX10_define_180 rfl ?_
          refine ag_if_le (tgt := 189) dX10_define_182 rfl (fun q => absurd q (by decide)) (fun _ => ?_)
          refine ag_iconst (v := 1) dX10_define_185 rfl ?_
          refine ag_goto (tgt := 190) dX10_define_186 rfl ?_
          refine ag_drop 2 ?_
          exact h
    · have h := h.2 hc6
      refine ag_iconst (v := 1) dX10_define_127 rfl ?_
      refine ag_goto (tgt := 174) dX10_define_128 rfl ?_
      refine ag_istore (lv2 := [some (.ref c.2.2.1), some (.int v1), some (.int v2), some (.int v3), some (.int 1), none, none]) dX10_define_174 (Nat.le_of_ble_eq_true rfl) rfl ?_
      refine ag_iload_n dX10_define_176 rfl ?_
      refine ag_if_eq (tgt := 189) dX10_define_177 rfl (fun hc20 => ?_) (fun hc20 => ?_)
      · have h := h.1 hc20
        refine ag_iconst (v := 0) dX10_define_189 rfl ?_
        refine ag_drop 2 ?_
        exact h
      · have h := h.2 hc20
        refine ag_iload dX10_define_180 rfl ?_
        refine ag_if_le (tgt := 189) dX10_define_182 rfl (fun q => absurd q (by decide)) (fun _ => ?_)
        refine ag_iconst (v := 1) dX10_define_185 rfl ?_
        refine ag_goto (tgt := 190) dX10_define_186 rfl ?_
        refine ag_drop 2 ?_
        exact h
  · have h := h.2 hc3
    refine ag_bipush (v := 31) dX10_define_113 (by decide) ?_
    refine ag_goto (tgt := 174) dX10_define_115 rfl ?_
    refine ag_istore (lv2 := [some (.ref c.2.2.1), some (.int v1), some (.int v2), some (.int v3), some (.int 31), none, none]) dX10_define_174 (Nat.le_of_ble_eq_true rfl) rfl ?_
    refine ag_iload_n dX10_define_176 rfl ?_
    refine ag_if_eq (tgt := 189) dX10_define_177 rfl (fun hc21 => ?_) (fun hc21 => ?_)
    · have h := h.1 hc21
      refine ag_iconst (v := 0) dX10_define_189 rfl ?_
      refine ag_drop 2 ?_
      exact h
    · have h := h.2 hc21
      refine ag_iload dX10_define_180 rfl ?_
      refine ag_if_le (tgt := 189) dX10_define_182 rfl (fun q => absurd q (by decide)) (fun _ => ?_)
      refine ag_iconst (v := 1) dX10_define_185 rfl ?_
      refine ag_goto (tgt := 190) dX10_define_186 rfl ?_
      refine ag_drop 2 ?_
      exact h
set_option maxRecDepth 20000 in
set_option maxHeartbeats 4000000 in
theorem w_X10_define_190 {c : rX} {d : Nat} {S : rS} {K : Option Value → rS → Prop} (ho : rOK c) (v1 : Int32) (v3 : Int32) (v4 : Int32) (s0 : Int32) (h : (s0 = 0 → (rG c eX10_define (d + 1) (rQ c K) 205 [some (.ref c.2.2.1), some (.int v1), some (.int s0), some (.int v3), some (.int v4), none, none] [] S)) ∧ (¬ s0 = 0 → (rG c eX10_define (d + 1) (rQ c K) 205 [some (.ref c.2.2.1), some (.int v1), some (.int s0), some (.int v3), some (.int v4), none, none] [] (rsi S 20 0 ((S.1 20 0) + 1))))) : rG c eX10_define (d + 1) (rQ c K) 190 [some (.ref c.2.2.1), some (.int v1), none, some (.int v3), some (.int v4), none, none] [.int s0] S := by
  refine ag_istore_n (lv2 := [some (.ref c.2.2.1), some (.int v1), some (.int s0), some (.int v3), some (.int v4), none, none]) dX10_define_190 (Nat.le_of_ble_eq_true rfl) rfl ?_
  refine ag_iload_n dX10_define_191 rfl ?_
  refine ag_if_eq (tgt := 205) dX10_define_192 rfl (fun hc1 => ?_) (fun hc1 => ?_)
  · have h := h.1 hc1
    exact h
  · have h := h.2 hc1
    refine ag_aload_n dX10_define_195 rfl (Or.inr ⟨_, rfl⟩) ?_
    refine ag_dup dX10_define_196 rfl ?_
    refine rr_get (v := .int (S.1 20 0)) ho dX10_define_197 fw_10_154 rfl ?_
    refine ag_iconst (v := 1) dX10_define_200 rfl ?_
    refine ag_iadd dX10_define_201 rfl ?_
    refine rr_put (S2 := (rsi S 20 0 ((S.1 20 0) + 1))) ho dX10_define_202 pw_10_154 rfl (fun _ => ⟨rfl, rfl⟩) rfl ?_
    exact h
set_option maxRecDepth 20000 in
set_option maxHeartbeats 4000000 in
theorem w_X10_define_205 {c : rX} {d : Nat} {S : rS} {K : Option Value → rS → Prop} (ho : rOK c) (v1 : Int32) (v2 : Int32) (v3 : Int32) (v4 : Int32) (h : (v2 = 0 → (rM c d eX10_fail (.ref c.2.2.1 :: [.int 1]) (rsi S 1 0 (S.1 20 0)) (fun v S2 => ∃ z3 : Int32, v = some (.int z3) ∧ (K (some (.int z3)) S2)))) ∧ (¬ v2 = 0 → (rM c d eX10_readRest (.ref c.2.2.1 :: [.int (1 <<< (v3 &&& 31))]) S (fun v S4 => ∃ z5 : Int32, v = some (.int z5) ∧ ((¬ z5 = 0 → (rM c d eX10_everything (.ref c.2.2.1 :: [.ref (c.2.2.1 + (39 + 1))]) S4 (fun v S7 => v = none ∧ (rM c d eX10_say [.ref (c.2.2.1 + (39 + 1)), .int 0, .int (7 * v3), .int v4] S7 (fun v S9 => v = none ∧ (rM c d eX10_accepts (.ref c.2.2.1 :: [.int (S9.1 10 4), .ref (c.2.2.1 + (39 + 1))]) S9 (fun v S11 => ∃ z12 : Int32, v = some (.int z12) ∧ ((¬ z12 = 0 → (rM c d eX10_five (.ref c.2.2.1 :: [.int (S11.1 10 4)]) S11 (fun v S14 => ∃ z15 : Int32, v = some (.int z15) ∧ (rG c eX10_define (d + 1) (rQ c K) 293 [some (.ref c.2.2.1), some (.int v1), none, some (.int v3), some (.int v4), some (.int z15), some (.int 0)] [] S14)))) ∧ (z12 = 0 → (rM c d eX10_fail (.ref c.2.2.1 :: [.int 2]) S11 (fun v S16 => ∃ z17 : Int32, v = some (.int z17) ∧ (K (some (.int z17)) S16)))))))))))) ∧ (z5 = 0 → (rM c d eX10_fail (.ref c.2.2.1 :: [.int 1]) (rsi S4 1 0 (S4.1 20 0)) (fun v S18 => ∃ z19 : Int32, v = some (.int z19) ∧ (K (some (.int z19)) S18))))))))) : rG c eX10_define (d + 1) (rQ c K) 205 [some (.ref c.2.2.1), some (.int v1), some (.int v2), some (.int v3), some (.int v4), none, none] [] S := by
  refine ag_iload_n dX10_define_205 rfl ?_
  refine ag_if_eq (tgt := 219) dX10_define_206 rfl (fun hc1 => ?_) (fun hc1 => ?_)
  · have h := h.1 hc1
    refine ag_aload_n dX10_define_219 rfl (Or.inr ⟨_, rfl⟩) ?_
    refine ag_aload_n dX10_define_220 rfl (Or.inr ⟨_, rfl⟩) ?_
    refine rr_get (v := .int (S.1 20 0)) ho dX10_define_221 fw_10_154 rfl ?_
    refine rr_put (S2 := (rsi S 1 0 (S.1 20 0))) ho dX10_define_224 pw_10_9 rfl (fun _ => ⟨rfl, rfl⟩) rfl ?_
    refine ag_aload_n dX10_define_227 rfl (Or.inr ⟨_, rfl⟩) ?_
    refine ag_iconst (v := 1) dX10_define_228 rfl ?_
    refine rr_call (as := [.int 1]) (rest := []) ho dX10_define_229 me_X10_fail mi_X10_fail lk_10_321 rfl rfl (Nat.le_of_ble_eq_true rfl) ?_
    refine rM.mono h ?_
    rintro v S2 ⟨z3, rfl, h⟩
    show rG _ _ _ _ _ _ [.int z3] _
    exact ag_ret (v := some (.int z3)) dX10_define_232 ⟨_, rfl, rfl⟩ ⟨_, rfl, _, rfl, h⟩ rfl
  · have h := h.2 hc1
    refine ag_aload_n dX10_define_209 rfl (Or.inr ⟨_, rfl⟩) ?_
    refine ag_iconst (v := 1) dX10_define_210 rfl ?_
    refine ag_iload_n dX10_define_211 rfl ?_
    refine ag_ishl dX10_define_212 rfl ?_
    refine rr_call (as := [.int (1 <<< (v3 &&& 31))]) (rest := []) ho dX10_define_213 me_X10_readRest mi_X10_readRest lk_10_318 rfl rfl (Nat.le_of_ble_eq_true rfl) ?_
    refine rM.mono h ?_
    rintro v S4 ⟨z5, rfl, h⟩
    show rG _ _ _ _ _ _ [.int z5] _
    refine ag_if_ne (tgt := 233) dX10_define_216 rfl (fun hc6 => ?_) (fun hc6 => ?_)
    · have h := h.1 hc6
      refine ag_aload_n dX10_define_233 rfl (Or.inr ⟨_, rfl⟩) ?_
      refine ag_aload_n dX10_define_234 rfl (Or.inr ⟨_, rfl⟩) ?_
      refine rr_get (v := .ref (c.2.2.1 + (39 + 1))) ho dX10_define_235 fw_10_139 rfl ?_
      refine rr_call (as := [.ref (c.2.2.1 + (39 + 1))]) (rest := []) ho dX10_define_238 me_X10_everything mi_X10_everything lk_10_324 rfl rfl (Nat.le_of_ble_eq_true rfl) ?_
      refine rM.mono h ?_
      rintro v S7 ⟨rfl, h⟩
      show rG _ _ _ _ _ _ [] _
      refine ag_aload_n dX10_define_241 rfl (Or.inr ⟨_, rfl⟩) ?_
      refine rr_get (v := .ref (c.2.2.1 + (39 + 1))) ho dX10_define_242 fw_10_139 rfl ?_
      refine ag_iconst (v := 0) dX10_define_245 rfl ?_
      refine ag_bipush (v := 7) dX10_define_246 (by decide) ?_
      refine ag_iload_n dX10_define_248 rfl ?_
      refine ag_imul dX10_define_249 rfl ?_
      refine ag_iload dX10_define_250 rfl ?_
      refine rr_calls (as := [.ref (c.2.2.1 + (39 + 1)), .int 0, .int (7 * v3), .int v4]) (rest := []) dX10_define_252 me_X10_say ms_X10_say lk_10_252 rfl rfl (Nat.le_of_ble_eq_true rfl) ?_
      refine rM.mono h ?_
      rintro v S9 ⟨rfl, h⟩
      show rG _ _ _ _ _ _ [] _
      refine ag_aload_n dX10_define_255 rfl (Or.inr ⟨_, rfl⟩) ?_
      refine ag_aload_n dX10_define_256 rfl (Or.inr ⟨_, rfl⟩) ?_
      refine rr_get (v := .ref (c.2.2.1 + (7 + 1))) ho dX10_define_257 fw_10_35 rfl ?_
      refine ag_iconst (v := 4) dX10_define_260 rfl ?_
      refine rr_il (v := S9.1 10 4) ho dX10_define_261 (k := 7) (f := 10) rfl ⟨by decide, by decide, by decide⟩ rfl ?_
      refine ag_aload_n dX10_define_262 rfl (Or.inr ⟨_, rfl⟩) ?_
      refine rr_get (v := .ref (c.2.2.1 + (39 + 1))) ho dX10_define_263 fw_10_139 rfl ?_
      refine rr_call (as := [.int (S9.1 10 4), .ref (c.2.2.1 + (39 + 1))]) (rest := []) ho dX10_define_266 me_X10_accepts mi_X10_accepts lk_10_328 rfl rfl (Nat.le_of_ble_eq_true rfl) ?_
      refine rM.mono h ?_
      rintro v S11 ⟨z12, rfl, h⟩
      show rG _ _ _ _ _ _ [.int z12] _
      refine ag_if_ne (tgt := 278) dX10_define_269 rfl (fun hc13 => ?_) (fun hc13 => ?_)
      · have h := h.1 hc13
        refine ag_aload_n dX10_define_278 rfl (Or.inr ⟨_, rfl⟩) ?_
        refine ag_aload_n dX10_define_279 rfl (Or.inr ⟨_, rfl⟩) ?_
        refine rr_get (v := .ref (c.2.2.1 + (7 + 1))) ho dX10_define_280 fw_10_35 rfl ?_
        refine ag_iconst (v := 4) dX10_define_283 rfl ?_
        refine rr_il (v := S11.1 10 4) ho dX10_define_284 (k := 7) (f := 10) rfl ⟨by decide, by decide, by decide⟩ rfl ?_
        refine rr_call (as := [.int (S11.1 10 4)]) (rest := []) ho dX10_define_285 me_X10_five mi_X10_five lk_10_219 rfl rfl (Nat.le_of_ble_eq_true rfl) ?_
        refine rM.mono h ?_
        rintro v S14 ⟨z15, rfl, h⟩
        show rG _ _ _ _ _ _ [.int z15] _
        refine ag_istore (lv2 := [some (.ref c.2.2.1), some (.int v1), some (.int v2), some (.int v3), some (.int v4), some (.int z15), none]) dX10_define_288 (Nat.le_of_ble_eq_true rfl) rfl ?_
        refine ag_iconst (v := 0) dX10_define_290 rfl ?_
        refine ag_istore (lv2 := [some (.ref c.2.2.1), some (.int v1), some (.int v2), some (.int v3), some (.int v4), some (.int z15), some (.int 0)]) dX10_define_291 (Nat.le_of_ble_eq_true rfl) rfl ?_
        refine ag_drop 2 ?_
        exact h
      · have h := h.2 hc13
        refine ag_aload_n dX10_define_272 rfl (Or.inr ⟨_, rfl⟩) ?_
        refine ag_iconst (v := 2) dX10_define_273 rfl ?_
        refine rr_call (as := [.int 2]) (rest := []) ho dX10_define_274 me_X10_fail mi_X10_fail lk_10_321 rfl rfl (Nat.le_of_ble_eq_true rfl) ?_
        refine rM.mono h ?_
        rintro v S16 ⟨z17, rfl, h⟩
        show rG _ _ _ _ _ _ [.int z17] _
        exact ag_ret (v := some (.int z17)) dX10_define_277 ⟨_, rfl, rfl⟩ ⟨_, rfl, _, rfl, h⟩ rfl
    · have h := h.2 hc6
      refine ag_aload_n dX10_define_219 rfl (Or.inr ⟨_, rfl⟩) ?_
      refine ag_aload_n dX10_define_220 rfl (Or.inr ⟨_, rfl⟩) ?_
      refine rr_get (v := .int (S4.1 20 0)) ho dX10_define_221 fw_10_154 rfl ?_
      refine rr_put (S2 := (rsi S4 1 0 (S4.1 20 0))) ho dX10_define_224 pw_10_9 rfl (fun _ => ⟨rfl, rfl⟩) rfl ?_
      refine ag_aload_n dX10_define_227 rfl (Or.inr ⟨_, rfl⟩) ?_
      refine ag_iconst (v := 1) dX10_define_228 rfl ?_
      refine rr_call (as := [.int 1]) (rest := []) ho dX10_define_229 me_X10_fail mi_X10_fail lk_10_321 rfl rfl (Nat.le_of_ble_eq_true rfl) ?_
      refine rM.mono h ?_
      rintro v S18 ⟨z19, rfl, h⟩
      show rG _ _ _ _ _ _ [.int z19] _
      exact ag_ret (v := some (.int z19)) dX10_define_232 ⟨_, rfl, rfl⟩ ⟨_, rfl, _, rfl, h⟩ rfl
set_option maxRecDepth 20000 in
set_option maxHeartbeats 4000000 in
theorem w_X10_define_293 {c : rX} {d : Nat} {S : rS} {K : Option Value → rS → Prop} (ho : rOK c) (v1 : Int32) (v3 : Int32) (v4 : Int32) (v5 : Int32) (v6 : Int32) (h : (7 ≤ v6 → (∃ j2 : Nat, am_ix v1 j2 3 ∧ (∃ j4 : Nat, am_ix v1 j4 3 ∧ (∃ j6 : Nat, am_ix v1 j6 3 ∧ (rM c d eX10_typeOf (.ref c.2.2.1 :: [.int (S.1 10 4)]) (rsi (rsi (rsi S 12 j2 1) 13 j4 v3) 14 j6 v4) (fun v S8 => ∃ z9 : Int32, v = some (.int z9) ∧ (∃ j10 : Nat, am_ix v1 j10 3 ∧ (rM c d eX10_move (.ref c.2.2.1 :: [.int v1]) (rsi S8 15 j10 z9) (fun v S12 => v = none ∧ (∃ j14 : Nat, am_ix v1 j14 3 ∧ (K (some (.int (S12.1 15 j14))) S12))))))))))) ∧ (¬ 7 ≤ v6 → (rM c d eX10_said [.ref (c.2.2.1 + (18 + 1)), .int v5, .int ((7 * v3) + v6)] S (fun v S16 => ∃ z17 : Int32, v = some (.int z17) ∧ (∃ j18 : Nat, am_ix ((7 * v1) + v6) j18 21 ∧ (rM c d eX10_said [.ref (c.2.2.1 + (19 + 1)), .int v5, .int ((7 * v3) + v6)] (rsi S16 16 j18 z17) (fun v S20 => ∃ z21 : Int32, v = some (.int z21) ∧ (∃ j22 : Nat, am_ix ((7 * v1) + v6) j22 21 ∧ (rG c eX10_define (d + 1) (rQ c K) 293 [some (.ref c.2.2.1), some (.int v1), none, some (.int v3), some (.int v4), some (.int v5), some (.int (v6 + 1))] [] (rsi S20 17 j22 z21)))))))))) : rG c eX10_define (d + 1) (rQ c K) 293 [some (.ref c.2.2.1), some (.int v1), none, some (.int v3), some (.int v4), some (.int v5), some (.int v6)] [] S := by
  refine ag_iload dX10_define_293 rfl ?_
  refine ag_bipush (v := 7) dX10_define_295 (by decide) ?_
  refine ag_icmp_ge (tgt := 362) dX10_define_297 rfl (fun hc1 => ?_) (fun hc1 => ?_)
  · have h := h.1 hc1
    refine ag_aload_n dX10_define_362 rfl (Or.inr ⟨_, rfl⟩) ?_
    refine rr_get (v := .ref (c.2.2.1 + (9 + 1))) ho dX10_define_363 fw_10_41 rfl ?_
    refine ag_iload_n dX10_define_366 rfl ?_
    refine ag_iconst (v := 1) dX10_define_367 rfl ?_
    obtain ⟨j2, hj3, h⟩ := h
    refine rr_zs (S2 := (rsi S 12 j2 1)) ho dX10_define_368 (k := 9) (f := 12) rfl hj3 (Or.inr rfl) rfl ?_
    refine ag_aload_n dX10_define_369 rfl (Or.inr ⟨_, rfl⟩) ?_
    refine rr_get (v := .ref (c.2.2.1 + (10 + 1))) ho dX10_define_370 fw_10_45 rfl ?_
    refine ag_iload_n dX10_define_373 rfl ?_
    refine ag_iload_n dX10_define_374 rfl ?_
    obtain ⟨j4, hj5, h⟩ := h
    refine rr_is (S2 := (rsi (rsi S 12 j2 1) 13 j4 v3)) ho dX10_define_375 (k := 10) (f := 13) rfl hj5 rfl ?_
    refine ag_aload_n dX10_define_376 rfl (Or.inr ⟨_, rfl⟩) ?_
    refine rr_get (v := .ref (c.2.2.1 + (11 + 1))) ho dX10_define_377 fw_10_48 rfl ?_
    refine ag_iload_n dX10_define_380 rfl ?_
    refine ag_iload dX10_define_381 rfl ?_
    obtain ⟨j6, hj7, h⟩ := h
    refine rr_is (S2 := (rsi (rsi (rsi S 12 j2 1) 13 j4 v3) 14 j6 v4)) ho dX10_define_383 (k := 11) (f := 14) rfl hj7 rfl ?_
    refine ag_aload_n dX10_define_384 rfl (Or.inr ⟨_, rfl⟩) ?_
    refine rr_get (v := .ref (c.2.2.1 + (12 + 1))) ho dX10_define_385 fw_10_51 rfl ?_
    refine ag_iload_n dX10_define_388 rfl ?_
    refine ag_aload_n dX10_define_389 rfl (Or.inr ⟨_, rfl⟩) ?_
    refine ag_aload_n dX10_define_390 rfl (Or.inr ⟨_, rfl⟩) ?_
    refine rr_get (v := .ref (c.2.2.1 + (7 + 1))) ho dX10_define_391 fw_10_35 rfl ?_
    refine ag_iconst (v := 4) dX10_define_394 rfl ?_
    refine rr_il (v := S.1 10 4) ho dX10_define_395 (k := 7) (f := 10) rfl ⟨by decide, by decide, by decide⟩ rfl ?_
    refine rr_call (as := [.int (S.1 10 4)]) (rest := [.int v1, .ref (c.2.2.1 + (12 + 1))]) ho dX10_define_396 me_X10_typeOf mi_X10_typeOf lk_10_249 rfl rfl (Nat.le_of_ble_eq_true rfl) ?_
    refine rM.mono h ?_
    rintro v S8 ⟨z9, rfl, h⟩
    show rG _ _ _ _ _ _ [.int z9, .int v1, .ref (c.2.2.1 + (12 + 1))] _
    obtain ⟨j10, hj11, h⟩ := h
    refine rr_is (S2 := (rsi S8 15 j10 z9)) ho dX10_define_399 (k := 12) (f := 15) rfl hj11 rfl ?_
    refine ag_aload_n dX10_define_400 rfl (Or.inr ⟨_, rfl⟩) ?_
    refine ag_iload_n dX10_define_401 rfl ?_
    refine rr_call (as := [.int v1]) (rest := []) ho dX10_define_402 me_X10_move mi_X10_move lk_10_332 rfl rfl (Nat.le_of_ble_eq_true rfl) ?_
    refine rM.mono h ?_
    rintro v S12 ⟨rfl, h⟩
    show rG _ _ _ _ _ _ [] _
    refine ag_aload_n dX10_define_405 rfl (Or.inr ⟨_, rfl⟩) ?_
    refine rr_get (v := .ref (c.2.2.1 + (12 + 1))) ho dX10_define_406 fw_10_51 rfl ?_
    refine ag_iload_n dX10_define_409 rfl ?_
    obtain ⟨j14, hj15, h⟩ := h
    refine rr_il (v := S12.1 15 j14) ho dX10_define_410 (k := 12) (f := 15) rfl hj15 rfl ?_
    exact ag_ret (v := some (.int (S12.1 15 j14))) dX10_define_411 ⟨_, rfl, rfl⟩ ⟨_, rfl, _, rfl, h⟩ rfl
  · have h := h.2 hc1
    refine ag_aload_n dX10_define_300 rfl (Or.inr ⟨_, rfl⟩) ?_
    refine rr_get (v := .ref (c.2.2.1 + (13 + 1))) ho dX10_define_301 fw_10_54 rfl ?_
    refine ag_bipush (v := 7) dX10_define_304 (by decide) ?_
    refine ag_iload_n dX10_define_306 rfl ?_
    refine ag_imul dX10_define_307 rfl ?_
    refine ag_iload dX10_define_308 rfl ?_
    refine ag_iadd dX10_define_310 rfl ?_
    refine ag_aload_n dX10_define_311 rfl (Or.inr ⟨_, rfl⟩) ?_
    refine rr_get (v := .ref (c.2.2.1 + (18 + 1))) ho dX10_define_312 fw_10_70 rfl ?_
    refine ag_iload dX10_define_315 rfl ?_
    refine ag_bipush (v := 7) dX10_define_317 (by decide) ?_
    refine ag_iload_n dX10_define_319 rfl ?_
    refine ag_imul dX10_define_320 rfl ?_
    refine ag_iload dX10_define_321 rfl ?_
    refine ag_iadd dX10_define_323 rfl ?_
    refine rr_calls (as := [.ref (c.2.2.1 + (18 + 1)), .int v5, .int ((7 * v3) + v6)]) (rest := [.int ((7 * v1) + v6), .ref (c.2.2.1 + (13 + 1))]) dX10_define_324 me_X10_said ms_X10_said lk_10_298 rfl rfl (Nat.le_of_ble_eq_true rfl) ?_
    refine rM.mono h ?_
    rintro v S16 ⟨z17, rfl, h⟩
    show rG _ _ _ _ _ _ [.int z17, .int ((7 * v1) + v6), .ref (c.2.2.1 + (13 + 1))] _
    obtain ⟨j18, hj19, h⟩ := h
    refine rr_is (S2 := (rsi S16 16 j18 z17)) ho dX10_define_327 (k := 13) (f := 16) rfl hj19 rfl ?_
    refine ag_aload_n dX10_define_328 rfl (Or.inr ⟨_, rfl⟩) ?_
    refine rr_get (v := .ref (c.2.2.1 + (14 + 1))) ho dX10_define_329 fw_10_57 rfl ?_
    refine ag_bipush (v := 7) dX10_define_332 (by decide) ?_
    refine ag_iload_n dX10_define_334 rfl ?_
    refine ag_imul dX10_define_335 rfl ?_
    refine ag_iload dX10_define_336 rfl ?_
    refine ag_iadd dX10_define_338 rfl ?_
    refine ag_aload_n dX10_define_339 rfl (Or.inr ⟨_, rfl⟩) ?_
    refine rr_get (v := .ref (c.2.2.1 + (19 + 1))) ho dX10_define_340 fw_10_73 rfl ?_
    refine ag_iload dX10_define_343 rfl ?_
    refine ag_bipush (v := 7) dX10_define_345 (by decide) ?_
    refine ag_iload_n dX10_define_347 rfl ?_
    refine ag_imul dX10_define_348 rfl ?_
    refine ag_iload dX10_define_349 rfl ?_
    refine ag_iadd dX10_define_351 rfl ?_
    refine rr_calls (as := [.ref (c.2.2.1 + (19 + 1)), .int v5, .int ((7 * v3) + v6)]) (rest := [.int ((7 * v1) + v6), .ref (c.2.2.1 + (14 + 1))]) dX10_define_352 me_X10_said ms_X10_said lk_10_298 rfl rfl (Nat.le_of_ble_eq_true rfl) ?_
    refine rM.mono h ?_
    rintro v S20 ⟨z21, rfl, h⟩
    show rG _ _ _ _ _ _ [.int z21, .int ((7 * v1) + v6), .ref (c.2.2.1 + (14 + 1))] _
    obtain ⟨j22, hj23, h⟩ := h
    refine rr_is (S2 := (rsi S20 17 j22 z21)) ho dX10_define_355 (k := 14) (f := 17) rfl hj23 rfl ?_
    refine ag_iinc (v2 := (v6 + 1)) (lv2 := [some (.ref c.2.2.1), some (.int v1), none, some (.int v3), some (.int v4), some (.int v5), some (.int (v6 + 1))]) dX10_define_356 rfl rfl rfl ?_
    refine ag_goto (tgt := 293) dX10_define_359 rfl ?_
    exact h
theorem dX10_check_0 : decode cX10_check 0 = .ok (.aload_n 0, 1) := by decide +kernel
theorem dX10_check_1 : decode cX10_check 1 = .ok (.iconst 0, 1) := by decide +kernel
theorem dX10_check_2 : decode cX10_check 2 = .ok (.putfield 148, 3) := by decide +kernel
theorem dX10_check_5 : decode cX10_check 5 = .ok (.aload_n 0, 1) := by decide +kernel
theorem dX10_check_6 : decode cX10_check 6 = .ok (.iconst (-1), 1) := by decide +kernel
theorem dX10_check_7 : decode cX10_check 7 = .ok (.putfield 9, 3) := by decide +kernel
theorem dX10_check_10 : decode cX10_check 10 = .ok (.aload_n 0, 1) := by decide +kernel
theorem dX10_check_11 : decode cX10_check 11 = .ok (.iconst 0, 1) := by decide +kernel
theorem dX10_check_12 : decode cX10_check 12 = .ok (.putfield 154, 3) := by decide +kernel
theorem dX10_check_15 : decode cX10_check 15 = .ok (.aload_n 0, 1) := by decide +kernel
theorem dX10_check_16 : decode cX10_check 16 = .ok (.iconst 3, 1) := by decide +kernel
theorem dX10_check_17 : decode cX10_check 17 = .ok (.invokevirtual 318, 3) := by decide +kernel
theorem dX10_check_20 : decode cX10_check 20 = .ok (.ifCond .ne 17, 3) := by decide +kernel
theorem dX10_check_23 : decode cX10_check 23 = .ok (.aload_n 0, 1) := by decide +kernel
theorem dX10_check_24 : decode cX10_check 24 = .ok (.aload_n 0, 1) := by decide +kernel
theorem dX10_check_25 : decode cX10_check 25 = .ok (.getfield 154, 3) := by decide +kernel
theorem dX10_check_28 : decode cX10_check 28 = .ok (.putfield 9, 3) := by decide +kernel
theorem dX10_check_31 : decode cX10_check 31 = .ok (.aload_n 0, 1) := by decide +kernel
theorem dX10_check_32 : decode cX10_check 32 = .ok (.iconst 1, 1) := by decide +kernel
theorem dX10_check_33 : decode cX10_check 33 = .ok (.invokevirtual 321, 3) := by decide +kernel
theorem dX10_check_36 : decode cX10_check 36 = .ok (.ireturn, 1) := by decide +kernel
theorem dX10_check_37 : decode cX10_check 37 = .ok (.aload_n 0, 1) := by decide +kernel
theorem dX10_check_38 : decode cX10_check 38 = .ok (.iconst 3, 1) := by decide +kernel
theorem dX10_check_39 : decode cX10_check 39 = .ok (.invokevirtual 332, 3) := by decide +kernel
theorem dX10_check_42 : decode cX10_check 42 = .ok (.aload_n 0, 1) := by decide +kernel
theorem dX10_check_43 : decode cX10_check 43 = .ok (.iconst 1, 1) := by decide +kernel
theorem dX10_check_44 : decode cX10_check 44 = .ok (.putfield 335, 3) := by decide +kernel
theorem dX10_check_47 : decode cX10_check 47 = .ok (.aload_n 0, 1) := by decide +kernel
theorem dX10_check_48 : decode cX10_check 48 = .ok (.aload_n 0, 1) := by decide +kernel
theorem dX10_check_49 : decode cX10_check 49 = .ok (.getfield 139, 3) := by decide +kernel
theorem dX10_check_52 : decode cX10_check 52 = .ok (.invokevirtual 324, 3) := by decide +kernel
theorem dX10_check_55 : decode cX10_check 55 = .ok (.aload_n 0, 1) := by decide +kernel
theorem dX10_check_56 : decode cX10_check 56 = .ok (.aload_n 0, 1) := by decide +kernel
theorem dX10_check_57 : decode cX10_check 57 = .ok (.aload_n 0, 1) := by decide +kernel
theorem dX10_check_58 : decode cX10_check 58 = .ok (.getfield 35, 3) := by decide +kernel
theorem dX10_check_61 : decode cX10_check 61 = .ok (.iconst 3, 1) := by decide +kernel
theorem dX10_check_62 : decode cX10_check 62 = .ok (.iaload, 1) := by decide +kernel
theorem dX10_check_63 : decode cX10_check 63 = .ok (.aload_n 0, 1) := by decide +kernel
theorem dX10_check_64 : decode cX10_check 64 = .ok (.getfield 139, 3) := by decide +kernel
theorem dX10_check_67 : decode cX10_check 67 = .ok (.invokevirtual 328, 3) := by decide +kernel
theorem dX10_check_70 : decode cX10_check 70 = .ok (.putfield 338, 3) := by decide +kernel
theorem dX10_check_73 : decode cX10_check 73 = .ok (.aload_n 0, 1) := by decide +kernel
theorem dX10_check_74 : decode cX10_check 74 = .ok (.getfield 338, 3) := by decide +kernel
theorem dX10_check_77 : decode cX10_check 77 = .ok (.ifCond .ne 9, 3) := by decide +kernel
theorem dX10_check_80 : decode cX10_check 80 = .ok (.aload_n 0, 1) := by decide +kernel
theorem dX10_check_81 : decode cX10_check 81 = .ok (.iconst 2, 1) := by decide +kernel
theorem dX10_check_82 : decode cX10_check 82 = .ok (.invokevirtual 321, 3) := by decide +kernel
theorem dX10_check_85 : decode cX10_check 85 = .ok (.ireturn, 1) := by decide +kernel
theorem dX10_check_86 : decode cX10_check 86 = .ok (.aload_n 0, 1) := by decide +kernel
theorem dX10_check_87 : decode cX10_check 87 = .ok (.aload_n 0, 1) := by decide +kernel
theorem dX10_check_88 : decode cX10_check 88 = .ok (.getfield 35, 3) := by decide +kernel
theorem dX10_check_91 : decode cX10_check 91 = .ok (.iconst 3, 1) := by decide +kernel
theorem dX10_check_92 : decode cX10_check 92 = .ok (.iaload, 1) := by decide +kernel
theorem dX10_check_93 : decode cX10_check 93 = .ok (.invokevirtual 219, 3) := by decide +kernel
theorem dX10_check_96 : decode cX10_check 96 = .ok (.istore_n 1, 1) := by decide +kernel
theorem dX10_check_97 : decode cX10_check 97 = .ok (.aload_n 0, 1) := by decide +kernel
theorem dX10_check_98 : decode cX10_check 98 = .ok (.getfield 70, 3) := by decide +kernel
theorem dX10_check_101 : decode cX10_check 101 = .ok (.iload_n 1, 1) := by decide +kernel
theorem dX10_check_102 : decode cX10_check 102 = .ok (.aload_n 0, 1) := by decide +kernel
theorem dX10_check_103 : decode cX10_check 103 = .ok (.getfield 142, 3) := by decide +kernel
theorem dX10_check_106 : decode cX10_check 106 = .ok (.iconst 0, 1) := by decide +kernel
theorem dX10_check_107 : decode cX10_check 107 = .ok (.invokestatic 222, 3) := by decide +kernel
theorem dX10_check_110 : decode cX10_check 110 = .ok (.aload_n 0, 1) := by decide +kernel
theorem dX10_check_111 : decode cX10_check 111 = .ok (.getfield 73, 3) := by decide +kernel
theorem dX10_check_114 : decode cX10_check 114 = .ok (.iload_n 1, 1) := by decide +kernel
theorem dX10_check_115 : decode cX10_check 115 = .ok (.aload_n 0, 1) := by decide +kernel
theorem dX10_check_116 : decode cX10_check 116 = .ok (.getfield 145, 3) := by decide +kernel
theorem dX10_check_119 : decode cX10_check 119 = .ok (.iconst 0, 1) := by decide +kernel
theorem dX10_check_120 : decode cX10_check 120 = .ok (.invokestatic 222, 3) := by decide +kernel
theorem dX10_check_123 : decode cX10_check 123 = .ok (.aload_n 0, 1) := by decide +kernel
theorem dX10_check_124 : decode cX10_check 124 = .ok (.aload_n 0, 1) := by decide +kernel
theorem dX10_check_125 : decode cX10_check 125 = .ok (.getfield 35, 3) := by decide +kernel
theorem dX10_check_128 : decode cX10_check 128 = .ok (.iconst 3, 1) := by decide +kernel
theorem dX10_check_129 : decode cX10_check 129 = .ok (.iaload, 1) := by decide +kernel
theorem dX10_check_130 : decode cX10_check 130 = .ok (.invokevirtual 249, 3) := by decide +kernel
theorem dX10_check_133 : decode cX10_check 133 = .ok (.ireturn, 1) := by decide +kernel
set_option maxRecDepth 20000 in
set_option maxHeartbeats 4000000 in
theorem w_X10_check {c : rX} {d : Nat} {S : rS} {K : Option Value → rS → Prop} (ho : rOK c)  (h : rM c d eX10_readRest (.ref c.2.2.1 :: [.int 3]) (rsi (rsi (rsi S 0 0 0) 1 0 (-1)) 20 0 0) (fun v S1 => ∃ z2 : Int32, v = some (.int z2) ∧ ((¬ z2 = 0 → (rM c d eX10_move (.ref c.2.2.1 :: [.int 3]) S1 (fun v S4 => v = none ∧ (rM c d eX10_everything (.ref c.2.2.1 :: [.ref (c.2.2.1 + (39 + 1))]) (rsi S4 18 0 1) (fun v S6 => v = none ∧ (rM c d eX10_accepts (.ref c.2.2.1 :: [.int (S6.1 10 3), .ref (c.2.2.1 + (39 + 1))]) S6 (fun v S8 => ∃ z9 : Int32, v = some (.int z9) ∧ (rB z9 ∧ ((¬ z9 = 0 → (rM c d eX10_five (.ref c.2.2.1 :: [.int (S8.1 10 3)]) (rsi S8 19 0 z9) (fun v S12 => ∃ z13 : Int32, v = some (.int z13) ∧ (rM c d eX10_copy [.ref (c.2.2.1 + (18 + 1)), .int z13, .ref (c.2.2.1 + (40 + 1)), .int 0] S12 (fun v S14 => v = none ∧ (rM c d eX10_copy [.ref (c.2.2.1 + (19 + 1)), .int z13, .ref (c.2.2.1 + (41 + 1)), .int 0] S14 (fun v S16 => v = none ∧ (rM c d eX10_typeOf (.ref c.2.2.1 :: [.int (S16.1 10 3)]) S16 (fun v S18 => ∃ z19 : Int32, v = some (.int z19) ∧ (K (some (.int z19)) S18)))))))))) ∧ (z9 = 0 → (rM c d eX10_fail (.ref c.2.2.1 :: [.int 2]) (rsi S8 19 0 z9) (fun v S20 => ∃ z21 : Int32, v = some (.int z21) ∧ (K (some (.int z21)) S20))))))))))))) ∧ (z2 = 0 → (rM c d eX10_fail (.ref c.2.2.1 :: [.int 1]) (rsi S1 1 0 (S1.1 20 0)) (fun v S22 => ∃ z23 : Int32, v = some (.int z23) ∧ (K (some (.int z23)) S22))))))) : rM c (d + 1) eX10_check [.ref c.2.2.1] S K := by
  refine rM.of (by decide) (Nat.le_of_ble_eq_true rfl) ?_
  show rG c eX10_check (d + 1) (rQ c K) 0 [some (.ref c.2.2.1), none] [] S
  refine ag_aload_n dX10_check_0 rfl (Or.inr ⟨_, rfl⟩) ?_
  refine ag_iconst (v := 0) dX10_check_1 rfl ?_
  refine rr_put (S2 := (rsi S 0 0 0)) ho dX10_check_2 pw_10_148 rfl (fun _ => ⟨rfl, rfl⟩) rfl ?_
  refine ag_aload_n dX10_check_5 rfl (Or.inr ⟨_, rfl⟩) ?_
  refine ag_iconst (v := (-1)) dX10_check_6 rfl ?_
  refine rr_put (S2 := (rsi (rsi S 0 0 0) 1 0 (-1))) ho dX10_check_7 pw_10_9 rfl (fun _ => ⟨rfl, rfl⟩) rfl ?_
  refine ag_aload_n dX10_check_10 rfl (Or.inr ⟨_, rfl⟩) ?_
  refine ag_iconst (v := 0) dX10_check_11 rfl ?_
  refine rr_put (S2 := (rsi (rsi (rsi S 0 0 0) 1 0 (-1)) 20 0 0)) ho dX10_check_12 pw_10_154 rfl (fun _ => ⟨rfl, rfl⟩) rfl ?_
  refine ag_aload_n dX10_check_15 rfl (Or.inr ⟨_, rfl⟩) ?_
  refine ag_iconst (v := 3) dX10_check_16 rfl ?_
  refine rr_call (as := [.int 3]) (rest := []) ho dX10_check_17 me_X10_readRest mi_X10_readRest lk_10_318 rfl rfl (Nat.le_of_ble_eq_true rfl) ?_
  refine rM.mono h ?_
  rintro v S1 ⟨z2, rfl, h⟩
  show rG _ _ _ _ _ _ [.int z2] _
  refine ag_if_ne (tgt := 37) dX10_check_20 rfl (fun hc3 => ?_) (fun hc3 => ?_)
  · have h := h.1 hc3
    refine ag_aload_n dX10_check_37 rfl (Or.inr ⟨_, rfl⟩) ?_
    refine ag_iconst (v := 3) dX10_check_38 rfl ?_
    refine rr_call (as := [.int 3]) (rest := []) ho dX10_check_39 me_X10_move mi_X10_move lk_10_332 rfl rfl (Nat.le_of_ble_eq_true rfl) ?_
    refine rM.mono h ?_
    rintro v S4 ⟨rfl, h⟩
    show rG _ _ _ _ _ _ [] _
    refine ag_aload_n dX10_check_42 rfl (Or.inr ⟨_, rfl⟩) ?_
    refine ag_iconst (v := 1) dX10_check_43 rfl ?_
    refine rr_put (S2 := (rsi S4 18 0 1)) ho dX10_check_44 pw_10_335 rfl (rB_ok (Or.inr rfl)) rfl ?_
    refine ag_aload_n dX10_check_47 rfl (Or.inr ⟨_, rfl⟩) ?_
    refine ag_aload_n dX10_check_48 rfl (Or.inr ⟨_, rfl⟩) ?_
    refine rr_get (v := .ref (c.2.2.1 + (39 + 1))) ho dX10_check_49 fw_10_139 rfl ?_
    refine rr_call (as := [.ref (c.2.2.1 + (39 + 1))]) (rest := []) ho dX10_check_52 me_X10_everything mi_X10_everything lk_10_324 rfl rfl (Nat.le_of_ble_eq_true rfl) ?_
    refine rM.mono h ?_
    rintro v S6 ⟨rfl, h⟩
    show rG _ _ _ _ _ _ [] _
    refine ag_aload_n dX10_check_55 rfl (Or.inr ⟨_, rfl⟩) ?_
    refine ag_aload_n dX10_check_56 rfl (Or.inr ⟨_, rfl⟩) ?_
    refine ag_aload_n dX10_check_57 rfl (Or.inr ⟨_, rfl⟩) ?_
    refine rr_get (v := .ref (c.2.2.1 + (7 + 1))) ho dX10_check_58 fw_10_35 rfl ?_
    refine ag_iconst (v := 3) dX10_check_61 rfl ?_
    refine rr_il (v := S6.1 10 3) ho dX10_check_62 (k := 7) (f := 10) rfl ⟨by decide, by decide, by decide⟩ rfl ?_
    refine ag_aload_n dX10_check_63 rfl (Or.inr ⟨_, rfl⟩) ?_
    refine rr_get (v := .ref (c.2.2.1 + (39 + 1))) ho dX10_check_64 fw_10_139 rfl ?_
    refine rr_call (as := [.int (S6.1 10 3), .ref (c.2.2.1 + (39 + 1))]) (rest := [.ref c.2.2.1]) ho dX10_check_67 me_X10_accepts mi_X10_accepts lk_10_328 rfl rfl (Nat.le_of_ble_eq_true rfl) ?_
    refine rM.mono h ?_
    rintro v S8 ⟨z9, rfl, h⟩
    show rG _ _ _ _ _ _ [.int z9, .ref c.2.2.1] _
    obtain ⟨hb10, h⟩ := h
    refine rr_put (S2 := (rsi S8 19 0 z9)) ho dX10_check_70 pw_10_338 rfl (rB_ok hb10) rfl ?_
    refine ag_aload_n dX10_check_73 rfl (Or.inr ⟨_, rfl⟩) ?_
    refine rr_get (v := .int z9) ho dX10_check_74 fw_10_338 rfl ?_
    refine ag_if_ne (tgt := 86) dX10_check_77 rfl (fun hc11 => ?_) (fun hc11 => ?_)
    · have h := h.1 hc11
      refine ag_aload_n dX10_check_86 rfl (Or.inr ⟨_, rfl⟩) ?_
      refine ag_aload_n dX10_check_87 rfl (Or.inr ⟨_, rfl⟩) ?_
      refine rr_get (v := .ref (c.2.2.1 + (7 + 1))) ho dX10_check_88 fw_10_35 rfl ?_
      refine ag_iconst (v := 3) dX10_check_91 rfl ?_
      refine rr_il (v := S8.1 10 3) ho dX10_check_92 (k := 7) (f := 10) rfl ⟨by decide, by decide, by decide⟩ rfl ?_
      refine rr_call (as := [.int (S8.1 10 3)]) (rest := []) ho dX10_check_93 me_X10_five mi_X10_five lk_10_219 rfl rfl (Nat.le_of_ble_eq_true rfl) ?_
      refine rM.mono h ?_
      rintro v S12 ⟨z13, rfl, h⟩
      show rG _ _ _ _ _ _ [.int z13] _
      refine ag_istore_n (lv2 := [some (.ref c.2.2.1), some (.int z13)]) dX10_check_96 (Nat.le_of_ble_eq_true rfl) rfl ?_
      refine ag_aload_n dX10_check_97 rfl (Or.inr ⟨_, rfl⟩) ?_
      refine rr_get (v := .ref (c.2.2.1 + (18 + 1))) ho dX10_check_98 fw_10_70 rfl ?_
      refine ag_iload_n dX10_check_101 rfl ?_
      refine ag_aload_n dX10_check_102 rfl (Or.inr ⟨_, rfl⟩) ?_
      refine rr_get (v := .ref (c.2.2.1 + (40 + 1))) ho dX10_check_103 fw_10_142 rfl ?_
      refine ag_iconst (v := 0) dX10_check_106 rfl ?_
      refine rr_calls (as := [.ref (c.2.2.1 + (18 + 1)), .int z13, .ref (c.2.2.1 + (40 + 1)), .int 0]) (rest := []) dX10_check_107 me_X10_copy ms_X10_copy lk_10_222 rfl rfl (Nat.le_of_ble_eq_true rfl) ?_
      refine rM.mono h ?_
      rintro v S14 ⟨rfl, h⟩
      show rG _ _ _ _ _ _ [] _
      refine ag_aload_n dX10_check_110 rfl (Or.inr ⟨_, rfl⟩) ?_
      refine rr_get (v := .ref (c.2.2.1 + (19 + 1))) ho dX10_check_111 fw_10_73 rfl ?_
      refine ag_iload_n dX10_check_114 rfl ?_
      refine ag_aload_n dX10_check_115 rfl (Or.inr ⟨_, rfl⟩) ?_
      refine rr_get (v := .ref (c.2.2.1 + (41 + 1))) ho dX10_check_116 fw_10_145 rfl ?_
      refine ag_iconst (v := 0) dX10_check_119 rfl ?_
      refine rr_calls (as := [.ref (c.2.2.1 + (19 + 1)), .int z13, .ref (c.2.2.1 + (41 + 1)), .int 0]) (rest := []) dX10_check_120 me_X10_copy ms_X10_copy lk_10_222 rfl rfl (Nat.le_of_ble_eq_true rfl) ?_
      refine rM.mono h ?_
      rintro v S16 ⟨rfl, h⟩
      show rG _ _ _ _ _ _ [] _
      refine ag_aload_n dX10_check_123 rfl (Or.inr ⟨_, rfl⟩) ?_
      refine ag_aload_n dX10_check_124 rfl (Or.inr ⟨_, rfl⟩) ?_
      refine rr_get (v := .ref (c.2.2.1 + (7 + 1))) ho dX10_check_125 fw_10_35 rfl ?_
      refine ag_iconst (v := 3) dX10_check_128 rfl ?_
      refine rr_il (v := S16.1 10 3) ho dX10_check_129 (k := 7) (f := 10) rfl ⟨by decide, by decide, by decide⟩ rfl ?_
      refine rr_call (as := [.int (S16.1 10 3)]) (rest := []) ho dX10_check_130 me_X10_typeOf mi_X10_typeOf lk_10_249 rfl rfl (Nat.le_of_ble_eq_true rfl) ?_
      refine rM.mono h ?_
      rintro v S18 ⟨z19, rfl, h⟩
      show rG _ _ _ _ _ _ [.int z19] _
      exact ag_ret (v := some (.int z19)) dX10_check_133 ⟨_, rfl, rfl⟩ ⟨_, rfl, _, rfl, h⟩ rfl
    · have h := h.2 hc11
      refine ag_aload_n dX10_check_80 rfl (Or.inr ⟨_, rfl⟩) ?_
      refine ag_iconst (v := 2) dX10_check_81 rfl ?_
      refine rr_call (as := [.int 2]) (rest := []) ho dX10_check_82 me_X10_fail mi_X10_fail lk_10_321 rfl rfl (Nat.le_of_ble_eq_true rfl) ?_
      refine rM.mono h ?_
      rintro v S20 ⟨z21, rfl, h⟩
      show rG _ _ _ _ _ _ [.int z21] _
      exact ag_ret (v := some (.int z21)) dX10_check_85 ⟨_, rfl, rfl⟩ ⟨_, rfl, _, rfl, h⟩ rfl
  · have h := h.2 hc3
    refine ag_aload_n dX10_check_23 rfl (Or.inr ⟨_, rfl⟩) ?_
    refine ag_aload_n dX10_check_24 rfl (Or.inr ⟨_, rfl⟩) ?_
    refine rr_get (v := .int (S1.1 20 0)) ho dX10_check_25 fw_10_154 rfl ?_
    refine rr_put (S2 := (rsi S1 1 0 (S1.1 20 0))) ho dX10_check_28 pw_10_9 rfl (fun _ => ⟨rfl, rfl⟩) rfl ?_
    refine ag_aload_n dX10_check_31 rfl (Or.inr ⟨_, rfl⟩) ?_
    refine ag_iconst (v := 1) dX10_check_32 rfl ?_
    refine rr_call (as := [.int 1]) (rest := []) ho dX10_check_33 me_X10_fail mi_X10_fail lk_10_321 rfl rfl (Nat.le_of_ble_eq_true rfl) ?_
    refine rM.mono h ?_
    rintro v S22 ⟨z23, rfl, h⟩
    show rG _ _ _ _ _ _ [.int z23] _
    exact ag_ret (v := some (.int z23)) dX10_check_36 ⟨_, rfl, rfl⟩ ⟨_, rfl, _, rfl, h⟩ rfl
theorem dX10_fault_0 : decode cX10_fault 0 = .ok (.aload_n 0, 1) := by decide +kernel
theorem dX10_fault_1 : decode cX10_fault 1 = .ok (.iconst 0, 1) := by decide +kernel
theorem dX10_fault_2 : decode cX10_fault 2 = .ok (.putfield 148, 3) := by decide +kernel
theorem dX10_fault_5 : decode cX10_fault 5 = .ok (.aload_n 0, 1) := by decide +kernel
theorem dX10_fault_6 : decode cX10_fault 6 = .ok (.getfield 9, 3) := by decide +kernel
theorem dX10_fault_9 : decode cX10_fault 9 = .ok (.ireturn, 1) := by decide +kernel
set_option maxRecDepth 20000 in
set_option maxHeartbeats 4000000 in
theorem w_X10_fault {c : rX} {d : Nat} {S : rS} {K : Option Value → rS → Prop} (ho : rOK c)  (h : K (some (.int (S.1 1 0))) (rsi S 0 0 0)) : rM c d eX10_fault [.ref c.2.2.1] S K := by
  refine rM.of (by decide) (Nat.le_of_ble_eq_true rfl) ?_
  show rG c eX10_fault d (rQ c K) 0 [some (.ref c.2.2.1)] [] S
  refine ag_aload_n dX10_fault_0 rfl (Or.inr ⟨_, rfl⟩) ?_
  refine ag_iconst (v := 0) dX10_fault_1 rfl ?_
  refine rr_put (S2 := (rsi S 0 0 0)) ho dX10_fault_2 pw_10_148 rfl (fun _ => ⟨rfl, rfl⟩) rfl ?_
  refine ag_aload_n dX10_fault_5 rfl (Or.inr ⟨_, rfl⟩) ?_
  refine rr_get (v := .int (S.1 1 0)) ho dX10_fault_6 fw_10_9 rfl ?_
  exact ag_ret (v := some (.int (S.1 1 0))) dX10_fault_9 ⟨_, rfl, rfl⟩ ⟨_, rfl, _, rfl, h⟩ rfl
theorem dX10_view_0 : decode cX10_view 0 = .ok (.aload_n 0, 1) := by decide +kernel
theorem dX10_view_1 : decode cX10_view 1 = .ok (.aload_n 0, 1) := by decide +kernel
theorem dX10_view_2 : decode cX10_view 2 = .ok (.getfield 335, 3) := by decide +kernel
theorem dX10_view_5 : decode cX10_view 5 = .ok (.ifCond .eq 10, 3) := by decide +kernel
theorem dX10_view_8 : decode cX10_view 8 = .ok (.aload_n 0, 1) := by decide +kernel
theorem dX10_view_9 : decode cX10_view 9 = .ok (.getfield 338, 3) := by decide +kernel
theorem dX10_view_12 : decode cX10_view 12 = .ok (.ifCond .ne 7, 3) := by decide +kernel
theorem dX10_view_15 : decode cX10_view 15 = .ok (.iconst 1, 1) := by decide +kernel
theorem dX10_view_16 : decode cX10_view 16 = .ok (.goto 27, 3) := by decide +kernel
theorem dX10_view_19 : decode cX10_view 19 = .ok (.iload_n 2, 1) := by decide +kernel
theorem dX10_view_20 : decode cX10_view 20 = .ok (.ifCond .lt 18, 3) := by decide +kernel
theorem dX10_view_23 : decode cX10_view 23 = .ok (.iload_n 2, 1) := by decide +kernel
theorem dX10_view_24 : decode cX10_view 24 = .ok (.iconst 1, 1) := by decide +kernel
theorem dX10_view_25 : decode cX10_view 25 = .ok (.if_icmp .gt 13, 3) := by decide +kernel
theorem dX10_view_28 : decode cX10_view 28 = .ok (.iload_n 3, 1) := by decide +kernel
theorem dX10_view_29 : decode cX10_view 29 = .ok (.ifCond .lt 9, 3) := by decide +kernel
theorem dX10_view_32 : decode cX10_view 32 = .ok (.iload_n 3, 1) := by decide +kernel
theorem dX10_view_33 : decode cX10_view 33 = .ok (.bipush 6, 2) := by decide +kernel
theorem dX10_view_35 : decode cX10_view 35 = .ok (.if_icmp .le 7, 3) := by decide +kernel
theorem dX10_view_38 : decode cX10_view 38 = .ok (.iconst 2, 1) := by decide +kernel
theorem dX10_view_39 : decode cX10_view 39 = .ok (.goto 4, 3) := by decide +kernel
theorem dX10_view_42 : decode cX10_view 42 = .ok (.iconst 0, 1) := by decide +kernel
theorem dX10_view_43 : decode cX10_view 43 = .ok (.putfield 148, 3) := by decide +kernel
theorem dX10_view_46 : decode cX10_view 46 = .ok (.aload_n 0, 1) := by decide +kernel
theorem dX10_view_47 : decode cX10_view 47 = .ok (.getfield 148, 3) := by decide +kernel
theorem dX10_view_50 : decode cX10_view 50 = .ok (.ifCond .le 5, 3) := by decide +kernel
theorem dX10_view_53 : decode cX10_view 53 = .ok (.iconst 0, 1) := by decide +kernel
theorem dX10_view_54 : decode cX10_view 54 = .ok (.ireturn, 1) := by decide +kernel
theorem dX10_view_55 : decode cX10_view 55 = .ok (.iload_n 1, 1) := by decide +kernel
theorem dX10_view_56 : decode cX10_view 56 = .ok (.ifCond .eq 10, 3) := by decide +kernel
theorem dX10_view_59 : decode cX10_view 59 = .ok (.aload_n 0, 1) := by decide +kernel
theorem dX10_view_60 : decode cX10_view 60 = .ok (.getfield 142, 3) := by decide +kernel
theorem dX10_view_63 : decode cX10_view 63 = .ok (.goto 7, 3) := by decide +kernel
theorem dX10_view_66 : decode cX10_view 66 = .ok (.aload_n 0, 1) := by decide +kernel
theorem dX10_view_67 : decode cX10_view 67 = .ok (.getfield 145, 3) := by decide +kernel
theorem dX10_view_70 : decode cX10_view 70 = .ok (.iconst 0, 1) := by decide +kernel
theorem dX10_view_71 : decode cX10_view 71 = .ok (.invokestatic 211, 3) := by decide +kernel
theorem dX10_view_74 : decode cX10_view 74 = .ok (.ifCond .eq 5, 3) := by decide +kernel
theorem dX10_view_77 : decode cX10_view 77 = .ok (.iconst (-1), 1) := by decide +kernel
theorem dX10_view_78 : decode cX10_view 78 = .ok (.ireturn, 1) := by decide +kernel
theorem dX10_view_79 : decode cX10_view 79 = .ok (.iload_n 1, 1) := by decide +kernel
theorem dX10_view_80 : decode cX10_view 80 = .ok (.ifCond .eq 10, 3) := by decide +kernel
theorem dX10_view_83 : decode cX10_view 83 = .ok (.aload_n 0, 1) := by decide +kernel
theorem dX10_view_84 : decode cX10_view 84 = .ok (.getfield 142, 3) := by decide +kernel
theorem dX10_view_87 : decode cX10_view 87 = .ok (.goto 7, 3) := by decide +kernel
theorem dX10_view_90 : decode cX10_view 90 = .ok (.aload_n 0, 1) := by decide +kernel
theorem dX10_view_91 : decode cX10_view 91 = .ok (.getfield 145, 3) := by decide +kernel
theorem dX10_view_94 : decode cX10_view 94 = .ok (.iconst 0, 1) := by decide +kernel
theorem dX10_view_95 : decode cX10_view 95 = .ok (.bipush 7, 2) := by decide +kernel
theorem dX10_view_97 : decode cX10_view 97 = .ok (.iload_n 2, 1) := by decide +kernel
theorem dX10_view_98 : decode cX10_view 98 = .ok (.imul, 1) := by decide +kernel
theorem dX10_view_99 : decode cX10_view 99 = .ok (.iload_n 3, 1) := by decide +kernel
theorem dX10_view_100 : decode cX10_view 100 = .ok (.iadd, 1) := by decide +kernel
theorem dX10_view_101 : decode cX10_view 101 = .ok (.invokestatic 298, 3) := by decide +kernel
theorem dX10_view_104 : decode cX10_view 104 = .ok (.ireturn, 1) := by decide +kernel
set_option maxRecDepth 20000 in
set_option maxHeartbeats 4000000 in
theorem w_X10_view {c : rX} {d : Nat} {S : rS} {K : Option Value → rS → Prop} (ho : rOK c) (p0 : Int32) (p1 : Int32) (p2 : Int32) (h : ((S.1 18 0) = 0 → (rG c eX10_view (d + 1) (rQ c K) 43 [some (.ref c.2.2.1), some (.int p0), some (.int p1), some (.int p2)] [.int 1, .ref c.2.2.1] S)) ∧ (¬ (S.1 18 0) = 0 → ((¬ (S.1 19 0) = 0 → ((p1 < 0 → (rG c eX10_view (d + 1) (rQ c K) 43 [some (.ref c.2.2.1), some (.int p0), some (.int p1), some (.int p2)] [.int 2, .ref c.2.2.1] S)) ∧ (¬ p1 < 0 → ((1 < p1 → (rG c eX10_view (d + 1) (rQ c K) 43 [some (.ref c.2.2.1), some (.int p0), some (.int p1), some (.int p2)] [.int 2, .ref c.2.2.1] S)) ∧ (¬ 1 < p1 → ((p2 < 0 → (rG c eX10_view (d + 1) (rQ c K) 43 [some (.ref c.2.2.1), some (.int p0), some (.int p1), some (.int p2)] [.int 2, .ref c.2.2.1] S)) ∧ (¬ p2 < 0 → ((p2 ≤ 6 → (rG c eX10_view (d + 1) (rQ c K) 43 [some (.ref c.2.2.1), some (.int p0), some (.int p1), some (.int p2)] [.int 0, .ref c.2.2.1] S)) ∧ (¬ p2 ≤ 6 → (rG c eX10_view (d + 1) (rQ c K) 43 [some (.ref c.2.2.1), some (.int p0), some (.int p1), some (.int p2)] [.int 2, .ref c.2.2.1] S)))))))))) ∧ ((S.1 19 0) = 0 → (rG c eX10_view (d + 1) (rQ c K) 43 [some (.ref c.2.2.1), some (.int p0), some (.int p1), some (.int p2)] [.int 1, .ref c.2.2.1] S))))) : rM c (d + 1) eX10_view [.ref c.2.2.1, .int p0, .int p1, .int p2] S K := by
  refine rM.of (by decide) (Nat.le_of_ble_eq_true rfl) ?_
  show rG c eX10_view (d + 1) (rQ c K) 0 [some (.ref c.2.2.1), some (.int p0), some (.int p1), some (.int p2)] [] S
  refine ag_aload_n dX10_view_0 rfl (Or.inr ⟨_, rfl⟩) ?_
  refine ag_aload_n dX10_view_1 rfl (Or.inr ⟨_, rfl⟩) ?_
  refine rr_get (v := .int (S.1 18 0)) ho dX10_view_2 fw_10_335 rfl ?_
  refine ag_if_eq (tgt := 15) dX10_view_5 rfl (fun hc1 => ?_) (fun hc1 => ?_)
  · have h := h.1 hc1
    refine ag_iconst (v := 1) dX10_view_15 rfl ?_
    refine ag_goto (tgt := 43) dX10_view_16 rfl ?_
    exact h
  · have h := h.2 hc1
    refine ag_aload_n dX10_view_8 rfl (Or.inr ⟨_, rfl⟩) ?_
    refine rr_get (v := .int (S.1 19 0)) ho dX10_view_9 fw_10_338 rfl ?_
    refine ag_if_ne (tgt := 19) dX10_view_12 rfl (fun hc2 => ?_) (fun hc2 => ?_)
    · have h := h.1 hc2
      refine ag_iload_n dX10_view_19 rfl ?_
      refine ag_if_lt (tgt := 38) dX10_view_20 rfl (fun hc3 => ?_) (fun hc3 => ?_)
      · have h := h.1 hc3
        refine ag_iconst (v := 2) dX10_view_38 rfl ?_
        refine ag_goto (tgt := 43) dX10_view_39 rfl ?_
        exact h
      · have h := h.2 hc3
        refine ag_iload_n dX10_view_23 rfl ?_
        refine ag_iconst (v := 1) dX10_view_24 rfl ?_
        refine ag_icmp_gt (tgt := 38) dX10_view_25 rfl (fun hc4 => ?_) (fun hc4 => ?_)
        · have h := h.1 hc4
          refine ag_iconst (v := 2) dX10_view_38 rfl ?_
          refine ag_goto (tgt := 43) dX10_view_39 rfl ?_
          exact h
        · have h := h.2 hc4
          refine ag_iload_n dX10_view_28 rfl ?_
          refine ag_if_lt (tgt := 38) dX10_view_29 rfl (fun hc5 => ?_) (fun hc5 => ?_)
          · have h := h.1 hc5
            refine ag_iconst (v := 2) dX10_view_38 rfl ?_
            refine ag_goto (tgt := 43) dX10_view_39 rfl ?_
            exact h
          · have h := h.2 hc5
            refine ag_iload_n dX10_view_32 rfl ?_
            refine ag_bipush (v := 6) dX10_view_33 (by decide) ?_
            refine ag_icmp_le (tgt := 42) dX10_view_35 rfl (fun hc6 => ?_) (fun hc6 => ?_)
            · have h := h.1 hc6
              refine ag_iconst (v := 0) dX10_view_42 rfl ?_
              exact h
            · have h := h.2 hc6
              refine ag_iconst (v := 2) dX10_view_38 rfl ?_
              refine ag_goto (tgt := 43) dX10_view_39 rfl ?_
              exact h
    · have h := h.2 hc2
      refine ag_iconst (v := 1) dX10_view_15 rfl ?_
      refine ag_goto (tgt := 43) dX10_view_16 rfl ?_
      exact h
set_option maxRecDepth 20000 in
set_option maxHeartbeats 4000000 in
theorem w_X10_view_43 {c : rX} {d : Nat} {S : rS} {K : Option Value → rS → Prop} (ho : rOK c) (v1 : Int32) (v2 : Int32) (v3 : Int32) (s0 : Int32) (h : (s0 ≤ 0 → ((v1 = 0 → (rG c eX10_view (d + 1) (rQ c K) 70 [some (.ref c.2.2.1), some (.int v1), some (.int v2), some (.int v3)] [.ref (c.2.2.1 + (41 + 1))] (rsi S 0 0 s0))) ∧ (¬ v1 = 0 → (rG c eX10_view (d + 1) (rQ c K) 70 [some (.ref c.2.2.1), some (.int v1), some (.int v2), some (.int v3)] [.ref (c.2.2.1 + (40 + 1))] (rsi S 0 0 s0))))) ∧ (¬ s0 ≤ 0 → (K (some (.int 0)) (rsi S 0 0 s0)))) : rG c eX10_view (d + 1) (rQ c K) 43 [some (.ref c.2.2.1), some (.int v1), some (.int v2), some (.int v3)] [.int s0, .ref c.2.2.1] S := by
  refine rr_put (S2 := (rsi S 0 0 s0)) ho dX10_view_43 pw_10_148 rfl (fun _ => ⟨rfl, rfl⟩) rfl ?_
  refine ag_aload_n dX10_view_46 rfl (Or.inr ⟨_, rfl⟩) ?_
  refine rr_get (v := .int s0) ho dX10_view_47 fw_10_148 rfl ?_
  refine ag_if_le (tgt := 55) dX10_view_50 rfl (fun hc1 => ?_) (fun hc1 => ?_)
  · have h := h.1 hc1
    refine ag_iload_n dX10_view_55 rfl ?_
    refine ag_if_eq (tgt := 66) dX10_view_56 rfl (fun hc2 => ?_) (fun hc2 => ?_)
    · have h := h.1 hc2
      refine ag_aload_n dX10_view_66 rfl (Or.inr ⟨_, rfl⟩) ?_
      refine rr_get (v := .ref (c.2.2.1 + (41 + 1))) ho dX10_view_67 fw_10_145 rfl ?_
      exact h
    · have h := h.2 hc2
      refine ag_aload_n dX10_view_59 rfl (Or.inr ⟨_, rfl⟩) ?_
      refine rr_get (v := .ref (c.2.2.1 + (40 + 1))) ho dX10_view_60 fw_10_142 rfl ?_
      refine ag_goto (tgt := 70) dX10_view_63 rfl ?_
      exact h
  · have h := h.2 hc1
    refine ag_iconst (v := 0) dX10_view_53 rfl ?_
    exact ag_ret (v := some (.int 0)) dX10_view_54 ⟨_, rfl, rfl⟩ ⟨_, rfl, _, rfl, h⟩ rfl
set_option maxRecDepth 20000 in
set_option maxHeartbeats 4000000 in
theorem w_X10_view_70 {c : rX} {d : Nat} {S : rS} {K : Option Value → rS → Prop} (ho : rOK c) (v1 : Int32) (v2 : Int32) (v3 : Int32) (h : rM c d eX10_isImpossible [.ref (c.2.2.1 + (40 + 1)), .int 0] S (fun v S1 => ∃ z2 : Int32, v = some (.int z2) ∧ ((z2 = 0 → ((v1 = 0 → (rM c d eX10_said [.ref (c.2.2.1 + (41 + 1)), .int 0, .int ((7 * v2) + v3)] S1 (fun v S5 => ∃ z6 : Int32, v = some (.int z6) ∧ (K (some (.int z6)) S5)))) ∧ (¬ v1 = 0 → (rM c d eX10_said [.ref (c.2.2.1 + (40 + 1)), .int 0, .int ((7 * v2) + v3)] S1 (fun v S7 => ∃ z8 : Int32, v = some (.int z8) ∧ (K (some (.int z8)) S7)))))) ∧ (¬ z2 = 0 → (K (some (.int (-1))) S1))))) : rG c eX10_view (d + 1) (rQ c K) 70 [some (.ref c.2.2.1), some (.int v1), some (.int v2), some (.int v3)] [.ref (c.2.2.1 + (40 + 1))] S := by
  refine ag_iconst (v := 0) dX10_view_70 rfl ?_
  refine rr_calls (as := [.ref (c.2.2.1 + (40 + 1)), .int 0]) (rest := []) dX10_view_71 me_X10_isImpossible ms_X10_isImpossible lk_10_211 rfl rfl (Nat.le_of_ble_eq_true rfl) ?_
  refine rM.mono h ?_
  rintro v S1 ⟨z2, rfl, h⟩
  show rG _ _ _ _ _ _ [.int z2] _
  refine ag_if_eq (tgt := 79) dX10_view_74 rfl (fun hc3 => ?_) (fun hc3 => ?_)
  · have h := h.1 hc3
    refine ag_iload_n dX10_view_79 rfl ?_
    refine ag_if_eq (tgt := 90) dX10_view_80 rfl (fun hc4 => ?_) (fun hc4 => ?_)
    · have h := h.1 hc4
      refine ag_aload_n dX10_view_90 rfl (Or.inr ⟨_, rfl⟩) ?_
      refine rr_get (v := .ref (c.2.2.1 + (41 + 1))) ho dX10_view_91 fw_10_145 rfl ?_
      refine ag_iconst (v := 0) dX10_view_94 rfl ?_
      refine ag_bipush (v := 7) dX10_view_95 (by decide) ?_
      refine ag_iload_n dX10_view_97 rfl ?_
      refine ag_imul dX10_view_98 rfl ?_
      refine ag_iload_n dX10_view_99 rfl ?_
      refine ag_iadd dX10_view_100 rfl ?_
      refine rr_calls (as := [.ref (c.2.2.1 + (41 + 1)), .int 0, .int ((7 * v2) + v3)]) (rest := []) dX10_view_101 me_X10_said ms_X10_said lk_10_298 rfl rfl (Nat.le_of_ble_eq_true rfl) ?_
      refine rM.mono h ?_
      rintro v S5 ⟨z6, rfl, h⟩
      show rG _ _ _ _ _ _ [.int z6] _
      exact ag_ret (v := some (.int z6)) dX10_view_104 ⟨_, rfl, rfl⟩ ⟨_, rfl, _, rfl, h⟩ rfl
    · have h := h.2 hc4
      refine ag_aload_n dX10_view_83 rfl (Or.inr ⟨_, rfl⟩) ?_
      refine rr_get (v := .ref (c.2.2.1 + (40 + 1))) ho dX10_view_84 fw_10_142 rfl ?_
      refine ag_goto (tgt := 94) dX10_view_87 rfl ?_
      refine ag_iconst (v := 0) dX10_view_94 rfl ?_
      refine ag_bipush (v := 7) dX10_view_95 (by decide) ?_
      refine ag_iload_n dX10_view_97 rfl ?_
      refine ag_imul dX10_view_98 rfl ?_
      refine ag_iload_n dX10_view_99 rfl ?_
      refine ag_iadd dX10_view_100 rfl ?_
      refine rr_calls (as := [.ref (c.2.2.1 + (40 + 1)), .int 0, .int ((7 * v2) + v3)]) (rest := []) dX10_view_101 me_X10_said ms_X10_said lk_10_298 rfl rfl (Nat.le_of_ble_eq_true rfl) ?_
      refine rM.mono h ?_
      rintro v S7 ⟨z8, rfl, h⟩
      show rG _ _ _ _ _ _ [.int z8] _
      exact ag_ret (v := some (.int z8)) dX10_view_104 ⟨_, rfl, rfl⟩ ⟨_, rfl, _, rfl, h⟩ rfl
  · have h := h.2 hc3
    refine ag_iconst (v := (-1)) dX10_view_77 rfl ?_
    exact ag_ret (v := some (.int (-1))) dX10_view_78 ⟨_, rfl, rfl⟩ ⟨_, rfl, _, rfl, h⟩ rfl
theorem dX10_forget_0 : decode cX10_forget 0 = .ok (.aload_n 0, 1) := by decide +kernel
theorem dX10_forget_1 : decode cX10_forget 1 = .ok (.iconst 0, 1) := by decide +kernel
theorem dX10_forget_2 : decode cX10_forget 2 = .ok (.putfield 148, 3) := by decide +kernel
theorem dX10_forget_5 : decode cX10_forget 5 = .ok (.iconst 0, 1) := by decide +kernel
theorem dX10_forget_6 : decode cX10_forget 6 = .ok (.istore_n 1, 1) := by decide +kernel
theorem dX10_forget_7 : decode cX10_forget 7 = .ok (.iload_n 1, 1) := by decide +kernel
theorem dX10_forget_8 : decode cX10_forget 8 = .ok (.iconst 3, 1) := by decide +kernel
theorem dX10_forget_9 : decode cX10_forget 9 = .ok (.if_icmp .ge 16, 3) := by decide +kernel
theorem dX10_forget_12 : decode cX10_forget 12 = .ok (.aload_n 0, 1) := by decide +kernel
theorem dX10_forget_13 : decode cX10_forget 13 = .ok (.getfield 41, 3) := by decide +kernel
theorem dX10_forget_16 : decode cX10_forget 16 = .ok (.iload_n 1, 1) := by decide +kernel
theorem dX10_forget_17 : decode cX10_forget 17 = .ok (.iconst 0, 1) := by decide +kernel
theorem dX10_forget_18 : decode cX10_forget 18 = .ok (.bastore, 1) := by decide +kernel
theorem dX10_forget_19 : decode cX10_forget 19 = .ok (.iinc 1 1, 3) := by decide +kernel
theorem dX10_forget_22 : decode cX10_forget 22 = .ok (.goto (-15), 3) := by decide +kernel
theorem dX10_forget_25 : decode cX10_forget 25 = .ok (.aload_n 0, 1) := by decide +kernel
theorem dX10_forget_26 : decode cX10_forget 26 = .ok (.iconst 0, 1) := by decide +kernel
theorem dX10_forget_27 : decode cX10_forget 27 = .ok (.putfield 335, 3) := by decide +kernel
theorem dX10_forget_30 : decode cX10_forget 30 = .ok (.aload_n 0, 1) := by decide +kernel
theorem dX10_forget_31 : decode cX10_forget 31 = .ok (.iconst 0, 1) := by decide +kernel
theorem dX10_forget_32 : decode cX10_forget 32 = .ok (.putfield 338, 3) := by decide +kernel
theorem dX10_forget_35 : decode cX10_forget 35 = .ok (.return_, 1) := by decide +kernel
set_option maxRecDepth 20000 in
set_option maxHeartbeats 4000000 in
theorem w_X10_forget {c : rX} {d : Nat} {S : rS} {K : Option Value → rS → Prop} (ho : rOK c)  (h : rG c eX10_forget d (rQ c K) 7 [some (.ref c.2.2.1), some (.int 0)] [] (rsi S 0 0 0)) : rM c d eX10_forget [.ref c.2.2.1] S K := by
  refine rM.of (by decide) (Nat.le_of_ble_eq_true rfl) ?_
  show rG c eX10_forget d (rQ c K) 0 [some (.ref c.2.2.1), none] [] S
  refine ag_aload_n dX10_forget_0 rfl (Or.inr ⟨_, rfl⟩) ?_
  refine ag_iconst (v := 0) dX10_forget_1 rfl ?_
  refine rr_put (S2 := (rsi S 0 0 0)) ho dX10_forget_2 pw_10_148 rfl (fun _ => ⟨rfl, rfl⟩) rfl ?_
  refine ag_iconst (v := 0) dX10_forget_5 rfl ?_
  refine ag_istore_n (lv2 := [some (.ref c.2.2.1), some (.int 0)]) dX10_forget_6 (Nat.le_of_ble_eq_true rfl) rfl ?_
  exact h
set_option maxRecDepth 20000 in
set_option maxHeartbeats 4000000 in
theorem w_X10_forget_7 {c : rX} {d : Nat} {S : rS} {K : Option Value → rS → Prop} (ho : rOK c) (v1 : Int32) (h : (3 ≤ v1 → (K none (rsi (rsi S 18 0 0) 19 0 0))) ∧ (¬ 3 ≤ v1 → (∃ j2 : Nat, am_ix v1 j2 3 ∧ (rG c eX10_forget d (rQ c K) 7 [some (.ref c.2.2.1), some (.int (v1 + 1))] [] (rsi S 12 j2 0))))) : rG c eX10_forget d (rQ c K) 7 [some (.ref c.2.2.1), some (.int v1)] [] S := by
  refine ag_iload_n dX10_forget_7 rfl ?_
  refine ag_iconst (v := 3) dX10_forget_8 rfl ?_
  refine ag_icmp_ge (tgt := 25) dX10_forget_9 rfl (fun hc1 => ?_) (fun hc1 => ?_)
  · have h := h.1 hc1
    refine ag_aload_n dX10_forget_25 rfl (Or.inr ⟨_, rfl⟩) ?_
    refine ag_iconst (v := 0) dX10_forget_26 rfl ?_
    refine rr_put (S2 := (rsi S 18 0 0)) ho dX10_forget_27 pw_10_335 rfl (rB_ok (Or.inl rfl)) rfl ?_
    refine ag_aload_n dX10_forget_30 rfl (Or.inr ⟨_, rfl⟩) ?_
    refine ag_iconst (v := 0) dX10_forget_31 rfl ?_
    refine rr_put (S2 := (rsi (rsi S 18 0 0) 19 0 0)) ho dX10_forget_32 pw_10_338 rfl (rB_ok (Or.inl rfl)) rfl ?_
    exact ag_ret (v := none) dX10_forget_35 rfl ⟨_, rfl, _, rfl, h⟩ rfl
  · have h := h.2 hc1
    refine ag_aload_n dX10_forget_12 rfl (Or.inr ⟨_, rfl⟩) ?_
    refine rr_get (v := .ref (c.2.2.1 + (9 + 1))) ho dX10_forget_13 fw_10_41 rfl ?_
    refine ag_iload_n dX10_forget_16 rfl ?_
    refine ag_iconst (v := 0) dX10_forget_17 rfl ?_
    obtain ⟨j2, hj3, h⟩ := h
    refine rr_zs (S2 := (rsi S 12 j2 0)) ho dX10_forget_18 (k := 9) (f := 12) rfl hj3 (Or.inl rfl) rfl ?_
    refine ag_iinc (v2 := (v1 + 1)) (lv2 := [some (.ref c.2.2.1), some (.int (v1 + 1))]) dX10_forget_19 rfl rfl rfl ?_
    refine ag_goto (tgt := 7) dX10_forget_22 rfl ?_
    exact h
theorem dX10_removeRun_0 : decode cX10_removeRun 0 = .ok (.aload_n 0, 1) := by decide +kernel
theorem dX10_removeRun_1 : decode cX10_removeRun 1 = .ok (.bipush 13, 2) := by decide +kernel
theorem dX10_removeRun_3 : decode cX10_removeRun 3 = .ok (.aload_n 0, 1) := by decide +kernel
theorem dX10_removeRun_4 : decode cX10_removeRun 4 = .ok (.getfield 341, 3) := by decide +kernel
theorem dX10_removeRun_7 : decode cX10_removeRun 7 = .ok (.iadd, 1) := by decide +kernel
theorem dX10_removeRun_8 : decode cX10_removeRun 8 = .ok (.putfield 103, 3) := by decide +kernel
theorem dX10_removeRun_11 : decode cX10_removeRun 11 = .ok (.aload_n 0, 1) := by decide +kernel
theorem dX10_removeRun_12 : decode cX10_removeRun 12 = .ok (.iconst (-1), 1) := by decide +kernel
theorem dX10_removeRun_13 : decode cX10_removeRun 13 = .ok (.putfield 121, 3) := by decide +kernel
theorem dX10_removeRun_16 : decode cX10_removeRun 16 = .ok (.return_, 1) := by decide +kernel
set_option maxRecDepth 20000 in
set_option maxHeartbeats 4000000 in
theorem w_X10_removeRun {c : rX} {d : Nat} {S : rS} {K : Option Value → rS → Prop} (ho : rOK c)  (h : K none (rsi (rsi S 40 0 (13 + (S.1 39 0))) 47 0 (-1))) : rM c d eX10_removeRun [.ref c.2.2.1] S K := by
  refine rM.of (by decide) (Nat.le_of_ble_eq_true rfl) ?_
  show rG c eX10_removeRun d (rQ c K) 0 [some (.ref c.2.2.1)] [] S
  refine ag_aload_n dX10_removeRun_0 rfl (Or.inr ⟨_, rfl⟩) ?_
  refine ag_bipush (v := 13) dX10_removeRun_1 (by decide) ?_
  refine ag_aload_n dX10_removeRun_3 rfl (Or.inr ⟨_, rfl⟩) ?_
  refine rr_get (v := .int (S.1 39 0)) ho dX10_removeRun_4 fw_10_341 rfl ?_
  refine ag_iadd dX10_removeRun_7 rfl ?_
  refine rr_put (S2 := (rsi S 40 0 (13 + (S.1 39 0)))) ho dX10_removeRun_8 pw_10_103 rfl (fun _ => ⟨rfl, rfl⟩) rfl ?_
  refine ag_aload_n dX10_removeRun_11 rfl (Or.inr ⟨_, rfl⟩) ?_
  refine ag_iconst (v := (-1)) dX10_removeRun_12 rfl ?_
  refine rr_put (S2 := (rsi (rsi S 40 0 (13 + (S.1 39 0))) 47 0 (-1))) ho dX10_removeRun_13 pw_10_121 rfl (fun _ => ⟨rfl, rfl⟩) rfl ?_
  exact ag_ret (v := none) dX10_removeRun_16 rfl ⟨_, rfl, _, rfl, h⟩ rfl
theorem dX10_make_0 : decode cX10_make 0 = .ok (.aload_n 0, 1) := by decide +kernel
theorem dX10_make_1 : decode cX10_make 1 = .ok (.getfield 106, 3) := by decide +kernel
theorem dX10_make_4 : decode cX10_make 4 = .ok (.aload_n 0, 1) := by decide +kernel
theorem dX10_make_5 : decode cX10_make 5 = .ok (.getfield 103, 3) := by decide +kernel
theorem dX10_make_8 : decode cX10_make 8 = .ok (.iload_n 1, 1) := by decide +kernel
theorem dX10_make_9 : decode cX10_make 9 = .ok (.iastore, 1) := by decide +kernel
theorem dX10_make_10 : decode cX10_make 10 = .ok (.aload_n 0, 1) := by decide +kernel
theorem dX10_make_11 : decode cX10_make 11 = .ok (.getfield 109, 3) := by decide +kernel
theorem dX10_make_14 : decode cX10_make 14 = .ok (.aload_n 0, 1) := by decide +kernel
theorem dX10_make_15 : decode cX10_make 15 = .ok (.getfield 103, 3) := by decide +kernel
theorem dX10_make_18 : decode cX10_make 18 = .ok (.iload_n 2, 1) := by decide +kernel
theorem dX10_make_19 : decode cX10_make 19 = .ok (.iastore, 1) := by decide +kernel
theorem dX10_make_20 : decode cX10_make 20 = .ok (.aload_n 0, 1) := by decide +kernel
theorem dX10_make_21 : decode cX10_make 21 = .ok (.getfield 112, 3) := by decide +kernel
theorem dX10_make_24 : decode cX10_make 24 = .ok (.aload_n 0, 1) := by decide +kernel
theorem dX10_make_25 : decode cX10_make 25 = .ok (.getfield 103, 3) := by decide +kernel
theorem dX10_make_28 : decode cX10_make 28 = .ok (.iload_n 3, 1) := by decide +kernel
theorem dX10_make_29 : decode cX10_make 29 = .ok (.iastore, 1) := by decide +kernel
theorem dX10_make_30 : decode cX10_make 30 = .ok (.aload_n 0, 1) := by decide +kernel
theorem dX10_make_31 : decode cX10_make 31 = .ok (.getfield 115, 3) := by decide +kernel
theorem dX10_make_34 : decode cX10_make 34 = .ok (.aload_n 0, 1) := by decide +kernel
theorem dX10_make_35 : decode cX10_make 35 = .ok (.getfield 103, 3) := by decide +kernel
theorem dX10_make_38 : decode cX10_make 38 = .ok (.iload 4, 2) := by decide +kernel
theorem dX10_make_40 : decode cX10_make 40 = .ok (.iastore, 1) := by decide +kernel
theorem dX10_make_41 : decode cX10_make 41 = .ok (.aload_n 0, 1) := by decide +kernel
theorem dX10_make_42 : decode cX10_make 42 = .ok (.dup, 1) := by decide +kernel
theorem dX10_make_43 : decode cX10_make 43 = .ok (.getfield 103, 3) := by decide +kernel
theorem dX10_make_46 : decode cX10_make 46 = .ok (.iconst 1, 1) := by decide +kernel
theorem dX10_make_47 : decode cX10_make 47 = .ok (.iadd, 1) := by decide +kernel
theorem dX10_make_48 : decode cX10_make 48 = .ok (.putfield 103, 3) := by decide +kernel
theorem dX10_make_51 : decode cX10_make 51 = .ok (.aload_n 0, 1) := by decide +kernel
theorem dX10_make_52 : decode cX10_make 52 = .ok (.getfield 103, 3) := by decide +kernel
theorem dX10_make_55 : decode cX10_make 55 = .ok (.iconst 1, 1) := by decide +kernel
theorem dX10_make_56 : decode cX10_make 56 = .ok (.isub, 1) := by decide +kernel
theorem dX10_make_57 : decode cX10_make 57 = .ok (.ireturn, 1) := by decide +kernel
set_option maxRecDepth 20000 in
set_option maxHeartbeats 4000000 in
theorem w_X10_make {c : rX} {d : Nat} {S : rS} {K : Option Value → rS → Prop} (ho : rOK c) (p0 : Int32) (p1 : Int32) (p2 : Int32) (p3 : Int32) (h : ∃ j1 : Nat, am_ix (S.1 40 0) j1 64 ∧ (∃ j3 : Nat, am_ix (S.1 40 0) j3 64 ∧ (∃ j5 : Nat, am_ix (S.1 40 0) j5 64 ∧ (∃ j7 : Nat, am_ix (S.1 40 0) j7 64 ∧ (K (some (.int (((S.1 40 0) + 1) - 1))) (rsi (rsi (rsi (rsi (rsi S 41 j1 p0) 42 j3 p1) 43 j5 p2) 44 j7 p3) 40 0 ((S.1 40 0) + 1))))))) : rM c d eX10_make [.ref c.2.2.1, .int p0, .int p1, .int p2, .int p3] S K := by
  refine rM.of (by decide) (Nat.le_of_ble_eq_true rfl) ?_
  show rG c eX10_make d (rQ c K) 0 [some (.ref c.2.2.1), some (.int p0), some (.int p1), some (.int p2), some (.int p3)] [] S
  refine ag_aload_n dX10_make_0 rfl (Or.inr ⟨_, rfl⟩) ?_
  refine rr_get (v := .ref (c.2.2.1 + (29 + 1))) ho dX10_make_1 fw_10_106 rfl ?_
  refine ag_aload_n dX10_make_4 rfl (Or.inr ⟨_, rfl⟩) ?_
  refine rr_get (v := .int (S.1 40 0)) ho dX10_make_5 fw_10_103 rfl ?_
  refine ag_iload_n dX10_make_8 rfl ?_
  obtain ⟨j1, hj2, h⟩ := h
  refine rr_is (S2 := (rsi S 41 j1 p0)) ho dX10_make_9 (k := 29) (f := 41) rfl hj2 rfl ?_
  refine ag_aload_n dX10_make_10 rfl (Or.inr ⟨_, rfl⟩) ?_
  refine rr_get (v := .ref (c.2.2.1 + (30 + 1))) ho dX10_make_11 fw_10_109 rfl ?_
  refine ag_aload_n dX10_make_14 rfl (Or.inr ⟨_, rfl⟩) ?_
  refine rr_get (v := .int (S.1 40 0)) ho dX10_make_15 fw_10_103 rfl ?_
  refine ag_iload_n dX10_make_18 rfl ?_
  obtain ⟨j3, hj4, h⟩ := h
  refine rr_is (S2 := (rsi (rsi S 41 j1 p0) 42 j3 p1)) ho dX10_make_19 (k := 30) (f := 42) rfl hj4 rfl ?_
  refine ag_aload_n dX10_make_20 rfl (Or.inr ⟨_, rfl⟩) ?_
  refine rr_get (v := .ref (c.2.2.1 + (31 + 1))) ho dX10_make_21 fw_10_112 rfl ?_
  refine ag_aload_n dX10_make_24 rfl (Or.inr ⟨_, rfl⟩) ?_
  refine rr_get (v := .int (S.1 40 0)) ho dX10_make_25 fw_10_103 rfl ?_
  refine ag_iload_n dX10_make_28 rfl ?_
  obtain ⟨j5, hj6, h⟩ := h
  refine rr_is (S2 := (rsi (rsi (rsi S 41 j1 p0) 42 j3 p1) 43 j5 p2)) ho dX10_make_29 (k := 31) (f := 43) rfl hj6 rfl ?_
  refine ag_aload_n dX10_make_30 rfl (Or.inr ⟨_, rfl⟩) ?_
  refine rr_get (v := .ref (c.2.2.1 + (32 + 1))) ho dX10_make_31 fw_10_115 rfl ?_
  refine ag_aload_n dX10_make_34 rfl (Or.inr ⟨_, rfl⟩) ?_
  refine rr_get (v := .int (S.1 40 0)) ho dX10_make_35 fw_10_103 rfl ?_
  refine ag_iload dX10_make_38 rfl ?_
  obtain ⟨j7, hj8, h⟩ := h
  refine rr_is (S2 := (rsi (rsi (rsi (rsi S 41 j1 p0) 42 j3 p1) 43 j5 p2) 44 j7 p3)) ho dX10_make_40 (k := 32) (f := 44) rfl hj8 rfl ?_
  refine ag_aload_n dX10_make_41 rfl (Or.inr ⟨_, rfl⟩) ?_
  refine ag_dup dX10_make_42 rfl ?_
  refine rr_get (v := .int (S.1 40 0)) ho dX10_make_43 fw_10_103 rfl ?_
  refine ag_iconst (v := 1) dX10_make_46 rfl ?_
  refine ag_iadd dX10_make_47 rfl ?_
  refine rr_put (S2 := (rsi (rsi (rsi (rsi (rsi S 41 j1 p0) 42 j3 p1) 43 j5 p2) 44 j7 p3) 40 0 ((S.1 40 0) + 1))) ho dX10_make_48 pw_10_103 rfl (fun _ => ⟨rfl, rfl⟩) rfl ?_
  refine ag_aload_n dX10_make_51 rfl (Or.inr ⟨_, rfl⟩) ?_
  refine rr_get (v := .int ((S.1 40 0) + 1)) ho dX10_make_52 fw_10_103 rfl ?_
  refine ag_iconst (v := 1) dX10_make_55 rfl ?_
  refine ag_isub dX10_make_56 rfl ?_
  exact ag_ret (v := some (.int (((S.1 40 0) + 1) - 1))) dX10_make_57 ⟨_, rfl, rfl⟩ ⟨_, rfl, _, rfl, h⟩ rfl
theorem dX10_isMade_0 : decode cX10_isMade 0 = .ok (.iload_n 1, 1) := by decide +kernel
theorem dX10_isMade_1 : decode cX10_isMade 1 = .ok (.ifCond .lt 18, 3) := by decide +kernel
theorem dX10_isMade_4 : decode cX10_isMade 4 = .ok (.iload_n 1, 1) := by decide +kernel
theorem dX10_isMade_5 : decode cX10_isMade 5 = .ok (.bipush 13, 2) := by decide +kernel
theorem dX10_isMade_7 : decode cX10_isMade 7 = .ok (.aload_n 0, 1) := by decide +kernel
theorem dX10_isMade_8 : decode cX10_isMade 8 = .ok (.getfield 341, 3) := by decide +kernel
theorem dX10_isMade_11 : decode cX10_isMade 11 = .ok (.iadd, 1) := by decide +kernel
theorem dX10_isMade_12 : decode cX10_isMade 12 = .ok (.if_icmp .ge 7, 3) := by decide +kernel
theorem dX10_isMade_15 : decode cX10_isMade 15 = .ok (.iconst 1, 1) := by decide +kernel
theorem dX10_isMade_16 : decode cX10_isMade 16 = .ok (.goto 4, 3) := by decide +kernel
theorem dX10_isMade_19 : decode cX10_isMade 19 = .ok (.iconst 0, 1) := by decide +kernel
theorem dX10_isMade_20 : decode cX10_isMade 20 = .ok (.ireturn, 1) := by decide +kernel
set_option maxRecDepth 20000 in
set_option maxHeartbeats 4000000 in
theorem w_X10_isMade {c : rX} {d : Nat} {S : rS} {K : Option Value → rS → Prop} (ho : rOK c) (p0 : Int32) (h : (p0 < 0 → (K (some (.int 0)) S)) ∧ (¬ p0 < 0 → (((13 + (S.1 39 0)) ≤ p0 → (K (some (.int 0)) S)) ∧ (¬ (13 + (S.1 39 0)) ≤ p0 → (K (some (.int 1)) S))))) : rM c d eX10_isMade [.ref c.2.2.1, .int p0] S K := by
  refine rM.of (by decide) (Nat.le_of_ble_eq_true rfl) ?_
  show rG c eX10_isMade d (rQ c K) 0 [some (.ref c.2.2.1), some (.int p0)] [] S
  refine ag_iload_n dX10_isMade_0 rfl ?_
  refine ag_if_lt (tgt := 19) dX10_isMade_1 rfl (fun hc1 => ?_) (fun hc1 => ?_)
  · have h := h.1 hc1
    refine ag_iconst (v := 0) dX10_isMade_19 rfl ?_
    exact ag_ret (v := some (.int 0)) dX10_isMade_20 ⟨_, rfl, rB_n (Or.inl rfl)⟩ ⟨_, rfl, _, rfl, h⟩ rfl
  · have h := h.2 hc1
    refine ag_iload_n dX10_isMade_4 rfl ?_
    refine ag_bipush (v := 13) dX10_isMade_5 (by decide) ?_
    refine ag_aload_n dX10_isMade_7 rfl (Or.inr ⟨_, rfl⟩) ?_
    refine rr_get (v := .int (S.1 39 0)) ho dX10_isMade_8 fw_10_341 rfl ?_
    refine ag_iadd dX10_isMade_11 rfl ?_
    refine ag_icmp_ge (tgt := 19) dX10_isMade_12 rfl (fun hc2 => ?_) (fun hc2 => ?_)
    · have h := h.1 hc2
      refine ag_iconst (v := 0) dX10_isMade_19 rfl ?_
      exact ag_ret (v := some (.int 0)) dX10_isMade_20 ⟨_, rfl, rB_n (Or.inl rfl)⟩ ⟨_, rfl, _, rfl, h⟩ rfl
    · have h := h.2 hc2
      refine ag_iconst (v := 1) dX10_isMade_15 rfl ?_
      refine ag_goto (tgt := 20) dX10_isMade_16 rfl ?_
      exact ag_ret (v := some (.int 1)) dX10_isMade_20 ⟨_, rfl, rB_n (Or.inr rfl)⟩ ⟨_, rfl, _, rfl, h⟩ rfl
theorem dX10_number_0 : decode cX10_number 0 = .ok (.aload_n 0, 1) := by decide +kernel
theorem dX10_number_1 : decode cX10_number 1 = .ok (.aload_n 0, 1) := by decide +kernel
theorem dX10_number_2 : decode cX10_number 2 = .ok (.getfield 341, 3) := by decide +kernel
theorem dX10_number_5 : decode cX10_number 5 = .ok (.bipush 40, 2) := by decide +kernel
theorem dX10_number_7 : decode cX10_number 7 = .ok (.if_icmp .ne 7, 3) := by decide +kernel
theorem dX10_number_10 : decode cX10_number 10 = .ok (.iconst 1, 1) := by decide +kernel
theorem dX10_number_11 : decode cX10_number 11 = .ok (.goto 4, 3) := by decide +kernel
theorem dX10_number_14 : decode cX10_number 14 = .ok (.iconst 0, 1) := by decide +kernel
theorem dX10_number_15 : decode cX10_number 15 = .ok (.putfield 148, 3) := by decide +kernel
theorem dX10_number_18 : decode cX10_number 18 = .ok (.aload_n 0, 1) := by decide +kernel
theorem dX10_number_19 : decode cX10_number 19 = .ok (.getfield 148, 3) := by decide +kernel
theorem dX10_number_22 : decode cX10_number 22 = .ok (.ifCond .le 5, 3) := by decide +kernel
theorem dX10_number_25 : decode cX10_number 25 = .ok (.iconst 0, 1) := by decide +kernel
theorem dX10_number_26 : decode cX10_number 26 = .ok (.ireturn, 1) := by decide +kernel
theorem dX10_number_27 : decode cX10_number 27 = .ok (.aload_n 0, 1) := by decide +kernel
theorem dX10_number_28 : decode cX10_number 28 = .ok (.invokevirtual 344, 3) := by decide +kernel
theorem dX10_number_31 : decode cX10_number 31 = .ok (.aload_n 0, 1) := by decide +kernel
theorem dX10_number_32 : decode cX10_number 32 = .ok (.dup, 1) := by decide +kernel
theorem dX10_number_33 : decode cX10_number 33 = .ok (.getfield 341, 3) := by decide +kernel
theorem dX10_number_36 : decode cX10_number 36 = .ok (.iconst 1, 1) := by decide +kernel
theorem dX10_number_37 : decode cX10_number 37 = .ok (.iadd, 1) := by decide +kernel
theorem dX10_number_38 : decode cX10_number 38 = .ok (.putfield 341, 3) := by decide +kernel
theorem dX10_number_41 : decode cX10_number 41 = .ok (.aload_n 0, 1) := by decide +kernel
theorem dX10_number_42 : decode cX10_number 42 = .ok (.iconst 1, 1) := by decide +kernel
theorem dX10_number_43 : decode cX10_number 43 = .ok (.iload_n 1, 1) := by decide +kernel
theorem dX10_number_44 : decode cX10_number 44 = .ok (.iconst (-1), 1) := by decide +kernel
theorem dX10_number_45 : decode cX10_number 45 = .ok (.iconst (-1), 1) := by decide +kernel
theorem dX10_number_46 : decode cX10_number 46 = .ok (.invokevirtual 347, 3) := by decide +kernel
theorem dX10_number_49 : decode cX10_number 49 = .ok (.ireturn, 1) := by decide +kernel
set_option maxRecDepth 20000 in
set_option maxHeartbeats 4000000 in
theorem w_X10_number {c : rX} {d : Nat} {S : rS} {K : Option Value → rS → Prop} (ho : rOK c) (p0 : Int32) (h : (¬ (S.1 39 0) = 40 → (rG c eX10_number (d + 1) (rQ c K) 15 [some (.ref c.2.2.1), some (.int p0)] [.int 0, .ref c.2.2.1] S)) ∧ ((S.1 39 0) = 40 → (rG c eX10_number (d + 1) (rQ c K) 15 [some (.ref c.2.2.1), some (.int p0)] [.int 1, .ref c.2.2.1] S))) : rM c (d + 1) eX10_number [.ref c.2.2.1, .int p0] S K := by
  refine rM.of (by decide) (Nat.le_of_ble_eq_true rfl) ?_
  show rG c eX10_number (d + 1) (rQ c K) 0 [some (.ref c.2.2.1), some (.int p0)] [] S
  refine ag_aload_n dX10_number_0 rfl (Or.inr ⟨_, rfl⟩) ?_
  refine ag_aload_n dX10_number_1 rfl (Or.inr ⟨_, rfl⟩) ?_
  refine rr_get (v := .int (S.1 39 0)) ho dX10_number_2 fw_10_341 rfl ?_
  refine ag_bipush (v := 40) dX10_number_5 (by decide) ?_
  refine ag_icmp_ne (tgt := 14) dX10_number_7 rfl (fun hc1 => ?_) (fun hc1 => ?_)
  · have h := h.1 hc1
    refine ag_iconst (v := 0) dX10_number_14 rfl ?_
    exact h
  · have h := h.2 hc1
    refine ag_iconst (v := 1) dX10_number_10 rfl ?_
    refine ag_goto (tgt := 15) dX10_number_11 rfl ?_
    exact h
set_option maxRecDepth 20000 in
set_option maxHeartbeats 4000000 in
theorem w_X10_number_15 {c : rX} {d : Nat} {S : rS} {K : Option Value → rS → Prop} (ho : rOK c) (v1 : Int32) (s0 : Int32) (h : (s0 ≤ 0 → (rM c d eX10_removeRun (.ref c.2.2.1 :: []) (rsi S 0 0 s0) (fun v S2 => v = none ∧ (rM c d eX10_make (.ref c.2.2.1 :: [.int 1, .int v1, .int (-1), .int (-1)]) (rsi S2 39 0 ((S2.1 39 0) + 1)) (fun v S4 => ∃ z5 : Int32, v = some (.int z5) ∧ (K (some (.int z5)) S4)))))) ∧ (¬ s0 ≤ 0 → (K (some (.int 0)) (rsi S 0 0 s0)))) : rG c eX10_number (d + 1) (rQ c K) 15 [some (.ref c.2.2.1), some (.int v1)] [.int s0, .ref c.2.2.1] S := by
  refine rr_put (S2 := (rsi S 0 0 s0)) ho dX10_number_15 pw_10_148 rfl (fun _ => ⟨rfl, rfl⟩) rfl ?_
  refine ag_aload_n dX10_number_18 rfl (Or.inr ⟨_, rfl⟩) ?_
  refine rr_get (v := .int s0) ho dX10_number_19 fw_10_148 rfl ?_
  refine ag_if_le (tgt := 27) dX10_number_22 rfl (fun hc1 => ?_) (fun hc1 => ?_)
  · have h := h.1 hc1
    refine ag_aload_n dX10_number_27 rfl (Or.inr ⟨_, rfl⟩) ?_
    refine rr_call (as := []) (rest := []) ho dX10_number_28 me_X10_removeRun mi_X10_removeRun lk_10_344 rfl rfl (Nat.le_of_ble_eq_true rfl) ?_
    refine rM.mono h ?_
    rintro v S2 ⟨rfl, h⟩
    show rG _ _ _ _ _ _ [] _
    refine ag_aload_n dX10_number_31 rfl (Or.inr ⟨_, rfl⟩) ?_
    refine ag_dup dX10_number_32 rfl ?_
    refine rr_get (v := .int (S2.1 39 0)) ho dX10_number_33 fw_10_341 rfl ?_
    refine ag_iconst (v := 1) dX10_number_36 rfl ?_
    refine ag_iadd dX10_number_37 rfl ?_
    refine rr_put (S2 := (rsi S2 39 0 ((S2.1 39 0) + 1))) ho dX10_number_38 pw_10_341 rfl (fun _ => ⟨rfl, rfl⟩) rfl ?_
    refine ag_aload_n dX10_number_41 rfl (Or.inr ⟨_, rfl⟩) ?_
    refine ag_iconst (v := 1) dX10_number_42 rfl ?_
    refine ag_iload_n dX10_number_43 rfl ?_
    refine ag_iconst (v := (-1)) dX10_number_44 rfl ?_
    refine ag_iconst (v := (-1)) dX10_number_45 rfl ?_
    refine rr_call (as := [.int 1, .int v1, .int (-1), .int (-1)]) (rest := []) ho dX10_number_46 me_X10_make mi_X10_make lk_10_347 rfl rfl (Nat.le_of_ble_eq_true rfl) ?_
    refine rM.mono h ?_
    rintro v S4 ⟨z5, rfl, h⟩
    show rG _ _ _ _ _ _ [.int z5] _
    exact ag_ret (v := some (.int z5)) dX10_number_49 ⟨_, rfl, rfl⟩ ⟨_, rfl, _, rfl, h⟩ rfl
  · have h := h.2 hc1
    refine ag_iconst (v := 0) dX10_number_25 rfl ?_
    exact ag_ret (v := some (.int 0)) dX10_number_26 ⟨_, rfl, rfl⟩ ⟨_, rfl, _, rfl, h⟩ rfl
