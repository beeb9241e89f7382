theorem dX9_init_0 : decode cX9_init 0 = .ok (.aload_n 0, 1) := by decide +kernel
theorem dX9_init_1 : decode cX9_init 1 = .ok (.invokespecial 3, 3) := by decide +kernel
theorem dX9_init_4 : decode cX9_init 4 = .ok (.aload_n 0, 1) := by decide +kernel
theorem dX9_init_5 : decode cX9_init 5 = .ok (.new 9, 3) := by decide +kernel
theorem dX9_init_8 : decode cX9_init 8 = .ok (.dup, 1) := by decide +kernel
theorem dX9_init_9 : decode cX9_init 9 = .ok (.invokespecial 11, 3) := by decide +kernel
theorem dX9_init_12 : decode cX9_init 12 = .ok (.putfield 12, 3) := by decide +kernel
theorem dX9_init_15 : decode cX9_init 15 = .ok (.aload_n 0, 1) := by decide +kernel
theorem dX9_init_16 : decode cX9_init 16 = .ok (.iconst 3, 1) := by decide +kernel
theorem dX9_init_17 : decode cX9_init 17 = .ok (.anewarray 16, 3) := by decide +kernel
theorem dX9_init_20 : decode cX9_init 20 = .ok (.putfield 18, 3) := by decide +kernel
theorem dX9_init_23 : decode cX9_init 23 = .ok (.aload_n 0, 1) := by decide +kernel
theorem dX9_init_24 : decode cX9_init 24 = .ok (.new 22, 3) := by decide +kernel
theorem dX9_init_27 : decode cX9_init 27 = .ok (.dup, 1) := by decide +kernel
theorem dX9_init_28 : decode cX9_init 28 = .ok (.invokespecial 24, 3) := by decide +kernel
theorem dX9_init_31 : decode cX9_init 31 = .ok (.putfield 25, 3) := by decide +kernel
theorem dX9_init_34 : decode cX9_init 34 = .ok (.aload_n 0, 1) := by decide +kernel
theorem dX9_init_35 : decode cX9_init 35 = .ok (.new 29, 3) := by decide +kernel
theorem dX9_init_38 : decode cX9_init 38 = .ok (.dup, 1) := by decide +kernel
theorem dX9_init_39 : decode cX9_init 39 = .ok (.invokespecial 31, 3) := by decide +kernel
theorem dX9_init_42 : decode cX9_init 42 = .ok (.putfield 32, 3) := by decide +kernel
theorem dX9_init_45 : decode cX9_init 45 = .ok (.aload_n 0, 1) := by decide +kernel
theorem dX9_init_46 : decode cX9_init 46 = .ok (.new 29, 3) := by decide +kernel
theorem dX9_init_49 : decode cX9_init 49 = .ok (.dup, 1) := by decide +kernel
theorem dX9_init_50 : decode cX9_init 50 = .ok (.invokespecial 31, 3) := by decide +kernel
theorem dX9_init_53 : decode cX9_init 53 = .ok (.putfield 36, 3) := by decide +kernel
theorem dX9_init_56 : decode cX9_init 56 = .ok (.aload_n 0, 1) := by decide +kernel
theorem dX9_init_57 : decode cX9_init 57 = .ok (.new 39, 3) := by decide +kernel
theorem dX9_init_60 : decode cX9_init 60 = .ok (.dup, 1) := by decide +kernel
theorem dX9_init_61 : decode cX9_init 61 = .ok (.invokespecial 41, 3) := by decide +kernel
theorem dX9_init_64 : decode cX9_init 64 = .ok (.putfield 42, 3) := by decide +kernel
theorem dX9_init_67 : decode cX9_init 67 = .ok (.aload_n 0, 1) := by decide +kernel
theorem dX9_init_68 : decode cX9_init 68 = .ok (.iconst 2, 1) := by decide +kernel
theorem dX9_init_69 : decode cX9_init 69 = .ok (.newarray .int, 2) := by decide +kernel
theorem dX9_init_71 : decode cX9_init 71 = .ok (.dup, 1) := by decide +kernel
theorem dX9_init_72 : decode cX9_init 72 = .ok (.iconst 0, 1) := by decide +kernel
theorem dX9_init_73 : decode cX9_init 73 = .ok (.iconst 2, 1) := by decide +kernel
theorem dX9_init_74 : decode cX9_init 74 = .ok (.iastore, 1) := by decide +kernel
theorem dX9_init_75 : decode cX9_init 75 = .ok (.dup, 1) := by decide +kernel
theorem dX9_init_76 : decode cX9_init 76 = .ok (.iconst 1, 1) := by decide +kernel
theorem dX9_init_77 : decode cX9_init 77 = .ok (.iconst 2, 1) := by decide +kernel
theorem dX9_init_78 : decode cX9_init 78 = .ok (.iastore, 1) := by decide +kernel
theorem dX9_init_79 : decode cX9_init 79 = .ok (.putfield 46, 3) := by decide +kernel
theorem dX9_init_82 : decode cX9_init 82 = .ok (.aload_n 0, 1) := by decide +kernel
theorem dX9_init_83 : decode cX9_init 83 = .ok (.aconst_null, 1) := by decide +kernel
theorem dX9_init_84 : decode cX9_init 84 = .ok (.putfield 50, 3) := by decide +kernel
theorem dX9_init_87 : decode cX9_init 87 = .ok (.aload_n 0, 1) := by decide +kernel
theorem dX9_init_88 : decode cX9_init 88 = .ok (.iconst 0, 1) := by decide +kernel
theorem dX9_init_89 : decode cX9_init 89 = .ok (.putfield 54, 3) := by decide +kernel
theorem dX9_init_92 : decode cX9_init 92 = .ok (.aload_n 0, 1) := by decide +kernel
theorem dX9_init_93 : decode cX9_init 93 = .ok (.iconst (-1), 1) := by decide +kernel
theorem dX9_init_94 : decode cX9_init 94 = .ok (.putfield 58, 3) := by decide +kernel
theorem dX9_init_97 : decode cX9_init 97 = .ok (.aload_n 0, 1) := by decide +kernel
theorem dX9_init_98 : decode cX9_init 98 = .ok (.iconst 0, 1) := by decide +kernel
theorem dX9_init_99 : decode cX9_init 99 = .ok (.putfield 62, 3) := by decide +kernel
theorem dX9_init_102 : decode cX9_init 102 = .ok (.aload_n 0, 1) := by decide +kernel
theorem dX9_init_103 : decode cX9_init 103 = .ok (.iconst (-1), 1) := by decide +kernel
theorem dX9_init_104 : decode cX9_init 104 = .ok (.putfield 65, 3) := by decide +kernel
theorem dX9_init_107 : decode cX9_init 107 = .ok (.return_, 1) := by decide +kernel
set_option maxRecDepth 20000 in
set_option maxHeartbeats 4000000 in
theorem w_X9_init {c : cX} {d : Nat} {C : cS} {K : Option Value → cS → Prop} (t : Nat) (hT0 : cT C t 9 12) (h : cM c d eX7_init (.ref C.1 :: []) (cnw C 7 2) (fun v C3 => v = none ∧ cle (cnw C 7 2) C3 ∧ (cM c d eX1_init (.ref ((csr (cnw (csr C3 t 0 (some C.1)) 26 3) t 1 (some ((csr C3 t 0 (some C.1)).1))).1) :: []) (cnw (csr (cnw (csr C3 t 0 (some C.1)) 26 3) t 1 (some ((csr C3 t 0 (some C.1)).1))) 1 7) (fun v C15 => v = none ∧ cle (cnw (csr (cnw (csr C3 t 0 (some C.1)) 26 3) t 1 (some ((csr C3 t 0 (some C.1)).1))) 1 7) C15 ∧ (cM c d eX8_init (.ref ((csr C15 t 2 (some ((csr (cnw (csr C3 t 0 (some C.1)) 26 3) t 1 (some ((csr C3 t 0 (some C.1)).1))).1))).1) :: []) (cnw (csr C15 t 2 (some ((csr (cnw (csr C3 t 0 (some C.1)) 26 3) t 1 (some ((csr C3 t 0 (some C.1)).1))).1))) 8 2) (fun v C27 => v = none ∧ cle (cnw (csr C15 t 2 (some ((csr (cnw (csr C3 t 0 (some C.1)) 26 3) t 1 (some ((csr C3 t 0 (some C.1)).1))).1))) 8 2) C27 ∧ (cM c d eX8_init (.ref ((csr C27 t 3 (some ((csr C15 t 2 (some ((csr (cnw (csr C3 t 0 (some C.1)) 26 3) t 1 (some ((csr C3 t 0 (some C.1)).1))).1))).1))).1) :: []) (cnw (csr C27 t 3 (some ((csr C15 t 2 (some ((csr (cnw (csr C3 t 0 (some C.1)) 26 3) t 1 (some ((csr C3 t 0 (some C.1)).1))).1))).1))) 8 2) (fun v C41 => v = none ∧ cle (cnw (csr C27 t 3 (some ((csr C15 t 2 (some ((csr (cnw (csr C3 t 0 (some C.1)) 26 3) t 1 (some ((csr C3 t 0 (some C.1)).1))).1))).1))) 8 2) C41 ∧ (cM c d eX0_init (.ref ((csr C41 t 4 (some ((csr C27 t 3 (some ((csr C15 t 2 (some ((csr (cnw (csr C3 t 0 (some C.1)) 26 3) t 1 (some ((csr C3 t 0 (some C.1)).1))).1))).1))).1))).1) :: []) (cnw (csr C41 t 4 (some ((csr C27 t 3 (some ((csr C15 t 2 (some ((csr (cnw (csr C3 t 0 (some C.1)) 26 3) t 1 (some ((csr C3 t 0 (some C.1)).1))).1))).1))).1))) 0 6) (fun v C57 => v = none ∧ cle (cnw (csr C41 t 4 (some ((csr C27 t 3 (some ((csr C15 t 2 (some ((csr (cnw (csr C3 t 0 (some C.1)) 26 3) t 1 (some ((csr C3 t 0 (some C.1)).1))).1))).1))).1))) 0 6) C57 ∧ (K none (csi (csi (csi (csi (csr (csr (csi (csi (cnw (csr C57 t 5 (some ((csr C41 t 4 (some ((csr C27 t 3 (some ((csr C15 t 2 (some ((csr (cnw (csr C3 t 0 (some C.1)) 26 3) t 1 (some ((csr C3 t 0 (some C.1)).1))).1))).1))).1))).1))) 20 2) ((csr C57 t 5 (some ((csr C41 t 4 (some ((csr C27 t 3 (some ((csr C15 t 2 (some ((csr (cnw (csr C3 t 0 (some C.1)) 26 3) t 1 (some ((csr C3 t 0 (some C.1)).1))).1))).1))).1))).1))).1) 0 2) ((csr C57 t 5 (some ((csr C41 t 4 (some ((csr C27 t 3 (some ((csr C15 t 2 (some ((csr (cnw (csr C3 t 0 (some C.1)) 26 3) t 1 (some ((csr C3 t 0 (some C.1)).1))).1))).1))).1))).1))).1) 1 2) t 6 (some ((csr C57 t 5 (some ((csr C41 t 4 (some ((csr C27 t 3 (some ((csr C15 t 2 (some ((csr (cnw (csr C3 t 0 (some C.1)) 26 3) t 1 (some ((csr C3 t 0 (some C.1)).1))).1))).1))).1))).1))).1))) t 7 none) t 8 0) t 9 (-1)) t 10 0) t 11 (-1))))))))))))) : cM c (d + 1) eX9_init [.ref t] C K := by
  refine cM.of2 (lv := [some (.ref t)]) (by decide) (Nat.le_of_ble_eq_true rfl) rfl ?_
  refine ag_aload_n dX9_init_0 rfl (Or.inr ⟨_, rfl⟩) ?_
  refine ag_obj dX9_init_1 lo_9_3 io_1 io_2 (Nat.le_of_ble_eq_true rfl) ?_
  refine ag_aload_n dX9_init_4 rfl (Or.inr ⟨_, rfl⟩) ?_
  refine cr_new (C2 := (cnw C 7 2)) dX9_init_5 nw_9_9 nf_7 rfl ?_
  have hT1 := cT_nw (C := C) (t := 7) (n := 2) hT0
  have hT2 := cT.le (C := C) hT0 (cle_nw C 7 2)
  refine ag_dup dX9_init_8 rfl ?_
  refine cr_callIN (as := []) (rest := [.ref C.1, .ref t]) dX9_init_9 me_X7_init mn_X7_init ln_9_11 rfl rfl (Nat.le_of_ble_eq_true rfl) ?_
  refine cM.mono h ?_
  rintro v C3 ⟨rfl, hL5, h⟩
  have hT6 := cT.le (C := (cnw C 7 2)) hT2 hL5
  have hT7 := cT.le (C := (cnw C 7 2)) hT1 hL5
  show cG _ _ _ _ _ _ [.ref C.1, .ref t] _
  refine cr_prF (r := (some C.1)) (C2 := (csr C3 t 0 (some C.1))) dX9_init_12 rfl pw_9_12 rfl (Or.inl ⟨_, rfl⟩) hT6 rfl ?_
  refine ag_aload_n dX9_init_15 rfl (Or.inr ⟨_, rfl⟩) ?_
  refine ag_iconst (v := 3) dX9_init_16 rfl ?_
  refine cr_anew (t := 26) (C2 := (cnw (csr C3 t 0 (some C.1)) 26 3)) dX9_init_17 rfl na_9_16 (by decide) (by decide) (by decide) (by decide) (fun _ => rfl) rfl ?_
  have hT8 := cT_nw (C := (csr C3 t 0 (some C.1))) (t := 26) (n := 3) hT6
  have hT9 := cT.le (C := (csr C3 t 0 (some C.1))) hT6 (cle_nw (csr C3 t 0 (some C.1)) 26 3)
  have hT10 := cT.le (C := (csr C3 t 0 (some C.1))) hT7 (cle_nw (csr C3 t 0 (some C.1)) 26 3)
  refine cr_prF (r := (some ((csr C3 t 0 (some C.1)).1))) (C2 := (csr (cnw (csr C3 t 0 (some C.1)) 26 3) t 1 (some ((csr C3 t 0 (some C.1)).1)))) dX9_init_20 rfl pw_9_18 rfl (Or.inr ⟨_, rfl⟩) hT9 rfl ?_
  refine ag_aload_n dX9_init_23 rfl (Or.inr ⟨_, rfl⟩) ?_
  refine cr_new (C2 := (cnw (csr (cnw (csr C3 t 0 (some C.1)) 26 3) t 1 (some ((csr C3 t 0 (some C.1)).1))) 1 7)) dX9_init_24 nw_9_22 nf_1 rfl ?_
  have hT11 := cT_nw (C := (csr (cnw (csr C3 t 0 (some C.1)) 26 3) t 1 (some ((csr C3 t 0 (some C.1)).1)))) (t := 1) (n := 7) hT9
  have hT12 := cT.le (C := (csr (cnw (csr C3 t 0 (some C.1)) 26 3) t 1 (some ((csr C3 t 0 (some C.1)).1)))) hT9 (cle_nw (csr (cnw (csr C3 t 0 (some C.1)) 26 3) t 1 (some ((csr C3 t 0 (some C.1)).1))) 1 7)
  have hT13 := cT.le (C := (csr (cnw (csr C3 t 0 (some C.1)) 26 3) t 1 (some ((csr C3 t 0 (some C.1)).1)))) hT10 (cle_nw (csr (cnw (csr C3 t 0 (some C.1)) 26 3) t 1 (some ((csr C3 t 0 (some C.1)).1))) 1 7)
  have hT14 := cT.le (C := (csr (cnw (csr C3 t 0 (some C.1)) 26 3) t 1 (some ((csr C3 t 0 (some C.1)).1)))) hT8 (cle_nw (csr (cnw (csr C3 t 0 (some C.1)) 26 3) t 1 (some ((csr C3 t 0 (some C.1)).1))) 1 7)
  refine ag_dup dX9_init_27 rfl ?_
  refine cr_callI (as := []) (rest := [.ref ((csr (cnw (csr C3 t 0 (some C.1)) 26 3) t 1 (some ((csr C3 t 0 (some C.1)).1))).1), .ref t]) dX9_init_28 me_X1_init mn_X1_init lk_9_24 rfl rfl (Nat.le_of_ble_eq_true rfl) ?_
  refine cM.mono h ?_
  rintro v C15 ⟨rfl, hL17, h⟩
  have hT18 := cT.le (C := (cnw (csr (cnw (csr C3 t 0 (some C.1)) 26 3) t 1 (some ((csr C3 t 0 (some C.1)).1))) 1 7)) hT12 hL17
  have hT19 := cT.le (C := (cnw (csr (cnw (csr C3 t 0 (some C.1)) 26 3) t 1 (some ((csr C3 t 0 (some C.1)).1))) 1 7)) hT13 hL17
  have hT20 := cT.le (C := (cnw (csr (cnw (csr C3 t 0 (some C.1)) 26 3) t 1 (some ((csr C3 t 0 (some C.1)).1))) 1 7)) hT14 hL17
  have hT21 := cT.le (C := (cnw (csr (cnw (csr C3 t 0 (some C.1)) 26 3) t 1 (some ((csr C3 t 0 (some C.1)).1))) 1 7)) hT11 hL17
  show cG _ _ _ _ _ _ [.ref ((csr (cnw (csr C3 t 0 (some C.1)) 26 3) t 1 (some ((csr C3 t 0 (some C.1)).1))).1), .ref t] _
  refine cr_prF (r := (some ((csr (cnw (csr C3 t 0 (some C.1)) 26 3) t 1 (some ((csr C3 t 0 (some C.1)).1))).1))) (C2 := (csr C15 t 2 (some ((csr (cnw (csr C3 t 0 (some C.1)) 26 3) t 1 (some ((csr C3 t 0 (some C.1)).1))).1)))) dX9_init_31 rfl pw_9_25 rfl (Or.inl ⟨_, rfl⟩) hT18 rfl ?_
  refine ag_aload_n dX9_init_34 rfl (Or.inr ⟨_, rfl⟩) ?_
  refine cr_new (C2 := (cnw (csr C15 t 2 (some ((csr (cnw (csr C3 t 0 (some C.1)) 26 3) t 1 (some ((csr C3 t 0 (some C.1)).1))).1))) 8 2)) dX9_init_35 nw_9_29 nf_8 rfl ?_
  have hT22 := cT_nw (C := (csr C15 t 2 (some ((csr (cnw (csr C3 t 0 (some C.1)) 26 3) t 1 (some ((csr C3 t 0 (some C.1)).1))).1)))) (t := 8) (n := 2) hT18
  have hT23 := cT.le (C := (csr C15 t 2 (some ((csr (cnw (csr C3 t 0 (some C.1)) 26 3) t 1 (some ((csr C3 t 0 (some C.1)).1))).1)))) hT18 (cle_nw (csr C15 t 2 (some ((csr (cnw (csr C3 t 0 (some C.1)) 26 3) t 1 (some ((csr C3 t 0 (some C.1)).1))).1))) 8 2)
  have hT24 := cT.le (C := (csr C15 t 2 (some ((csr (cnw (csr C3 t 0 (some C.1)) 26 3) t 1 (some ((csr C3 t 0 (some C.1)).1))).1)))) hT19 (cle_nw (csr C15 t 2 (some ((csr (cnw (csr C3 t 0 (some C.1)) 26 3) t 1 (some ((csr C3 t 0 (some C.1)).1))).1))) 8 2)
  have hT25 := cT.le (C := (csr C15 t 2 (some ((csr (cnw (csr C3 t 0 (some C.1)) 26 3) t 1 (some ((csr C3 t 0 (some C.1)).1))).1)))) hT20 (cle_nw (csr C15 t 2 (some ((csr (cnw (csr C3 t 0 (some C.1)) 26 3) t 1 (some ((csr C3 t 0 (some C.1)).1))).1))) 8 2)
  have hT26 := cT.le (C := (csr C15 t 2 (some ((csr (cnw (csr C3 t 0 (some C.1)) 26 3) t 1 (some ((csr C3 t 0 (some C.1)).1))).1)))) hT21 (cle_nw (csr C15 t 2 (some ((csr (cnw (csr C3 t 0 (some C.1)) 26 3) t 1 (some ((csr C3 t 0 (some C.1)).1))).1))) 8 2)
  refine ag_dup dX9_init_38 rfl ?_
  refine cr_callIN (as := []) (rest := [.ref ((csr C15 t 2 (some ((csr (cnw (csr C3 t 0 (some C.1)) 26 3) t 1 (some ((csr C3 t 0 (some C.1)).1))).1))).1), .ref t]) dX9_init_39 me_X8_init mn_X8_init ln_9_31 rfl rfl (Nat.le_of_ble_eq_true rfl) ?_
  refine cM.mono h ?_
  rintro v C27 ⟨rfl, hL29, h⟩
  have hT30 := cT.le (C := (cnw (csr C15 t 2 (some ((csr (cnw (csr C3 t 0 (some C.1)) 26 3) t 1 (some ((csr C3 t 0 (some C.1)).1))).1))) 8 2)) hT23 hL29
  have hT31 := cT.le (C := (cnw (csr C15 t 2 (some ((csr (cnw (csr C3 t 0 (some C.1)) 26 3) t 1 (some ((csr C3 t 0 (some C.1)).1))).1))) 8 2)) hT24 hL29
  have hT32 := cT.le (C := (cnw (csr C15 t 2 (some ((csr (cnw (csr C3 t 0 (some C.1)) 26 3) t 1 (some ((csr C3 t 0 (some C.1)).1))).1))) 8 2)) hT25 hL29
  have hT33 := cT.le (C := (cnw (csr C15 t 2 (some ((csr (cnw (csr C3 t 0 (some C.1)) 26 3) t 1 (some ((csr C3 t 0 (some C.1)).1))).1))) 8 2)) hT26 hL29
  have hT34 := cT.le (C := (cnw (csr C15 t 2 (some ((csr (cnw (csr C3 t 0 (some C.1)) 26 3) t 1 (some ((csr C3 t 0 (some C.1)).1))).1))) 8 2)) hT22 hL29
  show cG _ _ _ _ _ _ [.ref ((csr C15 t 2 (some ((csr (cnw (csr C3 t 0 (some C.1)) 26 3) t 1 (some ((csr C3 t 0 (some C.1)).1))).1))).1), .ref t] _
  refine cr_prF (r := (some ((csr C15 t 2 (some ((csr (cnw (csr C3 t 0 (some C.1)) 26 3) t 1 (some ((csr C3 t 0 (some C.1)).1))).1))).1))) (C2 := (csr C27 t 3 (some ((csr C15 t 2 (some ((csr (cnw (csr C3 t 0 (some C.1)) 26 3) t 1 (some ((csr C3 t 0 (some C.1)).1))).1))).1)))) dX9_init_42 rfl pw_9_32 rfl (Or.inl ⟨_, rfl⟩) hT30 rfl ?_
  refine ag_aload_n dX9_init_45 rfl (Or.inr ⟨_, rfl⟩) ?_
  refine cr_new (C2 := (cnw (csr C27 t 3 (some ((csr C15 t 2 (some ((csr (cnw (csr C3 t 0 (some C.1)) 26 3) t 1 (some ((csr C3 t 0 (some C.1)).1))).1))).1))) 8 2)) dX9_init_46 nw_9_29 nf_8 rfl ?_
  have hT35 := cT_nw (C := (csr C27 t 3 (some ((csr C15 t 2 (some ((csr (cnw (csr C3 t 0 (some C.1)) 26 3) t 1 (some ((csr C3 t 0 (some C.1)).1))).1))).1)))) (t := 8) (n := 2) hT30
  have hT36 := cT.le (C := (csr C27 t 3 (some ((csr C15 t 2 (some ((csr (cnw (csr C3 t 0 (some C.1)) 26 3) t 1 (some ((csr C3 t 0 (some C.1)).1))).1))).1)))) hT30 (cle_nw (csr C27 t 3 (some ((csr C15 t 2 (some ((csr (cnw (csr C3 t 0 (some C.1)) 26 3) t 1 (some ((csr C3 t 0 (some C.1)).1))).1))).1))) 8 2)
  have hT37 := cT.le (C := (csr C27 t 3 (some ((csr C15 t 2 (some ((csr (cnw (csr C3 t 0 (some C.1)) 26 3) t 1 (some ((csr C3 t 0 (some C.1)).1))).1))).1)))) hT31 (cle_nw (csr C27 t 3 (some ((csr C15 t 2 (some ((csr (cnw (csr C3 t 0 (some C.1)) 26 3) t 1 (some ((csr C3 t 0 (some C.1)).1))).1))).1))) 8 2)
  have hT38 := cT.le (C := (csr C27 t 3 (some ((csr C15 t 2 (some ((csr (cnw (csr C3 t 0 (some C.1)) 26 3) t 1 (some ((csr C3 t 0 (some C.1)).1))).1))).1)))) hT32 (cle_nw (csr C27 t 3 (some ((csr C15 t 2 (some ((csr (cnw (csr C3 t 0 (some C.1)) 26 3) t 1 (some ((csr C3 t 0 (some C.1)).1))).1))).1))) 8 2)
  have hT39 := cT.le (C := (csr C27 t 3 (some ((csr C15 t 2 (some ((csr (cnw (csr C3 t 0 (some C.1)) 26 3) t 1 (some ((csr C3 t 0 (some C.1)).1))).1))).1)))) hT33 (cle_nw (csr C27 t 3 (some ((csr C15 t 2 (some ((csr (cnw (csr C3 t 0 (some C.1)) 26 3) t 1 (some ((csr C3 t 0 (some C.1)).1))).1))).1))) 8 2)
  have hT40 := cT.le (C := (csr C27 t 3 (some ((csr C15 t 2 (some ((csr (cnw (csr C3 t 0 (some C.1)) 26 3) t 1 (some ((csr C3 t 0 (some C.1)).1))).1))).1)))) hT34 (cle_nw (csr C27 t 3 (some ((csr C15 t 2 (some ((csr (cnw (csr C3 t 0 (some C.1)) 26 3) t 1 (some ((csr C3 t 0 (some C.1)).1))).1))).1))) 8 2)
  refine ag_dup dX9_init_49 rfl ?_
  refine cr_callIN (as := []) (rest := [.ref ((csr C27 t 3 (some ((csr C15 t 2 (some ((csr (cnw (csr C3 t 0 (some C.1)) 26 3) t 1 (some ((csr C3 t 0 (some C.1)).1))).1))).1))).1), .ref t]) dX9_init_50 me_X8_init mn_X8_init ln_9_31 rfl rfl (Nat.le_of_ble_eq_true rfl) ?_
  refine cM.mono h ?_
  rintro v C41 ⟨rfl, hL43, h⟩
  have hT44 := cT.le (C := (cnw (csr C27 t 3 (some ((csr C15 t 2 (some ((csr (cnw (csr C3 t 0 (some C.1)) 26 3) t 1 (some ((csr C3 t 0 (some C.1)).1))).1))).1))) 8 2)) hT36 hL43
  have hT45 := cT.le (C := (cnw (csr C27 t 3 (some ((csr C15 t 2 (some ((csr (cnw (csr C3 t 0 (some C.1)) 26 3) t 1 (some ((csr C3 t 0 (some C.1)).1))).1))).1))) 8 2)) hT37 hL43
  have hT46 := cT.le (C := (cnw (csr C27 t 3 (some ((csr C15 t 2 (some ((csr (cnw (csr C3 t 0 (some C.1)) 26 3) t 1 (some ((csr C3 t 0 (some C.1)).1))).1))).1))) 8 2)) hT38 hL43
  have hT47 := cT.le (C := (cnw (csr C27 t 3 (some ((csr C15 t 2 (some ((csr (cnw (csr C3 t 0 (some C.1)) 26 3) t 1 (some ((csr C3 t 0 (some C.1)).1))).1))).1))) 8 2)) hT39 hL43
  have hT48 := cT.le (C := (cnw (csr C27 t 3 (some ((csr C15 t 2 (some ((csr (cnw (csr C3 t 0 (some C.1)) 26 3) t 1 (some ((csr C3 t 0 (some C.1)).1))).1))).1))) 8 2)) hT40 hL43
  have hT49 := cT.le (C := (cnw (csr C27 t 3 (some ((csr C15 t 2 (some ((csr (cnw (csr C3 t 0 (some C.1)) 26 3) t 1 (some ((csr C3 t 0 (some C.1)).1))).1))).1))) 8 2)) hT35 hL43
  show cG _ _ _ _ _ _ [.ref ((csr C27 t 3 (some ((csr C15 t 2 (some ((csr (cnw (csr C3 t 0 (some C.1)) 26 3) t 1 (some ((csr C3 t 0 (some C.1)).1))).1))).1))).1), .ref t] _
  refine cr_prF (r := (some ((csr C27 t 3 (some ((csr C15 t 2 (some ((csr (cnw (csr C3 t 0 (some C.1)) 26 3) t 1 (some ((csr C3 t 0 (some C.1)).1))).1))).1))).1))) (C2 := (csr C41 t 4 (some ((csr C27 t 3 (some ((csr C15 t 2 (some ((csr (cnw (csr C3 t 0 (some C.1)) 26 3) t 1 (some ((csr C3 t 0 (some C.1)).1))).1))).1))).1)))) dX9_init_53 rfl pw_9_36 rfl (Or.inl ⟨_, rfl⟩) hT44 rfl ?_
  refine ag_aload_n dX9_init_56 rfl (Or.inr ⟨_, rfl⟩) ?_
  refine cr_new (C2 := (cnw (csr C41 t 4 (some ((csr C27 t 3 (some ((csr C15 t 2 (some ((csr (cnw (csr C3 t 0 (some C.1)) 26 3) t 1 (some ((csr C3 t 0 (some C.1)).1))).1))).1))).1))) 0 6)) dX9_init_57 nw_9_39 nf_0 rfl ?_
  have hT50 := cT_nw (C := (csr C41 t 4 (some ((csr C27 t 3 (some ((csr C15 t 2 (some ((csr (cnw (csr C3 t 0 (some C.1)) 26 3) t 1 (some ((csr C3 t 0 (some C.1)).1))).1))).1))).1)))) (t := 0) (n := 6) hT44
  have hT51 := cT.le (C := (csr C41 t 4 (some ((csr C27 t 3 (some ((csr C15 t 2 (some ((csr (cnw (csr C3 t 0 (some C.1)) 26 3) t 1 (some ((csr C3 t 0 (some C.1)).1))).1))).1))).1)))) hT44 (cle_nw (csr C41 t 4 (some ((csr C27 t 3 (some ((csr C15 t 2 (some ((csr (cnw (csr C3 t 0 (some C.1)) 26 3) t 1 (some ((csr C3 t 0 (some C.1)).1))).1))).1))).1))) 0 6)
  have hT52 := cT.le (C := (csr C41 t 4 (some ((csr C27 t 3 (some ((csr C15 t 2 (some ((csr (cnw (csr C3 t 0 (some C.1)) 26 3) t 1 (some ((csr C3 t 0 (some C.1)).1))).1))).1))).1)))) hT45 (cle_nw (csr C41 t 4 (some ((csr C27 t 3 (some ((csr C15 t 2 (some ((csr (cnw (csr C3 t 0 (some C.1)) 26 3) t 1 (some ((csr C3 t 0 (some C.1)).1))).1))).1))).1))) 0 6)
  have hT53 := cT.le (C := (csr C41 t 4 (some ((csr C27 t 3 (some ((csr C15 t 2 (some ((csr (cnw (csr C3 t 0 (some C.1)) 26 3) t 1 (some ((csr C3 t 0 (some C.1)).1))).1))).1))).1)))) hT46 (cle_nw (csr C41 t 4 (some ((csr C27 t 3 (some ((csr C15 t 2 (some ((csr (cnw (csr C3 t 0 (some C.1)) 26 3) t 1 (some ((csr C3 t 0 (some C.1)).1))).1))).1))).1))) 0 6)
  have hT54 := cT.le (C := (csr C41 t 4 (some ((csr C27 t 3 (some ((csr C15 t 2 (some ((csr (cnw (csr C3 t 0 (some C.1)) 26 3) t 1 (some ((csr C3 t 0 (some C.1)).1))).1))).1))).1)))) hT47 (cle_nw (csr C41 t 4 (some ((csr C27 t 3 (some ((csr C15 t 2 (some ((csr (cnw (csr C3 t 0 (some C.1)) 26 3) t 1 (some ((csr C3 t 0 (some C.1)).1))).1))).1))).1))) 0 6)
  have hT55 := cT.le (C := (csr C41 t 4 (some ((csr C27 t 3 (some ((csr C15 t 2 (some ((csr (cnw (csr C3 t 0 (some C.1)) 26 3) t 1 (some ((csr C3 t 0 (some C.1)).1))).1))).1))).1)))) hT48 (cle_nw (csr C41 t 4 (some ((csr C27 t 3 (some ((csr C15 t 2 (some ((csr (cnw (csr C3 t 0 (some C.1)) 26 3) t 1 (some ((csr C3 t 0 (some C.1)).1))).1))).1))).1))) 0 6)
  have hT56 := cT.le (C := (csr C41 t 4 (some ((csr C27 t 3 (some ((csr C15 t 2 (some ((csr (cnw (csr C3 t 0 (some C.1)) 26 3) t 1 (some ((csr C3 t 0 (some C.1)).1))).1))).1))).1)))) hT49 (cle_nw (csr C41 t 4 (some ((csr C27 t 3 (some ((csr C15 t 2 (some ((csr (cnw (csr C3 t 0 (some C.1)) 26 3) t 1 (some ((csr C3 t 0 (some C.1)).1))).1))).1))).1))) 0 6)
  refine ag_dup dX9_init_60 rfl ?_
  refine cr_callI (as := []) (rest := [.ref ((csr C41 t 4 (some ((csr C27 t 3 (some ((csr C15 t 2 (some ((csr (cnw (csr C3 t 0 (some C.1)) 26 3) t 1 (some ((csr C3 t 0 (some C.1)).1))).1))).1))).1))).1), .ref t]) dX9_init_61 me_X0_init mn_X0_init lk_9_41 rfl rfl (Nat.le_of_ble_eq_true rfl) ?_
  refine cM.mono h ?_
  rintro v C57 ⟨rfl, hL59, h⟩
  have hT60 := cT.le (C := (cnw (csr C41 t 4 (some ((csr C27 t 3 (some ((csr C15 t 2 (some ((csr (cnw (csr C3 t 0 (some C.1)) 26 3) t 1 (some ((csr C3 t 0 (some C.1)).1))).1))).1))).1))) 0 6)) hT51 hL59
  have hT61 := cT.le (C := (cnw (csr C41 t 4 (some ((csr C27 t 3 (some ((csr C15 t 2 (some ((csr (cnw (csr C3 t 0 (some C.1)) 26 3) t 1 (some ((csr C3 t 0 (some C.1)).1))).1))).1))).1))) 0 6)) hT52 hL59
  have hT62 := cT.le (C := (cnw (csr C41 t 4 (some ((csr C27 t 3 (some ((csr C15 t 2 (some ((csr (cnw (csr C3 t 0 (some C.1)) 26 3) t 1 (some ((csr C3 t 0 (some C.1)).1))).1))).1))).1))) 0 6)) hT53 hL59
  have hT63 := cT.le (C := (cnw (csr C41 t 4 (some ((csr C27 t 3 (some ((csr C15 t 2 (some ((csr (cnw (csr C3 t 0 (some C.1)) 26 3) t 1 (some ((csr C3 t 0 (some C.1)).1))).1))).1))).1))) 0 6)) hT54 hL59
  have hT64 := cT.le (C := (cnw (csr C41 t 4 (some ((csr C27 t 3 (some ((csr C15 t 2 (some ((csr (cnw (csr C3 t 0 (some C.1)) 26 3) t 1 (some ((csr C3 t 0 (some C.1)).1))).1))).1))).1))) 0 6)) hT55 hL59
  have hT65 := cT.le (C := (cnw (csr C41 t 4 (some ((csr C27 t 3 (some ((csr C15 t 2 (some ((csr (cnw (csr C3 t 0 (some C.1)) 26 3) t 1 (some ((csr C3 t 0 (some C.1)).1))).1))).1))).1))) 0 6)) hT56 hL59
  have hT66 := cT.le (C := (cnw (csr C41 t 4 (some ((csr C27 t 3 (some ((csr C15 t 2 (some ((csr (cnw (csr C3 t 0 (some C.1)) 26 3) t 1 (some ((csr C3 t 0 (some C.1)).1))).1))).1))).1))) 0 6)) hT50 hL59
  show cG _ _ _ _ _ _ [.ref ((csr C41 t 4 (some ((csr C27 t 3 (some ((csr C15 t 2 (some ((csr (cnw (csr C3 t 0 (some C.1)) 26 3) t 1 (some ((csr C3 t 0 (some C.1)).1))).1))).1))).1))).1), .ref t] _
  refine cr_prF (r := (some ((csr C41 t 4 (some ((csr C27 t 3 (some ((csr C15 t 2 (some ((csr (cnw (csr C3 t 0 (some C.1)) 26 3) t 1 (some ((csr C3 t 0 (some C.1)).1))).1))).1))).1))).1))) (C2 := (csr C57 t 5 (some ((csr C41 t 4 (some ((csr C27 t 3 (some ((csr C15 t 2 (some ((csr (cnw (csr C3 t 0 (some C.1)) 26 3) t 1 (some ((csr C3 t 0 (some C.1)).1))).1))).1))).1))).1)))) dX9_init_64 rfl pw_9_42 rfl (Or.inl ⟨_, rfl⟩) hT60 rfl ?_
  refine ag_aload_n dX9_init_67 rfl (Or.inr ⟨_, rfl⟩) ?_
  refine ag_iconst (v := 2) dX9_init_68 rfl ?_
  refine cr_newa (t := 20) (C2 := (cnw (csr C57 t 5 (some ((csr C41 t 4 (some ((csr C27 t 3 (some ((csr C15 t 2 (some ((csr (cnw (csr C3 t 0 (some C.1)) 26 3) t 1 (some ((csr C3 t 0 (some C.1)).1))).1))).1))).1))).1))) 20 2)) dX9_init_69 rfl ac_int (by decide) (by decide) (by decide) (fun _ => rfl) rfl ?_
  have hT67 := cT_nw (C := (csr C57 t 5 (some ((csr C41 t 4 (some ((csr C27 t 3 (some ((csr C15 t 2 (some ((csr (cnw (csr C3 t 0 (some C.1)) 26 3) t 1 (some ((csr C3 t 0 (some C.1)).1))).1))).1))).1))).1)))) (t := 20) (n := 2) hT60
  have hT68 := cT.le (C := (csr C57 t 5 (some ((csr C41 t 4 (some ((csr C27 t 3 (some ((csr C15 t 2 (some ((csr (cnw (csr C3 t 0 (some C.1)) 26 3) t 1 (some ((csr C3 t 0 (some C.1)).1))).1))).1))).1))).1)))) hT60 (cle_nw (csr C57 t 5 (some ((csr C41 t 4 (some ((csr C27 t 3 (some ((csr C15 t 2 (some ((csr (cnw (csr C3 t 0 (some C.1)) 26 3) t 1 (some ((csr C3 t 0 (some C.1)).1))).1))).1))).1))).1))) 20 2)
  have hT69 := cT.le (C := (csr C57 t 5 (some ((csr C41 t 4 (some ((csr C27 t 3 (some ((csr C15 t 2 (some ((csr (cnw (csr C3 t 0 (some C.1)) 26 3) t 1 (some ((csr C3 t 0 (some C.1)).1))).1))).1))).1))).1)))) hT61 (cle_nw (csr C57 t 5 (some ((csr C41 t 4 (some ((csr C27 t 3 (some ((csr C15 t 2 (some ((csr (cnw (csr C3 t 0 (some C.1)) 26 3) t 1 (some ((csr C3 t 0 (some C.1)).1))).1))).1))).1))).1))) 20 2)
  have hT70 := cT.le (C := (csr C57 t 5 (some ((csr C41 t 4 (some ((csr C27 t 3 (some ((csr C15 t 2 (some ((csr (cnw (csr C3 t 0 (some C.1)) 26 3) t 1 (some ((csr C3 t 0 (some C.1)).1))).1))).1))).1))).1)))) hT62 (cle_nw (csr C57 t 5 (some ((csr C41 t 4 (some ((csr C27 t 3 (some ((csr C15 t 2 (some ((csr (cnw (csr C3 t 0 (some C.1)) 26 3) t 1 (some ((csr C3 t 0 (some C.1)).1))).1))).1))).1))).1))) 20 2)
  have hT71 := cT.le (C := (csr C57 t 5 (some ((csr C41 t 4 (some ((csr C27 t 3 (some ((csr C15 t 2 (some ((csr (cnw (csr C3 t 0 (some C.1)) 26 3) t 1 (some ((csr C3 t 0 (some C.1)).1))).1))).1))).1))).1)))) hT63 (cle_nw (csr C57 t 5 (some ((csr C41 t 4 (some ((csr C27 t 3 (some ((csr C15 t 2 (some ((csr (cnw (csr C3 t 0 (some C.1)) 26 3) t 1 (some ((csr C3 t 0 (some C.1)).1))).1))).1))).1))).1))) 20 2)
  have hT72 := cT.le (C := (csr C57 t 5 (some ((csr C41 t 4 (some ((csr C27 t 3 (some ((csr C15 t 2 (some ((csr (cnw (csr C3 t 0 (some C.1)) 26 3) t 1 (some ((csr C3 t 0 (some C.1)).1))).1))).1))).1))).1)))) hT64 (cle_nw (csr C57 t 5 (some ((csr C41 t 4 (some ((csr C27 t 3 (some ((csr C15 t 2 (some ((csr (cnw (csr C3 t 0 (some C.1)) 26 3) t 1 (some ((csr C3 t 0 (some C.1)).1))).1))).1))).1))).1))) 20 2)
  have hT73 := cT.le (C := (csr C57 t 5 (some ((csr C41 t 4 (some ((csr C27 t 3 (some ((csr C15 t 2 (some ((csr (cnw (csr C3 t 0 (some C.1)) 26 3) t 1 (some ((csr C3 t 0 (some C.1)).1))).1))).1))).1))).1)))) hT65 (cle_nw (csr C57 t 5 (some ((csr C41 t 4 (some ((csr C27 t 3 (some ((csr C15 t 2 (some ((csr (cnw (csr C3 t 0 (some C.1)) 26 3) t 1 (some ((csr C3 t 0 (some C.1)).1))).1))).1))).1))).1))) 20 2)
  have hT74 := cT.le (C := (csr C57 t 5 (some ((csr C41 t 4 (some ((csr C27 t 3 (some ((csr C15 t 2 (some ((csr (cnw (csr C3 t 0 (some C.1)) 26 3) t 1 (some ((csr C3 t 0 (some C.1)).1))).1))).1))).1))).1)))) hT66 (cle_nw (csr C57 t 5 (some ((csr C41 t 4 (some ((csr C27 t 3 (some ((csr C15 t 2 (some ((csr (cnw (csr C3 t 0 (some C.1)) 26 3) t 1 (some ((csr C3 t 0 (some C.1)).1))).1))).1))).1))).1))) 20 2)
  refine ag_dup dX9_init_71 rfl ?_
  refine ag_iconst (v := 0) dX9_init_72 rfl ?_
  refine ag_iconst (v := 2) dX9_init_73 rfl ?_
  refine cr_is (C2 := (csi (cnw (csr C57 t 5 (some ((csr C41 t 4 (some ((csr C27 t 3 (some ((csr C15 t 2 (some ((csr (cnw (csr C3 t 0 (some C.1)) 26 3) t 1 (some ((csr C3 t 0 (some C.1)).1))).1))).1))).1))).1))) 20 2) ((csr C57 t 5 (some ((csr C41 t 4 (some ((csr C27 t 3 (some ((csr C15 t 2 (some ((csr (cnw (csr C3 t 0 (some C.1)) 26 3) t 1 (some ((csr C3 t 0 (some C.1)).1))).1))).1))).1))).1))).1) 0 2)) dX9_init_74 hT67 ⟨by decide, by decide, by decide⟩ rfl ?_
  refine ag_dup dX9_init_75 rfl ?_
  refine ag_iconst (v := 1) dX9_init_76 rfl ?_
  refine ag_iconst (v := 2) dX9_init_77 rfl ?_
  refine cr_is (C2 := (csi (csi (cnw (csr C57 t 5 (some ((csr C41 t 4 (some ((csr C27 t 3 (some ((csr C15 t 2 (some ((csr (cnw (csr C3 t 0 (some C.1)) 26 3) t 1 (some ((csr C3 t 0 (some C.1)).1))).1))).1))).1))).1))) 20 2) ((csr C57 t 5 (some ((csr C41 t 4 (some ((csr C27 t 3 (some ((csr C15 t 2 (some ((csr (cnw (csr C3 t 0 (some C.1)) 26 3) t 1 (some ((csr C3 t 0 (some C.1)).1))).1))).1))).1))).1))).1) 0 2) ((csr C57 t 5 (some ((csr C41 t 4 (some ((csr C27 t 3 (some ((csr C15 t 2 (some ((csr (cnw (csr C3 t 0 (some C.1)) 26 3) t 1 (some ((csr C3 t 0 (some C.1)).1))).1))).1))).1))).1))).1) 1 2)) dX9_init_78 hT67 ⟨by decide, by decide, by decide⟩ rfl ?_
  refine cr_prF (r := (some ((csr C57 t 5 (some ((csr C41 t 4 (some ((csr C27 t 3 (some ((csr C15 t 2 (some ((csr (cnw (csr C3 t 0 (some C.1)) 26 3) t 1 (some ((csr C3 t 0 (some C.1)).1))).1))).1))).1))).1))).1))) (C2 := (csr (csi (csi (cnw (csr C57 t 5 (some ((csr C41 t 4 (some ((csr C27 t 3 (some ((csr C15 t 2 (some ((csr (cnw (csr C3 t 0 (some C.1)) 26 3) t 1 (some ((csr C3 t 0 (some C.1)).1))).1))).1))).1))).1))) 20 2) ((csr C57 t 5 (some ((csr C41 t 4 (some ((csr C27 t 3 (some ((csr C15 t 2 (some ((csr (cnw (csr C3 t 0 (some C.1)) 26 3) t 1 (some ((csr C3 t 0 (some C.1)).1))).1))).1))).1))).1))).1) 0 2) ((csr C57 t 5 (some ((csr C41 t 4 (some ((csr C27 t 3 (some ((csr C15 t 2 (some ((csr (cnw (csr C3 t 0 (some C.1)) 26 3) t 1 (some ((csr C3 t 0 (some C.1)).1))).1))).1))).1))).1))).1) 1 2) t 6 (some ((csr C57 t 5 (some ((csr C41 t 4 (some ((csr C27 t 3 (some ((csr C15 t 2 (some ((csr (cnw (csr C3 t 0 (some C.1)) 26 3) t 1 (some ((csr C3 t 0 (some C.1)).1))).1))).1))).1))).1))).1)))) dX9_init_79 rfl pw_9_46 rfl (Or.inr ⟨_, rfl⟩) hT68 rfl ?_
  refine ag_aload_n dX9_init_82 rfl (Or.inr ⟨_, rfl⟩) ?_
  refine ag_null dX9_init_83 ?_
  refine cr_pr (r := none) (C2 := (csr (csr (csi (csi (cnw (csr C57 t 5 (some ((csr C41 t 4 (some ((csr C27 t 3 (some ((csr C15 t 2 (some ((csr (cnw (csr C3 t 0 (some C.1)) 26 3) t 1 (some ((csr C3 t 0 (some C.1)).1))).1))).1))).1))).1))) 20 2) ((csr C57 t 5 (some ((csr C41 t 4 (some ((csr C27 t 3 (some ((csr C15 t 2 (some ((csr (cnw (csr C3 t 0 (some C.1)) 26 3) t 1 (some ((csr C3 t 0 (some C.1)).1))).1))).1))).1))).1))).1) 0 2) ((csr C57 t 5 (some ((csr C41 t 4 (some ((csr C27 t 3 (some ((csr C15 t 2 (some ((csr (cnw (csr C3 t 0 (some C.1)) 26 3) t 1 (some ((csr C3 t 0 (some C.1)).1))).1))).1))).1))).1))).1) 1 2) t 6 (some ((csr C57 t 5 (some ((csr C41 t 4 (some ((csr C27 t 3 (some ((csr C15 t 2 (some ((csr (cnw (csr C3 t 0 (some C.1)) 26 3) t 1 (some ((csr C3 t 0 (some C.1)).1))).1))).1))).1))).1))).1))) t 7 none)) dX9_init_84 pw_9_50 rfl (Or.inl ⟨_, rfl⟩) hT68 rfl ?_
  refine ag_aload_n dX9_init_87 rfl (Or.inr ⟨_, rfl⟩) ?_
  refine ag_iconst (v := 0) dX9_init_88 rfl ?_
  refine cr_pi (C2 := (csi (csr (csr (csi (csi (cnw (csr C57 t 5 (some ((csr C41 t 4 (some ((csr C27 t 3 (some ((csr C15 t 2 (some ((csr (cnw (csr C3 t 0 (some C.1)) 26 3) t 1 (some ((csr C3 t 0 (some C.1)).1))).1))).1))).1))).1))) 20 2) ((csr C57 t 5 (some ((csr C41 t 4 (some ((csr C27 t 3 (some ((csr C15 t 2 (some ((csr (cnw (csr C3 t 0 (some C.1)) 26 3) t 1 (some ((csr C3 t 0 (some C.1)).1))).1))).1))).1))).1))).1) 0 2) ((csr C57 t 5 (some ((csr C41 t 4 (some ((csr C27 t 3 (some ((csr C15 t 2 (some ((csr (cnw (csr C3 t 0 (some C.1)) 26 3) t 1 (some ((csr C3 t 0 (some C.1)).1))).1))).1))).1))).1))).1) 1 2) t 6 (some ((csr C57 t 5 (some ((csr C41 t 4 (some ((csr C27 t 3 (some ((csr C15 t 2 (some ((csr (cnw (csr C3 t 0 (some C.1)) 26 3) t 1 (some ((csr C3 t 0 (some C.1)).1))).1))).1))).1))).1))).1))) t 7 none) t 8 0)) dX9_init_89 pw_9_54 rfl hT68 (rB_ok (Or.inl rfl)) rfl ?_
  refine ag_aload_n dX9_init_92 rfl (Or.inr ⟨_, rfl⟩) ?_
  refine ag_iconst (v := (-1)) dX9_init_93 rfl ?_
  refine cr_pi (C2 := (csi (csi (csr (csr (csi (csi (cnw (csr C57 t 5 (some ((csr C41 t 4 (some ((csr C27 t 3 (some ((csr C15 t 2 (some ((csr (cnw (csr C3 t 0 (some C.1)) 26 3) t 1 (some ((csr C3 t 0 (some C.1)).1))).1))).1))).1))).1))) 20 2) ((csr C57 t 5 (some ((csr C41 t 4 (some ((csr C27 t 3 (some ((csr C15 t 2 (some ((csr (cnw (csr C3 t 0 (some C.1)) 26 3) t 1 (some ((csr C3 t 0 (some C.1)).1))).1))).1))).1))).1))).1) 0 2) ((csr C57 t 5 (some ((csr C41 t 4 (some ((csr C27 t 3 (some ((csr C15 t 2 (some ((csr (cnw (csr C3 t 0 (some C.1)) 26 3) t 1 (some ((csr C3 t 0 (some C.1)).1))).1))).1))).1))).1))).1) 1 2) t 6 (some ((csr C57 t 5 (some ((csr C41 t 4 (some ((csr C27 t 3 (some ((csr C15 t 2 (some ((csr (cnw (csr C3 t 0 (some C.1)) 26 3) t 1 (some ((csr C3 t 0 (some C.1)).1))).1))).1))).1))).1))).1))) t 7 none) t 8 0) t 9 (-1))) dX9_init_94 pw_9_58 rfl hT68 (fun _ => ⟨rfl, rfl⟩) rfl ?_
  refine ag_aload_n dX9_init_97 rfl (Or.inr ⟨_, rfl⟩) ?_
  refine ag_iconst (v := 0) dX9_init_98 rfl ?_
  refine cr_pi (C2 := (csi (csi (csi (csr (csr (csi (csi (cnw (csr C57 t 5 (some ((csr C41 t 4 (some ((csr C27 t 3 (some ((csr C15 t 2 (some ((csr (cnw (csr C3 t 0 (some C.1)) 26 3) t 1 (some ((csr C3 t 0 (some C.1)).1))).1))).1))).1))).1))) 20 2) ((csr C57 t 5 (some ((csr C41 t 4 (some ((csr C27 t 3 (some ((csr C15 t 2 (some ((csr (cnw (csr C3 t 0 (some C.1)) 26 3) t 1 (some ((csr C3 t 0 (some C.1)).1))).1))).1))).1))).1))).1) 0 2) ((csr C57 t 5 (some ((csr C41 t 4 (some ((csr C27 t 3 (some ((csr C15 t 2 (some ((csr (cnw (csr C3 t 0 (some C.1)) 26 3) t 1 (some ((csr C3 t 0 (some C.1)).1))).1))).1))).1))).1))).1) 1 2) t 6 (some ((csr C57 t 5 (some ((csr C41 t 4 (some ((csr C27 t 3 (some ((csr C15 t 2 (some ((csr (cnw (csr C3 t 0 (some C.1)) 26 3) t 1 (some ((csr C3 t 0 (some C.1)).1))).1))).1))).1))).1))).1))) t 7 none) t 8 0) t 9 (-1)) t 10 0)) dX9_init_99 pw_9_62 rfl hT68 (fun _ => ⟨rfl, rfl⟩) rfl ?_
  refine ag_aload_n dX9_init_102 rfl (Or.inr ⟨_, rfl⟩) ?_
  refine ag_iconst (v := (-1)) dX9_init_103 rfl ?_
  refine cr_pi (C2 := (csi (csi (csi (csi (csr (csr (csi (csi (cnw (csr C57 t 5 (some ((csr C41 t 4 (some ((csr C27 t 3 (some ((csr C15 t 2 (some ((csr (cnw (csr C3 t 0 (some C.1)) 26 3) t 1 (some ((csr C3 t 0 (some C.1)).1))).1))).1))).1))).1))) 20 2) ((csr C57 t 5 (some ((csr C41 t 4 (some ((csr C27 t 3 (some ((csr C15 t 2 (some ((csr (cnw (csr C3 t 0 (some C.1)) 26 3) t 1 (some ((csr C3 t 0 (some C.1)).1))).1))).1))).1))).1))).1) 0 2) ((csr C57 t 5 (some ((csr C41 t 4 (some ((csr C27 t 3 (some ((csr C15 t 2 (some ((csr (cnw (csr C3 t 0 (some C.1)) 26 3) t 1 (some ((csr C3 t 0 (some C.1)).1))).1))).1))).1))).1))).1) 1 2) t 6 (some ((csr C57 t 5 (some ((csr C41 t 4 (some ((csr C27 t 3 (some ((csr C15 t 2 (some ((csr (cnw (csr C3 t 0 (some C.1)) 26 3) t 1 (some ((csr C3 t 0 (some C.1)).1))).1))).1))).1))).1))).1))) t 7 none) t 8 0) t 9 (-1)) t 10 0) t 11 (-1))) dX9_init_104 pw_9_65 rfl hT68 (fun _ => ⟨rfl, rfl⟩) rfl ?_
  exact ag_ret (v := none) dX9_init_107 rfl ⟨_, rfl, _, rfl, h⟩ rfl
theorem dX9_type_0 : decode cX9_type 0 = .ok (.aload_n 0, 1) := by decide +kernel
theorem dX9_type_1 : decode cX9_type 1 = .ok (.getfield 12, 3) := by decide +kernel
theorem dX9_type_4 : decode cX9_type 4 = .ok (.iload_n 1, 1) := by decide +kernel
theorem dX9_type_5 : decode cX9_type 5 = .ok (.invokevirtual 68, 3) := by decide +kernel
theorem dX9_type_8 : decode cX9_type 8 = .ok (.ireturn, 1) := by decide +kernel
set_option maxRecDepth 20000 in
set_option maxHeartbeats 4000000 in
theorem w_X9_type {c : cX} {d : Nat} {C : cS} {K : Option Value → cS → Prop} (t : Nat) (p0 : Int32) (h : cT C t 9 12 ∧ (∃ a2 : Nat, (cR C t 0) = some a2 ∧ (cT C a2 7 2 ∧ (cM c d eX7_append (.ref a2 :: [.int p0]) C (fun v C4 => ∃ z5 : Int32, v = some (.int z5) ∧ cle C C4 ∧ (rB z5 ∧ K (some (.int z5)) C4)))))) : cM c (d + 1) eX9_type [.ref t, .int p0] C K := by
  refine cM.of2 (lv := [some (.ref t), some (.int p0)]) (by decide) (Nat.le_of_ble_eq_true rfl) rfl ?_
  refine ag_aload_n dX9_type_0 rfl (Or.inr ⟨_, rfl⟩) ?_
  obtain ⟨hT1, h⟩ := h
  refine cr_get (v := va_rf (cR C t 0)) dX9_type_1 fw_9_12 hT1 rfl ?_
  refine ag_iload_n dX9_type_4 rfl ?_
  obtain ⟨a2, hr3, h⟩ := h
  refine cr_stk (st' := [.int p0, .ref a2]) (by rw [hr3]; rfl) ?_
  obtain ⟨hT7, h⟩ := h
  refine cr_callV (as := [.int p0]) (rest := []) dX9_type_5 me_X7_append mi_X7_append lk_9_68 hT7 rfl rfl (Nat.le_of_ble_eq_true rfl) ?_
  refine cM.mono h ?_
  rintro v C4 ⟨z5, rfl, hL6, h⟩
  have hT8 := cT.le (C := C) hT1 hL6
  have hT9 := cT.le (C := C) hT7 hL6
  show cG _ _ _ _ _ _ [.int z5] _
  obtain ⟨hb10, h⟩ := h
  exact ag_ret (v := some (.int z5)) dX9_type_8 ⟨_, rfl, rB_n hb10⟩ ⟨_, rfl, _, rfl, h⟩ rfl
theorem dX9_wipe_0 : decode cX9_wipe 0 = .ok (.aload_n 0, 1) := by decide +kernel
theorem dX9_wipe_1 : decode cX9_wipe 1 = .ok (.getfield 12, 3) := by decide +kernel
theorem dX9_wipe_4 : decode cX9_wipe 4 = .ok (.invokevirtual 72, 3) := by decide +kernel
theorem dX9_wipe_7 : decode cX9_wipe 7 = .ok (.return_, 1) := by decide +kernel
set_option maxRecDepth 20000 in
set_option maxHeartbeats 4000000 in
theorem w_X9_wipe {c : cX} {d : Nat} {C : cS} {K : Option Value → cS → Prop} (t : Nat) (h : cT C t 9 12 ∧ (∃ a2 : Nat, (cR C t 0) = some a2 ∧ (cT C a2 7 2 ∧ (cM c d eX7_empty (.ref a2 :: []) C (fun v C4 => v = none ∧ cle C C4 ∧ (K none C4)))))) : cM c (d + 1) eX9_wipe [.ref t] C K := by
  refine cM.of2 (lv := [some (.ref t)]) (by decide) (Nat.le_of_ble_eq_true rfl) rfl ?_
  refine ag_aload_n dX9_wipe_0 rfl (Or.inr ⟨_, rfl⟩) ?_
  obtain ⟨hT1, h⟩ := h
  refine cr_get (v := va_rf (cR C t 0)) dX9_wipe_1 fw_9_12 hT1 rfl ?_
  obtain ⟨a2, hr3, h⟩ := h
  refine cr_stk (st' := [.ref a2]) (by rw [hr3]; rfl) ?_
  obtain ⟨hT7, h⟩ := h
  refine cr_callV (as := []) (rest := []) dX9_wipe_4 me_X7_empty mi_X7_empty lk_9_72 hT7 rfl rfl (Nat.le_of_ble_eq_true rfl) ?_
  refine cM.mono h ?_
  rintro v C4 ⟨rfl, hL6, h⟩
  have hT8 := cT.le (C := C) hT1 hL6
  have hT9 := cT.le (C := C) hT7 hL6
  show cG _ _ _ _ _ _ [] _
  exact ag_ret (v := none) dX9_wipe_7 rfl ⟨_, rfl, _, rfl, h⟩ rfl
theorem dX9_define_0 : decode cX9_define 0 = .ok (.new 75, 3) := by decide +kernel
theorem dX9_define_3 : decode cX9_define 3 = .ok (.dup, 1) := by decide +kernel
theorem dX9_define_4 : decode cX9_define 4 = .ok (.aload_n 0, 1) := by decide +kernel
theorem dX9_define_5 : decode cX9_define 5 = .ok (.getfield 12, 3) := by decide +kernel
theorem dX9_define_8 : decode cX9_define 8 = .ok (.aload_n 0, 1) := by decide +kernel
theorem dX9_define_9 : decode cX9_define 9 = .ok (.getfield 18, 3) := by decide +kernel
theorem dX9_define_12 : decode cX9_define 12 = .ok (.invokespecial 77, 3) := by decide +kernel
theorem dX9_define_15 : decode cX9_define 15 = .ok (.astore_n 1, 1) := by decide +kernel
theorem dX9_define_16 : decode cX9_define 16 = .ok (.aload_n 1, 1) := by decide +kernel
theorem dX9_define_17 : decode cX9_define 17 = .ok (.invokevirtual 80, 3) := by decide +kernel
theorem dX9_define_20 : decode cX9_define 20 = .ok (.astore_n 2, 1) := by decide +kernel
theorem dX9_define_21 : decode cX9_define 21 = .ok (.aload_n 2, 1) := by decide +kernel
theorem dX9_define_22 : decode cX9_define 22 = .ok (.ifnonnull 19, 3) := by decide +kernel
theorem dX9_define_25 : decode cX9_define 25 = .ok (.aload_n 0, 1) := by decide +kernel
theorem dX9_define_26 : decode cX9_define 26 = .ok (.aload_n 1, 1) := by decide +kernel
theorem dX9_define_27 : decode cX9_define 27 = .ok (.getfield 84, 3) := by decide +kernel
theorem dX9_define_30 : decode cX9_define 30 = .ok (.putfield 58, 3) := by decide +kernel
theorem dX9_define_33 : decode cX9_define 33 = .ok (.new 87, 3) := by decide +kernel
theorem dX9_define_36 : decode cX9_define 36 = .ok (.dup, 1) := by decide +kernel
theorem dX9_define_37 : decode cX9_define 37 = .ok (.invokespecial 89, 3) := by decide +kernel
theorem dX9_define_40 : decode cX9_define 40 = .ok (.athrow, 1) := by decide +kernel
theorem dX9_define_41 : decode cX9_define 41 = .ok (.aload_n 0, 1) := by decide +kernel
theorem dX9_define_42 : decode cX9_define 42 = .ok (.getfield 25, 3) := by decide +kernel
theorem dX9_define_45 : decode cX9_define 45 = .ok (.aload_n 2, 1) := by decide +kernel
theorem dX9_define_46 : decode cX9_define 46 = .ok (.aload_n 1, 1) := by decide +kernel
theorem dX9_define_47 : decode cX9_define 47 = .ok (.getfield 90, 3) := by decide +kernel
theorem dX9_define_50 : decode cX9_define 50 = .ok (.aload_n 0, 1) := by decide +kernel
theorem dX9_define_51 : decode cX9_define 51 = .ok (.getfield 18, 3) := by decide +kernel
theorem dX9_define_54 : decode cX9_define 54 = .ok (.invokevirtual 93, 3) := by decide +kernel
theorem dX9_define_57 : decode cX9_define 57 = .ok (.astore_n 3, 1) := by decide +kernel
theorem dX9_define_58 : decode cX9_define 58 = .ok (.aload_n 3, 1) := by decide +kernel
theorem dX9_define_59 : decode cX9_define 59 = .ok (.ifnonnull 22, 3) := by decide +kernel
theorem dX9_define_62 : decode cX9_define 62 = .ok (.aload_n 0, 1) := by decide +kernel
theorem dX9_define_63 : decode cX9_define 63 = .ok (.aload_n 0, 1) := by decide +kernel
theorem dX9_define_64 : decode cX9_define 64 = .ok (.getfield 25, 3) := by decide +kernel
theorem dX9_define_67 : decode cX9_define 67 = .ok (.getfield 97, 3) := by decide +kernel
theorem dX9_define_70 : decode cX9_define 70 = .ok (.putfield 58, 3) := by decide +kernel
theorem dX9_define_73 : decode cX9_define 73 = .ok (.new 98, 3) := by decide +kernel
theorem dX9_define_76 : decode cX9_define 76 = .ok (.dup, 1) := by decide +kernel
theorem dX9_define_77 : decode cX9_define 77 = .ok (.invokespecial 100, 3) := by decide +kernel
theorem dX9_define_80 : decode cX9_define 80 = .ok (.athrow, 1) := by decide +kernel
theorem dX9_define_81 : decode cX9_define 81 = .ok (.aload_n 0, 1) := by decide +kernel
theorem dX9_define_82 : decode cX9_define 82 = .ok (.iconst (-1), 1) := by decide +kernel
theorem dX9_define_83 : decode cX9_define 83 = .ok (.putfield 58, 3) := by decide +kernel
theorem dX9_define_86 : decode cX9_define 86 = .ok (.aload_n 0, 1) := by decide +kernel
theorem dX9_define_87 : decode cX9_define 87 = .ok (.aload_n 1, 1) := by decide +kernel
theorem dX9_define_88 : decode cX9_define 88 = .ok (.getfield 101, 3) := by decide +kernel
theorem dX9_define_91 : decode cX9_define 91 = .ok (.new 16, 3) := by decide +kernel
theorem dX9_define_94 : decode cX9_define 94 = .ok (.dup, 1) := by decide +kernel
theorem dX9_define_95 : decode cX9_define 95 = .ok (.aload_n 2, 1) := by decide +kernel
theorem dX9_define_96 : decode cX9_define 96 = .ok (.aload_n 1, 1) := by decide +kernel
theorem dX9_define_97 : decode cX9_define 97 = .ok (.getfield 90, 3) := by decide +kernel
theorem dX9_define_100 : decode cX9_define 100 = .ok (.aload_n 3, 1) := by decide +kernel
theorem dX9_define_101 : decode cX9_define 101 = .ok (.invokespecial 104, 3) := by decide +kernel
theorem dX9_define_104 : decode cX9_define 104 = .ok (.invokevirtual 107, 3) := by decide +kernel
theorem dX9_define_107 : decode cX9_define 107 = .ok (.aload_n 3, 1) := by decide +kernel
theorem dX9_define_108 : decode cX9_define 108 = .ok (.getfield 111, 3) := by decide +kernel
theorem dX9_define_111 : decode cX9_define 111 = .ok (.ireturn, 1) := by decide +kernel
set_option maxRecDepth 20000 in
set_option maxHeartbeats 4000000 in
theorem w_X9_define {c : cX} {d : Nat} {C : cS} {K : Option Value → cS → Prop} {X : String → cS → Prop} (t : Nat) (hT0 : cT C t 9 12) (h : cM c d eX6_init (.ref C.1 :: [va_rf (cR (cnw C 6 8) t 0), va_rf (cR (cnw C 6 8) t 1)]) (cnw C 6 8) (fun v C3 => v = none ∧ cle (cnw C 6 8) C3 ∧ (cM c d eX6_readDefinition (.ref C.1 :: []) C3 (fun v C8 => ∃ z9 : Option Nat, v = some (va_rf z9) ∧ cle C3 C8 ∧ ((z9 = none → (X "java/lang/IllegalArgumentException" (csi C8 t 9 (cI C8 C.1 5)))) ∧ (∀ a14 : Nat, z9 = some a14 → (∃ a15 : Nat, (cR C8 t 2) = some a15 ∧ (cT C8 a15 1 7 ∧ (cM c d eX1_examineAll (.ref a15 :: [va_rf z9, .int (cI C8 C.1 7), va_rf (cR C8 t 1)]) C8 (fun v C17 => ∃ z18 : Option Nat, v = some (va_rf z18) ∧ cle C8 C17 ∧ ((z18 = none → (∃ a26 : Nat, (cR C17 t 2) = some a26 ∧ (cT C17 a26 1 7 ∧ (X "java/lang/UnsupportedOperationException" (csi C17 t 9 (cI C17 a26 6)))))) ∧ (∀ a25 : Nat, z18 = some a25 → (cM c d eX3_init (.ref ((csi C17 t 9 (-1)).1) :: [va_rf z9, .int (cI (cnw (csi C17 t 9 (-1)) 3 5) C.1 7), va_rf z18]) (cnw (csi C17 t 9 (-1)) 3 5) (fun v C33 => v = none ∧ cle (cnw (csi C17 t 9 (-1)) 3 5) C33 ∧ (cM c d eX9_keepFunction (.ref t :: [.int (cI C17 C.1 6), .ref ((csi C17 t 9 (-1)).1)]) C33 (fun v C40 => v = none ∧ cle C33 C40 ∧ (cT C40 a25 2 4 ∧ (K (some (.int (cI C40 a25 0))) C40)))))))))))))))))) : cG c eX9_define (d + 1) (cQx K X) 0 [some (.ref t), none, none, none] [] C := by
  refine cr_new (C2 := (cnw C 6 8)) dX9_define_0 nw_9_75 nf_6 rfl ?_
  have hT1 := cT_nw (C := C) (t := 6) (n := 8) hT0
  have hT2 := cT.le (C := C) hT0 (cle_nw C 6 8)
  refine ag_dup dX9_define_3 rfl ?_
  refine ag_aload_n dX9_define_4 rfl (Or.inr ⟨_, rfl⟩) ?_
  refine cr_get (v := va_rf (cR (cnw C 6 8) t 0)) dX9_define_5 fw_9_12 hT2 rfl ?_
  refine ag_aload_n dX9_define_8 rfl (Or.inr ⟨_, rfl⟩) ?_
  refine cr_get (v := va_rf (cR (cnw C 6 8) t 1)) dX9_define_9 fw_9_18 hT2 rfl ?_
  refine cr_callI (as := [va_rf (cR (cnw C 6 8) t 0), va_rf (cR (cnw C 6 8) t 1)]) (rest := [.ref C.1]) dX9_define_12 me_X6_init mn_X6_init lk_9_77 rfl rfl (Nat.le_of_ble_eq_true rfl) ?_
  refine cM.mono h ?_
  rintro v C3 ⟨rfl, hL5, h⟩
  have hT6 := cT.le (C := (cnw C 6 8)) hT2 hL5
  have hT7 := cT.le (C := (cnw C 6 8)) hT1 hL5
  show cG _ _ _ _ _ _ [.ref C.1] _
  refine ag_astore_n (lv2 := [some (.ref t), some (.ref C.1), none, none]) dX9_define_15 (Nat.le_of_ble_eq_true rfl) rfl (Or.inr ⟨_, rfl⟩) ?_
  refine ag_aload_n dX9_define_16 rfl (Or.inr ⟨_, rfl⟩) ?_
  refine cr_callV (as := []) (rest := []) dX9_define_17 me_X6_readDefinition mi_X6_readDefinition lk_9_80 hT7 rfl rfl (Nat.le_of_ble_eq_true rfl) ?_
  refine cM.mono h ?_
  rintro v C8 ⟨z9, rfl, hL10, h⟩
  have hT11 := cT.le (C := C3) hT6 hL10
  have hT12 := cT.le (C := C3) hT7 hL10
  show cG _ _ _ _ _ _ [va_rf z9] _
  refine ag_astore_n (lv2 := [some (.ref t), some (.ref C.1), some (va_rf z9), none]) dX9_define_20 (Nat.le_of_ble_eq_true rfl) rfl (va_rf_or _) ?_
  refine ag_aload_n dX9_define_21 rfl (va_rf_or _) ?_
  refine cr_ifnonnull (tgt := 41) dX9_define_22 rfl (fun a14 hr13 => ?_) (fun hr13 => ?_)
  · have h := h.2 a14 hr13
    refine ag_aload_n dX9_define_41 rfl (Or.inr ⟨_, rfl⟩) ?_
    refine cr_get (v := va_rf (cR C8 t 2)) dX9_define_42 fw_9_25 hT11 rfl ?_
    refine ag_aload_n dX9_define_45 rfl (va_rf_or _) ?_
    refine ag_aload_n dX9_define_46 rfl (Or.inr ⟨_, rfl⟩) ?_
    refine cr_get (v := .int (cI C8 C.1 7)) dX9_define_47 fw_9_90 hT12 rfl ?_
    refine ag_aload_n dX9_define_50 rfl (Or.inr ⟨_, rfl⟩) ?_
    refine cr_get (v := va_rf (cR C8 t 1)) dX9_define_51 fw_9_18 hT11 rfl ?_
    obtain ⟨a15, hr16, h⟩ := h
    refine cr_stk (st' := [va_rf (cR C8 t 1), .int (cI C8 C.1 7), va_rf z9, .ref a15]) (by rw [hr16]; rfl) ?_
    obtain ⟨hT20, h⟩ := h
    refine cr_callV (as := [va_rf z9, .int (cI C8 C.1 7), va_rf (cR C8 t 1)]) (rest := []) dX9_define_54 me_X1_examineAll mi_X1_examineAll lk_9_93 hT20 rfl rfl (Nat.le_of_ble_eq_true rfl) ?_
    refine cM.mono h ?_
    rintro v C17 ⟨z18, rfl, hL19, h⟩
    have hT21 := cT.le (C := C8) hT11 hL19
    have hT22 := cT.le (C := C8) hT12 hL19
    have hT23 := cT.le (C := C8) hT20 hL19
    show cG _ _ _ _ _ _ [va_rf z18] _
    refine ag_astore_n (lv2 := [some (.ref t), some (.ref C.1), some (va_rf z9), some (va_rf z18)]) dX9_define_57 (Nat.le_of_ble_eq_true rfl) (by simp [am_st1, am_kill, va_rf_cat] <;> rfl) (va_rf_or _) ?_
    refine ag_aload_n dX9_define_58 rfl (va_rf_or _) ?_
    refine cr_ifnonnull (tgt := 81) dX9_define_59 rfl (fun a25 hr24 => ?_) (fun hr24 => ?_)
    · have h := h.2 a25 hr24
      refine ag_aload_n dX9_define_81 rfl (Or.inr ⟨_, rfl⟩) ?_
      refine ag_iconst (v := (-1)) dX9_define_82 rfl ?_
      refine cr_pi (C2 := (csi C17 t 9 (-1))) dX9_define_83 pw_9_58 rfl hT21 (fun _ => ⟨rfl, rfl⟩) rfl ?_
      refine ag_aload_n dX9_define_86 rfl (Or.inr ⟨_, rfl⟩) ?_
      refine ag_aload_n dX9_define_87 rfl (Or.inr ⟨_, rfl⟩) ?_
      refine cr_get (v := .int (cI C17 C.1 6)) dX9_define_88 fw_9_101 hT22 rfl ?_
      refine cr_new (C2 := (cnw (csi C17 t 9 (-1)) 3 5)) dX9_define_91 nw_9_16 nf_3 rfl ?_
      have hT29 := cT_nw (C := (csi C17 t 9 (-1))) (t := 3) (n := 5) hT21
      have hT30 := cT.le (C := (csi C17 t 9 (-1))) hT21 (cle_nw (csi C17 t 9 (-1)) 3 5)
      have hT31 := cT.le (C := (csi C17 t 9 (-1))) hT22 (cle_nw (csi C17 t 9 (-1)) 3 5)
      have hT32 := cT.le (C := (csi C17 t 9 (-1))) hT23 (cle_nw (csi C17 t 9 (-1)) 3 5)
      refine ag_dup dX9_define_94 rfl ?_
      refine ag_aload_n dX9_define_95 rfl (va_rf_or _) ?_
      refine ag_aload_n dX9_define_96 rfl (Or.inr ⟨_, rfl⟩) ?_
      refine cr_get (v := .int (cI (cnw (csi C17 t 9 (-1)) 3 5) C.1 7)) dX9_define_97 fw_9_90 hT31 rfl ?_
      refine ag_aload_n dX9_define_100 rfl (va_rf_or _) ?_
      refine cr_callI (as := [va_rf z9, .int (cI (cnw (csi C17 t 9 (-1)) 3 5) C.1 7), va_rf z18]) (rest := [.ref ((csi C17 t 9 (-1)).1), .int (cI C17 C.1 6), .ref t]) dX9_define_101 me_X3_init mn_X3_init lk_9_104 rfl rfl (Nat.le_of_ble_eq_true rfl) ?_
      refine cM.mono h ?_
      rintro v C33 ⟨rfl, hL35, h⟩
      have hT36 := cT.le (C := (cnw (csi C17 t 9 (-1)) 3 5)) hT30 hL35
      have hT37 := cT.le (C := (cnw (csi C17 t 9 (-1)) 3 5)) hT31 hL35
      have hT38 := cT.le (C := (cnw (csi C17 t 9 (-1)) 3 5)) hT32 hL35
      have hT39 := cT.le (C := (cnw (csi C17 t 9 (-1)) 3 5)) hT29 hL35
      show cG _ _ _ _ _ _ [.ref ((csi C17 t 9 (-1)).1), .int (cI C17 C.1 6), .ref t] _
      refine cr_callV (as := [.int (cI C17 C.1 6), .ref ((csi C17 t 9 (-1)).1)]) (rest := []) dX9_define_104 me_X9_keepFunction mi_X9_keepFunction lk_9_107 hT36 rfl rfl (Nat.le_of_ble_eq_true rfl) ?_
      refine cM.mono h ?_
      rintro v C40 ⟨rfl, hL42, h⟩
      have hT43 := cT.le (C := C33) hT36 hL42
      have hT44 := cT.le (C := C33) hT37 hL42
      have hT45 := cT.le (C := C33) hT38 hL42
      have hT46 := cT.le (C := C33) hT39 hL42
      show cG _ _ _ _ _ _ [] _
      refine ag_aload_n dX9_define_107 rfl (va_rf_or _) ?_
      refine cr_stk (st' := [.ref a25]) (by rw [hr24]; rfl) ?_
      obtain ⟨hT47, h⟩ := h
      refine cr_get (v := .int (cI C40 a25 0)) dX9_define_108 fw_9_111 hT47 rfl ?_
      exact ag_ret (v := some (.int (cI C40 a25 0))) dX9_define_111 ⟨_, rfl, rfl⟩ (Or.inl ⟨_, rfl, _, rfl, h⟩) rfl
    · have h := h.1 hr24
      refine ag_aload_n dX9_define_62 rfl (Or.inr ⟨_, rfl⟩) ?_
      refine ag_aload_n dX9_define_63 rfl (Or.inr ⟨_, rfl⟩) ?_
      refine cr_get (v := va_rf (cR C17 t 2)) dX9_define_64 fw_9_25 hT21 rfl ?_
      obtain ⟨a26, hr27, h⟩ := h
      refine cr_stk (st' := [.ref a26, .ref t]) (by rw [hr27]; rfl) ?_
      obtain ⟨hT28, h⟩ := h
      refine cr_get (v := .int (cI C17 a26 6)) dX9_define_67 fw_9_97 hT28 rfl ?_
      refine cr_pi (C2 := (csi C17 t 9 (cI C17 a26 6))) dX9_define_70 pw_9_58 rfl hT21 (fun _ => ⟨rfl, rfl⟩) rfl ?_
      exact ag_throw dX9_define_73 dX9_define_76 dX9_define_77 dX9_define_80 xw_9_98 (Nat.le_of_ble_eq_true rfl) (Or.inr ⟨_, _, rfl, rfl, h⟩)
  · have h := h.1 hr13
    refine ag_aload_n dX9_define_25 rfl (Or.inr ⟨_, rfl⟩) ?_
    refine ag_aload_n dX9_define_26 rfl (Or.inr ⟨_, rfl⟩) ?_
    refine cr_get (v := .int (cI C8 C.1 5)) dX9_define_27 fw_9_84 hT12 rfl ?_
    refine cr_pi (C2 := (csi C8 t 9 (cI C8 C.1 5))) dX9_define_30 pw_9_58 rfl hT11 (fun _ => ⟨rfl, rfl⟩) rfl ?_
    exact ag_throw dX9_define_33 dX9_define_36 dX9_define_37 dX9_define_40 xw_9_87 (Nat.le_of_ble_eq_true rfl) (Or.inr ⟨_, _, rfl, rfl, h⟩)
theorem dX9_check_0 : decode cX9_check 0 = .ok (.new 75, 3) := by decide +kernel
theorem dX9_check_3 : decode cX9_check 3 = .ok (.dup, 1) := by decide +kernel
theorem dX9_check_4 : decode cX9_check 4 = .ok (.aload_n 0, 1) := by decide +kernel
theorem dX9_check_5 : decode cX9_check 5 = .ok (.getfield 12, 3) := by decide +kernel
theorem dX9_check_8 : decode cX9_check 8 = .ok (.aload_n 0, 1) := by decide +kernel
theorem dX9_check_9 : decode cX9_check 9 = .ok (.getfield 18, 3) := by decide +kernel
theorem dX9_check_12 : decode cX9_check 12 = .ok (.invokespecial 77, 3) := by decide +kernel
theorem dX9_check_15 : decode cX9_check 15 = .ok (.astore_n 1, 1) := by decide +kernel
theorem dX9_check_16 : decode cX9_check 16 = .ok (.aload_n 1, 1) := by decide +kernel
theorem dX9_check_17 : decode cX9_check 17 = .ok (.invokevirtual 116, 3) := by decide +kernel
theorem dX9_check_20 : decode cX9_check 20 = .ok (.astore_n 2, 1) := by decide +kernel
theorem dX9_check_21 : decode cX9_check 21 = .ok (.aload_n 2, 1) := by decide +kernel
theorem dX9_check_22 : decode cX9_check 22 = .ok (.ifnonnull 19, 3) := by decide +kernel
theorem dX9_check_25 : decode cX9_check 25 = .ok (.aload_n 0, 1) := by decide +kernel
theorem dX9_check_26 : decode cX9_check 26 = .ok (.aload_n 1, 1) := by decide +kernel
theorem dX9_check_27 : decode cX9_check 27 = .ok (.getfield 84, 3) := by decide +kernel
theorem dX9_check_30 : decode cX9_check 30 = .ok (.putfield 58, 3) := by decide +kernel
theorem dX9_check_33 : decode cX9_check 33 = .ok (.new 87, 3) := by decide +kernel
theorem dX9_check_36 : decode cX9_check 36 = .ok (.dup, 1) := by decide +kernel
theorem dX9_check_37 : decode cX9_check 37 = .ok (.invokespecial 89, 3) := by decide +kernel
theorem dX9_check_40 : decode cX9_check 40 = .ok (.athrow, 1) := by decide +kernel
theorem dX9_check_41 : decode cX9_check 41 = .ok (.aload_n 0, 1) := by decide +kernel
theorem dX9_check_42 : decode cX9_check 42 = .ok (.aload_n 2, 1) := by decide +kernel
theorem dX9_check_43 : decode cX9_check 43 = .ok (.putfield 50, 3) := by decide +kernel
theorem dX9_check_46 : decode cX9_check 46 = .ok (.aload_n 0, 1) := by decide +kernel
theorem dX9_check_47 : decode cX9_check 47 = .ok (.getfield 25, 3) := by decide +kernel
theorem dX9_check_50 : decode cX9_check 50 = .ok (.aload_n 2, 1) := by decide +kernel
theorem dX9_check_51 : decode cX9_check 51 = .ok (.bipush 31, 2) := by decide +kernel
theorem dX9_check_53 : decode cX9_check 53 = .ok (.aload_n 0, 1) := by decide +kernel
theorem dX9_check_54 : decode cX9_check 54 = .ok (.getfield 18, 3) := by decide +kernel
theorem dX9_check_57 : decode cX9_check 57 = .ok (.invokevirtual 93, 3) := by decide +kernel
theorem dX9_check_60 : decode cX9_check 60 = .ok (.astore_n 3, 1) := by decide +kernel
theorem dX9_check_61 : decode cX9_check 61 = .ok (.aload_n 0, 1) := by decide +kernel
theorem dX9_check_62 : decode cX9_check 62 = .ok (.aload_n 3, 1) := by decide +kernel
theorem dX9_check_63 : decode cX9_check 63 = .ok (.ifnull 7, 3) := by decide +kernel
theorem dX9_check_66 : decode cX9_check 66 = .ok (.iconst 1, 1) := by decide +kernel
theorem dX9_check_67 : decode cX9_check 67 = .ok (.goto 4, 3) := by decide +kernel
theorem dX9_check_70 : decode cX9_check 70 = .ok (.iconst 0, 1) := by decide +kernel
theorem dX9_check_71 : decode cX9_check 71 = .ok (.putfield 54, 3) := by decide +kernel
theorem dX9_check_74 : decode cX9_check 74 = .ok (.aload_n 3, 1) := by decide +kernel
theorem dX9_check_75 : decode cX9_check 75 = .ok (.ifnonnull 22, 3) := by decide +kernel
theorem dX9_check_78 : decode cX9_check 78 = .ok (.aload_n 0, 1) := by decide +kernel
theorem dX9_check_79 : decode cX9_check 79 = .ok (.aload_n 0, 1) := by decide +kernel
theorem dX9_check_80 : decode cX9_check 80 = .ok (.getfield 25, 3) := by decide +kernel
theorem dX9_check_83 : decode cX9_check 83 = .ok (.getfield 97, 3) := by decide +kernel
theorem dX9_check_86 : decode cX9_check 86 = .ok (.putfield 58, 3) := by decide +kernel
theorem dX9_check_89 : decode cX9_check 89 = .ok (.new 98, 3) := by decide +kernel
theorem dX9_check_92 : decode cX9_check 92 = .ok (.dup, 1) := by decide +kernel
theorem dX9_check_93 : decode cX9_check 93 = .ok (.invokespecial 100, 3) := by decide +kernel
theorem dX9_check_96 : decode cX9_check 96 = .ok (.athrow, 1) := by decide +kernel
theorem dX9_check_97 : decode cX9_check 97 = .ok (.aload_n 0, 1) := by decide +kernel
theorem dX9_check_98 : decode cX9_check 98 = .ok (.iconst (-1), 1) := by decide +kernel
theorem dX9_check_99 : decode cX9_check 99 = .ok (.putfield 58, 3) := by decide +kernel
theorem dX9_check_102 : decode cX9_check 102 = .ok (.aload_n 0, 1) := by decide +kernel
theorem dX9_check_103 : decode cX9_check 103 = .ok (.getfield 32, 3) := by decide +kernel
theorem dX9_check_106 : decode cX9_check 106 = .ok (.aload_n 3, 1) := by decide +kernel
theorem dX9_check_107 : decode cX9_check 107 = .ok (.getfield 119, 3) := by decide +kernel
theorem dX9_check_110 : decode cX9_check 110 = .ok (.invokevirtual 122, 3) := by decide +kernel
theorem dX9_check_113 : decode cX9_check 113 = .ok (.aload_n 0, 1) := by decide +kernel
theorem dX9_check_114 : decode cX9_check 114 = .ok (.getfield 36, 3) := by decide +kernel
theorem dX9_check_117 : decode cX9_check 117 = .ok (.aload_n 3, 1) := by decide +kernel
theorem dX9_check_118 : decode cX9_check 118 = .ok (.getfield 126, 3) := by decide +kernel
theorem dX9_check_121 : decode cX9_check 121 = .ok (.invokevirtual 122, 3) := by decide +kernel
theorem dX9_check_124 : decode cX9_check 124 = .ok (.aload_n 3, 1) := by decide +kernel
theorem dX9_check_125 : decode cX9_check 125 = .ok (.getfield 111, 3) := by decide +kernel
theorem dX9_check_128 : decode cX9_check 128 = .ok (.ireturn, 1) := by decide +kernel
set_option maxRecDepth 20000 in
set_option maxHeartbeats 4000000 in
theorem w_X9_check {c : cX} {d : Nat} {C : cS} {K : Option Value → cS → Prop} {X : String → cS → Prop} (t : Nat) (hT0 : cT C t 9 12) (h : cM c d eX6_init (.ref C.1 :: [va_rf (cR (cnw C 6 8) t 0), va_rf (cR (cnw C 6 8) t 1)]) (cnw C 6 8) (fun v C3 => v = none ∧ cle (cnw C 6 8) C3 ∧ (cM c d eX6_readExpression (.ref C.1 :: []) C3 (fun v C8 => ∃ z9 : Option Nat, v = some (va_rf z9) ∧ cle C3 C8 ∧ ((z9 = none → (X "java/lang/IllegalArgumentException" (csi C8 t 9 (cI C8 C.1 5)))) ∧ (∀ a14 : Nat, z9 = some a14 → (∃ a15 : Nat, (cR C8 t 2) = some a15 ∧ (cT C8 a15 1 7 ∧ (cM c d eX1_examineAll (.ref a15 :: [va_rf z9, .int 31, va_rf (cR C8 t 1)]) (csr C8 t 7 z9) (fun v C17 => ∃ z18 : Option Nat, v = some (va_rf z18) ∧ cle (csr C8 t 7 z9) C17 ∧ ((z18 = none → (cG c eX9_check (d + 1) (cQx K X) 71 [some (.ref t), none, none, some (va_rf z18)] [.int 0, .ref t] C17)) ∧ (∀ a25 : Nat, z18 = some a25 → (cG c eX9_check (d + 1) (cQx K X) 71 [some (.ref t), none, none, some (va_rf z18)] [.int 1, .ref t] C17))))))))))))) : cG c eX9_check (d + 1) (cQx K X) 0 [some (.ref t), none, none, none] [] C := by
  refine cr_new (C2 := (cnw C 6 8)) dX9_check_0 nw_9_75 nf_6 rfl ?_
  have hT1 := cT_nw (C := C) (t := 6) (n := 8) hT0
  have hT2 := cT.le (C := C) hT0 (cle_nw C 6 8)
  refine ag_dup dX9_check_3 rfl ?_
  refine ag_aload_n dX9_check_4 rfl (Or.inr ⟨_, rfl⟩) ?_
  refine cr_get (v := va_rf (cR (cnw C 6 8) t 0)) dX9_check_5 fw_9_12 hT2 rfl ?_
  refine ag_aload_n dX9_check_8 rfl (Or.inr ⟨_, rfl⟩) ?_
  refine cr_get (v := va_rf (cR (cnw C 6 8) t 1)) dX9_check_9 fw_9_18 hT2 rfl ?_
  refine cr_callI (as := [va_rf (cR (cnw C 6 8) t 0), va_rf (cR (cnw C 6 8) t 1)]) (rest := [.ref C.1]) dX9_check_12 me_X6_init mn_X6_init lk_9_77 rfl rfl (Nat.le_of_ble_eq_true rfl) ?_
  refine cM.mono h ?_
  rintro v C3 ⟨rfl, hL5, h⟩
  have hT6 := cT.le (C := (cnw C 6 8)) hT2 hL5
  have hT7 := cT.le (C := (cnw C 6 8)) hT1 hL5
  show cG _ _ _ _ _ _ [.ref C.1] _
  refine ag_astore_n (lv2 := [some (.ref t), some (.ref C.1), none, none]) dX9_check_15 (Nat.le_of_ble_eq_true rfl) rfl (Or.inr ⟨_, rfl⟩) ?_
  refine ag_aload_n dX9_check_16 rfl (Or.inr ⟨_, rfl⟩) ?_
  refine cr_callV (as := []) (rest := []) dX9_check_17 me_X6_readExpression mi_X6_readExpression lk_9_116 hT7 rfl rfl (Nat.le_of_ble_eq_true rfl) ?_
  refine cM.mono h ?_
  rintro v C8 ⟨z9, rfl, hL10, h⟩
  have hT11 := cT.le (C := C3) hT6 hL10
  have hT12 := cT.le (C := C3) hT7 hL10
  show cG _ _ _ _ _ _ [va_rf z9] _
  refine ag_astore_n (lv2 := [some (.ref t), some (.ref C.1), some (va_rf z9), none]) dX9_check_20 (Nat.le_of_ble_eq_true rfl) rfl (va_rf_or _) ?_
  refine ag_aload_n dX9_check_21 rfl (va_rf_or _) ?_
  refine cr_ifnonnull (tgt := 41) dX9_check_22 rfl (fun a14 hr13 => ?_) (fun hr13 => ?_)
  · have h := h.2 a14 hr13
    refine ag_aload_n dX9_check_41 rfl (Or.inr ⟨_, rfl⟩) ?_
    refine ag_aload_n dX9_check_42 rfl (va_rf_or _) ?_
    refine cr_pr (r := z9) (C2 := (csr C8 t 7 z9)) dX9_check_43 pw_9_50 rfl (Or.inl ⟨_, rfl⟩) hT11 rfl ?_
    refine ag_aload_n dX9_check_46 rfl (Or.inr ⟨_, rfl⟩) ?_
    refine cr_get (v := va_rf (cR C8 t 2)) dX9_check_47 fw_9_25 hT11 rfl ?_
    refine ag_aload_n dX9_check_50 rfl (va_rf_or _) ?_
    refine ag_bipush (v := 31) dX9_check_51 (by decide) ?_
    refine ag_aload_n dX9_check_53 rfl (Or.inr ⟨_, rfl⟩) ?_
    refine cr_get (v := va_rf (cR C8 t 1)) dX9_check_54 fw_9_18 hT11 rfl ?_
    obtain ⟨a15, hr16, h⟩ := h
    refine cr_stk (st' := [va_rf (cR C8 t 1), .int 31, va_rf z9, .ref a15]) (by rw [hr16]; rfl) ?_
    obtain ⟨hT20, h⟩ := h
    refine cr_callV (as := [va_rf z9, .int 31, va_rf (cR C8 t 1)]) (rest := []) dX9_check_57 me_X1_examineAll mi_X1_examineAll lk_9_93 hT20 rfl rfl (Nat.le_of_ble_eq_true rfl) ?_
    refine cM.mono h ?_
    rintro v C17 ⟨z18, rfl, hL19, h⟩
    have hT21 := cT.le (C := (csr C8 t 7 z9)) hT11 hL19
    have hT22 := cT.le (C := (csr C8 t 7 z9)) hT12 hL19
    have hT23 := cT.le (C := (csr C8 t 7 z9)) hT20 hL19
    show cG _ _ _ _ _ _ [va_rf z18] _
    refine ag_astore_n (lv2 := [some (.ref t), some (.ref C.1), some (va_rf z9), some (va_rf z18)]) dX9_check_60 (Nat.le_of_ble_eq_true rfl) (by simp [am_st1, am_kill, va_rf_cat] <;> rfl) (va_rf_or _) ?_
    refine ag_aload_n dX9_check_61 rfl (Or.inr ⟨_, rfl⟩) ?_
    refine ag_aload_n dX9_check_62 rfl (va_rf_or _) ?_
    refine cr_ifnull (tgt := 70) dX9_check_63 rfl (fun hr24 => ?_) (fun a25 hr24 => ?_)
    · have h := h.1 hr24
      refine ag_iconst (v := 0) dX9_check_70 rfl ?_
      refine ag_drop 1 ?_
      refine ag_drop 2 ?_
      exact h
    · have h := h.2 a25 hr24
      refine ag_iconst (v := 1) dX9_check_66 rfl ?_
      refine ag_goto (tgt := 71) dX9_check_67 rfl ?_
      refine ag_drop 1 ?_
      refine ag_drop 2 ?_
      exact h
  · have h := h.1 hr13
    refine ag_aload_n dX9_check_25 rfl (Or.inr ⟨_, rfl⟩) ?_
    refine ag_aload_n dX9_check_26 rfl (Or.inr ⟨_, rfl⟩) ?_
    refine cr_get (v := .int (cI C8 C.1 5)) dX9_check_27 fw_9_84 hT12 rfl ?_
    refine cr_pi (C2 := (csi C8 t 9 (cI C8 C.1 5))) dX9_check_30 pw_9_58 rfl hT11 (fun _ => ⟨rfl, rfl⟩) rfl ?_
    exact ag_throw dX9_check_33 dX9_check_36 dX9_check_37 dX9_check_40 xw_9_87 (Nat.le_of_ble_eq_true rfl) (Or.inr ⟨_, _, rfl, rfl, h⟩)
set_option maxRecDepth 20000 in
set_option maxHeartbeats 4000000 in
theorem w_X9_check_71 {c : cX} {d : Nat} {C : cS} {K : Option Value → cS → Prop} {X : String → cS → Prop} (t : Nat) (v3 : Option Nat) (s0 : Int32) (s1 : Nat) (hT0 : cT C t 9 12) (h : cT C s1 9 12 ∧ (rB s0 ∧ ((v3 = none → (∃ a5 : Nat, (cR C t 2) = some a5 ∧ (cT C a5 1 7 ∧ (X "java/lang/UnsupportedOperationException" (csi (csi C s1 8 s0) t 9 (cI C a5 6)))))) ∧ (∀ a4 : Nat, v3 = some a4 → (cT C a4 2 4 ∧ (∃ a9 : Nat, (cR C t 3) = some a9 ∧ (cT C a9 8 2 ∧ (cM c d eX8_copy (.ref a9 :: [va_rf (cR C a4 2)]) (csi (csi C s1 8 s0) t 9 (-1)) (fun v C11 => v = none ∧ cle (csi (csi C s1 8 s0) t 9 (-1)) C11 ∧ (∃ a19 : Nat, (cR C11 t 4) = some a19 ∧ (cT C11 a19 8 2 ∧ (cM c d eX8_copy (.ref a19 :: [va_rf (cR C11 a4 3)]) C11 (fun v C21 => v = none ∧ cle C11 C21 ∧ (K (some (.int (cI C21 a4 0))) C21)))))))))))))) : cG c eX9_check (d + 1) (cQx K X) 71 [some (.ref t), none, none, some (va_rf v3)] [.int s0, .ref s1] C := by
  obtain ⟨hT1, h⟩ := h
  obtain ⟨hb2, h⟩ := h
  refine cr_pi (C2 := (csi C s1 8 s0)) dX9_check_71 pw_9_54 rfl hT1 (rB_ok hb2) rfl ?_
  refine ag_aload_n dX9_check_74 rfl (va_rf_or _) ?_
  refine cr_ifnonnull (tgt := 97) dX9_check_75 rfl (fun a4 hr3 => ?_) (fun hr3 => ?_)
  · have h := h.2 a4 hr3
    refine ag_aload_n dX9_check_97 rfl (Or.inr ⟨_, rfl⟩) ?_
    refine ag_iconst (v := (-1)) dX9_check_98 rfl ?_
    refine cr_pi (C2 := (csi (csi C s1 8 s0) t 9 (-1))) dX9_check_99 pw_9_58 rfl hT0 (fun _ => ⟨rfl, rfl⟩) rfl ?_
    refine ag_aload_n dX9_check_102 rfl (Or.inr ⟨_, rfl⟩) ?_
    refine cr_get (v := va_rf (cR C t 3)) dX9_check_103 fw_9_32 hT0 rfl ?_
    refine ag_aload_n dX9_check_106 rfl (va_rf_or _) ?_
    refine cr_stk (st' := [.ref a4, va_rf (cR C t 3)]) (by rw [hr3]; rfl) ?_
    obtain ⟨hT8, h⟩ := h
    refine cr_get (v := va_rf (cR C a4 2)) dX9_check_107 fw_9_119 hT8 rfl ?_
    obtain ⟨a9, hr10, h⟩ := h
    refine cr_stk (st' := [va_rf (cR C a4 2), .ref a9]) (by rw [hr10]; rfl) ?_
    obtain ⟨hT14, h⟩ := h
    refine cr_callV (as := [va_rf (cR C a4 2)]) (rest := []) dX9_check_110 me_X8_copy mi_X8_copy lk_9_122 hT14 rfl rfl (Nat.le_of_ble_eq_true rfl) ?_
    refine cM.mono h ?_
    rintro v C11 ⟨rfl, hL13, h⟩
    have hT15 := cT.le (C := (csi (csi C s1 8 s0) t 9 (-1))) hT0 hL13
    have hT16 := cT.le (C := (csi (csi C s1 8 s0) t 9 (-1))) hT1 hL13
    have hT17 := cT.le (C := (csi (csi C s1 8 s0) t 9 (-1))) hT8 hL13
    have hT18 := cT.le (C := (csi (csi C s1 8 s0) t 9 (-1))) hT14 hL13
    show cG _ _ _ _ _ _ [] _
    refine ag_aload_n dX9_check_113 rfl (Or.inr ⟨_, rfl⟩) ?_
    refine cr_get (v := va_rf (cR C11 t 4)) dX9_check_114 fw_9_36 hT15 rfl ?_
    refine ag_aload_n dX9_check_117 rfl (va_rf_or _) ?_
    refine cr_stk (st' := [.ref a4, va_rf (cR C11 t 4)]) (by rw [hr3]; rfl) ?_
    refine cr_get (v := va_rf (cR C11 a4 3)) dX9_check_118 fw_9_126 hT17 rfl ?_
    obtain ⟨a19, hr20, h⟩ := h
    refine cr_stk (st' := [va_rf (cR C11 a4 3), .ref a19]) (by rw [hr20]; rfl) ?_
    obtain ⟨hT24, h⟩ := h
    refine cr_callV (as := [va_rf (cR C11 a4 3)]) (rest := []) dX9_check_121 me_X8_copy mi_X8_copy lk_9_122 hT24 rfl rfl (Nat.le_of_ble_eq_true rfl) ?_
    refine cM.mono h ?_
    rintro v C21 ⟨rfl, hL23, h⟩
    have hT25 := cT.le (C := C11) hT15 hL23
    have hT26 := cT.le (C := C11) hT16 hL23
    have hT27 := cT.le (C := C11) hT17 hL23
    have hT28 := cT.le (C := C11) hT18 hL23
    have hT29 := cT.le (C := C11) hT24 hL23
    show cG _ _ _ _ _ _ [] _
    refine ag_aload_n dX9_check_124 rfl (va_rf_or _) ?_
    refine cr_stk (st' := [.ref a4]) (by rw [hr3]; rfl) ?_
    refine cr_get (v := .int (cI C21 a4 0)) dX9_check_125 fw_9_111 hT27 rfl ?_
    exact ag_ret (v := some (.int (cI C21 a4 0))) dX9_check_128 ⟨_, rfl, rfl⟩ (Or.inl ⟨_, rfl, _, rfl, h⟩) rfl
  · have h := h.1 hr3
    refine ag_aload_n dX9_check_78 rfl (Or.inr ⟨_, rfl⟩) ?_
    refine ag_aload_n dX9_check_79 rfl (Or.inr ⟨_, rfl⟩) ?_
    refine cr_get (v := va_rf (cR C t 2)) dX9_check_80 fw_9_25 hT0 rfl ?_
    obtain ⟨a5, hr6, h⟩ := h
    refine cr_stk (st' := [.ref a5, .ref t]) (by rw [hr6]; rfl) ?_
    obtain ⟨hT7, h⟩ := h
    refine cr_get (v := .int (cI C a5 6)) dX9_check_83 fw_9_97 hT7 rfl ?_
    refine cr_pi (C2 := (csi (csi C s1 8 s0) t 9 (cI C a5 6))) dX9_check_86 pw_9_58 rfl hT0 (fun _ => ⟨rfl, rfl⟩) rfl ?_
    exact ag_throw dX9_check_89 dX9_check_92 dX9_check_93 dX9_check_96 xw_9_98 (Nat.le_of_ble_eq_true rfl) (Or.inr ⟨_, _, rfl, rfl, h⟩)
theorem dX9_fault_0 : decode cX9_fault 0 = .ok (.aload_n 0, 1) := by decide +kernel
theorem dX9_fault_1 : decode cX9_fault 1 = .ok (.getfield 58, 3) := by decide +kernel
theorem dX9_fault_4 : decode cX9_fault 4 = .ok (.ireturn, 1) := by decide +kernel
set_option maxRecDepth 20000 in
set_option maxHeartbeats 4000000 in
theorem w_X9_fault {c : cX} {d : Nat} {C : cS} {K : Option Value → cS → Prop} (t : Nat) (h : cT C t 9 12 ∧ (K (some (.int (cI C t 9))) C)) : cM c d eX9_fault [.ref t] C K := by
  refine cM.of2 (lv := [some (.ref t)]) (by decide) (Nat.le_of_ble_eq_true rfl) rfl ?_
  refine ag_aload_n dX9_fault_0 rfl (Or.inr ⟨_, rfl⟩) ?_
  obtain ⟨hT1, h⟩ := h
  refine cr_get (v := .int (cI C t 9)) dX9_fault_1 fw_9_58 hT1 rfl ?_
  exact ag_ret (v := some (.int (cI C t 9))) dX9_fault_4 ⟨_, rfl, rfl⟩ ⟨_, rfl, _, rfl, h⟩ rfl
theorem dX9_view_0 : decode cX9_view 0 = .ok (.aload_n 0, 1) := by decide +kernel
theorem dX9_view_1 : decode cX9_view 1 = .ok (.getfield 50, 3) := by decide +kernel
theorem dX9_view_4 : decode cX9_view 4 = .ok (.ifnull 10, 3) := by decide +kernel
theorem dX9_view_7 : decode cX9_view 7 = .ok (.aload_n 0, 1) := by decide +kernel
theorem dX9_view_8 : decode cX9_view 8 = .ok (.getfield 54, 3) := by decide +kernel
theorem dX9_view_11 : decode cX9_view 11 = .ok (.ifCond .ne 11, 3) := by decide +kernel
theorem dX9_view_14 : decode cX9_view 14 = .ok (.new 129, 3) := by decide +kernel
theorem dX9_view_17 : decode cX9_view 17 = .ok (.dup, 1) := by decide +kernel
theorem dX9_view_18 : decode cX9_view 18 = .ok (.invokespecial 131, 3) := by decide +kernel
theorem dX9_view_21 : decode cX9_view 21 = .ok (.athrow, 1) := by decide +kernel
theorem dX9_view_22 : decode cX9_view 22 = .ok (.iload_n 2, 1) := by decide +kernel
theorem dX9_view_23 : decode cX9_view 23 = .ok (.ifCond .lt 18, 3) := by decide +kernel
theorem dX9_view_26 : decode cX9_view 26 = .ok (.iload_n 2, 1) := by decide +kernel
theorem dX9_view_27 : decode cX9_view 27 = .ok (.iconst 2, 1) := by decide +kernel
theorem dX9_view_28 : decode cX9_view 28 = .ok (.if_icmp .ge 13, 3) := by decide +kernel
theorem dX9_view_31 : decode cX9_view 31 = .ok (.iload_n 3, 1) := by decide +kernel
theorem dX9_view_32 : decode cX9_view 32 = .ok (.ifCond .lt 9, 3) := by decide +kernel
theorem dX9_view_35 : decode cX9_view 35 = .ok (.iload_n 3, 1) := by decide +kernel
theorem dX9_view_36 : decode cX9_view 36 = .ok (.bipush 7, 2) := by decide +kernel
theorem dX9_view_38 : decode cX9_view 38 = .ok (.if_icmp .lt 11, 3) := by decide +kernel
theorem dX9_view_41 : decode cX9_view 41 = .ok (.new 132, 3) := by decide +kernel
theorem dX9_view_44 : decode cX9_view 44 = .ok (.dup, 1) := by decide +kernel
theorem dX9_view_45 : decode cX9_view 45 = .ok (.invokespecial 134, 3) := by decide +kernel
theorem dX9_view_48 : decode cX9_view 48 = .ok (.athrow, 1) := by decide +kernel
theorem dX9_view_49 : decode cX9_view 49 = .ok (.iload_n 1, 1) := by decide +kernel
theorem dX9_view_50 : decode cX9_view 50 = .ok (.ifCond .eq 10, 3) := by decide +kernel
theorem dX9_view_53 : decode cX9_view 53 = .ok (.aload_n 0, 1) := by decide +kernel
theorem dX9_view_54 : decode cX9_view 54 = .ok (.getfield 32, 3) := by decide +kernel
theorem dX9_view_57 : decode cX9_view 57 = .ok (.goto 7, 3) := by decide +kernel
theorem dX9_view_60 : decode cX9_view 60 = .ok (.aload_n 0, 1) := by decide +kernel
theorem dX9_view_61 : decode cX9_view 61 = .ok (.getfield 36, 3) := by decide +kernel
theorem dX9_view_64 : decode cX9_view 64 = .ok (.astore 4, 2) := by decide +kernel
theorem dX9_view_66 : decode cX9_view 66 = .ok (.aload 4, 2) := by decide +kernel
theorem dX9_view_68 : decode cX9_view 68 = .ok (.getfield 135, 3) := by decide +kernel
theorem dX9_view_71 : decode cX9_view 71 = .ok (.ifCond .eq 7, 3) := by decide +kernel
theorem dX9_view_74 : decode cX9_view 74 = .ok (.iconst (-1), 1) := by decide +kernel
theorem dX9_view_75 : decode cX9_view 75 = .ok (.goto 14, 3) := by decide +kernel
theorem dX9_view_78 : decode cX9_view 78 = .ok (.aload 4, 2) := by decide +kernel
theorem dX9_view_80 : decode cX9_view 80 = .ok (.iload_n 2, 1) := by decide +kernel
theorem dX9_view_81 : decode cX9_view 81 = .ok (.bipush 7, 2) := by decide +kernel
theorem dX9_view_83 : decode cX9_view 83 = .ok (.imul, 1) := by decide +kernel
theorem dX9_view_84 : decode cX9_view 84 = .ok (.iload_n 3, 1) := by decide +kernel
theorem dX9_view_85 : decode cX9_view 85 = .ok (.iadd, 1) := by decide +kernel
theorem dX9_view_86 : decode cX9_view 86 = .ok (.invokevirtual 138, 3) := by decide +kernel
theorem dX9_view_89 : decode cX9_view 89 = .ok (.ireturn, 1) := by decide +kernel
set_option maxRecDepth 20000 in
set_option maxHeartbeats 4000000 in
theorem w_X9_view {c : cX} {d : Nat} {C : cS} {K : Option Value → cS → Prop} {X : String → cS → Prop} (t : Nat) (p0 : Int32) (p1 : Int32) (p2 : Int32) (hT0 : cT C t 9 12) (h : ((cR C t 7) = none → (X "java/util/NoSuchElementException" C)) ∧ (∀ a2 : Nat, (cR C t 7) = some a2 → ((¬ (cI C t 8) = 0 → ((p1 < 0 → (X "java/lang/IndexOutOfBoundsException" C)) ∧ (¬ p1 < 0 → ((2 ≤ p1 → (X "java/lang/IndexOutOfBoundsException" C)) ∧ (¬ 2 ≤ p1 → ((p2 < 0 → (X "java/lang/IndexOutOfBoundsException" C)) ∧ (¬ p2 < 0 → ((p2 < 7 → ((p0 = 0 → (cG c eX9_view (d + 1) (cQx K X) 64 [none, none, some (.int p1), some (.int p2), none] [va_rf (cR C t 4)] C)) ∧ (¬ p0 = 0 → (cG c eX9_view (d + 1) (cQx K X) 64 [none, none, some (.int p1), some (.int p2), none] [va_rf (cR C t 3)] C)))) ∧ (¬ p2 < 7 → (X "java/lang/IndexOutOfBoundsException" C)))))))))) ∧ ((cI C t 8) = 0 → (X "java/util/NoSuchElementException" C))))) : cG c eX9_view (d + 1) (cQx K X) 0 [some (.ref t), some (.int p0), some (.int p1), some (.int p2), none] [] C := by
  refine ag_aload_n dX9_view_0 rfl (Or.inr ⟨_, rfl⟩) ?_
  refine cr_get (v := va_rf (cR C t 7)) dX9_view_1 fw_9_50 hT0 rfl ?_
  refine cr_ifnull (tgt := 14) dX9_view_4 rfl (fun hr1 => ?_) (fun a2 hr1 => ?_)
  · have h := h.1 hr1
    exact ag_throw dX9_view_14 dX9_view_17 dX9_view_18 dX9_view_21 xw_9_129 (Nat.le_of_ble_eq_true rfl) (Or.inr ⟨_, _, rfl, rfl, h⟩)
  · have h := h.2 a2 hr1
    refine ag_aload_n dX9_view_7 rfl (Or.inr ⟨_, rfl⟩) ?_
    refine cr_get (v := .int (cI C t 8)) dX9_view_8 fw_9_54 hT0 rfl ?_
    refine ag_if_ne (tgt := 22) dX9_view_11 rfl (fun hc3 => ?_) (fun hc3 => ?_)
    · have h := h.1 hc3
      refine ag_iload_n dX9_view_22 rfl ?_
      refine ag_if_lt (tgt := 41) dX9_view_23 rfl (fun hc4 => ?_) (fun hc4 => ?_)
      · have h := h.1 hc4
        exact ag_throw dX9_view_41 dX9_view_44 dX9_view_45 dX9_view_48 xw_9_132 (Nat.le_of_ble_eq_true rfl) (Or.inr ⟨_, _, rfl, rfl, h⟩)
      · have h := h.2 hc4
        refine ag_iload_n dX9_view_26 rfl ?_
        refine ag_iconst (v := 2) dX9_view_27 rfl ?_
        refine ag_icmp_ge (tgt := 41) dX9_view_28 rfl (fun hc5 => ?_) (fun hc5 => ?_)
        · have h := h.1 hc5
          exact ag_throw dX9_view_41 dX9_view_44 dX9_view_45 dX9_view_48 xw_9_132 (Nat.le_of_ble_eq_true rfl) (Or.inr ⟨_, _, rfl, rfl, h⟩)
        · have h := h.2 hc5
          refine ag_iload_n dX9_view_31 rfl ?_
          refine ag_if_lt (tgt := 41) dX9_view_32 rfl (fun hc6 => ?_) (fun hc6 => ?_)
          · have h := h.1 hc6
            exact ag_throw dX9_view_41 dX9_view_44 dX9_view_45 dX9_view_48 xw_9_132 (Nat.le_of_ble_eq_true rfl) (Or.inr ⟨_, _, rfl, rfl, h⟩)
          · have h := h.2 hc6
            refine ag_iload_n dX9_view_35 rfl ?_
            refine ag_bipush (v := 7) dX9_view_36 (by decide) ?_
            refine ag_icmp_lt (tgt := 49) dX9_view_38 rfl (fun hc7 => ?_) (fun hc7 => ?_)
            · have h := h.1 hc7
              refine ag_iload_n dX9_view_49 rfl ?_
              refine ag_if_eq (tgt := 60) dX9_view_50 rfl (fun hc8 => ?_) (fun hc8 => ?_)
              · have h := h.1 hc8
                refine ag_aload_n dX9_view_60 rfl (Or.inr ⟨_, rfl⟩) ?_
                refine cr_get (v := va_rf (cR C t 4)) dX9_view_61 fw_9_36 hT0 rfl ?_
                refine ag_drop 0 ?_
                refine ag_drop 1 ?_
                exact h
              · have h := h.2 hc8
                refine ag_aload_n dX9_view_53 rfl (Or.inr ⟨_, rfl⟩) ?_
                refine cr_get (v := va_rf (cR C t 3)) dX9_view_54 fw_9_32 hT0 rfl ?_
                refine ag_goto (tgt := 64) dX9_view_57 rfl ?_
                refine ag_drop 0 ?_
                refine ag_drop 1 ?_
                exact h
            · have h := h.2 hc7
              exact ag_throw dX9_view_41 dX9_view_44 dX9_view_45 dX9_view_48 xw_9_132 (Nat.le_of_ble_eq_true rfl) (Or.inr ⟨_, _, rfl, rfl, h⟩)
    · have h := h.2 hc3
      exact ag_throw dX9_view_14 dX9_view_17 dX9_view_18 dX9_view_21 xw_9_129 (Nat.le_of_ble_eq_true rfl) (Or.inr ⟨_, _, rfl, rfl, h⟩)
set_option maxRecDepth 20000 in
set_option maxHeartbeats 4000000 in
theorem w_X9_view_64 {c : cX} {d : Nat} {C : cS} {K : Option Value → cS → Prop} {X : String → cS → Prop} (v2 : Int32) (v3 : Int32) (s0 : Option Nat) (h : ∃ a1 : Nat, s0 = some a1 ∧ (cT C a1 8 2 ∧ (((cI C a1 1) = 0 → (cM c d eX8_says (.ref a1 :: [.int ((v2 * 7) + v3)]) C (fun v C5 => ∃ z6 : Int32, v = some (.int z6) ∧ cle C C5 ∧ (K (some (.int z6)) C5)))) ∧ (¬ (cI C a1 1) = 0 → (K (some (.int (-1))) C))))) : cG c eX9_view (d + 1) (cQx K X) 64 [none, none, some (.int v2), some (.int v3), none] [va_rf s0] C := by
  refine ag_astore (lv2 := [none, none, some (.int v2), some (.int v3), some (va_rf s0)]) dX9_view_64 (Nat.le_of_ble_eq_true rfl) rfl (va_rf_or _) ?_
  refine ag_aload dX9_view_66 rfl (va_rf_or _) ?_
  obtain ⟨a1, hr2, h⟩ := h
  refine cr_stk (st' := [.ref a1]) (by rw [hr2]; rfl) ?_
  obtain ⟨hT3, h⟩ := h
  refine cr_get (v := .int (cI C a1 1)) dX9_view_68 fw_9_135 hT3 rfl ?_
  refine ag_if_eq (tgt := 78) dX9_view_71 rfl (fun hc4 => ?_) (fun hc4 => ?_)
  · have h := h.1 hc4
    refine ag_aload dX9_view_78 rfl (va_rf_or _) ?_
    refine ag_iload_n dX9_view_80 rfl ?_
    refine ag_bipush (v := 7) dX9_view_81 (by decide) ?_
    refine ag_imul dX9_view_83 rfl ?_
    refine ag_iload_n dX9_view_84 rfl ?_
    refine ag_iadd dX9_view_85 rfl ?_
    refine cr_stk (st' := [.int ((v2 * 7) + v3), .ref a1]) (by rw [hr2]; rfl) ?_
    refine cr_callV (as := [.int ((v2 * 7) + v3)]) (rest := []) dX9_view_86 me_X8_says mi_X8_says lk_9_138 hT3 rfl rfl (Nat.le_of_ble_eq_true rfl) ?_
    refine cM.mono h ?_
    rintro v C5 ⟨z6, rfl, hL7, h⟩
    have hT8 := cT.le (C := C) hT3 hL7
    show cG _ _ _ _ _ _ [.int z6] _
    exact ag_ret (v := some (.int z6)) dX9_view_89 ⟨_, rfl, rfl⟩ (Or.inl ⟨_, rfl, _, rfl, h⟩) rfl
  · have h := h.2 hc4
    refine ag_iconst (v := (-1)) dX9_view_74 rfl ?_
    refine ag_goto (tgt := 89) dX9_view_75 rfl ?_
    exact ag_ret (v := some (.int (-1))) dX9_view_89 ⟨_, rfl, rfl⟩ (Or.inl ⟨_, rfl, _, rfl, h⟩) rfl
theorem dX9_forget_0 : decode cX9_forget 0 = .ok (.iconst 0, 1) := by decide +kernel
theorem dX9_forget_1 : decode cX9_forget 1 = .ok (.istore_n 1, 1) := by decide +kernel
theorem dX9_forget_2 : decode cX9_forget 2 = .ok (.iload_n 1, 1) := by decide +kernel
theorem dX9_forget_3 : decode cX9_forget 3 = .ok (.iconst 3, 1) := by decide +kernel
theorem dX9_forget_4 : decode cX9_forget 4 = .ok (.if_icmp .ge 16, 3) := by decide +kernel
theorem dX9_forget_7 : decode cX9_forget 7 = .ok (.aload_n 0, 1) := by decide +kernel
theorem dX9_forget_8 : decode cX9_forget 8 = .ok (.getfield 18, 3) := by decide +kernel
theorem dX9_forget_11 : decode cX9_forget 11 = .ok (.iload_n 1, 1) := by decide +kernel
theorem dX9_forget_12 : decode cX9_forget 12 = .ok (.aconst_null, 1) := by decide +kernel
theorem dX9_forget_13 : decode cX9_forget 13 = .ok (.aastore, 1) := by decide +kernel
theorem dX9_forget_14 : decode cX9_forget 14 = .ok (.iinc 1 1, 3) := by decide +kernel
theorem dX9_forget_17 : decode cX9_forget 17 = .ok (.goto (-15), 3) := by decide +kernel
theorem dX9_forget_20 : decode cX9_forget 20 = .ok (.aload_n 0, 1) := by decide +kernel
theorem dX9_forget_21 : decode cX9_forget 21 = .ok (.aconst_null, 1) := by decide +kernel
theorem dX9_forget_22 : decode cX9_forget 22 = .ok (.putfield 50, 3) := by decide +kernel
theorem dX9_forget_25 : decode cX9_forget 25 = .ok (.aload_n 0, 1) := by decide +kernel
theorem dX9_forget_26 : decode cX9_forget 26 = .ok (.iconst 0, 1) := by decide +kernel
theorem dX9_forget_27 : decode cX9_forget 27 = .ok (.putfield 54, 3) := by decide +kernel
theorem dX9_forget_30 : decode cX9_forget 30 = .ok (.return_, 1) := by decide +kernel
set_option maxRecDepth 20000 in
set_option maxHeartbeats 4000000 in
theorem w_X9_forget {c : cX} {d : Nat} {C : cS} {K : Option Value → cS → Prop} (t : Nat) (h : cG c eX9_forget d (cQ K) 2 [some (.ref t), some (.int 0)] [] C) : cM c d eX9_forget [.ref t] C K := by
  refine cM.of2 (lv := [some (.ref t), none]) (by decide) (Nat.le_of_ble_eq_true rfl) rfl ?_
  refine ag_iconst (v := 0) dX9_forget_0 rfl ?_
  refine ag_istore_n (lv2 := [some (.ref t), some (.int 0)]) dX9_forget_1 (Nat.le_of_ble_eq_true rfl) rfl ?_
  exact h
set_option maxRecDepth 20000 in
set_option maxHeartbeats 4000000 in
theorem w_X9_forget_2 {c : cX} {d : Nat} {C : cS} {K : Option Value → cS → Prop} (t : Nat) (v1 : Int32) (h : (3 ≤ v1 → (cT C t 9 12 ∧ (K none (csi (csr C t 7 none) t 8 0)))) ∧ (¬ 3 ≤ v1 → (cT C t 9 12 ∧ (∃ a4 : Nat, (cR C t 1) = some a4 ∧ (∃ n7 : Nat, cT C a4 26 n7 ∧ (∃ j8 : Nat, am_ix v1 j8 n7 ∧ (cG c eX9_forget d (cQ K) 2 [some (.ref t), some (.int (v1 + 1))] [] (csr C a4 j8 none)))))))) : cG c eX9_forget d (cQ K) 2 [some (.ref t), some (.int v1)] [] C := by
  refine ag_iload_n dX9_forget_2 rfl ?_
  refine ag_iconst (v := 3) dX9_forget_3 rfl ?_
  refine ag_icmp_ge (tgt := 20) dX9_forget_4 rfl (fun hc1 => ?_) (fun hc1 => ?_)
  · have h := h.1 hc1
    refine ag_aload_n dX9_forget_20 rfl (Or.inr ⟨_, rfl⟩) ?_
    refine ag_null dX9_forget_21 ?_
    obtain ⟨hT2, h⟩ := h
    refine cr_pr (r := none) (C2 := (csr C t 7 none)) dX9_forget_22 pw_9_50 rfl (Or.inl ⟨_, rfl⟩) hT2 rfl ?_
    refine ag_aload_n dX9_forget_25 rfl (Or.inr ⟨_, rfl⟩) ?_
    refine ag_iconst (v := 0) dX9_forget_26 rfl ?_
    refine cr_pi (C2 := (csi (csr C t 7 none) t 8 0)) dX9_forget_27 pw_9_54 rfl hT2 (rB_ok (Or.inl rfl)) rfl ?_
    exact ag_ret (v := none) dX9_forget_30 rfl ⟨_, rfl, _, rfl, h⟩ rfl
  · have h := h.2 hc1
    refine ag_aload_n dX9_forget_7 rfl (Or.inr ⟨_, rfl⟩) ?_
    obtain ⟨hT3, h⟩ := h
    refine cr_get (v := va_rf (cR C t 1)) dX9_forget_8 fw_9_18 hT3 rfl ?_
    refine ag_iload_n dX9_forget_11 rfl ?_
    refine ag_null dX9_forget_12 ?_
    obtain ⟨a4, hr5, h⟩ := h
    refine cr_stk (st' := [.null, .int v1, .ref a4]) (by rw [hr5]; rfl) ?_
    obtain ⟨n7, hT6, h⟩ := h
    obtain ⟨j8, hj9, h⟩ := h
    refine cr_as (ci := 3) (r := none) (nb := 5) (C2 := (csr C a4 j8 none)) dX9_forget_13 hT6 (by decide) hj9 (fun b q => nomatch q) rfl ?_
    refine ag_iinc (v2 := (v1 + 1)) (lv2 := [some (.ref t), some (.int (v1 + 1))]) dX9_forget_14 rfl rfl rfl ?_
    refine ag_goto (tgt := 2) dX9_forget_17 rfl ?_
    exact h
theorem dX9_number_0 : decode cX9_number 0 = .ok (.aload_n 0, 1) := by decide +kernel
theorem dX9_number_1 : decode cX9_number 1 = .ok (.getfield 42, 3) := by decide +kernel
theorem dX9_number_4 : decode cX9_number 4 = .ok (.getfield 142, 3) := by decide +kernel
theorem dX9_number_7 : decode cX9_number 7 = .ok (.bipush 40, 2) := by decide +kernel
theorem dX9_number_9 : decode cX9_number 9 = .ok (.if_icmp .lt 11, 3) := by decide +kernel
theorem dX9_number_12 : decode cX9_number 12 = .ok (.new 145, 3) := by decide +kernel
theorem dX9_number_15 : decode cX9_number 15 = .ok (.dup, 1) := by decide +kernel
theorem dX9_number_16 : decode cX9_number 16 = .ok (.invokespecial 147, 3) := by decide +kernel
theorem dX9_number_19 : decode cX9_number 19 = .ok (.athrow, 1) := by decide +kernel
theorem dX9_number_20 : decode cX9_number 20 = .ok (.aload_n 0, 1) := by decide +kernel
theorem dX9_number_21 : decode cX9_number 21 = .ok (.iconst (-1), 1) := by decide +kernel
theorem dX9_number_22 : decode cX9_number 22 = .ok (.putfield 65, 3) := by decide +kernel
theorem dX9_number_25 : decode cX9_number 25 = .ok (.aload_n 0, 1) := by decide +kernel
theorem dX9_number_26 : decode cX9_number 26 = .ok (.getfield 42, 3) := by decide +kernel
theorem dX9_number_29 : decode cX9_number 29 = .ok (.iload_n 1, 1) := by decide +kernel
theorem dX9_number_30 : decode cX9_number 30 = .ok (.invokevirtual 148, 3) := by decide +kernel
theorem dX9_number_33 : decode cX9_number 33 = .ok (.ireturn, 1) := by decide +kernel
set_option maxRecDepth 20000 in
set_option maxHeartbeats 4000000 in
theorem w_X9_number {c : cX} {d : Nat} {C : cS} {K : Option Value → cS → Prop} {X : String → cS → Prop} (t : Nat) (p0 : Int32) (hT0 : cT C t 9 12) (h : ∃ a1 : Nat, (cR C t 5) = some a1 ∧ (cT C a1 0 6 ∧ (((cI C a1 4) < 40 → (cM c d eX0_keepNumber (.ref a1 :: [.int p0]) (csi C t 11 (-1)) (fun v C5 => ∃ z6 : Int32, v = some (.int z6) ∧ cle (csi C t 11 (-1)) C5 ∧ (K (some (.int z6)) C5)))) ∧ (¬ (cI C a1 4) < 40 → (X "java/lang/IllegalStateException" C))))) : cG c eX9_number (d + 1) (cQx K X) 0 [some (.ref t), some (.int p0)] [] C := by
  refine ag_aload_n dX9_number_0 rfl (Or.inr ⟨_, rfl⟩) ?_
  refine cr_get (v := va_rf (cR C t 5)) dX9_number_1 fw_9_42 hT0 rfl ?_
  obtain ⟨a1, hr2, h⟩ := h
  refine cr_stk (st' := [.ref a1]) (by rw [hr2]; rfl) ?_
  obtain ⟨hT3, h⟩ := h
  refine cr_get (v := .int (cI C a1 4)) dX9_number_4 fw_9_142 hT3 rfl ?_
  refine ag_bipush (v := 40) dX9_number_7 (by decide) ?_
  refine ag_icmp_lt (tgt := 20) dX9_number_9 rfl (fun hc4 => ?_) (fun hc4 => ?_)
  · have h := h.1 hc4
    refine ag_aload_n dX9_number_20 rfl (Or.inr ⟨_, rfl⟩) ?_
    refine ag_iconst (v := (-1)) dX9_number_21 rfl ?_
    refine cr_pi (C2 := (csi C t 11 (-1))) dX9_number_22 pw_9_65 rfl hT0 (fun _ => ⟨rfl, rfl⟩) rfl ?_
    refine ag_aload_n dX9_number_25 rfl (Or.inr ⟨_, rfl⟩) ?_
    refine cr_get (v := va_rf (cR C t 5)) dX9_number_26 fw_9_42 hT0 rfl ?_
    refine ag_iload_n dX9_number_29 rfl ?_
    refine cr_stk (st' := [.int p0, .ref a1]) (by rw [hr2]; rfl) ?_
    refine cr_callV (as := [.int p0]) (rest := []) dX9_number_30 me_X0_keepNumber mi_X0_keepNumber lk_9_148 hT3 rfl rfl (Nat.le_of_ble_eq_true rfl) ?_
    refine cM.mono h ?_
    rintro v C5 ⟨z6, rfl, hL7, h⟩
    have hT8 := cT.le (C := (csi C t 11 (-1))) hT0 hL7
    have hT9 := cT.le (C := (csi C t 11 (-1))) hT3 hL7
    show cG _ _ _ _ _ _ [.int z6] _
    exact ag_ret (v := some (.int z6)) dX9_number_33 ⟨_, rfl, rfl⟩ (Or.inl ⟨_, rfl, _, rfl, h⟩) rfl
  · have h := h.2 hc4
    exact ag_throw dX9_number_12 dX9_number_15 dX9_number_16 dX9_number_19 xw_9_145 (Nat.le_of_ble_eq_true rfl) (Or.inr ⟨_, _, rfl, rfl, h⟩)
theorem dX9_pair_0 : decode cX9_pair 0 = .ok (.aload_n 0, 1) := by decide +kernel
theorem dX9_pair_1 : decode cX9_pair 1 = .ok (.getfield 42, 3) := by decide +kernel
theorem dX9_pair_4 : decode cX9_pair 4 = .ok (.iload_n 1, 1) := by decide +kernel
theorem dX9_pair_5 : decode cX9_pair 5 = .ok (.invokevirtual 151, 3) := by decide +kernel
theorem dX9_pair_8 : decode cX9_pair 8 = .ok (.ifCond .eq 14, 3) := by decide +kernel
theorem dX9_pair_11 : decode cX9_pair 11 = .ok (.aload_n 0, 1) := by decide +kernel
theorem dX9_pair_12 : decode cX9_pair 12 = .ok (.getfield 42, 3) := by decide +kernel
theorem dX9_pair_15 : decode cX9_pair 15 = .ok (.iload_n 2, 1) := by decide +kernel
theorem dX9_pair_16 : decode cX9_pair 16 = .ok (.invokevirtual 151, 3) := by decide +kernel
theorem dX9_pair_19 : decode cX9_pair 19 = .ok (.ifCond .ne 11, 3) := by decide +kernel
theorem dX9_pair_22 : decode cX9_pair 22 = .ok (.new 87, 3) := by decide +kernel
theorem dX9_pair_25 : decode cX9_pair 25 = .ok (.dup, 1) := by decide +kernel
theorem dX9_pair_26 : decode cX9_pair 26 = .ok (.invokespecial 89, 3) := by decide +kernel
theorem dX9_pair_29 : decode cX9_pair 29 = .ok (.athrow, 1) := by decide +kernel
theorem dX9_pair_30 : decode cX9_pair 30 = .ok (.aload_n 0, 1) := by decide +kernel
theorem dX9_pair_31 : decode cX9_pair 31 = .ok (.getfield 42, 3) := by decide +kernel
theorem dX9_pair_34 : decode cX9_pair 34 = .ok (.getfield 142, 3) := by decide +kernel
theorem dX9_pair_37 : decode cX9_pair 37 = .ok (.bipush 40, 2) := by decide +kernel
theorem dX9_pair_39 : decode cX9_pair 39 = .ok (.if_icmp .lt 11, 3) := by decide +kernel
theorem dX9_pair_42 : decode cX9_pair 42 = .ok (.new 145, 3) := by decide +kernel
theorem dX9_pair_45 : decode cX9_pair 45 = .ok (.dup, 1) := by decide +kernel
theorem dX9_pair_46 : decode cX9_pair 46 = .ok (.invokespecial 147, 3) := by decide +kernel
theorem dX9_pair_49 : decode cX9_pair 49 = .ok (.athrow, 1) := by decide +kernel
theorem dX9_pair_50 : decode cX9_pair 50 = .ok (.aload_n 0, 1) := by decide +kernel
theorem dX9_pair_51 : decode cX9_pair 51 = .ok (.iconst (-1), 1) := by decide +kernel
theorem dX9_pair_52 : decode cX9_pair 52 = .ok (.putfield 65, 3) := by decide +kernel
theorem dX9_pair_55 : decode cX9_pair 55 = .ok (.aload_n 0, 1) := by decide +kernel
theorem dX9_pair_56 : decode cX9_pair 56 = .ok (.getfield 42, 3) := by decide +kernel
theorem dX9_pair_59 : decode cX9_pair 59 = .ok (.iload_n 1, 1) := by decide +kernel
theorem dX9_pair_60 : decode cX9_pair 60 = .ok (.iload_n 2, 1) := by decide +kernel
theorem dX9_pair_61 : decode cX9_pair 61 = .ok (.invokevirtual 155, 3) := by decide +kernel
theorem dX9_pair_64 : decode cX9_pair 64 = .ok (.ireturn, 1) := by decide +kernel
set_option maxRecDepth 20000 in
set_option maxHeartbeats 4000000 in
theorem w_X9_pair {c : cX} {d : Nat} {C : cS} {K : Option Value → cS → Prop} {X : String → cS → Prop} (t : Nat) (p0 : Int32) (p1 : Int32) (hT0 : cT C t 9 12) (h : ∃ a1 : Nat, (cR C t 5) = some a1 ∧ (cT C a1 0 6 ∧ (cM c d eX0_isKept (.ref a1 :: [.int p0]) C (fun v C3 => ∃ z4 : Int32, v = some (.int z4) ∧ cle C C3 ∧ ((z4 = 0 → (X "java/lang/IllegalArgumentException" C3)) ∧ (¬ z4 = 0 → (∃ a10 : Nat, (cR C3 t 5) = some a10 ∧ (cT C3 a10 0 6 ∧ (cM c d eX0_isKept (.ref a10 :: [.int p1]) C3 (fun v C12 => ∃ z13 : Int32, v = some (.int z13) ∧ cle C3 C12 ∧ ((¬ z13 = 0 → (∃ a20 : Nat, (cR C12 t 5) = some a20 ∧ (cT C12 a20 0 6 ∧ (((cI C12 a20 4) < 40 → (cM c d eX0_keepPair (.ref a20 :: [.int p0, .int p1]) (csi C12 t 11 (-1)) (fun v C24 => ∃ z25 : Int32, v = some (.int z25) ∧ cle (csi C12 t 11 (-1)) C24 ∧ (K (some (.int z25)) C24)))) ∧ (¬ (cI C12 a20 4) < 40 → (X "java/lang/IllegalStateException" C12)))))) ∧ (z13 = 0 → (X "java/lang/IllegalArgumentException" C12))))))))))))) : cG c eX9_pair (d + 1) (cQx K X) 0 [some (.ref t), some (.int p0), some (.int p1)] [] C := by
  refine ag_aload_n dX9_pair_0 rfl (Or.inr ⟨_, rfl⟩) ?_
  refine cr_get (v := va_rf (cR C t 5)) dX9_pair_1 fw_9_42 hT0 rfl ?_
  refine ag_iload_n dX9_pair_4 rfl ?_
  obtain ⟨a1, hr2, h⟩ := h
  refine cr_stk (st' := [.int p0, .ref a1]) (by rw [hr2]; rfl) ?_
  obtain ⟨hT6, h⟩ := h
  refine cr_callV (as := [.int p0]) (rest := []) dX9_pair_5 me_X0_isKept mi_X0_isKept lk_9_151 hT6 rfl rfl (Nat.le_of_ble_eq_true rfl) ?_
  refine cM.mono h ?_
  rintro v C3 ⟨z4, rfl, hL5, h⟩
  have hT7 := cT.le (C := C) hT0 hL5
  have hT8 := cT.le (C := C) hT6 hL5
  show cG _ _ _ _ _ _ [.int z4] _
  refine ag_if_eq (tgt := 22) dX9_pair_8 rfl (fun hc9 => ?_) (fun hc9 => ?_)
  · have h := h.1 hc9
    exact ag_throw dX9_pair_22 dX9_pair_25 dX9_pair_26 dX9_pair_29 xw_9_87 (Nat.le_of_ble_eq_true rfl) (Or.inr ⟨_, _, rfl, rfl, h⟩)
  · have h := h.2 hc9
    refine ag_aload_n dX9_pair_11 rfl (Or.inr ⟨_, rfl⟩) ?_
    refine cr_get (v := va_rf (cR C3 t 5)) dX9_pair_12 fw_9_42 hT7 rfl ?_
    refine ag_iload_n dX9_pair_15 rfl ?_
    obtain ⟨a10, hr11, h⟩ := h
    refine cr_stk (st' := [.int p1, .ref a10]) (by rw [hr11]; rfl) ?_
    obtain ⟨hT15, h⟩ := h
    refine cr_callV (as := [.int p1]) (rest := []) dX9_pair_16 me_X0_isKept mi_X0_isKept lk_9_151 hT15 rfl rfl (Nat.le_of_ble_eq_true rfl) ?_
    refine cM.mono h ?_
    rintro v C12 ⟨z13, rfl, hL14, h⟩
    have hT16 := cT.le (C := C3) hT7 hL14
    have hT17 := cT.le (C := C3) hT8 hL14
    have hT18 := cT.le (C := C3) hT15 hL14
    show cG _ _ _ _ _ _ [.int z13] _
    refine ag_if_ne (tgt := 30) dX9_pair_19 rfl (fun hc19 => ?_) (fun hc19 => ?_)
    · have h := h.1 hc19
      refine ag_aload_n dX9_pair_30 rfl (Or.inr ⟨_, rfl⟩) ?_
      refine cr_get (v := va_rf (cR C12 t 5)) dX9_pair_31 fw_9_42 hT16 rfl ?_
      obtain ⟨a20, hr21, h⟩ := h
      refine cr_stk (st' := [.ref a20]) (by rw [hr21]; rfl) ?_
      obtain ⟨hT22, h⟩ := h
      refine cr_get (v := .int (cI C12 a20 4)) dX9_pair_34 fw_9_142 hT22 rfl ?_
      refine ag_bipush (v := 40) dX9_pair_37 (by decide) ?_
      refine ag_icmp_lt (tgt := 50) dX9_pair_39 rfl (fun hc23 => ?_) (fun hc23 => ?_)
      · have h := h.1 hc23
        refine ag_aload_n dX9_pair_50 rfl (Or.inr ⟨_, rfl⟩) ?_
        refine ag_iconst (v := (-1)) dX9_pair_51 rfl ?_
        refine cr_pi (C2 := (csi C12 t 11 (-1))) dX9_pair_52 pw_9_65 rfl hT16 (fun _ => ⟨rfl, rfl⟩) rfl ?_
        refine ag_aload_n dX9_pair_55 rfl (Or.inr ⟨_, rfl⟩) ?_
        refine cr_get (v := va_rf (cR C12 t 5)) dX9_pair_56 fw_9_42 hT16 rfl ?_
        refine ag_iload_n dX9_pair_59 rfl ?_
        refine ag_iload_n dX9_pair_60 rfl ?_
        refine cr_stk (st' := [.int p1, .int p0, .ref a20]) (by rw [hr21]; rfl) ?_
        refine cr_callV (as := [.int p0, .int p1]) (rest := []) dX9_pair_61 me_X0_keepPair mi_X0_keepPair lk_9_155 hT22 rfl rfl (Nat.le_of_ble_eq_true rfl) ?_
        refine cM.mono h ?_
        rintro v C24 ⟨z25, rfl, hL26, h⟩
        have hT27 := cT.le (C := (csi C12 t 11 (-1))) hT16 hL26
        have hT28 := cT.le (C := (csi C12 t 11 (-1))) hT17 hL26
        have hT29 := cT.le (C := (csi C12 t 11 (-1))) hT18 hL26
        have hT30 := cT.le (C := (csi C12 t 11 (-1))) hT22 hL26
        show cG _ _ _ _ _ _ [.int z25] _
        exact ag_ret (v := some (.int z25)) dX9_pair_64 ⟨_, rfl, rfl⟩ (Or.inl ⟨_, rfl, _, rfl, h⟩) rfl
      · have h := h.2 hc23
        exact ag_throw dX9_pair_42 dX9_pair_45 dX9_pair_46 dX9_pair_49 xw_9_145 (Nat.le_of_ble_eq_true rfl) (Or.inr ⟨_, _, rfl, rfl, h⟩)
    · have h := h.2 hc19
      exact ag_throw dX9_pair_22 dX9_pair_25 dX9_pair_26 dX9_pair_29 xw_9_87 (Nat.le_of_ble_eq_true rfl) (Or.inr ⟨_, _, rfl, rfl, h⟩)
theorem dX9_input_0 : decode cX9_input 0 = .ok (.iload_n 1, 1) := by decide +kernel
theorem dX9_input_1 : decode cX9_input 1 = .ok (.ifCond .lt 8, 3) := by decide +kernel
theorem dX9_input_4 : decode cX9_input 4 = .ok (.iload_n 1, 1) := by decide +kernel
theorem dX9_input_5 : decode cX9_input 5 = .ok (.iconst 2, 1) := by decide +kernel
theorem dX9_input_6 : decode cX9_input 6 = .ok (.if_icmp .lt 11, 3) := by decide +kernel
theorem dX9_input_9 : decode cX9_input 9 = .ok (.new 132, 3) := by decide +kernel
theorem dX9_input_12 : decode cX9_input 12 = .ok (.dup, 1) := by decide +kernel
theorem dX9_input_13 : decode cX9_input 13 = .ok (.invokespecial 134, 3) := by decide +kernel
theorem dX9_input_16 : decode cX9_input 16 = .ok (.athrow, 1) := by decide +kernel
theorem dX9_input_17 : decode cX9_input 17 = .ok (.aload_n 0, 1) := by decide +kernel
theorem dX9_input_18 : decode cX9_input 18 = .ok (.getfield 42, 3) := by decide +kernel
theorem dX9_input_21 : decode cX9_input 21 = .ok (.iload_n 2, 1) := by decide +kernel
theorem dX9_input_22 : decode cX9_input 22 = .ok (.invokevirtual 151, 3) := by decide +kernel
theorem dX9_input_25 : decode cX9_input 25 = .ok (.ifCond .ne 11, 3) := by decide +kernel
theorem dX9_input_28 : decode cX9_input 28 = .ok (.new 87, 3) := by decide +kernel
theorem dX9_input_31 : decode cX9_input 31 = .ok (.dup, 1) := by decide +kernel
theorem dX9_input_32 : decode cX9_input 32 = .ok (.invokespecial 89, 3) := by decide +kernel
theorem dX9_input_35 : decode cX9_input 35 = .ok (.athrow, 1) := by decide +kernel
theorem dX9_input_36 : decode cX9_input 36 = .ok (.aload_n 0, 1) := by decide +kernel
theorem dX9_input_37 : decode cX9_input 37 = .ok (.getfield 46, 3) := by decide +kernel
theorem dX9_input_40 : decode cX9_input 40 = .ok (.iload_n 1, 1) := by decide +kernel
theorem dX9_input_41 : decode cX9_input 41 = .ok (.iload_n 2, 1) := by decide +kernel
theorem dX9_input_42 : decode cX9_input 42 = .ok (.iastore, 1) := by decide +kernel
theorem dX9_input_43 : decode cX9_input 43 = .ok (.return_, 1) := by decide +kernel
set_option maxRecDepth 20000 in
set_option maxHeartbeats 4000000 in
theorem w_X9_input {c : cX} {d : Nat} {C : cS} {K : Option Value → cS → Prop} {X : String → cS → Prop} (t : Nat) (p0 : Int32) (p1 : Int32) (hT0 : cT C t 9 12) (h : (p0 < 0 → (X "java/lang/IndexOutOfBoundsException" C)) ∧ (¬ p0 < 0 → ((p0 < 2 → (∃ a3 : Nat, (cR C t 5) = some a3 ∧ (cT C a3 0 6 ∧ (cM c d eX0_isKept (.ref a3 :: [.int p1]) C (fun v C5 => ∃ z6 : Int32, v = some (.int z6) ∧ cle C C5 ∧ ((¬ z6 = 0 → (∃ a12 : Nat, (cR C5 t 6) = some a12 ∧ (∃ n15 : Nat, cT C5 a12 20 n15 ∧ (∃ j16 : Nat, am_ix p0 j16 n15 ∧ (K none (csi C5 a12 j16 p1)))))) ∧ (z6 = 0 → (X "java/lang/IllegalArgumentException" C5)))))))) ∧ (¬ p0 < 2 → (X "java/lang/IndexOutOfBoundsException" C))))) : cG c eX9_input (d + 1) (cQx K X) 0 [some (.ref t), some (.int p0), some (.int p1)] [] C := by
  refine ag_iload_n dX9_input_0 rfl ?_
  refine ag_if_lt (tgt := 9) dX9_input_1 rfl (fun hc1 => ?_) (fun hc1 => ?_)
  · have h := h.1 hc1
    exact ag_throw dX9_input_9 dX9_input_12 dX9_input_13 dX9_input_16 xw_9_132 (Nat.le_of_ble_eq_true rfl) (Or.inr ⟨_, _, rfl, rfl, h⟩)
  · have h := h.2 hc1
    refine ag_iload_n dX9_input_4 rfl ?_
    refine ag_iconst (v := 2) dX9_input_5 rfl ?_
    refine ag_icmp_lt (tgt := 17) dX9_input_6 rfl (fun hc2 => ?_) (fun hc2 => ?_)
    · have h := h.1 hc2
      refine ag_aload_n dX9_input_17 rfl (Or.inr ⟨_, rfl⟩) ?_
      refine cr_get (v := va_rf (cR C t 5)) dX9_input_18 fw_9_42 hT0 rfl ?_
      refine ag_iload_n dX9_input_21 rfl ?_
      obtain ⟨a3, hr4, h⟩ := h
      refine cr_stk (st' := [.int p1, .ref a3]) (by rw [hr4]; rfl) ?_
      obtain ⟨hT8, h⟩ := h
      refine cr_callV (as := [.int p1]) (rest := []) dX9_input_22 me_X0_isKept mi_X0_isKept lk_9_151 hT8 rfl rfl (Nat.le_of_ble_eq_true rfl) ?_
      refine cM.mono h ?_
      rintro v C5 ⟨z6, rfl, hL7, h⟩
      have hT9 := cT.le (C := C) hT0 hL7
      have hT10 := cT.le (C := C) hT8 hL7
      show cG _ _ _ _ _ _ [.int z6] _
      refine ag_if_ne (tgt := 36) dX9_input_25 rfl (fun hc11 => ?_) (fun hc11 => ?_)
      · have h := h.1 hc11
        refine ag_aload_n dX9_input_36 rfl (Or.inr ⟨_, rfl⟩) ?_
        refine cr_get (v := va_rf (cR C5 t 6)) dX9_input_37 fw_9_46 hT9 rfl ?_
        refine ag_iload_n dX9_input_40 rfl ?_
        refine ag_iload_n dX9_input_41 rfl ?_
        obtain ⟨a12, hr13, h⟩ := h
        refine cr_stk (st' := [.int p1, .int p0, .ref a12]) (by rw [hr13]; rfl) ?_
        obtain ⟨n15, hT14, h⟩ := h
        obtain ⟨j16, hj17, h⟩ := h
        refine cr_is (C2 := (csi C5 a12 j16 p1)) dX9_input_42 hT14 hj17 rfl ?_
        exact ag_ret (v := none) dX9_input_43 rfl (Or.inl ⟨_, rfl, _, rfl, h⟩) rfl
      · have h := h.2 hc11
        exact ag_throw dX9_input_28 dX9_input_31 dX9_input_32 dX9_input_35 xw_9_87 (Nat.le_of_ble_eq_true rfl) (Or.inr ⟨_, _, rfl, rfl, h⟩)
    · have h := h.2 hc2
      exact ag_throw dX9_input_9 dX9_input_12 dX9_input_13 dX9_input_16 xw_9_132 (Nat.le_of_ble_eq_true rfl) (Or.inr ⟨_, _, rfl, rfl, h⟩)
theorem dX9_clear_0 : decode cX9_clear 0 = .ok (.aload_n 0, 1) := by decide +kernel
theorem dX9_clear_1 : decode cX9_clear 1 = .ok (.getfield 42, 3) := by decide +kernel
theorem dX9_clear_4 : decode cX9_clear 4 = .ok (.invokevirtual 159, 3) := by decide +kernel
theorem dX9_clear_7 : decode cX9_clear 7 = .ok (.aload_n 0, 1) := by decide +kernel
theorem dX9_clear_8 : decode cX9_clear 8 = .ok (.getfield 46, 3) := by decide +kernel
theorem dX9_clear_11 : decode cX9_clear 11 = .ok (.iconst 0, 1) := by decide +kernel
theorem dX9_clear_12 : decode cX9_clear 12 = .ok (.iconst 2, 1) := by decide +kernel
theorem dX9_clear_13 : decode cX9_clear 13 = .ok (.iastore, 1) := by decide +kernel
theorem dX9_clear_14 : decode cX9_clear 14 = .ok (.aload_n 0, 1) := by decide +kernel
theorem dX9_clear_15 : decode cX9_clear 15 = .ok (.getfield 46, 3) := by decide +kernel
theorem dX9_clear_18 : decode cX9_clear 18 = .ok (.iconst 1, 1) := by decide +kernel
theorem dX9_clear_19 : decode cX9_clear 19 = .ok (.iconst 2, 1) := by decide +kernel
theorem dX9_clear_20 : decode cX9_clear 20 = .ok (.iastore, 1) := by decide +kernel
theorem dX9_clear_21 : decode cX9_clear 21 = .ok (.aload_n 0, 1) := by decide +kernel
theorem dX9_clear_22 : decode cX9_clear 22 = .ok (.iconst (-1), 1) := by decide +kernel
theorem dX9_clear_23 : decode cX9_clear 23 = .ok (.putfield 65, 3) := by decide +kernel
theorem dX9_clear_26 : decode cX9_clear 26 = .ok (.return_, 1) := by decide +kernel
set_option maxRecDepth 20000 in
set_option maxHeartbeats 4000000 in
theorem w_X9_clear {c : cX} {d : Nat} {C : cS} {K : Option Value → cS → Prop} (t : Nat) (h : cT C t 9 12 ∧ (∃ a2 : Nat, (cR C t 5) = some a2 ∧ (cT C a2 0 6 ∧ (cM c d eX0_dropAll (.ref a2 :: []) C (fun v C4 => v = none ∧ cle C C4 ∧ (∃ a10 : Nat, (cR C4 t 6) = some a10 ∧ (∃ n13 : Nat, cT C4 a10 20 n13 ∧ (∃ j14 : Nat, am_ix 0 j14 n13 ∧ (∃ j16 : Nat, am_ix 1 j16 n13 ∧ (K none (csi (csi (csi C4 a10 j14 2) a10 j16 2) t 11 (-1)))))))))))) : cM c (d + 1) eX9_clear [.ref t] C K := by
  refine cM.of2 (lv := [some (.ref t)]) (by decide) (Nat.le_of_ble_eq_true rfl) rfl ?_
  refine ag_aload_n dX9_clear_0 rfl (Or.inr ⟨_, rfl⟩) ?_
  obtain ⟨hT1, h⟩ := h
  refine cr_get (v := va_rf (cR C t 5)) dX9_clear_1 fw_9_42 hT1 rfl ?_
  obtain ⟨a2, hr3, h⟩ := h
  refine cr_stk (st' := [.ref a2]) (by rw [hr3]; rfl) ?_
  obtain ⟨hT7, h⟩ := h
  refine cr_callV (as := []) (rest := []) dX9_clear_4 me_X0_dropAll mi_X0_dropAll lk_9_159 hT7 rfl rfl (Nat.le_of_ble_eq_true rfl) ?_
  refine cM.mono h ?_
  rintro v C4 ⟨rfl, hL6, h⟩
  have hT8 := cT.le (C := C) hT1 hL6
  have hT9 := cT.le (C := C) hT7 hL6
  show cG _ _ _ _ _ _ [] _
  refine ag_aload_n dX9_clear_7 rfl (Or.inr ⟨_, rfl⟩) ?_
  refine cr_get (v := va_rf (cR C4 t 6)) dX9_clear_8 fw_9_46 hT8 rfl ?_
  refine ag_iconst (v := 0) dX9_clear_11 rfl ?_
  refine ag_iconst (v := 2) dX9_clear_12 rfl ?_
  obtain ⟨a10, hr11, h⟩ := h
  refine cr_stk (st' := [.int 2, .int 0, .ref a10]) (by rw [hr11]; rfl) ?_
  obtain ⟨n13, hT12, h⟩ := h
  obtain ⟨j14, hj15, h⟩ := h
  refine cr_is (C2 := (csi C4 a10 j14 2)) dX9_clear_13 hT12 hj15 rfl ?_
  refine ag_aload_n dX9_clear_14 rfl (Or.inr ⟨_, rfl⟩) ?_
  refine cr_get (v := va_rf (cR C4 t 6)) dX9_clear_15 fw_9_46 hT8 rfl ?_
  refine ag_iconst (v := 1) dX9_clear_18 rfl ?_
  refine ag_iconst (v := 2) dX9_clear_19 rfl ?_
  refine cr_stk (st' := [.int 2, .int 1, .ref a10]) (by rw [hr11]; rfl) ?_
  obtain ⟨j16, hj17, h⟩ := h
  refine cr_is (C2 := (csi (csi C4 a10 j14 2) a10 j16 2)) dX9_clear_20 hT12 hj17 rfl ?_
  refine ag_aload_n dX9_clear_21 rfl (Or.inr ⟨_, rfl⟩) ?_
  refine ag_iconst (v := (-1)) dX9_clear_22 rfl ?_
  refine cr_pi (C2 := (csi (csi (csi C4 a10 j14 2) a10 j16 2) t 11 (-1))) dX9_clear_23 pw_9_65 rfl hT8 (fun _ => ⟨rfl, rfl⟩) rfl ?_
  exact ag_ret (v := none) dX9_clear_26 rfl ⟨_, rfl, _, rfl, h⟩ rfl
theorem dX9_run_0 : decode cX9_run 0 = .ok (.aload_n 0, 1) := by decide +kernel
theorem dX9_run_1 : decode cX9_run 1 = .ok (.getfield 50, 3) := by decide +kernel
theorem dX9_run_4 : decode cX9_run 4 = .ok (.ifnonnull 11, 3) := by decide +kernel
theorem dX9_run_7 : decode cX9_run 7 = .ok (.new 129, 3) := by decide +kernel
theorem dX9_run_10 : decode cX9_run 10 = .ok (.dup, 1) := by decide +kernel
theorem dX9_run_11 : decode cX9_run 11 = .ok (.invokespecial 131, 3) := by decide +kernel
theorem dX9_run_14 : decode cX9_run 14 = .ok (.athrow, 1) := by decide +kernel
theorem dX9_run_15 : decode cX9_run 15 = .ok (.iload_n 1, 1) := by decide +kernel
theorem dX9_run_16 : decode cX9_run 16 = .ok (.ifCond .lt 10, 3) := by decide +kernel
theorem dX9_run_19 : decode cX9_run 19 = .ok (.iload_n 1, 1) := by decide +kernel
theorem dX9_run_20 : decode cX9_run 20 = .ok (.sipush 1000, 3) := by decide +kernel
theorem dX9_run_23 : decode cX9_run 23 = .ok (.if_icmp .le 11, 3) := by decide +kernel
theorem dX9_run_26 : decode cX9_run 26 = .ok (.new 87, 3) := by decide +kernel
theorem dX9_run_29 : decode cX9_run 29 = .ok (.dup, 1) := by decide +kernel
theorem dX9_run_30 : decode cX9_run 30 = .ok (.invokespecial 89, 3) := by decide +kernel
theorem dX9_run_33 : decode cX9_run 33 = .ok (.athrow, 1) := by decide +kernel
theorem dX9_run_34 : decode cX9_run 34 = .ok (.aload_n 0, 1) := by decide +kernel
theorem dX9_run_35 : decode cX9_run 35 = .ok (.getfield 42, 3) := by decide +kernel
theorem dX9_run_38 : decode cX9_run 38 = .ok (.invokevirtual 162, 3) := by decide +kernel
theorem dX9_run_41 : decode cX9_run 41 = .ok (.new 165, 3) := by decide +kernel
theorem dX9_run_44 : decode cX9_run 44 = .ok (.dup, 1) := by decide +kernel
theorem dX9_run_45 : decode cX9_run 45 = .ok (.aload_n 0, 1) := by decide +kernel
theorem dX9_run_46 : decode cX9_run 46 = .ok (.getfield 42, 3) := by decide +kernel
theorem dX9_run_49 : decode cX9_run 49 = .ok (.aload_n 0, 1) := by decide +kernel
theorem dX9_run_50 : decode cX9_run 50 = .ok (.getfield 18, 3) := by decide +kernel
theorem dX9_run_53 : decode cX9_run 53 = .ok (.iload_n 1, 1) := by decide +kernel
theorem dX9_run_54 : decode cX9_run 54 = .ok (.invokespecial 167, 3) := by decide +kernel
theorem dX9_run_57 : decode cX9_run 57 = .ok (.astore_n 2, 1) := by decide +kernel
theorem dX9_run_58 : decode cX9_run 58 = .ok (.aload_n 0, 1) := by decide +kernel
theorem dX9_run_59 : decode cX9_run 59 = .ok (.aload_n 2, 1) := by decide +kernel
theorem dX9_run_60 : decode cX9_run 60 = .ok (.aload_n 0, 1) := by decide +kernel
theorem dX9_run_61 : decode cX9_run 61 = .ok (.getfield 50, 3) := by decide +kernel
theorem dX9_run_64 : decode cX9_run 64 = .ok (.aload_n 0, 1) := by decide +kernel
theorem dX9_run_65 : decode cX9_run 65 = .ok (.getfield 46, 3) := by decide +kernel
theorem dX9_run_68 : decode cX9_run 68 = .ok (.iconst 0, 1) := by decide +kernel
theorem dX9_run_69 : decode cX9_run 69 = .ok (.iaload, 1) := by decide +kernel
theorem dX9_run_70 : decode cX9_run 70 = .ok (.aload_n 0, 1) := by decide +kernel
theorem dX9_run_71 : decode cX9_run 71 = .ok (.getfield 46, 3) := by decide +kernel
theorem dX9_run_74 : decode cX9_run 74 = .ok (.iconst 1, 1) := by decide +kernel
theorem dX9_run_75 : decode cX9_run 75 = .ok (.iaload, 1) := by decide +kernel
theorem dX9_run_76 : decode cX9_run 76 = .ok (.invokevirtual 170, 3) := by decide +kernel
theorem dX9_run_79 : decode cX9_run 79 = .ok (.putfield 65, 3) := by decide +kernel
theorem dX9_run_82 : decode cX9_run 82 = .ok (.aload_n 0, 1) := by decide +kernel
theorem dX9_run_83 : decode cX9_run 83 = .ok (.aload_n 2, 1) := by decide +kernel
theorem dX9_run_84 : decode cX9_run 84 = .ok (.getfield 174, 3) := by decide +kernel
theorem dX9_run_87 : decode cX9_run 87 = .ok (.putfield 62, 3) := by decide +kernel
theorem dX9_run_90 : decode cX9_run 90 = .ok (.aload_n 2, 1) := by decide +kernel
theorem dX9_run_91 : decode cX9_run 91 = .ok (.getfield 177, 3) := by decide +kernel
theorem dX9_run_94 : decode cX9_run 94 = .ok (.ireturn, 1) := by decide +kernel
set_option maxRecDepth 20000 in
set_option maxHeartbeats 4000000 in
theorem w_X9_run {c : cX} {d : Nat} {C : cS} {K : Option Value → cS → Prop} {X : String → cS → Prop} (t : Nat) (p0 : Int32) (hT0 : cT C t 9 12) (h : ((cR C t 7) = none → (X "java/util/NoSuchElementException" C)) ∧ (∀ a2 : Nat, (cR C t 7) = some a2 → ((p0 < 0 → (X "java/lang/IllegalArgumentException" C)) ∧ (¬ p0 < 0 → ((p0 ≤ 1000 → (∃ a5 : Nat, (cR C t 5) = some a5 ∧ (cT C a5 0 6 ∧ (cM c d eX0_dropUnkept (.ref a5 :: []) C (fun v C7 => v = none ∧ cle C C7 ∧ (cM c d eX4_init (.ref C7.1 :: [va_rf (cR (cnw C7 4 6) t 5), va_rf (cR (cnw C7 4 6) t 1), .int p0]) (cnw C7 4 6) (fun v C16 => v = none ∧ cle (cnw C7 4 6) C16 ∧ (∃ a22 : Nat, (cR C16 t 6) = some a22 ∧ (∃ n25 : Nat, cT C16 a22 20 n25 ∧ (∃ j26 : Nat, am_ix 0 j26 n25 ∧ (∃ j28 : Nat, am_ix 1 j28 n25 ∧ (cM c d eX4_evaluateAll (.ref C7.1 :: [va_rf (cR C16 t 7), .int (cI C16 a22 j26), .int (cI C16 a22 j28)]) C16 (fun v C30 => ∃ z31 : Int32, v = some (.int z31) ∧ cle C16 C30 ∧ (K (some (.int (cI C30 C7.1 5))) (csi (csi C30 t 11 z31) t 10 (cI C30 C7.1 4)))))))))))))))) ∧ (¬ p0 ≤ 1000 → (X "java/lang/IllegalArgumentException" C))))))) : cG c eX9_run (d + 1) (cQx K X) 0 [some (.ref t), some (.int p0), none] [] C := by
  refine ag_aload_n dX9_run_0 rfl (Or.inr ⟨_, rfl⟩) ?_
  refine cr_get (v := va_rf (cR C t 7)) dX9_run_1 fw_9_50 hT0 rfl ?_
  refine cr_ifnonnull (tgt := 15) dX9_run_4 rfl (fun a2 hr1 => ?_) (fun hr1 => ?_)
  · have h := h.2 a2 hr1
    refine ag_iload_n dX9_run_15 rfl ?_
    refine ag_if_lt (tgt := 26) dX9_run_16 rfl (fun hc3 => ?_) (fun hc3 => ?_)
    · have h := h.1 hc3
      exact ag_throw dX9_run_26 dX9_run_29 dX9_run_30 dX9_run_33 xw_9_87 (Nat.le_of_ble_eq_true rfl) (Or.inr ⟨_, _, rfl, rfl, h⟩)
    · have h := h.2 hc3
      refine ag_iload_n dX9_run_19 rfl ?_
      refine ag_sipush (v := 1000) dX9_run_20 (by decide) ?_
      refine ag_icmp_le (tgt := 34) dX9_run_23 rfl (fun hc4 => ?_) (fun hc4 => ?_)
      · have h := h.1 hc4
        refine ag_aload_n dX9_run_34 rfl (Or.inr ⟨_, rfl⟩) ?_
        refine cr_get (v := va_rf (cR C t 5)) dX9_run_35 fw_9_42 hT0 rfl ?_
        obtain ⟨a5, hr6, h⟩ := h
        refine cr_stk (st' := [.ref a5]) (by rw [hr6]; rfl) ?_
        obtain ⟨hT10, h⟩ := h
        refine cr_callV (as := []) (rest := []) dX9_run_38 me_X0_dropUnkept mi_X0_dropUnkept lk_9_162 hT10 rfl rfl (Nat.le_of_ble_eq_true rfl) ?_
        refine cM.mono h ?_
        rintro v C7 ⟨rfl, hL9, h⟩
        have hT11 := cT.le (C := C) hT0 hL9
        have hT12 := cT.le (C := C) hT10 hL9
        show cG _ _ _ _ _ _ [] _
        refine cr_new (C2 := (cnw C7 4 6)) dX9_run_41 nw_9_165 nf_4 rfl ?_
        have hT13 := cT_nw (C := C7) (t := 4) (n := 6) hT11
        have hT14 := cT.le (C := C7) hT11 (cle_nw C7 4 6)
        have hT15 := cT.le (C := C7) hT12 (cle_nw C7 4 6)
        refine ag_dup dX9_run_44 rfl ?_
        refine ag_aload_n dX9_run_45 rfl (Or.inr ⟨_, rfl⟩) ?_
        refine cr_get (v := va_rf (cR (cnw C7 4 6) t 5)) dX9_run_46 fw_9_42 hT14 rfl ?_
        refine ag_aload_n dX9_run_49 rfl (Or.inr ⟨_, rfl⟩) ?_
        refine cr_get (v := va_rf (cR (cnw C7 4 6) t 1)) dX9_run_50 fw_9_18 hT14 rfl ?_
        refine ag_iload_n dX9_run_53 rfl ?_
        refine cr_callI (as := [va_rf (cR (cnw C7 4 6) t 5), va_rf (cR (cnw C7 4 6) t 1), .int p0]) (rest := [.ref C7.1]) dX9_run_54 me_X4_init mn_X4_init lk_9_167 rfl rfl (Nat.le_of_ble_eq_true rfl) ?_
        refine cM.mono h ?_
        rintro v C16 ⟨rfl, hL18, h⟩
        have hT19 := cT.le (C := (cnw C7 4 6)) hT14 hL18
        have hT20 := cT.le (C := (cnw C7 4 6)) hT15 hL18
        have hT21 := cT.le (C := (cnw C7 4 6)) hT13 hL18
        show cG _ _ _ _ _ _ [.ref C7.1] _
        refine ag_astore_n (lv2 := [some (.ref t), some (.int p0), some (.ref C7.1)]) dX9_run_57 (Nat.le_of_ble_eq_true rfl) rfl (Or.inr ⟨_, rfl⟩) ?_
        refine ag_aload_n dX9_run_58 rfl (Or.inr ⟨_, rfl⟩) ?_
        refine ag_aload_n dX9_run_59 rfl (Or.inr ⟨_, rfl⟩) ?_
        refine ag_aload_n dX9_run_60 rfl (Or.inr ⟨_, rfl⟩) ?_
        refine cr_get (v := va_rf (cR C16 t 7)) dX9_run_61 fw_9_50 hT19 rfl ?_
        refine ag_aload_n dX9_run_64 rfl (Or.inr ⟨_, rfl⟩) ?_
        refine cr_get (v := va_rf (cR C16 t 6)) dX9_run_65 fw_9_46 hT19 rfl ?_
        refine ag_iconst (v := 0) dX9_run_68 rfl ?_
        obtain ⟨a22, hr23, h⟩ := h
        refine cr_stk (st' := [.int 0, .ref a22, va_rf (cR C16 t 7), .ref C7.1, .ref t]) (by rw [hr23]; rfl) ?_
        obtain ⟨n25, hT24, h⟩ := h
        obtain ⟨j26, hj27, h⟩ := h
        refine cr_il (v := (cI C16 a22 j26)) dX9_run_69 hT24 hj27 rfl ?_
        refine ag_aload_n dX9_run_70 rfl (Or.inr ⟨_, rfl⟩) ?_
        refine cr_get (v := va_rf (cR C16 t 6)) dX9_run_71 fw_9_46 hT19 rfl ?_
        refine ag_iconst (v := 1) dX9_run_74 rfl ?_
        refine cr_stk (st' := [.int 1, .ref a22, .int (cI C16 a22 j26), va_rf (cR C16 t 7), .ref C7.1, .ref t]) (by rw [hr23]; rfl) ?_
        obtain ⟨j28, hj29, h⟩ := h
        refine cr_il (v := (cI C16 a22 j28)) dX9_run_75 hT24 hj29 rfl ?_
        refine cr_callV (as := [va_rf (cR C16 t 7), .int (cI C16 a22 j26), .int (cI C16 a22 j28)]) (rest := [.ref t]) dX9_run_76 me_X4_evaluateAll mi_X4_evaluateAll lk_9_170 hT21 rfl rfl (Nat.le_of_ble_eq_true rfl) ?_
        refine cM.mono h ?_
        rintro v C30 ⟨z31, rfl, hL32, h⟩
        have hT33 := cT.le (C := C16) hT19 hL32
        have hT34 := cT.le (C := C16) hT20 hL32
        have hT35 := cT.le (C := C16) hT21 hL32
        have hT36 := cT.le (C := C16) hT24 hL32
        show cG _ _ _ _ _ _ [.int z31, .ref t] _
        refine cr_pi (C2 := (csi C30 t 11 z31)) dX9_run_79 pw_9_65 rfl hT33 (fun _ => ⟨rfl, rfl⟩) rfl ?_
        refine ag_aload_n dX9_run_82 rfl (Or.inr ⟨_, rfl⟩) ?_
        refine ag_aload_n dX9_run_83 rfl (Or.inr ⟨_, rfl⟩) ?_
        refine cr_get (v := .int (cI C30 C7.1 4)) dX9_run_84 fw_9_174 hT35 rfl ?_
        refine cr_pi (C2 := (csi (csi C30 t 11 z31) t 10 (cI C30 C7.1 4))) dX9_run_87 pw_9_62 rfl hT33 (fun _ => ⟨rfl, rfl⟩) rfl ?_
        refine ag_aload_n dX9_run_90 rfl (Or.inr ⟨_, rfl⟩) ?_
        refine cr_get (v := .int (cI C30 C7.1 5)) dX9_run_91 fw_9_177 hT35 rfl ?_
        exact ag_ret (v := some (.int (cI C30 C7.1 5))) dX9_run_94 ⟨_, rfl, rfl⟩ (Or.inl ⟨_, rfl, _, rfl, h⟩) rfl
      · have h := h.2 hc4
        exact ag_throw dX9_run_26 dX9_run_29 dX9_run_30 dX9_run_33 xw_9_87 (Nat.le_of_ble_eq_true rfl) (Or.inr ⟨_, _, rfl, rfl, h⟩)
  · have h := h.1 hr1
    exact ag_throw dX9_run_7 dX9_run_10 dX9_run_11 dX9_run_14 xw_9_129 (Nat.le_of_ble_eq_true rfl) (Or.inr ⟨_, _, rfl, rfl, h⟩)
theorem dX9_steps_0 : decode cX9_steps 0 = .ok (.aload_n 0, 1) := by decide +kernel
theorem dX9_steps_1 : decode cX9_steps 1 = .ok (.getfield 62, 3) := by decide +kernel
theorem dX9_steps_4 : decode cX9_steps 4 = .ok (.ireturn, 1) := by decide +kernel
set_option maxRecDepth 20000 in
set_option maxHeartbeats 4000000 in
theorem w_X9_steps {c : cX} {d : Nat} {C : cS} {K : Option Value → cS → Prop} (t : Nat) (h : cT C t 9 12 ∧ (K (some (.int (cI C t 10))) C)) : cM c d eX9_steps [.ref t] C K := by
  refine cM.of2 (lv := [some (.ref t)]) (by decide) (Nat.le_of_ble_eq_true rfl) rfl ?_
  refine ag_aload_n dX9_steps_0 rfl (Or.inr ⟨_, rfl⟩) ?_
  obtain ⟨hT1, h⟩ := h
  refine cr_get (v := .int (cI C t 10)) dX9_steps_1 fw_9_62 hT1 rfl ?_
  exact ag_ret (v := some (.int (cI C t 10))) dX9_steps_4 ⟨_, rfl, rfl⟩ ⟨_, rfl, _, rfl, h⟩ rfl
theorem dX9_result_0 : decode cX9_result 0 = .ok (.aload_n 0, 1) := by decide +kernel
theorem dX9_result_1 : decode cX9_result 1 = .ok (.getfield 65, 3) := by decide +kernel
theorem dX9_result_4 : decode cX9_result 4 = .ok (.ireturn, 1) := by decide +kernel
set_option maxRecDepth 20000 in
set_option maxHeartbeats 4000000 in
theorem w_X9_result {c : cX} {d : Nat} {C : cS} {K : Option Value → cS → Prop} (t : Nat) (h : cT C t 9 12 ∧ (K (some (.int (cI C t 11))) C)) : cM c d eX9_result [.ref t] C K := by
  refine cM.of2 (lv := [some (.ref t)]) (by decide) (Nat.le_of_ble_eq_true rfl) rfl ?_
  refine ag_aload_n dX9_result_0 rfl (Or.inr ⟨_, rfl⟩) ?_
  obtain ⟨hT1, h⟩ := h
  refine cr_get (v := .int (cI C t 11)) dX9_result_1 fw_9_65 hT1 rfl ?_
  exact ag_ret (v := some (.int (cI C t 11))) dX9_result_4 ⟨_, rfl, rfl⟩ ⟨_, rfl, _, rfl, h⟩ rfl
theorem dX9_count_0 : decode cX9_count 0 = .ok (.aload_n 0, 1) := by decide +kernel
theorem dX9_count_1 : decode cX9_count 1 = .ok (.getfield 42, 3) := by decide +kernel
theorem dX9_count_4 : decode cX9_count 4 = .ok (.getfield 180, 3) := by decide +kernel
theorem dX9_count_7 : decode cX9_count 7 = .ok (.ireturn, 1) := by decide +kernel
set_option maxRecDepth 20000 in
set_option maxHeartbeats 4000000 in
theorem w_X9_count {c : cX} {d : Nat} {C : cS} {K : Option Value → cS → Prop} (t : Nat) (h : cT C t 9 12 ∧ (∃ a2 : Nat, (cR C t 5) = some a2 ∧ (cT C a2 0 6 ∧ (K (some (.int (cI C a2 5))) C)))) : cM c d eX9_count [.ref t] C K := by
  refine cM.of2 (lv := [some (.ref t)]) (by decide) (Nat.le_of_ble_eq_true rfl) rfl ?_
  refine ag_aload_n dX9_count_0 rfl (Or.inr ⟨_, rfl⟩) ?_
  obtain ⟨hT1, h⟩ := h
  refine cr_get (v := va_rf (cR C t 5)) dX9_count_1 fw_9_42 hT1 rfl ?_
  obtain ⟨a2, hr3, h⟩ := h
  refine cr_stk (st' := [.ref a2]) (by rw [hr3]; rfl) ?_
  obtain ⟨hT4, h⟩ := h
  refine cr_get (v := .int (cI C a2 5)) dX9_count_4 fw_9_180 hT4 rfl ?_
  exact ag_ret (v := some (.int (cI C a2 5))) dX9_count_7 ⟨_, rfl, rfl⟩ ⟨_, rfl, _, rfl, h⟩ rfl
theorem dX9_cell_0 : decode cX9_cell 0 = .ok (.iload_n 1, 1) := by decide +kernel
theorem dX9_cell_1 : decode cX9_cell 1 = .ok (.ifCond .lt 14, 3) := by decide +kernel
theorem dX9_cell_4 : decode cX9_cell 4 = .ok (.iload_n 1, 1) := by decide +kernel
theorem dX9_cell_5 : decode cX9_cell 5 = .ok (.aload_n 0, 1) := by decide +kernel
theorem dX9_cell_6 : decode cX9_cell 6 = .ok (.getfield 42, 3) := by decide +kernel
theorem dX9_cell_9 : decode cX9_cell 9 = .ok (.getfield 180, 3) := by decide +kernel
theorem dX9_cell_12 : decode cX9_cell 12 = .ok (.if_icmp .lt 11, 3) := by decide +kernel
theorem dX9_cell_15 : decode cX9_cell 15 = .ok (.new 132, 3) := by decide +kernel
theorem dX9_cell_18 : decode cX9_cell 18 = .ok (.dup, 1) := by decide +kernel
theorem dX9_cell_19 : decode cX9_cell 19 = .ok (.invokespecial 134, 3) := by decide +kernel
theorem dX9_cell_22 : decode cX9_cell 22 = .ok (.athrow, 1) := by decide +kernel
theorem dX9_cell_23 : decode cX9_cell 23 = .ok (.iload_n 2, 1) := by decide +kernel
theorem dX9_cell_24 : decode cX9_cell 24 = .ok (.ifCond .lt 8, 3) := by decide +kernel
theorem dX9_cell_27 : decode cX9_cell 27 = .ok (.iload_n 2, 1) := by decide +kernel
theorem dX9_cell_28 : decode cX9_cell 28 = .ok (.iconst 3, 1) := by decide +kernel
theorem dX9_cell_29 : decode cX9_cell 29 = .ok (.if_icmp .le 11, 3) := by decide +kernel
theorem dX9_cell_32 : decode cX9_cell 32 = .ok (.new 87, 3) := by decide +kernel
theorem dX9_cell_35 : decode cX9_cell 35 = .ok (.dup, 1) := by decide +kernel
theorem dX9_cell_36 : decode cX9_cell 36 = .ok (.invokespecial 89, 3) := by decide +kernel
theorem dX9_cell_39 : decode cX9_cell 39 = .ok (.athrow, 1) := by decide +kernel
theorem dX9_cell_40 : decode cX9_cell 40 = .ok (.aload_n 0, 1) := by decide +kernel
theorem dX9_cell_41 : decode cX9_cell 41 = .ok (.getfield 42, 3) := by decide +kernel
theorem dX9_cell_44 : decode cX9_cell 44 = .ok (.iload_n 1, 1) := by decide +kernel
theorem dX9_cell_45 : decode cX9_cell 45 = .ok (.iload_n 2, 1) := by decide +kernel
theorem dX9_cell_46 : decode cX9_cell 46 = .ok (.invokevirtual 183, 3) := by decide +kernel
theorem dX9_cell_49 : decode cX9_cell 49 = .ok (.ireturn, 1) := by decide +kernel
set_option maxRecDepth 20000 in
set_option maxHeartbeats 4000000 in
theorem w_X9_cell {c : cX} {d : Nat} {C : cS} {K : Option Value → cS → Prop} {X : String → cS → Prop} (t : Nat) (p0 : Int32) (p1 : Int32) (hT0 : cT C t 9 12) (h : (p0 < 0 → (X "java/lang/IndexOutOfBoundsException" C)) ∧ (¬ p0 < 0 → (∃ a2 : Nat, (cR C t 5) = some a2 ∧ (cT C a2 0 6 ∧ ((p0 < (cI C a2 5) → ((p1 < 0 → (X "java/lang/IllegalArgumentException" C)) ∧ (¬ p1 < 0 → ((p1 ≤ 3 → (cM c d eX0_part (.ref a2 :: [.int p0, .int p1]) C (fun v C8 => ∃ z9 : Int32, v = some (.int z9) ∧ cle C C8 ∧ (K (some (.int z9)) C8)))) ∧ (¬ p1 ≤ 3 → (X "java/lang/IllegalArgumentException" C)))))) ∧ (¬ p0 < (cI C a2 5) → (X "java/lang/IndexOutOfBoundsException" C))))))) : cG c eX9_cell (d + 1) (cQx K X) 0 [some (.ref t), some (.int p0), some (.int p1)] [] C := by
  refine ag_iload_n dX9_cell_0 rfl ?_
  refine ag_if_lt (tgt := 15) dX9_cell_1 rfl (fun hc1 => ?_) (fun hc1 => ?_)
  · have h := h.1 hc1
    exact ag_throw dX9_cell_15 dX9_cell_18 dX9_cell_19 dX9_cell_22 xw_9_132 (Nat.le_of_ble_eq_true rfl) (Or.inr ⟨_, _, rfl, rfl, h⟩)
  · have h := h.2 hc1
    refine ag_iload_n dX9_cell_4 rfl ?_
    refine ag_aload_n dX9_cell_5 rfl (Or.inr ⟨_, rfl⟩) ?_
    refine cr_get (v := va_rf (cR C t 5)) dX9_cell_6 fw_9_42 hT0 rfl ?_
    obtain ⟨a2, hr3, h⟩ := h
    refine cr_stk (st' := [.ref a2, .int p0]) (by rw [hr3]; rfl) ?_
    obtain ⟨hT4, h⟩ := h
    refine cr_get (v := .int (cI C a2 5)) dX9_cell_9 fw_9_180 hT4 rfl ?_
    refine ag_icmp_lt (tgt := 23) dX9_cell_12 rfl (fun hc5 => ?_) (fun hc5 => ?_)
    · have h := h.1 hc5
      refine ag_iload_n dX9_cell_23 rfl ?_
      refine ag_if_lt (tgt := 32) dX9_cell_24 rfl (fun hc6 => ?_) (fun hc6 => ?_)
      · have h := h.1 hc6
        exact ag_throw dX9_cell_32 dX9_cell_35 dX9_cell_36 dX9_cell_39 xw_9_87 (Nat.le_of_ble_eq_true rfl) (Or.inr ⟨_, _, rfl, rfl, h⟩)
      · have h := h.2 hc6
        refine ag_iload_n dX9_cell_27 rfl ?_
        refine ag_iconst (v := 3) dX9_cell_28 rfl ?_
        refine ag_icmp_le (tgt := 40) dX9_cell_29 rfl (fun hc7 => ?_) (fun hc7 => ?_)
        · have h := h.1 hc7
          refine ag_aload_n dX9_cell_40 rfl (Or.inr ⟨_, rfl⟩) ?_
          refine cr_get (v := va_rf (cR C t 5)) dX9_cell_41 fw_9_42 hT0 rfl ?_
          refine ag_iload_n dX9_cell_44 rfl ?_
          refine ag_iload_n dX9_cell_45 rfl ?_
          refine cr_stk (st' := [.int p1, .int p0, .ref a2]) (by rw [hr3]; rfl) ?_
          refine cr_callV (as := [.int p0, .int p1]) (rest := []) dX9_cell_46 me_X0_part mi_X0_part lk_9_183 hT4 rfl rfl (Nat.le_of_ble_eq_true rfl) ?_
          refine cM.mono h ?_
          rintro v C8 ⟨z9, rfl, hL10, h⟩
          have hT11 := cT.le (C := C) hT0 hL10
          have hT12 := cT.le (C := C) hT4 hL10
          show cG _ _ _ _ _ _ [.int z9] _
          exact ag_ret (v := some (.int z9)) dX9_cell_49 ⟨_, rfl, rfl⟩ (Or.inl ⟨_, rfl, _, rfl, h⟩) rfl
        · have h := h.2 hc7
          exact ag_throw dX9_cell_32 dX9_cell_35 dX9_cell_36 dX9_cell_39 xw_9_87 (Nat.le_of_ble_eq_true rfl) (Or.inr ⟨_, _, rfl, rfl, h⟩)
    · have h := h.2 hc5
      exact ag_throw dX9_cell_15 dX9_cell_18 dX9_cell_19 dX9_cell_22 xw_9_132 (Nat.le_of_ble_eq_true rfl) (Or.inr ⟨_, _, rfl, rfl, h⟩)
theorem dX9_keepFunction_0 : decode cX9_keepFunction 0 = .ok (.iload_n 1, 1) := by decide +kernel
theorem dX9_keepFunction_1 : decode cX9_keepFunction 1 = .ok (.ifCond .lt 15, 3) := by decide +kernel
theorem dX9_keepFunction_4 : decode cX9_keepFunction 4 = .ok (.iload_n 1, 1) := by decide +kernel
theorem dX9_keepFunction_5 : decode cX9_keepFunction 5 = .ok (.iconst 3, 1) := by decide +kernel
theorem dX9_keepFunction_6 : decode cX9_keepFunction 6 = .ok (.if_icmp .ge 10, 3) := by decide +kernel
theorem dX9_keepFunction_9 : decode cX9_keepFunction 9 = .ok (.aload_n 0, 1) := by decide +kernel
theorem dX9_keepFunction_10 : decode cX9_keepFunction 10 = .ok (.getfield 18, 3) := by decide +kernel
theorem dX9_keepFunction_13 : decode cX9_keepFunction 13 = .ok (.iload_n 1, 1) := by decide +kernel
theorem dX9_keepFunction_14 : decode cX9_keepFunction 14 = .ok (.aload_n 2, 1) := by decide +kernel
theorem dX9_keepFunction_15 : decode cX9_keepFunction 15 = .ok (.aastore, 1) := by decide +kernel
theorem dX9_keepFunction_16 : decode cX9_keepFunction 16 = .ok (.return_, 1) := by decide +kernel
set_option maxRecDepth 20000 in
set_option maxHeartbeats 4000000 in
theorem w_X9_keepFunction {c : cX} {d : Nat} {C : cS} {K : Option Value → cS → Prop} (t : Nat) (p0 : Int32) (p1 : Option Nat) (h : (p0 < 0 → (K none C)) ∧ (¬ p0 < 0 → ((3 ≤ p0 → (K none C)) ∧ (¬ 3 ≤ p0 → (cT C t 9 12 ∧ (∃ a4 : Nat, (cR C t 1) = some a4 ∧ (∃ n7 : Nat, cT C a4 26 n7 ∧ (∃ j8 : Nat, am_ix p0 j8 n7 ∧ ((∀ b : Nat, p1 = some b → cT C b 3 5) ∧ (K none (csr C a4 j8 p1))))))))))) : cM c d eX9_keepFunction [.ref t, .int p0, va_rf p1] C K := by
  refine cM.of2 (lv := [some (.ref t), some (.int p0), some (va_rf p1)]) (by decide) (by simp only [am_sl_i, am_sl_r, am_sl_l, am_sl_o, am_sl_n]; exact Nat.le_of_ble_eq_true rfl) (by simp only [am_en, am_sl_i, am_sl_r, am_sl_l, am_sl_o, am_sl_n]; rfl) ?_
  refine ag_iload_n dX9_keepFunction_0 rfl ?_
  refine ag_if_lt (tgt := 16) dX9_keepFunction_1 rfl (fun hc1 => ?_) (fun hc1 => ?_)
  · have h := h.1 hc1
    exact ag_ret (v := none) dX9_keepFunction_16 rfl ⟨_, rfl, _, rfl, h⟩ rfl
  · have h := h.2 hc1
    refine ag_iload_n dX9_keepFunction_4 rfl ?_
    refine ag_iconst (v := 3) dX9_keepFunction_5 rfl ?_
    refine ag_icmp_ge (tgt := 16) dX9_keepFunction_6 rfl (fun hc2 => ?_) (fun hc2 => ?_)
    · have h := h.1 hc2
      exact ag_ret (v := none) dX9_keepFunction_16 rfl ⟨_, rfl, _, rfl, h⟩ rfl
    · have h := h.2 hc2
      refine ag_aload_n dX9_keepFunction_9 rfl (Or.inr ⟨_, rfl⟩) ?_
      obtain ⟨hT3, h⟩ := h
      refine cr_get (v := va_rf (cR C t 1)) dX9_keepFunction_10 fw_9_18 hT3 rfl ?_
      refine ag_iload_n dX9_keepFunction_13 rfl ?_
      refine ag_aload_n dX9_keepFunction_14 rfl (va_rf_or _) ?_
      obtain ⟨a4, hr5, h⟩ := h
      refine cr_stk (st' := [va_rf p1, .int p0, .ref a4]) (by rw [hr5]; rfl) ?_
      obtain ⟨n7, hT6, h⟩ := h
      obtain ⟨j8, hj9, h⟩ := h
      obtain ⟨hb10, h⟩ := h
      refine cr_as (ci := 3) (r := p1) (nb := 5) (C2 := (csr C a4 j8 p1)) dX9_keepFunction_15 hT6 (by decide) hj9 hb10 rfl ?_
      exact ag_ret (v := none) dX9_keepFunction_16 rfl ⟨_, rfl, _, rfl, h⟩ rfl
theorem dX9_functionIndex_0 : decode cX9_functionIndex 0 = .ok (.iload_n 0, 1) := by decide +kernel
theorem dX9_functionIndex_1 : decode cX9_functionIndex 1 = .ok (.bipush 71, 2) := by decide +kernel
theorem dX9_functionIndex_3 : decode cX9_functionIndex 3 = .ok (.if_icmp .lt 16, 3) := by decide +kernel
theorem dX9_functionIndex_6 : decode cX9_functionIndex 6 = .ok (.iload_n 0, 1) := by decide +kernel
theorem dX9_functionIndex_7 : decode cX9_functionIndex 7 = .ok (.bipush 73, 2) := by decide +kernel
theorem dX9_functionIndex_9 : decode cX9_functionIndex 9 = .ok (.if_icmp .gt 10, 3) := by decide +kernel
theorem dX9_functionIndex_12 : decode cX9_functionIndex 12 = .ok (.iload_n 0, 1) := by decide +kernel
theorem dX9_functionIndex_13 : decode cX9_functionIndex 13 = .ok (.bipush 71, 2) := by decide +kernel
theorem dX9_functionIndex_15 : decode cX9_functionIndex 15 = .ok (.isub, 1) := by decide +kernel
theorem dX9_functionIndex_16 : decode cX9_functionIndex 16 = .ok (.goto 4, 3) := by decide +kernel
theorem dX9_functionIndex_19 : decode cX9_functionIndex 19 = .ok (.iconst (-1), 1) := by decide +kernel
theorem dX9_functionIndex_20 : decode cX9_functionIndex 20 = .ok (.ireturn, 1) := by decide +kernel
set_option maxRecDepth 20000 in
set_option maxHeartbeats 4000000 in
theorem w_X9_functionIndex {c : cX} {d : Nat} {C : cS} {K : Option Value → cS → Prop} (p0 : Int32) (h : (p0 < 71 → (K (some (.int (-1))) C)) ∧ (¬ p0 < 71 → ((73 < p0 → (K (some (.int (-1))) C)) ∧ (¬ 73 < p0 → (K (some (.int (p0 - 71))) C))))) : cM c d eX9_functionIndex [.int p0] C K := by
  refine cM.of2 (lv := [some (.int p0)]) (by decide) (Nat.le_of_ble_eq_true rfl) rfl ?_
  refine ag_iload_n dX9_functionIndex_0 rfl ?_
  refine ag_bipush (v := 71) dX9_functionIndex_1 (by decide) ?_
  refine ag_icmp_lt (tgt := 19) dX9_functionIndex_3 rfl (fun hc1 => ?_) (fun hc1 => ?_)
  · have h := h.1 hc1
    refine ag_iconst (v := (-1)) dX9_functionIndex_19 rfl ?_
    exact ag_ret (v := some (.int (-1))) dX9_functionIndex_20 ⟨_, rfl, rfl⟩ ⟨_, rfl, _, rfl, h⟩ rfl
  · have h := h.2 hc1
    refine ag_iload_n dX9_functionIndex_6 rfl ?_
    refine ag_bipush (v := 73) dX9_functionIndex_7 (by decide) ?_
    refine ag_icmp_gt (tgt := 19) dX9_functionIndex_9 rfl (fun hc2 => ?_) (fun hc2 => ?_)
    · have h := h.1 hc2
      refine ag_iconst (v := (-1)) dX9_functionIndex_19 rfl ?_
      exact ag_ret (v := some (.int (-1))) dX9_functionIndex_20 ⟨_, rfl, rfl⟩ ⟨_, rfl, _, rfl, h⟩ rfl
    · have h := h.2 hc2
      refine ag_iload_n dX9_functionIndex_12 rfl ?_
      refine ag_bipush (v := 71) dX9_functionIndex_13 (by decide) ?_
      refine ag_isub dX9_functionIndex_15 rfl ?_
      refine ag_goto (tgt := 20) dX9_functionIndex_16 rfl ?_
      exact ag_ret (v := some (.int (p0 - 71))) dX9_functionIndex_20 ⟨_, rfl, rfl⟩ ⟨_, rfl, _, rfl, h⟩ rfl
theorem dX9_functionOf_0 : decode cX9_functionOf 0 = .ok (.iload_n 1, 1) := by decide +kernel
theorem dX9_functionOf_1 : decode cX9_functionOf 1 = .ok (.invokestatic 186, 3) := by decide +kernel
theorem dX9_functionOf_4 : decode cX9_functionOf 4 = .ok (.istore_n 2, 1) := by decide +kernel
theorem dX9_functionOf_5 : decode cX9_functionOf 5 = .ok (.iload_n 2, 1) := by decide +kernel
theorem dX9_functionOf_6 : decode cX9_functionOf 6 = .ok (.iconst (-1), 1) := by decide +kernel
theorem dX9_functionOf_7 : decode cX9_functionOf 7 = .ok (.if_icmp .eq 9, 3) := by decide +kernel
theorem dX9_functionOf_10 : decode cX9_functionOf 10 = .ok (.iload_n 2, 1) := by decide +kernel
theorem dX9_functionOf_11 : decode cX9_functionOf 11 = .ok (.aload_n 0, 1) := by decide +kernel
theorem dX9_functionOf_12 : decode cX9_functionOf 12 = .ok (.arraylength, 1) := by decide +kernel
theorem dX9_functionOf_13 : decode cX9_functionOf 13 = .ok (.if_icmp .lt 7, 3) := by decide +kernel
theorem dX9_functionOf_16 : decode cX9_functionOf 16 = .ok (.aconst_null, 1) := by decide +kernel
theorem dX9_functionOf_17 : decode cX9_functionOf 17 = .ok (.goto 6, 3) := by decide +kernel
theorem dX9_functionOf_20 : decode cX9_functionOf 20 = .ok (.aload_n 0, 1) := by decide +kernel
theorem dX9_functionOf_21 : decode cX9_functionOf 21 = .ok (.iload_n 2, 1) := by decide +kernel
theorem dX9_functionOf_22 : decode cX9_functionOf 22 = .ok (.aaload, 1) := by decide +kernel
theorem dX9_functionOf_23 : decode cX9_functionOf 23 = .ok (.areturn, 1) := by decide +kernel
set_option maxRecDepth 20000 in
set_option maxHeartbeats 4000000 in
theorem w_X9_functionOf {c : cX} {d : Nat} {C : cS} {K : Option Value → cS → Prop} (p0 : Option Nat) (p1 : Int32) (h : cM c d eX9_functionIndex [.int p1] C (fun v C1 => ∃ z2 : Int32, v = some (.int z2) ∧ cle C C1 ∧ ((z2 = (-1) → (K (some (va_rf none)) C1)) ∧ (¬ z2 = (-1) → (∃ a5 : Nat, p0 = some a5 ∧ (∃ n8 : Nat, cT C1 a5 26 n8 ∧ ((z2 < (nI n8) → (∃ j10 : Nat, am_ix z2 j10 n8 ∧ (K (some (va_rf (cR C1 a5 j10))) C1))) ∧ (¬ z2 < (nI n8) → (K (some (va_rf none)) C1))))))))) : cM c (d + 1) eX9_functionOf [va_rf p0, .int p1] C K := by
  refine cM.of2 (lv := [some (va_rf p0), some (.int p1), none]) (by decide) (by simp only [am_sl_i, am_sl_r, am_sl_l, am_sl_o, am_sl_n]; exact Nat.le_of_ble_eq_true rfl) (by simp only [am_en, am_sl_i, am_sl_r, am_sl_l, am_sl_o, am_sl_n]; rfl) ?_
  refine ag_iload_n dX9_functionOf_0 rfl ?_
  refine cr_callS (as := [.int p1]) (rest := []) dX9_functionOf_1 me_X9_functionIndex ms_X9_functionIndex lk_9_186 rfl rfl (Nat.le_of_ble_eq_true rfl) ?_
  refine cM.mono h ?_
  rintro v C1 ⟨z2, rfl, hL3, h⟩
  show cG _ _ _ _ _ _ [.int z2] _
  refine ag_istore_n (lv2 := [some (va_rf p0), some (.int p1), some (.int z2)]) dX9_functionOf_4 (Nat.le_of_ble_eq_true rfl) rfl ?_
  refine ag_iload_n dX9_functionOf_5 rfl ?_
  refine ag_iconst (v := (-1)) dX9_functionOf_6 rfl ?_
  refine ag_icmp_eq (tgt := 16) dX9_functionOf_7 rfl (fun hc4 => ?_) (fun hc4 => ?_)
  · have h := h.1 hc4
    refine ag_null dX9_functionOf_16 ?_
    refine ag_goto (tgt := 23) dX9_functionOf_17 rfl ?_
    refine cr_stk (st' := [va_rf none]) rfl ?_
    exact cr_aret dX9_functionOf_23 ⟨_, rfl, Or.inl ⟨_, rfl⟩⟩ ⟨_, rfl, _, rfl, h⟩
  · have h := h.2 hc4
    refine ag_iload_n dX9_functionOf_10 rfl ?_
    refine ag_aload_n dX9_functionOf_11 rfl (va_rf_or _) ?_
    obtain ⟨a5, hr6, h⟩ := h
    refine cr_stk (st' := [.ref a5, .int z2]) (by rw [hr6]; rfl) ?_
    obtain ⟨n8, hT7, h⟩ := h
    refine cr_len dX9_functionOf_12 hT7 (by decide) ?_
    refine ag_icmp_lt (tgt := 20) dX9_functionOf_13 rfl (fun hc9 => ?_) (fun hc9 => ?_)
    · have h := h.1 hc9
      refine ag_aload_n dX9_functionOf_20 rfl (va_rf_or _) ?_
      refine ag_iload_n dX9_functionOf_21 rfl ?_
      refine cr_stk (st' := [.int z2, .ref a5]) (by rw [hr6]; rfl) ?_
      obtain ⟨j10, hj11, h⟩ := h
      refine cr_al (r := (cR C1 a5 j10)) dX9_functionOf_22 hT7 (by decide) hj11 rfl ?_
      refine cr_stk (st' := [va_rf (cR C1 a5 j10)]) rfl ?_
      exact cr_aret dX9_functionOf_23 ⟨_, rfl, Or.inl ⟨_, rfl⟩⟩ ⟨_, rfl, _, rfl, h⟩
    · have h := h.2 hc9
      refine ag_null dX9_functionOf_16 ?_
      refine ag_goto (tgt := 23) dX9_functionOf_17 rfl ?_
      refine cr_stk (st' := [va_rf none]) rfl ?_
      exact cr_aret dX9_functionOf_23 ⟨_, rfl, Or.inl ⟨_, rfl⟩⟩ ⟨_, rfl, _, rfl, h⟩
theorem dX9_testedKinds_0 : decode cX9_testedKinds 0 = .ok (.iload_n 0, 1) := by decide +kernel
theorem dX9_testedKinds_1 : decode cX9_testedKinds 1 = .ok (.bipush 78, 2) := by decide +kernel
theorem dX9_testedKinds_3 : decode cX9_testedKinds 3 = .ok (.if_icmp .ne 7, 3) := by decide +kernel
theorem dX9_testedKinds_6 : decode cX9_testedKinds 6 = .ok (.iconst 1, 1) := by decide +kernel
theorem dX9_testedKinds_7 : decode cX9_testedKinds 7 = .ok (.goto 27, 3) := by decide +kernel
theorem dX9_testedKinds_10 : decode cX9_testedKinds 10 = .ok (.iload_n 0, 1) := by decide +kernel
theorem dX9_testedKinds_11 : decode cX9_testedKinds 11 = .ok (.bipush 66, 2) := by decide +kernel
theorem dX9_testedKinds_13 : decode cX9_testedKinds 13 = .ok (.if_icmp .ne 8, 3) := by decide +kernel
theorem dX9_testedKinds_16 : decode cX9_testedKinds 16 = .ok (.bipush 6, 2) := by decide +kernel
theorem dX9_testedKinds_18 : decode cX9_testedKinds 18 = .ok (.goto 16, 3) := by decide +kernel
theorem dX9_testedKinds_21 : decode cX9_testedKinds 21 = .ok (.iload_n 0, 1) := by decide +kernel
theorem dX9_testedKinds_22 : decode cX9_testedKinds 22 = .ok (.bipush 69, 2) := by decide +kernel
theorem dX9_testedKinds_24 : decode cX9_testedKinds 24 = .ok (.if_icmp .ne 8, 3) := by decide +kernel
theorem dX9_testedKinds_27 : decode cX9_testedKinds 27 = .ok (.bipush 8, 2) := by decide +kernel
theorem dX9_testedKinds_29 : decode cX9_testedKinds 29 = .ok (.goto 5, 3) := by decide +kernel
theorem dX9_testedKinds_32 : decode cX9_testedKinds 32 = .ok (.bipush 16, 2) := by decide +kernel
theorem dX9_testedKinds_34 : decode cX9_testedKinds 34 = .ok (.ireturn, 1) := by decide +kernel
set_option maxRecDepth 20000 in
set_option maxHeartbeats 4000000 in
theorem w_X9_testedKinds {c : cX} {d : Nat} {C : cS} {K : Option Value → cS → Prop} (p0 : Int32) (h : (¬ p0 = 78 → ((¬ p0 = 66 → ((¬ p0 = 69 → (K (some (.int 16)) C)) ∧ (p0 = 69 → (K (some (.int 8)) C)))) ∧ (p0 = 66 → (K (some (.int 6)) C)))) ∧ (p0 = 78 → (K (some (.int 1)) C))) : cM c d eX9_testedKinds [.int p0] C K := by
  refine cM.of2 (lv := [some (.int p0)]) (by decide) (Nat.le_of_ble_eq_true rfl) rfl ?_
  refine ag_iload_n dX9_testedKinds_0 rfl ?_
  refine ag_bipush (v := 78) dX9_testedKinds_1 (by decide) ?_
  refine ag_icmp_ne (tgt := 10) dX9_testedKinds_3 rfl (fun hc1 => ?_) (fun hc1 => ?_)
  · have h := h.1 hc1
    refine ag_iload_n dX9_testedKinds_10 rfl ?_
    refine ag_bipush (v := 66) dX9_testedKinds_11 (by decide) ?_
    refine ag_icmp_ne (tgt := 21) dX9_testedKinds_13 rfl (fun hc2 => ?_) (fun hc2 => ?_)
    · have h := h.1 hc2
      refine ag_iload_n dX9_testedKinds_21 rfl ?_
      refine ag_bipush (v := 69) dX9_testedKinds_22 (by decide) ?_
      refine ag_icmp_ne (tgt := 32) dX9_testedKinds_24 rfl (fun hc3 => ?_) (fun hc3 => ?_)
      · have h := h.1 hc3
        refine ag_bipush (v := 16) dX9_testedKinds_32 (by decide) ?_
        exact ag_ret (v := some (.int 16)) dX9_testedKinds_34 ⟨_, rfl, rfl⟩ ⟨_, rfl, _, rfl, h⟩ rfl
      · have h := h.2 hc3
        refine ag_bipush (v := 8) dX9_testedKinds_27 (by decide) ?_
        refine ag_goto (tgt := 34) dX9_testedKinds_29 rfl ?_
        exact ag_ret (v := some (.int 8)) dX9_testedKinds_34 ⟨_, rfl, rfl⟩ ⟨_, rfl, _, rfl, h⟩ rfl
    · have h := h.2 hc2
      refine ag_bipush (v := 6) dX9_testedKinds_16 (by decide) ?_
      refine ag_goto (tgt := 34) dX9_testedKinds_18 rfl ?_
      exact ag_ret (v := some (.int 6)) dX9_testedKinds_34 ⟨_, rfl, rfl⟩ ⟨_, rfl, _, rfl, h⟩ rfl
  · have h := h.2 hc1
    refine ag_iconst (v := 1) dX9_testedKinds_6 rfl ?_
    refine ag_goto (tgt := 34) dX9_testedKinds_7 rfl ?_
    exact ag_ret (v := some (.int 1)) dX9_testedKinds_34 ⟨_, rfl, rfl⟩ ⟨_, rfl, _, rfl, h⟩ rfl
theorem dX9_reach_0 : decode cX9_reach 0 = .ok (.iload_n 0, 1) := by decide +kernel
theorem dX9_reach_1 : decode cX9_reach 1 = .ok (.bipush 7, 2) := by decide +kernel
theorem dX9_reach_3 : decode cX9_reach 3 = .ok (.irem, 1) := by decide +kernel
theorem dX9_reach_4 : decode cX9_reach 4 = .ok (.istore_n 2, 1) := by decide +kernel
theorem dX9_reach_5 : decode cX9_reach 5 = .ok (.iload_n 1, 1) := by decide +kernel
theorem dX9_reach_6 : decode cX9_reach 6 = .ok (.ifCond .ne 5, 3) := by decide +kernel
theorem dX9_reach_9 : decode cX9_reach 9 = .ok (.iload_n 0, 1) := by decide +kernel
theorem dX9_reach_10 : decode cX9_reach 10 = .ok (.ireturn, 1) := by decide +kernel
theorem dX9_reach_11 : decode cX9_reach 11 = .ok (.iload_n 2, 1) := by decide +kernel
theorem dX9_reach_12 : decode cX9_reach 12 = .ok (.ifCond .ne 7, 3) := by decide +kernel
theorem dX9_reach_15 : decode cX9_reach 15 = .ok (.iload_n 0, 1) := by decide +kernel
theorem dX9_reach_16 : decode cX9_reach 16 = .ok (.iload_n 1, 1) := by decide +kernel
theorem dX9_reach_17 : decode cX9_reach 17 = .ok (.iadd, 1) := by decide +kernel
theorem dX9_reach_18 : decode cX9_reach 18 = .ok (.ireturn, 1) := by decide +kernel
theorem dX9_reach_19 : decode cX9_reach 19 = .ok (.iload_n 2, 1) := by decide +kernel
theorem dX9_reach_20 : decode cX9_reach 20 = .ok (.iconst 2, 1) := by decide +kernel
theorem dX9_reach_21 : decode cX9_reach 21 = .ok (.if_icmp .gt 20, 3) := by decide +kernel
theorem dX9_reach_24 : decode cX9_reach 24 = .ok (.iload_n 1, 1) := by decide +kernel
theorem dX9_reach_25 : decode cX9_reach 25 = .ok (.iconst 2, 1) := by decide +kernel
theorem dX9_reach_26 : decode cX9_reach 26 = .ok (.if_icmp .gt 15, 3) := by decide +kernel
theorem dX9_reach_29 : decode cX9_reach 29 = .ok (.iload_n 0, 1) := by decide +kernel
theorem dX9_reach_30 : decode cX9_reach 30 = .ok (.iload_n 2, 1) := by decide +kernel
theorem dX9_reach_31 : decode cX9_reach 31 = .ok (.isub, 1) := by decide +kernel
theorem dX9_reach_32 : decode cX9_reach 32 = .ok (.iconst 2, 1) := by decide +kernel
theorem dX9_reach_33 : decode cX9_reach 33 = .ok (.iload_n 2, 1) := by decide +kernel
theorem dX9_reach_34 : decode cX9_reach 34 = .ok (.imul, 1) := by decide +kernel
theorem dX9_reach_35 : decode cX9_reach 35 = .ok (.iadd, 1) := by decide +kernel
theorem dX9_reach_36 : decode cX9_reach 36 = .ok (.iload_n 1, 1) := by decide +kernel
theorem dX9_reach_37 : decode cX9_reach 37 = .ok (.iadd, 1) := by decide +kernel
theorem dX9_reach_38 : decode cX9_reach 38 = .ok (.goto 4, 3) := by decide +kernel
theorem dX9_reach_41 : decode cX9_reach 41 = .ok (.iconst (-1), 1) := by decide +kernel
theorem dX9_reach_42 : decode cX9_reach 42 = .ok (.ireturn, 1) := by decide +kernel
set_option maxRecDepth 20000 in
set_option maxHeartbeats 4000000 in
theorem w_X9_reach {c : cX} {d : Nat} {C : cS} {K : Option Value → cS → Prop} (p0 : Int32) (p1 : Int32) (h : (¬ p1 = 0 → ((¬ (p0 - p0 / 7 * 7) = 0 → ((2 < (p0 - p0 / 7 * 7) → (K (some (.int (-1))) C)) ∧ (¬ 2 < (p0 - p0 / 7 * 7) → ((2 < p1 → (K (some (.int (-1))) C)) ∧ (¬ 2 < p1 → (K (some (.int (((p0 - (p0 - p0 / 7 * 7)) + (2 * (p0 - p0 / 7 * 7))) + p1))) C)))))) ∧ ((p0 - p0 / 7 * 7) = 0 → (K (some (.int (p0 + p1))) C)))) ∧ (p1 = 0 → (K (some (.int p0)) C))) : cM c d eX9_reach [.int p0, .int p1] C K := by
  refine cM.of2 (lv := [some (.int p0), some (.int p1), none]) (by decide) (Nat.le_of_ble_eq_true rfl) rfl ?_
  refine ag_iload_n dX9_reach_0 rfl ?_
  refine ag_bipush (v := 7) dX9_reach_1 (by decide) ?_
  refine ag_irem dX9_reach_3 (by decide) rfl ?_
  refine ag_istore_n (lv2 := [some (.int p0), some (.int p1), some (.int (p0 - p0 / 7 * 7))]) dX9_reach_4 (Nat.le_of_ble_eq_true rfl) rfl ?_
  refine ag_iload_n dX9_reach_5 rfl ?_
  refine ag_if_ne (tgt := 11) dX9_reach_6 rfl (fun hc1 => ?_) (fun hc1 => ?_)
  · have h := h.1 hc1
    refine ag_iload_n dX9_reach_11 rfl ?_
    refine ag_if_ne (tgt := 19) dX9_reach_12 rfl (fun hc2 => ?_) (fun hc2 => ?_)
    · have h := h.1 hc2
      refine ag_iload_n dX9_reach_19 rfl ?_
      refine ag_iconst (v := 2) dX9_reach_20 rfl ?_
      refine ag_icmp_gt (tgt := 41) dX9_reach_21 rfl (fun hc3 => ?_) (fun hc3 => ?_)
      · have h := h.1 hc3
        refine ag_iconst (v := (-1)) dX9_reach_41 rfl ?_
        exact ag_ret (v := some (.int (-1))) dX9_reach_42 ⟨_, rfl, rfl⟩ ⟨_, rfl, _, rfl, h⟩ rfl
      · have h := h.2 hc3
        refine ag_iload_n dX9_reach_24 rfl ?_
        refine ag_iconst (v := 2) dX9_reach_25 rfl ?_
        refine ag_icmp_gt (tgt := 41) dX9_reach_26 rfl (fun hc4 => ?_) (fun hc4 => ?_)
        · have h := h.1 hc4
          refine ag_iconst (v := (-1)) dX9_reach_41 rfl ?_
          exact ag_ret (v := some (.int (-1))) dX9_reach_42 ⟨_, rfl, rfl⟩ ⟨_, rfl, _, rfl, h⟩ rfl
        · have h := h.2 hc4
          refine ag_iload_n dX9_reach_29 rfl ?_
          refine ag_iload_n dX9_reach_30 rfl ?_
          refine ag_isub dX9_reach_31 rfl ?_
          refine ag_iconst (v := 2) dX9_reach_32 rfl ?_
          refine ag_iload_n dX9_reach_33 rfl ?_
          refine ag_imul dX9_reach_34 rfl ?_
          refine ag_iadd dX9_reach_35 rfl ?_
          refine ag_iload_n dX9_reach_36 rfl ?_
          refine ag_iadd dX9_reach_37 rfl ?_
          refine ag_goto (tgt := 42) dX9_reach_38 rfl ?_
          exact ag_ret (v := some (.int (((p0 - (p0 - p0 / 7 * 7)) + (2 * (p0 - p0 / 7 * 7))) + p1))) dX9_reach_42 ⟨_, rfl, rfl⟩ ⟨_, rfl, _, rfl, h⟩ rfl
    · have h := h.2 hc2
      refine ag_iload_n dX9_reach_15 rfl ?_
      refine ag_iload_n dX9_reach_16 rfl ?_
      refine ag_iadd dX9_reach_17 rfl ?_
      exact ag_ret (v := some (.int (p0 + p1))) dX9_reach_18 ⟨_, rfl, rfl⟩ ⟨_, rfl, _, rfl, h⟩ rfl
  · have h := h.2 hc1
    refine ag_iload_n dX9_reach_9 rfl ?_
    exact ag_ret (v := some (.int p0)) dX9_reach_10 ⟨_, rfl, rfl⟩ ⟨_, rfl, _, rfl, h⟩ rfl
