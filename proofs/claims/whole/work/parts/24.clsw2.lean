theorem dX0_init_0 : decode cX0_init 0 = .ok (.aload_n 0, 1) := by decide +kernel
theorem dX0_init_1 : decode cX0_init 1 = .ok (.invokespecial 3, 3) := by decide +kernel
theorem dX0_init_4 : decode cX0_init 4 = .ok (.aload_n 0, 1) := by decide +kernel
theorem dX0_init_5 : decode cX0_init 5 = .ok (.bipush 64, 2) := by decide +kernel
theorem dX0_init_7 : decode cX0_init 7 = .ok (.newarray .int, 2) := by decide +kernel
theorem dX0_init_9 : decode cX0_init 9 = .ok (.putfield 9, 3) := by decide +kernel
theorem dX0_init_12 : decode cX0_init 12 = .ok (.aload_n 0, 1) := by decide +kernel
theorem dX0_init_13 : decode cX0_init 13 = .ok (.bipush 64, 2) := by decide +kernel
theorem dX0_init_15 : decode cX0_init 15 = .ok (.newarray .int, 2) := by decide +kernel
theorem dX0_init_17 : decode cX0_init 17 = .ok (.putfield 15, 3) := by decide +kernel
theorem dX0_init_20 : decode cX0_init 20 = .ok (.aload_n 0, 1) := by decide +kernel
theorem dX0_init_21 : decode cX0_init 21 = .ok (.bipush 64, 2) := by decide +kernel
theorem dX0_init_23 : decode cX0_init 23 = .ok (.newarray .int, 2) := by decide +kernel
theorem dX0_init_25 : decode cX0_init 25 = .ok (.putfield 18, 3) := by decide +kernel
theorem dX0_init_28 : decode cX0_init 28 = .ok (.aload_n 0, 1) := by decide +kernel
theorem dX0_init_29 : decode cX0_init 29 = .ok (.bipush 64, 2) := by decide +kernel
theorem dX0_init_31 : decode cX0_init 31 = .ok (.newarray .int, 2) := by decide +kernel
theorem dX0_init_33 : decode cX0_init 33 = .ok (.putfield 21, 3) := by decide +kernel
theorem dX0_init_36 : decode cX0_init 36 = .ok (.aload_n 0, 1) := by decide +kernel
theorem dX0_init_37 : decode cX0_init 37 = .ok (.iconst 0, 1) := by decide +kernel
theorem dX0_init_38 : decode cX0_init 38 = .ok (.putfield 24, 3) := by decide +kernel
theorem dX0_init_41 : decode cX0_init 41 = .ok (.aload_n 0, 1) := by decide +kernel
theorem dX0_init_42 : decode cX0_init 42 = .ok (.bipush 13, 2) := by decide +kernel
theorem dX0_init_44 : decode cX0_init 44 = .ok (.putfield 28, 3) := by decide +kernel
theorem dX0_init_47 : decode cX0_init 47 = .ok (.aload_n 0, 1) := by decide +kernel
theorem dX0_init_48 : decode cX0_init 48 = .ok (.getfield 9, 3) := by decide +kernel
theorem dX0_init_51 : decode cX0_init 51 = .ok (.iconst 0, 1) := by decide +kernel
theorem dX0_init_52 : decode cX0_init 52 = .ok (.iconst 2, 1) := by decide +kernel
theorem dX0_init_53 : decode cX0_init 53 = .ok (.iastore, 1) := by decide +kernel
theorem dX0_init_54 : decode cX0_init 54 = .ok (.aload_n 0, 1) := by decide +kernel
theorem dX0_init_55 : decode cX0_init 55 = .ok (.getfield 9, 3) := by decide +kernel
theorem dX0_init_58 : decode cX0_init 58 = .ok (.iconst 1, 1) := by decide +kernel
theorem dX0_init_59 : decode cX0_init 59 = .ok (.iconst 4, 1) := by decide +kernel
theorem dX0_init_60 : decode cX0_init 60 = .ok (.iastore, 1) := by decide +kernel
theorem dX0_init_61 : decode cX0_init 61 = .ok (.aload_n 0, 1) := by decide +kernel
theorem dX0_init_62 : decode cX0_init 62 = .ok (.getfield 9, 3) := by decide +kernel
theorem dX0_init_65 : decode cX0_init 65 = .ok (.iconst 2, 1) := by decide +kernel
theorem dX0_init_66 : decode cX0_init 66 = .ok (.bipush 8, 2) := by decide +kernel
theorem dX0_init_68 : decode cX0_init 68 = .ok (.iastore, 1) := by decide +kernel
theorem dX0_init_69 : decode cX0_init 69 = .ok (.iconst 0, 1) := by decide +kernel
theorem dX0_init_70 : decode cX0_init 70 = .ok (.istore_n 1, 1) := by decide +kernel
theorem dX0_init_71 : decode cX0_init 71 = .ok (.iload_n 1, 1) := by decide +kernel
theorem dX0_init_72 : decode cX0_init 72 = .ok (.bipush 13, 2) := by decide +kernel
theorem dX0_init_74 : decode cX0_init 74 = .ok (.if_icmp .ge 44, 3) := by decide +kernel
theorem dX0_init_77 : decode cX0_init 77 = .ok (.aload_n 0, 1) := by decide +kernel
theorem dX0_init_78 : decode cX0_init 78 = .ok (.getfield 18, 3) := by decide +kernel
theorem dX0_init_81 : decode cX0_init 81 = .ok (.iload_n 1, 1) := by decide +kernel
theorem dX0_init_82 : decode cX0_init 82 = .ok (.iconst (-1), 1) := by decide +kernel
theorem dX0_init_83 : decode cX0_init 83 = .ok (.iastore, 1) := by decide +kernel
theorem dX0_init_84 : decode cX0_init 84 = .ok (.aload_n 0, 1) := by decide +kernel
theorem dX0_init_85 : decode cX0_init 85 = .ok (.getfield 21, 3) := by decide +kernel
theorem dX0_init_88 : decode cX0_init 88 = .ok (.iload_n 1, 1) := by decide +kernel
theorem dX0_init_89 : decode cX0_init 89 = .ok (.iconst (-1), 1) := by decide +kernel
theorem dX0_init_90 : decode cX0_init 90 = .ok (.iastore, 1) := by decide +kernel
theorem dX0_init_91 : decode cX0_init 91 = .ok (.iload_n 1, 1) := by decide +kernel
theorem dX0_init_92 : decode cX0_init 92 = .ok (.iconst 3, 1) := by decide +kernel
theorem dX0_init_93 : decode cX0_init 93 = .ok (.if_icmp .lt 19, 3) := by decide +kernel
theorem dX0_init_96 : decode cX0_init 96 = .ok (.aload_n 0, 1) := by decide +kernel
theorem dX0_init_97 : decode cX0_init 97 = .ok (.getfield 9, 3) := by decide +kernel
theorem dX0_init_100 : decode cX0_init 100 = .ok (.iload_n 1, 1) := by decide +kernel
theorem dX0_init_101 : decode cX0_init 101 = .ok (.iconst 1, 1) := by decide +kernel
theorem dX0_init_102 : decode cX0_init 102 = .ok (.iastore, 1) := by decide +kernel
theorem dX0_init_103 : decode cX0_init 103 = .ok (.aload_n 0, 1) := by decide +kernel
theorem dX0_init_104 : decode cX0_init 104 = .ok (.getfield 15, 3) := by decide +kernel
theorem dX0_init_107 : decode cX0_init 107 = .ok (.iload_n 1, 1) := by decide +kernel
theorem dX0_init_108 : decode cX0_init 108 = .ok (.iload_n 1, 1) := by decide +kernel
theorem dX0_init_109 : decode cX0_init 109 = .ok (.iconst 3, 1) := by decide +kernel
theorem dX0_init_110 : decode cX0_init 110 = .ok (.isub, 1) := by decide +kernel
theorem dX0_init_111 : decode cX0_init 111 = .ok (.iastore, 1) := by decide +kernel
theorem dX0_init_112 : decode cX0_init 112 = .ok (.iinc 1 1, 3) := by decide +kernel
theorem dX0_init_115 : decode cX0_init 115 = .ok (.goto (-44), 3) := by decide +kernel
theorem dX0_init_118 : decode cX0_init 118 = .ok (.return_, 1) := by decide +kernel
set_option maxRecDepth 20000 in
set_option maxHeartbeats 4000000 in
theorem w_X0_init {c : cX} {d : Nat} {C : cS} {K : Option Value → cS → Prop} (t : Nat) (hT0 : cT C t 0 6) (h : ∃ a15 : Nat, (cR (csi (csi (csr (cnw (csr (cnw (csr (cnw (csr (cnw C 20 64) t 0 (some C.1)) 20 64) t 1 (some ((csr (cnw C 20 64) t 0 (some C.1)).1))) 20 64) t 2 (some ((csr (cnw (csr (cnw C 20 64) t 0 (some C.1)) 20 64) t 1 (some ((csr (cnw C 20 64) t 0 (some C.1)).1))).1))) 20 64) t 3 (some ((csr (cnw (csr (cnw (csr (cnw C 20 64) t 0 (some C.1)) 20 64) t 1 (some ((csr (cnw C 20 64) t 0 (some C.1)).1))) 20 64) t 2 (some ((csr (cnw (csr (cnw C 20 64) t 0 (some C.1)) 20 64) t 1 (some ((csr (cnw C 20 64) t 0 (some C.1)).1))).1))).1))) t 4 0) t 5 13) t 0) = some a15 ∧ (∃ n18 : Nat, cT (cnw (csr (cnw (csr (cnw (csr (cnw C 20 64) t 0 (some C.1)) 20 64) t 1 (some ((csr (cnw C 20 64) t 0 (some C.1)).1))) 20 64) t 2 (some ((csr (cnw (csr (cnw C 20 64) t 0 (some C.1)) 20 64) t 1 (some ((csr (cnw C 20 64) t 0 (some C.1)).1))).1))) 20 64) a15 20 n18 ∧ (∃ j19 : Nat, am_ix 0 j19 n18 ∧ (∃ a21 : Nat, (cR (csi (csi (csi (csr (cnw (csr (cnw (csr (cnw (csr (cnw C 20 64) t 0 (some C.1)) 20 64) t 1 (some ((csr (cnw C 20 64) t 0 (some C.1)).1))) 20 64) t 2 (some ((csr (cnw (csr (cnw C 20 64) t 0 (some C.1)) 20 64) t 1 (some ((csr (cnw C 20 64) t 0 (some C.1)).1))).1))) 20 64) t 3 (some ((csr (cnw (csr (cnw (csr (cnw C 20 64) t 0 (some C.1)) 20 64) t 1 (some ((csr (cnw C 20 64) t 0 (some C.1)).1))) 20 64) t 2 (some ((csr (cnw (csr (cnw C 20 64) t 0 (some C.1)) 20 64) t 1 (some ((csr (cnw C 20 64) t 0 (some C.1)).1))).1))).1))) t 4 0) t 5 13) a15 j19 2) t 0) = some a21 ∧ (∃ n24 : Nat, cT (cnw (csr (cnw (csr (cnw (csr (cnw C 20 64) t 0 (some C.1)) 20 64) t 1 (some ((csr (cnw C 20 64) t 0 (some C.1)).1))) 20 64) t 2 (some ((csr (cnw (csr (cnw C 20 64) t 0 (some C.1)) 20 64) t 1 (some ((csr (cnw C 20 64) t 0 (some C.1)).1))).1))) 20 64) a21 20 n24 ∧ (∃ j25 : Nat, am_ix 1 j25 n24 ∧ (∃ a27 : Nat, (cR (csi (csi (csi (csi (csr (cnw (csr (cnw (csr (cnw (csr (cnw C 20 64) t 0 (some C.1)) 20 64) t 1 (some ((csr (cnw C 20 64) t 0 (some C.1)).1))) 20 64) t 2 (some ((csr (cnw (csr (cnw C 20 64) t 0 (some C.1)) 20 64) t 1 (some ((csr (cnw C 20 64) t 0 (some C.1)).1))).1))) 20 64) t 3 (some ((csr (cnw (csr (cnw (csr (cnw C 20 64) t 0 (some C.1)) 20 64) t 1 (some ((csr (cnw C 20 64) t 0 (some C.1)).1))) 20 64) t 2 (some ((csr (cnw (csr (cnw C 20 64) t 0 (some C.1)) 20 64) t 1 (some ((csr (cnw C 20 64) t 0 (some C.1)).1))).1))).1))) t 4 0) t 5 13) a15 j19 2) a21 j25 4) t 0) = some a27 ∧ (∃ n30 : Nat, cT (cnw (csr (cnw (csr (cnw (csr (cnw C 20 64) t 0 (some C.1)) 20 64) t 1 (some ((csr (cnw C 20 64) t 0 (some C.1)).1))) 20 64) t 2 (some ((csr (cnw (csr (cnw C 20 64) t 0 (some C.1)) 20 64) t 1 (some ((csr (cnw C 20 64) t 0 (some C.1)).1))).1))) 20 64) a27 20 n30 ∧ (∃ j31 : Nat, am_ix 2 j31 n30 ∧ (cG c eX0_init (d + 1) (cQ K) 71 [some (.ref t), some (.int 0)] [] (csi (csi (csi (csi (csi (csr (cnw (csr (cnw (csr (cnw (csr (cnw C 20 64) t 0 (some C.1)) 20 64) t 1 (some ((csr (cnw C 20 64) t 0 (some C.1)).1))) 20 64) t 2 (some ((csr (cnw (csr (cnw C 20 64) t 0 (some C.1)) 20 64) t 1 (some ((csr (cnw C 20 64) t 0 (some C.1)).1))).1))) 20 64) t 3 (some ((csr (cnw (csr (cnw (csr (cnw C 20 64) t 0 (some C.1)) 20 64) t 1 (some ((csr (cnw C 20 64) t 0 (some C.1)).1))) 20 64) t 2 (some ((csr (cnw (csr (cnw C 20 64) t 0 (some C.1)) 20 64) t 1 (some ((csr (cnw C 20 64) t 0 (some C.1)).1))).1))).1))) t 4 0) t 5 13) a15 j19 2) a21 j25 4) a27 j31 8))))))))))) : cM c (d + 1) eX0_init [.ref t] C K := by
  refine cM.of2 (lv := [some (.ref t), none]) (by decide) (Nat.le_of_ble_eq_true rfl) rfl ?_
  refine ag_aload_n dX0_init_0 rfl (Or.inr ⟨_, rfl⟩) ?_
  refine ag_obj dX0_init_1 lo_0_3 io_1 io_2 (Nat.le_of_ble_eq_true rfl) ?_
  refine ag_aload_n dX0_init_4 rfl (Or.inr ⟨_, rfl⟩) ?_
  refine ag_bipush (v := 64) dX0_init_5 (by decide) ?_
  refine cr_newa (t := 20) (C2 := (cnw C 20 64)) dX0_init_7 rfl ac_int (by decide) (by decide) (by decide) (fun _ => rfl) rfl ?_
  have hT1 := cT_nw (C := C) (t := 20) (n := 64) hT0
  have hT2 := cT.le (C := C) hT0 (cle_nw C 20 64)
  refine cr_prF (r := (some C.1)) (C2 := (csr (cnw C 20 64) t 0 (some C.1))) dX0_init_9 rfl pw_0_9 rfl (Or.inr ⟨_, rfl⟩) hT2 rfl ?_
  refine ag_aload_n dX0_init_12 rfl (Or.inr ⟨_, rfl⟩) ?_
  refine ag_bipush (v := 64) dX0_init_13 (by decide) ?_
  refine cr_newa (t := 20) (C2 := (cnw (csr (cnw C 20 64) t 0 (some C.1)) 20 64)) dX0_init_15 rfl ac_int (by decide) (by decide) (by decide) (fun _ => rfl) rfl ?_
  have hT3 := cT_nw (C := (csr (cnw C 20 64) t 0 (some C.1))) (t := 20) (n := 64) hT2
  have hT4 := cT.le (C := (csr (cnw C 20 64) t 0 (some C.1))) hT2 (cle_nw (csr (cnw C 20 64) t 0 (some C.1)) 20 64)
  have hT5 := cT.le (C := (csr (cnw C 20 64) t 0 (some C.1))) hT1 (cle_nw (csr (cnw C 20 64) t 0 (some C.1)) 20 64)
  refine cr_prF (r := (some ((csr (cnw C 20 64) t 0 (some C.1)).1))) (C2 := (csr (cnw (csr (cnw C 20 64) t 0 (some C.1)) 20 64) t 1 (some ((csr (cnw C 20 64) t 0 (some C.1)).1)))) dX0_init_17 rfl pw_0_15 rfl (Or.inr ⟨_, rfl⟩) hT4 rfl ?_
  refine ag_aload_n dX0_init_20 rfl (Or.inr ⟨_, rfl⟩) ?_
  refine ag_bipush (v := 64) dX0_init_21 (by decide) ?_
  refine cr_newa (t := 20) (C2 := (cnw (csr (cnw (csr (cnw C 20 64) t 0 (some C.1)) 20 64) t 1 (some ((csr (cnw C 20 64) t 0 (some C.1)).1))) 20 64)) dX0_init_23 rfl ac_int (by decide) (by decide) (by decide) (fun _ => rfl) rfl ?_
  have hT6 := cT_nw (C := (csr (cnw (csr (cnw C 20 64) t 0 (some C.1)) 20 64) t 1 (some ((csr (cnw C 20 64) t 0 (some C.1)).1)))) (t := 20) (n := 64) hT4
  have hT7 := cT.le (C := (csr (cnw (csr (cnw C 20 64) t 0 (some C.1)) 20 64) t 1 (some ((csr (cnw C 20 64) t 0 (some C.1)).1)))) hT4 (cle_nw (csr (cnw (csr (cnw C 20 64) t 0 (some C.1)) 20 64) t 1 (some ((csr (cnw C 20 64) t 0 (some C.1)).1))) 20 64)
  have hT8 := cT.le (C := (csr (cnw (csr (cnw C 20 64) t 0 (some C.1)) 20 64) t 1 (some ((csr (cnw C 20 64) t 0 (some C.1)).1)))) hT5 (cle_nw (csr (cnw (csr (cnw C 20 64) t 0 (some C.1)) 20 64) t 1 (some ((csr (cnw C 20 64) t 0 (some C.1)).1))) 20 64)
  have hT9 := cT.le (C := (csr (cnw (csr (cnw C 20 64) t 0 (some C.1)) 20 64) t 1 (some ((csr (cnw C 20 64) t 0 (some C.1)).1)))) hT3 (cle_nw (csr (cnw (csr (cnw C 20 64) t 0 (some C.1)) 20 64) t 1 (some ((csr (cnw C 20 64) t 0 (some C.1)).1))) 20 64)
  refine cr_prF (r := (some ((csr (cnw (csr (cnw C 20 64) t 0 (some C.1)) 20 64) t 1 (some ((csr (cnw C 20 64) t 0 (some C.1)).1))).1))) (C2 := (csr (cnw (csr (cnw (csr (cnw C 20 64) t 0 (some C.1)) 20 64) t 1 (some ((csr (cnw C 20 64) t 0 (some C.1)).1))) 20 64) t 2 (some ((csr (cnw (csr (cnw C 20 64) t 0 (some C.1)) 20 64) t 1 (some ((csr (cnw C 20 64) t 0 (some C.1)).1))).1)))) dX0_init_25 rfl pw_0_18 rfl (Or.inr ⟨_, rfl⟩) hT7 rfl ?_
  refine ag_aload_n dX0_init_28 rfl (Or.inr ⟨_, rfl⟩) ?_
  refine ag_bipush (v := 64) dX0_init_29 (by decide) ?_
  refine cr_newa (t := 20) (C2 := (cnw (csr (cnw (csr (cnw (csr (cnw C 20 64) t 0 (some C.1)) 20 64) t 1 (some ((csr (cnw C 20 64) t 0 (some C.1)).1))) 20 64) t 2 (some ((csr (cnw (csr (cnw C 20 64) t 0 (some C.1)) 20 64) t 1 (some ((csr (cnw C 20 64) t 0 (some C.1)).1))).1))) 20 64)) dX0_init_31 rfl ac_int (by decide) (by decide) (by decide) (fun _ => rfl) rfl ?_
  have hT10 := cT_nw (C := (csr (cnw (csr (cnw (csr (cnw C 20 64) t 0 (some C.1)) 20 64) t 1 (some ((csr (cnw C 20 64) t 0 (some C.1)).1))) 20 64) t 2 (some ((csr (cnw (csr (cnw C 20 64) t 0 (some C.1)) 20 64) t 1 (some ((csr (cnw C 20 64) t 0 (some C.1)).1))).1)))) (t := 20) (n := 64) hT7
  have hT11 := cT.le (C := (csr (cnw (csr (cnw (csr (cnw C 20 64) t 0 (some C.1)) 20 64) t 1 (some ((csr (cnw C 20 64) t 0 (some C.1)).1))) 20 64) t 2 (some ((csr (cnw (csr (cnw C 20 64) t 0 (some C.1)) 20 64) t 1 (some ((csr (cnw C 20 64) t 0 (some C.1)).1))).1)))) hT7 (cle_nw (csr (cnw (csr (cnw (csr (cnw C 20 64) t 0 (some C.1)) 20 64) t 1 (some ((csr (cnw C 20 64) t 0 (some C.1)).1))) 20 64) t 2 (some ((csr (cnw (csr (cnw C 20 64) t 0 (some C.1)) 20 64) t 1 (some ((csr (cnw C 20 64) t 0 (some C.1)).1))).1))) 20 64)
  have hT12 := cT.le (C := (csr (cnw (csr (cnw (csr (cnw C 20 64) t 0 (some C.1)) 20 64) t 1 (some ((csr (cnw C 20 64) t 0 (some C.1)).1))) 20 64) t 2 (some ((csr (cnw (csr (cnw C 20 64) t 0 (some C.1)) 20 64) t 1 (some ((csr (cnw C 20 64) t 0 (some C.1)).1))).1)))) hT8 (cle_nw (csr (cnw (csr (cnw (csr (cnw C 20 64) t 0 (some C.1)) 20 64) t 1 (some ((csr (cnw C 20 64) t 0 (some C.1)).1))) 20 64) t 2 (some ((csr (cnw (csr (cnw C 20 64) t 0 (some C.1)) 20 64) t 1 (some ((csr (cnw C 20 64) t 0 (some C.1)).1))).1))) 20 64)
  have hT13 := cT.le (C := (csr (cnw (csr (cnw (csr (cnw C 20 64) t 0 (some C.1)) 20 64) t 1 (some ((csr (cnw C 20 64) t 0 (some C.1)).1))) 20 64) t 2 (some ((csr (cnw (csr (cnw C 20 64) t 0 (some C.1)) 20 64) t 1 (some ((csr (cnw C 20 64) t 0 (some C.1)).1))).1)))) hT9 (cle_nw (csr (cnw (csr (cnw (csr (cnw C 20 64) t 0 (some C.1)) 20 64) t 1 (some ((csr (cnw C 20 64) t 0 (some C.1)).1))) 20 64) t 2 (some ((csr (cnw (csr (cnw C 20 64) t 0 (some C.1)) 20 64) t 1 (some ((csr (cnw C 20 64) t 0 (some C.1)).1))).1))) 20 64)
  have hT14 := cT.le (C := (csr (cnw (csr (cnw (csr (cnw C 20 64) t 0 (some C.1)) 20 64) t 1 (some ((csr (cnw C 20 64) t 0 (some C.1)).1))) 20 64) t 2 (some ((csr (cnw (csr (cnw C 20 64) t 0 (some C.1)) 20 64) t 1 (some ((csr (cnw C 20 64) t 0 (some C.1)).1))).1)))) hT6 (cle_nw (csr (cnw (csr (cnw (csr (cnw C 20 64) t 0 (some C.1)) 20 64) t 1 (some ((csr (cnw C 20 64) t 0 (some C.1)).1))) 20 64) t 2 (some ((csr (cnw (csr (cnw C 20 64) t 0 (some C.1)) 20 64) t 1 (some ((csr (cnw C 20 64) t 0 (some C.1)).1))).1))) 20 64)
  refine cr_prF (r := (some ((csr (cnw (csr (cnw (csr (cnw C 20 64) t 0 (some C.1)) 20 64) t 1 (some ((csr (cnw C 20 64) t 0 (some C.1)).1))) 20 64) t 2 (some ((csr (cnw (csr (cnw C 20 64) t 0 (some C.1)) 20 64) t 1 (some ((csr (cnw C 20 64) t 0 (some C.1)).1))).1))).1))) (C2 := (csr (cnw (csr (cnw (csr (cnw (csr (cnw C 20 64) t 0 (some C.1)) 20 64) t 1 (some ((csr (cnw C 20 64) t 0 (some C.1)).1))) 20 64) t 2 (some ((csr (cnw (csr (cnw C 20 64) t 0 (some C.1)) 20 64) t 1 (some ((csr (cnw C 20 64) t 0 (some C.1)).1))).1))) 20 64) t 3 (some ((csr (cnw (csr (cnw (csr (cnw C 20 64) t 0 (some C.1)) 20 64) t 1 (some ((csr (cnw C 20 64) t 0 (some C.1)).1))) 20 64) t 2 (some ((csr (cnw (csr (cnw C 20 64) t 0 (some C.1)) 20 64) t 1 (some ((csr (cnw C 20 64) t 0 (some C.1)).1))).1))).1)))) dX0_init_33 rfl pw_0_21 rfl (Or.inr ⟨_, rfl⟩) hT11 rfl ?_
  refine ag_aload_n dX0_init_36 rfl (Or.inr ⟨_, rfl⟩) ?_
  refine ag_iconst (v := 0) dX0_init_37 rfl ?_
  refine cr_pi (C2 := (csi (csr (cnw (csr (cnw (csr (cnw (csr (cnw C 20 64) t 0 (some C.1)) 20 64) t 1 (some ((csr (cnw C 20 64) t 0 (some C.1)).1))) 20 64) t 2 (some ((csr (cnw (csr (cnw C 20 64) t 0 (some C.1)) 20 64) t 1 (some ((csr (cnw C 20 64) t 0 (some C.1)).1))).1))) 20 64) t 3 (some ((csr (cnw (csr (cnw (csr (cnw C 20 64) t 0 (some C.1)) 20 64) t 1 (some ((csr (cnw C 20 64) t 0 (some C.1)).1))) 20 64) t 2 (some ((csr (cnw (csr (cnw C 20 64) t 0 (some C.1)) 20 64) t 1 (some ((csr (cnw C 20 64) t 0 (some C.1)).1))).1))).1))) t 4 0)) dX0_init_38 pw_0_24 rfl hT11 (fun _ => ⟨rfl, rfl⟩) rfl ?_
  refine ag_aload_n dX0_init_41 rfl (Or.inr ⟨_, rfl⟩) ?_
  refine ag_bipush (v := 13) dX0_init_42 (by decide) ?_
  refine cr_pi (C2 := (csi (csi (csr (cnw (csr (cnw (csr (cnw (csr (cnw C 20 64) t 0 (some C.1)) 20 64) t 1 (some ((csr (cnw C 20 64) t 0 (some C.1)).1))) 20 64) t 2 (some ((csr (cnw (csr (cnw C 20 64) t 0 (some C.1)) 20 64) t 1 (some ((csr (cnw C 20 64) t 0 (some C.1)).1))).1))) 20 64) t 3 (some ((csr (cnw (csr (cnw (csr (cnw C 20 64) t 0 (some C.1)) 20 64) t 1 (some ((csr (cnw C 20 64) t 0 (some C.1)).1))) 20 64) t 2 (some ((csr (cnw (csr (cnw C 20 64) t 0 (some C.1)) 20 64) t 1 (some ((csr (cnw C 20 64) t 0 (some C.1)).1))).1))).1))) t 4 0) t 5 13)) dX0_init_44 pw_0_28 rfl hT11 (fun _ => ⟨rfl, rfl⟩) rfl ?_
  refine ag_aload_n dX0_init_47 rfl (Or.inr ⟨_, rfl⟩) ?_
  refine cr_get (v := va_rf (cR (csi (csi (csr (cnw (csr (cnw (csr (cnw (csr (cnw C 20 64) t 0 (some C.1)) 20 64) t 1 (some ((csr (cnw C 20 64) t 0 (some C.1)).1))) 20 64) t 2 (some ((csr (cnw (csr (cnw C 20 64) t 0 (some C.1)) 20 64) t 1 (some ((csr (cnw C 20 64) t 0 (some C.1)).1))).1))) 20 64) t 3 (some ((csr (cnw (csr (cnw (csr (cnw C 20 64) t 0 (some C.1)) 20 64) t 1 (some ((csr (cnw C 20 64) t 0 (some C.1)).1))) 20 64) t 2 (some ((csr (cnw (csr (cnw C 20 64) t 0 (some C.1)) 20 64) t 1 (some ((csr (cnw C 20 64) t 0 (some C.1)).1))).1))).1))) t 4 0) t 5 13) t 0)) dX0_init_48 fw_0_9 hT11 rfl ?_
  refine ag_iconst (v := 0) dX0_init_51 rfl ?_
  refine ag_iconst (v := 2) dX0_init_52 rfl ?_
  obtain ⟨a15, hr16, h⟩ := h
  refine cr_stk (st' := [.int 2, .int 0, .ref a15]) (by rw [hr16]; rfl) ?_
  obtain ⟨n18, hT17, h⟩ := h
  obtain ⟨j19, hj20, h⟩ := h
  refine cr_is (C2 := (csi (csi (csi (csr (cnw (csr (cnw (csr (cnw (csr (cnw C 20 64) t 0 (some C.1)) 20 64) t 1 (some ((csr (cnw C 20 64) t 0 (some C.1)).1))) 20 64) t 2 (some ((csr (cnw (csr (cnw C 20 64) t 0 (some C.1)) 20 64) t 1 (some ((csr (cnw C 20 64) t 0 (some C.1)).1))).1))) 20 64) t 3 (some ((csr (cnw (csr (cnw (csr (cnw C 20 64) t 0 (some C.1)) 20 64) t 1 (some ((csr (cnw C 20 64) t 0 (some C.1)).1))) 20 64) t 2 (some ((csr (cnw (csr (cnw C 20 64) t 0 (some C.1)) 20 64) t 1 (some ((csr (cnw C 20 64) t 0 (some C.1)).1))).1))).1))) t 4 0) t 5 13) a15 j19 2)) dX0_init_53 hT17 hj20 rfl ?_
  refine ag_aload_n dX0_init_54 rfl (Or.inr ⟨_, rfl⟩) ?_
  refine cr_get (v := va_rf (cR (csi (csi (csi (csr (cnw (csr (cnw (csr (cnw (csr (cnw C 20 64) t 0 (some C.1)) 20 64) t 1 (some ((csr (cnw C 20 64) t 0 (some C.1)).1))) 20 64) t 2 (some ((csr (cnw (csr (cnw C 20 64) t 0 (some C.1)) 20 64) t 1 (some ((csr (cnw C 20 64) t 0 (some C.1)).1))).1))) 20 64) t 3 (some ((csr (cnw (csr (cnw (csr (cnw C 20 64) t 0 (some C.1)) 20 64) t 1 (some ((csr (cnw C 20 64) t 0 (some C.1)).1))) 20 64) t 2 (some ((csr (cnw (csr (cnw C 20 64) t 0 (some C.1)) 20 64) t 1 (some ((csr (cnw C 20 64) t 0 (some C.1)).1))).1))).1))) t 4 0) t 5 13) a15 j19 2) t 0)) dX0_init_55 fw_0_9 hT11 rfl ?_
  refine ag_iconst (v := 1) dX0_init_58 rfl ?_
  refine ag_iconst (v := 4) dX0_init_59 rfl ?_
  obtain ⟨a21, hr22, h⟩ := h
  refine cr_stk (st' := [.int 4, .int 1, .ref a21]) (by rw [hr22]; rfl) ?_
  obtain ⟨n24, hT23, h⟩ := h
  obtain ⟨j25, hj26, h⟩ := h
  refine cr_is (C2 := (csi (csi (csi (csi (csr (cnw (csr (cnw (csr (cnw (csr (cnw C 20 64) t 0 (some C.1)) 20 64) t 1 (some ((csr (cnw C 20 64) t 0 (some C.1)).1))) 20 64) t 2 (some ((csr (cnw (csr (cnw C 20 64) t 0 (some C.1)) 20 64) t 1 (some ((csr (cnw C 20 64) t 0 (some C.1)).1))).1))) 20 64) t 3 (some ((csr (cnw (csr (cnw (csr (cnw C 20 64) t 0 (some C.1)) 20 64) t 1 (some ((csr (cnw C 20 64) t 0 (some C.1)).1))) 20 64) t 2 (some ((csr (cnw (csr (cnw C 20 64) t 0 (some C.1)) 20 64) t 1 (some ((csr (cnw C 20 64) t 0 (some C.1)).1))).1))).1))) t 4 0) t 5 13) a15 j19 2) a21 j25 4)) dX0_init_60 hT23 hj26 rfl ?_
  refine ag_aload_n dX0_init_61 rfl (Or.inr ⟨_, rfl⟩) ?_
  refine cr_get (v := va_rf (cR (csi (csi (csi (csi (csr (cnw (csr (cnw (csr (cnw (csr (cnw C 20 64) t 0 (some C.1)) 20 64) t 1 (some ((csr (cnw C 20 64) t 0 (some C.1)).1))) 20 64) t 2 (some ((csr (cnw (csr (cnw C 20 64) t 0 (some C.1)) 20 64) t 1 (some ((csr (cnw C 20 64) t 0 (some C.1)).1))).1))) 20 64) t 3 (some ((csr (cnw (csr (cnw (csr (cnw C 20 64) t 0 (some C.1)) 20 64) t 1 (some ((csr (cnw C 20 64) t 0 (some C.1)).1))) 20 64) t 2 (some ((csr (cnw (csr (cnw C 20 64) t 0 (some C.1)) 20 64) t 1 (some ((csr (cnw C 20 64) t 0 (some C.1)).1))).1))).1))) t 4 0) t 5 13) a15 j19 2) a21 j25 4) t 0)) dX0_init_62 fw_0_9 hT11 rfl ?_
  refine ag_iconst (v := 2) dX0_init_65 rfl ?_
  refine ag_bipush (v := 8) dX0_init_66 (by decide) ?_
  obtain ⟨a27, hr28, h⟩ := h
  refine cr_stk (st' := [.int 8, .int 2, .ref a27]) (by rw [hr28]; rfl) ?_
  obtain ⟨n30, hT29, h⟩ := h
  obtain ⟨j31, hj32, h⟩ := h
  refine cr_is (C2 := (csi (csi (csi (csi (csi (csr (cnw (csr (cnw (csr (cnw (csr (cnw C 20 64) t 0 (some C.1)) 20 64) t 1 (some ((csr (cnw C 20 64) t 0 (some C.1)).1))) 20 64) t 2 (some ((csr (cnw (csr (cnw C 20 64) t 0 (some C.1)) 20 64) t 1 (some ((csr (cnw C 20 64) t 0 (some C.1)).1))).1))) 20 64) t 3 (some ((csr (cnw (csr (cnw (csr (cnw C 20 64) t 0 (some C.1)) 20 64) t 1 (some ((csr (cnw C 20 64) t 0 (some C.1)).1))) 20 64) t 2 (some ((csr (cnw (csr (cnw C 20 64) t 0 (some C.1)) 20 64) t 1 (some ((csr (cnw C 20 64) t 0 (some C.1)).1))).1))).1))) t 4 0) t 5 13) a15 j19 2) a21 j25 4) a27 j31 8)) dX0_init_68 hT29 hj32 rfl ?_
  refine ag_iconst (v := 0) dX0_init_69 rfl ?_
  refine ag_istore_n (lv2 := [some (.ref t), some (.int 0)]) dX0_init_70 (Nat.le_of_ble_eq_true rfl) rfl ?_
  exact h
set_option maxRecDepth 20000 in
set_option maxHeartbeats 4000000 in
theorem w_X0_init_71 {c : cX} {d : Nat} {C : cS} {K : Option Value → cS → Prop} (t : Nat) (v1 : Int32) (hT0 : cT C t 0 6) (h : (13 ≤ v1 → (K none C)) ∧ (¬ 13 ≤ v1 → (∃ a2 : Nat, (cR C t 2) = some a2 ∧ (∃ n5 : Nat, cT C a2 20 n5 ∧ (∃ j6 : Nat, am_ix v1 j6 n5 ∧ (∃ a8 : Nat, (cR C t 3) = some a8 ∧ (∃ n11 : Nat, cT C a8 20 n11 ∧ (∃ j12 : Nat, am_ix v1 j12 n11 ∧ ((v1 < 3 → (cG c eX0_init (d + 1) (cQ K) 71 [some (.ref t), some (.int (v1 + 1))] [] (csi (csi C a2 j6 (-1)) a8 j12 (-1)))) ∧ (¬ v1 < 3 → (∃ a15 : Nat, (cR C t 0) = some a15 ∧ (∃ n18 : Nat, cT C a15 20 n18 ∧ (∃ j19 : Nat, am_ix v1 j19 n18 ∧ (∃ a21 : Nat, (cR C t 1) = some a21 ∧ (∃ n24 : Nat, cT C a21 20 n24 ∧ (∃ j25 : Nat, am_ix v1 j25 n24 ∧ (cG c eX0_init (d + 1) (cQ K) 71 [some (.ref t), some (.int (v1 + 1))] [] (csi (csi (csi (csi C a2 j6 (-1)) a8 j12 (-1)) a15 j19 1) a21 j25 (v1 - 3))))))))))))))))))) : cG c eX0_init (d + 1) (cQ K) 71 [some (.ref t), some (.int v1)] [] C := by
  refine ag_iload_n dX0_init_71 rfl ?_
  refine ag_bipush (v := 13) dX0_init_72 (by decide) ?_
  refine ag_icmp_ge (tgt := 118) dX0_init_74 rfl (fun hc1 => ?_) (fun hc1 => ?_)
  · have h := h.1 hc1
    exact ag_ret (v := none) dX0_init_118 rfl ⟨_, rfl, _, rfl, h⟩ rfl
  · have h := h.2 hc1
    refine ag_aload_n dX0_init_77 rfl (Or.inr ⟨_, rfl⟩) ?_
    refine cr_get (v := va_rf (cR C t 2)) dX0_init_78 fw_0_18 hT0 rfl ?_
    refine ag_iload_n dX0_init_81 rfl ?_
    refine ag_iconst (v := (-1)) dX0_init_82 rfl ?_
    obtain ⟨a2, hr3, h⟩ := h
    refine cr_stk (st' := [.int (-1), .int v1, .ref a2]) (by rw [hr3]; rfl) ?_
    obtain ⟨n5, hT4, h⟩ := h
    obtain ⟨j6, hj7, h⟩ := h
    refine cr_is (C2 := (csi C a2 j6 (-1))) dX0_init_83 hT4 hj7 rfl ?_
    refine ag_aload_n dX0_init_84 rfl (Or.inr ⟨_, rfl⟩) ?_
    refine cr_get (v := va_rf (cR C t 3)) dX0_init_85 fw_0_21 hT0 rfl ?_
    refine ag_iload_n dX0_init_88 rfl ?_
    refine ag_iconst (v := (-1)) dX0_init_89 rfl ?_
    obtain ⟨a8, hr9, h⟩ := h
    refine cr_stk (st' := [.int (-1), .int v1, .ref a8]) (by rw [hr9]; rfl) ?_
    obtain ⟨n11, hT10, h⟩ := h
    obtain ⟨j12, hj13, h⟩ := h
    refine cr_is (C2 := (csi (csi C a2 j6 (-1)) a8 j12 (-1))) dX0_init_90 hT10 hj13 rfl ?_
    refine ag_iload_n dX0_init_91 rfl ?_
    refine ag_iconst (v := 3) dX0_init_92 rfl ?_
    refine ag_icmp_lt (tgt := 112) dX0_init_93 rfl (fun hc14 => ?_) (fun hc14 => ?_)
    · have h := h.1 hc14
      refine ag_iinc (v2 := (v1 + 1)) (lv2 := [some (.ref t), some (.int (v1 + 1))]) dX0_init_112 rfl rfl rfl ?_
      refine ag_goto (tgt := 71) dX0_init_115 rfl ?_
      exact h
    · have h := h.2 hc14
      refine ag_aload_n dX0_init_96 rfl (Or.inr ⟨_, rfl⟩) ?_
      refine cr_get (v := va_rf (cR C t 0)) dX0_init_97 fw_0_9 hT0 rfl ?_
      refine ag_iload_n dX0_init_100 rfl ?_
      refine ag_iconst (v := 1) dX0_init_101 rfl ?_
      obtain ⟨a15, hr16, h⟩ := h
      refine cr_stk (st' := [.int 1, .int v1, .ref a15]) (by rw [hr16]; rfl) ?_
      obtain ⟨n18, hT17, h⟩ := h
      obtain ⟨j19, hj20, h⟩ := h
      refine cr_is (C2 := (csi (csi (csi C a2 j6 (-1)) a8 j12 (-1)) a15 j19 1)) dX0_init_102 hT17 hj20 rfl ?_
      refine ag_aload_n dX0_init_103 rfl (Or.inr ⟨_, rfl⟩) ?_
      refine cr_get (v := va_rf (cR C t 1)) dX0_init_104 fw_0_15 hT0 rfl ?_
      refine ag_iload_n dX0_init_107 rfl ?_
      refine ag_iload_n dX0_init_108 rfl ?_
      refine ag_iconst (v := 3) dX0_init_109 rfl ?_
      refine ag_isub dX0_init_110 rfl ?_
      obtain ⟨a21, hr22, h⟩ := h
      refine cr_stk (st' := [.int (v1 - 3), .int v1, .ref a21]) (by rw [hr22]; rfl) ?_
      obtain ⟨n24, hT23, h⟩ := h
      obtain ⟨j25, hj26, h⟩ := h
      refine cr_is (C2 := (csi (csi (csi (csi C a2 j6 (-1)) a8 j12 (-1)) a15 j19 1) a21 j25 (v1 - 3))) dX0_init_111 hT23 hj26 rfl ?_
      refine ag_iinc (v2 := (v1 + 1)) (lv2 := [some (.ref t), some (.int (v1 + 1))]) dX0_init_112 rfl rfl rfl ?_
      refine ag_goto (tgt := 71) dX0_init_115 rfl ?_
      exact h
theorem dX0_isKept_0 : decode cX0_isKept 0 = .ok (.iload_n 1, 1) := by decide +kernel
theorem dX0_isKept_1 : decode cX0_isKept 1 = .ok (.ifCond .lt 18, 3) := by decide +kernel
theorem dX0_isKept_4 : decode cX0_isKept 4 = .ok (.iload_n 1, 1) := by decide +kernel
theorem dX0_isKept_5 : decode cX0_isKept 5 = .ok (.bipush 13, 2) := by decide +kernel
theorem dX0_isKept_7 : decode cX0_isKept 7 = .ok (.aload_n 0, 1) := by decide +kernel
theorem dX0_isKept_8 : decode cX0_isKept 8 = .ok (.getfield 24, 3) := by decide +kernel
theorem dX0_isKept_11 : decode cX0_isKept 11 = .ok (.iadd, 1) := by decide +kernel
theorem dX0_isKept_12 : decode cX0_isKept 12 = .ok (.if_icmp .ge 7, 3) := by decide +kernel
theorem dX0_isKept_15 : decode cX0_isKept 15 = .ok (.iconst 1, 1) := by decide +kernel
theorem dX0_isKept_16 : decode cX0_isKept 16 = .ok (.goto 4, 3) := by decide +kernel
theorem dX0_isKept_19 : decode cX0_isKept 19 = .ok (.iconst 0, 1) := by decide +kernel
theorem dX0_isKept_20 : decode cX0_isKept 20 = .ok (.ireturn, 1) := by decide +kernel
set_option maxRecDepth 20000 in
set_option maxHeartbeats 4000000 in
theorem w_X0_isKept {c : cX} {d : Nat} {C : cS} {K : Option Value → cS → Prop} (t : Nat) (p0 : Int32) (h : (p0 < 0 → (K (some (.int 0)) C)) ∧ (¬ p0 < 0 → (cT C t 0 6 ∧ (((13 + (cI C t 4)) ≤ p0 → (K (some (.int 0)) C)) ∧ (¬ (13 + (cI C t 4)) ≤ p0 → (K (some (.int 1)) C)))))) : cM c d eX0_isKept [.ref t, .int p0] C K := by
  refine cM.of2 (lv := [some (.ref t), some (.int p0)]) (by decide) (Nat.le_of_ble_eq_true rfl) rfl ?_
  refine ag_iload_n dX0_isKept_0 rfl ?_
  refine ag_if_lt (tgt := 19) dX0_isKept_1 rfl (fun hc1 => ?_) (fun hc1 => ?_)
  · have h := h.1 hc1
    refine ag_iconst (v := 0) dX0_isKept_19 rfl ?_
    exact ag_ret (v := some (.int 0)) dX0_isKept_20 ⟨_, rfl, rB_n (Or.inl rfl)⟩ ⟨_, rfl, _, rfl, h⟩ rfl
  · have h := h.2 hc1
    refine ag_iload_n dX0_isKept_4 rfl ?_
    refine ag_bipush (v := 13) dX0_isKept_5 (by decide) ?_
    refine ag_aload_n dX0_isKept_7 rfl (Or.inr ⟨_, rfl⟩) ?_
    obtain ⟨hT2, h⟩ := h
    refine cr_get (v := .int (cI C t 4)) dX0_isKept_8 fw_0_24 hT2 rfl ?_
    refine ag_iadd dX0_isKept_11 rfl ?_
    refine ag_icmp_ge (tgt := 19) dX0_isKept_12 rfl (fun hc3 => ?_) (fun hc3 => ?_)
    · have h := h.1 hc3
      refine ag_iconst (v := 0) dX0_isKept_19 rfl ?_
      exact ag_ret (v := some (.int 0)) dX0_isKept_20 ⟨_, rfl, rB_n (Or.inl rfl)⟩ ⟨_, rfl, _, rfl, h⟩ rfl
    · have h := h.2 hc3
      refine ag_iconst (v := 1) dX0_isKept_15 rfl ?_
      refine ag_goto (tgt := 20) dX0_isKept_16 rfl ?_
      exact ag_ret (v := some (.int 1)) dX0_isKept_20 ⟨_, rfl, rB_n (Or.inr rfl)⟩ ⟨_, rfl, _, rfl, h⟩ rfl
theorem dX0_dropUnkept_0 : decode cX0_dropUnkept 0 = .ok (.aload_n 0, 1) := by decide +kernel
theorem dX0_dropUnkept_1 : decode cX0_dropUnkept 1 = .ok (.bipush 13, 2) := by decide +kernel
theorem dX0_dropUnkept_3 : decode cX0_dropUnkept 3 = .ok (.aload_n 0, 1) := by decide +kernel
theorem dX0_dropUnkept_4 : decode cX0_dropUnkept 4 = .ok (.getfield 24, 3) := by decide +kernel
theorem dX0_dropUnkept_7 : decode cX0_dropUnkept 7 = .ok (.iadd, 1) := by decide +kernel
theorem dX0_dropUnkept_8 : decode cX0_dropUnkept 8 = .ok (.putfield 28, 3) := by decide +kernel
theorem dX0_dropUnkept_11 : decode cX0_dropUnkept 11 = .ok (.return_, 1) := by decide +kernel
set_option maxRecDepth 20000 in
set_option maxHeartbeats 4000000 in
theorem w_X0_dropUnkept {c : cX} {d : Nat} {C : cS} {K : Option Value → cS → Prop} (t : Nat) (h : cT C t 0 6 ∧ (K none (csi C t 5 (13 + (cI C t 4))))) : cM c d eX0_dropUnkept [.ref t] C K := by
  refine cM.of2 (lv := [some (.ref t)]) (by decide) (Nat.le_of_ble_eq_true rfl) rfl ?_
  refine ag_aload_n dX0_dropUnkept_0 rfl (Or.inr ⟨_, rfl⟩) ?_
  refine ag_bipush (v := 13) dX0_dropUnkept_1 (by decide) ?_
  refine ag_aload_n dX0_dropUnkept_3 rfl (Or.inr ⟨_, rfl⟩) ?_
  obtain ⟨hT1, h⟩ := h
  refine cr_get (v := .int (cI C t 4)) dX0_dropUnkept_4 fw_0_24 hT1 rfl ?_
  refine ag_iadd dX0_dropUnkept_7 rfl ?_
  refine cr_pi (C2 := (csi C t 5 (13 + (cI C t 4)))) dX0_dropUnkept_8 pw_0_28 rfl hT1 (fun _ => ⟨rfl, rfl⟩) rfl ?_
  exact ag_ret (v := none) dX0_dropUnkept_11 rfl ⟨_, rfl, _, rfl, h⟩ rfl
theorem dX0_dropAll_0 : decode cX0_dropAll 0 = .ok (.aload_n 0, 1) := by decide +kernel
theorem dX0_dropAll_1 : decode cX0_dropAll 1 = .ok (.iconst 0, 1) := by decide +kernel
theorem dX0_dropAll_2 : decode cX0_dropAll 2 = .ok (.putfield 24, 3) := by decide +kernel
theorem dX0_dropAll_5 : decode cX0_dropAll 5 = .ok (.aload_n 0, 1) := by decide +kernel
theorem dX0_dropAll_6 : decode cX0_dropAll 6 = .ok (.bipush 13, 2) := by decide +kernel
theorem dX0_dropAll_8 : decode cX0_dropAll 8 = .ok (.putfield 28, 3) := by decide +kernel
theorem dX0_dropAll_11 : decode cX0_dropAll 11 = .ok (.return_, 1) := by decide +kernel
set_option maxRecDepth 20000 in
set_option maxHeartbeats 4000000 in
theorem w_X0_dropAll {c : cX} {d : Nat} {C : cS} {K : Option Value → cS → Prop} (t : Nat) (h : cT C t 0 6 ∧ (K none (csi (csi C t 4 0) t 5 13))) : cM c d eX0_dropAll [.ref t] C K := by
  refine cM.of2 (lv := [some (.ref t)]) (by decide) (Nat.le_of_ble_eq_true rfl) rfl ?_
  refine ag_aload_n dX0_dropAll_0 rfl (Or.inr ⟨_, rfl⟩) ?_
  refine ag_iconst (v := 0) dX0_dropAll_1 rfl ?_
  obtain ⟨hT1, h⟩ := h
  refine cr_pi (C2 := (csi C t 4 0)) dX0_dropAll_2 pw_0_24 rfl hT1 (fun _ => ⟨rfl, rfl⟩) rfl ?_
  refine ag_aload_n dX0_dropAll_5 rfl (Or.inr ⟨_, rfl⟩) ?_
  refine ag_bipush (v := 13) dX0_dropAll_6 (by decide) ?_
  refine cr_pi (C2 := (csi (csi C t 4 0) t 5 13)) dX0_dropAll_8 pw_0_28 rfl hT1 (fun _ => ⟨rfl, rfl⟩) rfl ?_
  exact ag_ret (v := none) dX0_dropAll_11 rfl ⟨_, rfl, _, rfl, h⟩ rfl
theorem dX0_keepNumber_0 : decode cX0_keepNumber 0 = .ok (.aload_n 0, 1) := by decide +kernel
theorem dX0_keepNumber_1 : decode cX0_keepNumber 1 = .ok (.invokevirtual 31, 3) := by decide +kernel
theorem dX0_keepNumber_4 : decode cX0_keepNumber 4 = .ok (.aload_n 0, 1) := by decide +kernel
theorem dX0_keepNumber_5 : decode cX0_keepNumber 5 = .ok (.dup, 1) := by decide +kernel
theorem dX0_keepNumber_6 : decode cX0_keepNumber 6 = .ok (.getfield 24, 3) := by decide +kernel
theorem dX0_keepNumber_9 : decode cX0_keepNumber 9 = .ok (.iconst 1, 1) := by decide +kernel
theorem dX0_keepNumber_10 : decode cX0_keepNumber 10 = .ok (.iadd, 1) := by decide +kernel
theorem dX0_keepNumber_11 : decode cX0_keepNumber 11 = .ok (.putfield 24, 3) := by decide +kernel
theorem dX0_keepNumber_14 : decode cX0_keepNumber 14 = .ok (.aload_n 0, 1) := by decide +kernel
theorem dX0_keepNumber_15 : decode cX0_keepNumber 15 = .ok (.iload_n 1, 1) := by decide +kernel
theorem dX0_keepNumber_16 : decode cX0_keepNumber 16 = .ok (.invokevirtual 34, 3) := by decide +kernel
theorem dX0_keepNumber_19 : decode cX0_keepNumber 19 = .ok (.ireturn, 1) := by decide +kernel
set_option maxRecDepth 20000 in
set_option maxHeartbeats 4000000 in
theorem w_X0_keepNumber {c : cX} {d : Nat} {C : cS} {K : Option Value → cS → Prop} (t : Nat) (p0 : Int32) (h : cT C t 0 6 ∧ (cM c d eX0_dropUnkept (.ref t :: []) C (fun v C1 => v = none ∧ cle C C1 ∧ (cM c d eX0_addNumber (.ref t :: [.int p0]) (csi C1 t 4 ((cI C1 t 4) + 1)) (fun v C6 => ∃ z7 : Int32, v = some (.int z7) ∧ cle (csi C1 t 4 ((cI C1 t 4) + 1)) C6 ∧ (K (some (.int z7)) C6)))))) : cM c (d + 1) eX0_keepNumber [.ref t, .int p0] C K := by
  refine cM.of2 (lv := [some (.ref t), some (.int p0)]) (by decide) (Nat.le_of_ble_eq_true rfl) rfl ?_
  refine ag_aload_n dX0_keepNumber_0 rfl (Or.inr ⟨_, rfl⟩) ?_
  obtain ⟨hT4, h⟩ := h
  refine cr_callV (as := []) (rest := []) dX0_keepNumber_1 me_X0_dropUnkept mi_X0_dropUnkept lk_0_31 hT4 rfl rfl (Nat.le_of_ble_eq_true rfl) ?_
  refine cM.mono h ?_
  rintro v C1 ⟨rfl, hL3, h⟩
  have hT5 := cT.le (C := C) hT4 hL3
  show cG _ _ _ _ _ _ [] _
  refine ag_aload_n dX0_keepNumber_4 rfl (Or.inr ⟨_, rfl⟩) ?_
  refine ag_dup dX0_keepNumber_5 rfl ?_
  refine cr_get (v := .int (cI C1 t 4)) dX0_keepNumber_6 fw_0_24 hT5 rfl ?_
  refine ag_iconst (v := 1) dX0_keepNumber_9 rfl ?_
  refine ag_iadd dX0_keepNumber_10 rfl ?_
  refine cr_pi (C2 := (csi C1 t 4 ((cI C1 t 4) + 1))) dX0_keepNumber_11 pw_0_24 rfl hT5 (fun _ => ⟨rfl, rfl⟩) rfl ?_
  refine ag_aload_n dX0_keepNumber_14 rfl (Or.inr ⟨_, rfl⟩) ?_
  refine ag_iload_n dX0_keepNumber_15 rfl ?_
  refine cr_callV (as := [.int p0]) (rest := []) dX0_keepNumber_16 me_X0_addNumber mi_X0_addNumber lk_0_34 hT5 rfl rfl (Nat.le_of_ble_eq_true rfl) ?_
  refine cM.mono h ?_
  rintro v C6 ⟨z7, rfl, hL8, h⟩
  have hT9 := cT.le (C := (csi C1 t 4 ((cI C1 t 4) + 1))) hT5 hL8
  show cG _ _ _ _ _ _ [.int z7] _
  exact ag_ret (v := some (.int z7)) dX0_keepNumber_19 ⟨_, rfl, rfl⟩ ⟨_, rfl, _, rfl, h⟩ rfl
theorem dX0_keepPair_0 : decode cX0_keepPair 0 = .ok (.aload_n 0, 1) := by decide +kernel
theorem dX0_keepPair_1 : decode cX0_keepPair 1 = .ok (.invokevirtual 31, 3) := by decide +kernel
theorem dX0_keepPair_4 : decode cX0_keepPair 4 = .ok (.aload_n 0, 1) := by decide +kernel
theorem dX0_keepPair_5 : decode cX0_keepPair 5 = .ok (.dup, 1) := by decide +kernel
theorem dX0_keepPair_6 : decode cX0_keepPair 6 = .ok (.getfield 24, 3) := by decide +kernel
theorem dX0_keepPair_9 : decode cX0_keepPair 9 = .ok (.iconst 1, 1) := by decide +kernel
theorem dX0_keepPair_10 : decode cX0_keepPair 10 = .ok (.iadd, 1) := by decide +kernel
theorem dX0_keepPair_11 : decode cX0_keepPair 11 = .ok (.putfield 24, 3) := by decide +kernel
theorem dX0_keepPair_14 : decode cX0_keepPair 14 = .ok (.aload_n 0, 1) := by decide +kernel
theorem dX0_keepPair_15 : decode cX0_keepPair 15 = .ok (.iload_n 1, 1) := by decide +kernel
theorem dX0_keepPair_16 : decode cX0_keepPair 16 = .ok (.iload_n 2, 1) := by decide +kernel
theorem dX0_keepPair_17 : decode cX0_keepPair 17 = .ok (.invokevirtual 38, 3) := by decide +kernel
theorem dX0_keepPair_20 : decode cX0_keepPair 20 = .ok (.ireturn, 1) := by decide +kernel
set_option maxRecDepth 20000 in
set_option maxHeartbeats 4000000 in
theorem w_X0_keepPair {c : cX} {d : Nat} {C : cS} {K : Option Value → cS → Prop} (t : Nat) (p0 : Int32) (p1 : Int32) (h : cT C t 0 6 ∧ (cM c d eX0_dropUnkept (.ref t :: []) C (fun v C1 => v = none ∧ cle C C1 ∧ (cM c d eX0_addPair (.ref t :: [.int p0, .int p1]) (csi C1 t 4 ((cI C1 t 4) + 1)) (fun v C6 => ∃ z7 : Int32, v = some (.int z7) ∧ cle (csi C1 t 4 ((cI C1 t 4) + 1)) C6 ∧ (K (some (.int z7)) C6)))))) : cM c (d + 1) eX0_keepPair [.ref t, .int p0, .int p1] C K := by
  refine cM.of2 (lv := [some (.ref t), some (.int p0), some (.int p1)]) (by decide) (Nat.le_of_ble_eq_true rfl) rfl ?_
  refine ag_aload_n dX0_keepPair_0 rfl (Or.inr ⟨_, rfl⟩) ?_
  obtain ⟨hT4, h⟩ := h
  refine cr_callV (as := []) (rest := []) dX0_keepPair_1 me_X0_dropUnkept mi_X0_dropUnkept lk_0_31 hT4 rfl rfl (Nat.le_of_ble_eq_true rfl) ?_
  refine cM.mono h ?_
  rintro v C1 ⟨rfl, hL3, h⟩
  have hT5 := cT.le (C := C) hT4 hL3
  show cG _ _ _ _ _ _ [] _
  refine ag_aload_n dX0_keepPair_4 rfl (Or.inr ⟨_, rfl⟩) ?_
  refine ag_dup dX0_keepPair_5 rfl ?_
  refine cr_get (v := .int (cI C1 t 4)) dX0_keepPair_6 fw_0_24 hT5 rfl ?_
  refine ag_iconst (v := 1) dX0_keepPair_9 rfl ?_
  refine ag_iadd dX0_keepPair_10 rfl ?_
  refine cr_pi (C2 := (csi C1 t 4 ((cI C1 t 4) + 1))) dX0_keepPair_11 pw_0_24 rfl hT5 (fun _ => ⟨rfl, rfl⟩) rfl ?_
  refine ag_aload_n dX0_keepPair_14 rfl (Or.inr ⟨_, rfl⟩) ?_
  refine ag_iload_n dX0_keepPair_15 rfl ?_
  refine ag_iload_n dX0_keepPair_16 rfl ?_
  refine cr_callV (as := [.int p0, .int p1]) (rest := []) dX0_keepPair_17 me_X0_addPair mi_X0_addPair lk_0_38 hT5 rfl rfl (Nat.le_of_ble_eq_true rfl) ?_
  refine cM.mono h ?_
  rintro v C6 ⟨z7, rfl, hL8, h⟩
  have hT9 := cT.le (C := (csi C1 t 4 ((cI C1 t 4) + 1))) hT5 hL8
  show cG _ _ _ _ _ _ [.int z7] _
  exact ag_ret (v := some (.int z7)) dX0_keepPair_20 ⟨_, rfl, rfl⟩ ⟨_, rfl, _, rfl, h⟩ rfl
theorem dX0_addNumber_0 : decode cX0_addNumber 0 = .ok (.aload_n 0, 1) := by decide +kernel
theorem dX0_addNumber_1 : decode cX0_addNumber 1 = .ok (.iconst 1, 1) := by decide +kernel
theorem dX0_addNumber_2 : decode cX0_addNumber 2 = .ok (.iload_n 1, 1) := by decide +kernel
theorem dX0_addNumber_3 : decode cX0_addNumber 3 = .ok (.iconst (-1), 1) := by decide +kernel
theorem dX0_addNumber_4 : decode cX0_addNumber 4 = .ok (.iconst (-1), 1) := by decide +kernel
theorem dX0_addNumber_5 : decode cX0_addNumber 5 = .ok (.invokevirtual 42, 3) := by decide +kernel
theorem dX0_addNumber_8 : decode cX0_addNumber 8 = .ok (.ireturn, 1) := by decide +kernel
set_option maxRecDepth 20000 in
set_option maxHeartbeats 4000000 in
theorem w_X0_addNumber {c : cX} {d : Nat} {C : cS} {K : Option Value → cS → Prop} (t : Nat) (p0 : Int32) (h : cT C t 0 6 ∧ (cM c d eX0_add (.ref t :: [.int 1, .int p0, .int (-1), .int (-1)]) C (fun v C1 => ∃ z2 : Int32, v = some (.int z2) ∧ cle C C1 ∧ (K (some (.int z2)) C1)))) : cM c (d + 1) eX0_addNumber [.ref t, .int p0] C K := by
  refine cM.of2 (lv := [some (.ref t), some (.int p0)]) (by decide) (Nat.le_of_ble_eq_true rfl) rfl ?_
  refine ag_aload_n dX0_addNumber_0 rfl (Or.inr ⟨_, rfl⟩) ?_
  refine ag_iconst (v := 1) dX0_addNumber_1 rfl ?_
  refine ag_iload_n dX0_addNumber_2 rfl ?_
  refine ag_iconst (v := (-1)) dX0_addNumber_3 rfl ?_
  refine ag_iconst (v := (-1)) dX0_addNumber_4 rfl ?_
  obtain ⟨hT4, h⟩ := h
  refine cr_callV (as := [.int 1, .int p0, .int (-1), .int (-1)]) (rest := []) dX0_addNumber_5 me_X0_add mi_X0_add lk_0_42 hT4 rfl rfl (Nat.le_of_ble_eq_true rfl) ?_
  refine cM.mono h ?_
  rintro v C1 ⟨z2, rfl, hL3, h⟩
  have hT5 := cT.le (C := C) hT4 hL3
  show cG _ _ _ _ _ _ [.int z2] _
  exact ag_ret (v := some (.int z2)) dX0_addNumber_8 ⟨_, rfl, rfl⟩ ⟨_, rfl, _, rfl, h⟩ rfl
theorem dX0_addPair_0 : decode cX0_addPair 0 = .ok (.aload_n 0, 1) := by decide +kernel
theorem dX0_addPair_1 : decode cX0_addPair 1 = .ok (.bipush 16, 2) := by decide +kernel
theorem dX0_addPair_3 : decode cX0_addPair 3 = .ok (.iconst 0, 1) := by decide +kernel
theorem dX0_addPair_4 : decode cX0_addPair 4 = .ok (.iload_n 1, 1) := by decide +kernel
theorem dX0_addPair_5 : decode cX0_addPair 5 = .ok (.iload_n 2, 1) := by decide +kernel
theorem dX0_addPair_6 : decode cX0_addPair 6 = .ok (.invokevirtual 42, 3) := by decide +kernel
theorem dX0_addPair_9 : decode cX0_addPair 9 = .ok (.ireturn, 1) := by decide +kernel
set_option maxRecDepth 20000 in
set_option maxHeartbeats 4000000 in
theorem w_X0_addPair {c : cX} {d : Nat} {C : cS} {K : Option Value → cS → Prop} (t : Nat) (p0 : Int32) (p1 : Int32) (h : cT C t 0 6 ∧ (cM c d eX0_add (.ref t :: [.int 16, .int 0, .int p0, .int p1]) C (fun v C1 => ∃ z2 : Int32, v = some (.int z2) ∧ cle C C1 ∧ (K (some (.int z2)) C1)))) : cM c (d + 1) eX0_addPair [.ref t, .int p0, .int p1] C K := by
  refine cM.of2 (lv := [some (.ref t), some (.int p0), some (.int p1)]) (by decide) (Nat.le_of_ble_eq_true rfl) rfl ?_
  refine ag_aload_n dX0_addPair_0 rfl (Or.inr ⟨_, rfl⟩) ?_
  refine ag_bipush (v := 16) dX0_addPair_1 (by decide) ?_
  refine ag_iconst (v := 0) dX0_addPair_3 rfl ?_
  refine ag_iload_n dX0_addPair_4 rfl ?_
  refine ag_iload_n dX0_addPair_5 rfl ?_
  obtain ⟨hT4, h⟩ := h
  refine cr_callV (as := [.int 16, .int 0, .int p0, .int p1]) (rest := []) dX0_addPair_6 me_X0_add mi_X0_add lk_0_42 hT4 rfl rfl (Nat.le_of_ble_eq_true rfl) ?_
  refine cM.mono h ?_
  rintro v C1 ⟨z2, rfl, hL3, h⟩
  have hT5 := cT.le (C := C) hT4 hL3
  show cG _ _ _ _ _ _ [.int z2] _
  exact ag_ret (v := some (.int z2)) dX0_addPair_9 ⟨_, rfl, rfl⟩ ⟨_, rfl, _, rfl, h⟩ rfl
theorem dX0_add_0 : decode cX0_add 0 = .ok (.aload_n 0, 1) := by decide +kernel
theorem dX0_add_1 : decode cX0_add 1 = .ok (.getfield 28, 3) := by decide +kernel
theorem dX0_add_4 : decode cX0_add 4 = .ok (.ifCond .lt 12, 3) := by decide +kernel
theorem dX0_add_7 : decode cX0_add 7 = .ok (.aload_n 0, 1) := by decide +kernel
theorem dX0_add_8 : decode cX0_add 8 = .ok (.getfield 28, 3) := by decide +kernel
theorem dX0_add_11 : decode cX0_add 11 = .ok (.bipush 64, 2) := by decide +kernel
theorem dX0_add_13 : decode cX0_add 13 = .ok (.if_icmp .lt 5, 3) := by decide +kernel
theorem dX0_add_16 : decode cX0_add 16 = .ok (.iconst (-1), 1) := by decide +kernel
theorem dX0_add_17 : decode cX0_add 17 = .ok (.ireturn, 1) := by decide +kernel
theorem dX0_add_18 : decode cX0_add 18 = .ok (.aload_n 0, 1) := by decide +kernel
theorem dX0_add_19 : decode cX0_add 19 = .ok (.getfield 28, 3) := by decide +kernel
theorem dX0_add_22 : decode cX0_add 22 = .ok (.istore 5, 2) := by decide +kernel
theorem dX0_add_24 : decode cX0_add 24 = .ok (.aload_n 0, 1) := by decide +kernel
theorem dX0_add_25 : decode cX0_add 25 = .ok (.getfield 9, 3) := by decide +kernel
theorem dX0_add_28 : decode cX0_add 28 = .ok (.iload 5, 2) := by decide +kernel
theorem dX0_add_30 : decode cX0_add 30 = .ok (.iload_n 1, 1) := by decide +kernel
theorem dX0_add_31 : decode cX0_add 31 = .ok (.iastore, 1) := by decide +kernel
theorem dX0_add_32 : decode cX0_add 32 = .ok (.aload_n 0, 1) := by decide +kernel
theorem dX0_add_33 : decode cX0_add 33 = .ok (.getfield 15, 3) := by decide +kernel
theorem dX0_add_36 : decode cX0_add 36 = .ok (.iload 5, 2) := by decide +kernel
theorem dX0_add_38 : decode cX0_add 38 = .ok (.iload_n 2, 1) := by decide +kernel
theorem dX0_add_39 : decode cX0_add 39 = .ok (.iastore, 1) := by decide +kernel
theorem dX0_add_40 : decode cX0_add 40 = .ok (.aload_n 0, 1) := by decide +kernel
theorem dX0_add_41 : decode cX0_add 41 = .ok (.getfield 18, 3) := by decide +kernel
theorem dX0_add_44 : decode cX0_add 44 = .ok (.iload 5, 2) := by decide +kernel
theorem dX0_add_46 : decode cX0_add 46 = .ok (.iload_n 3, 1) := by decide +kernel
theorem dX0_add_47 : decode cX0_add 47 = .ok (.iastore, 1) := by decide +kernel
theorem dX0_add_48 : decode cX0_add 48 = .ok (.aload_n 0, 1) := by decide +kernel
theorem dX0_add_49 : decode cX0_add 49 = .ok (.getfield 21, 3) := by decide +kernel
theorem dX0_add_52 : decode cX0_add 52 = .ok (.iload 5, 2) := by decide +kernel
theorem dX0_add_54 : decode cX0_add 54 = .ok (.iload 4, 2) := by decide +kernel
theorem dX0_add_56 : decode cX0_add 56 = .ok (.iastore, 1) := by decide +kernel
theorem dX0_add_57 : decode cX0_add 57 = .ok (.aload_n 0, 1) := by decide +kernel
theorem dX0_add_58 : decode cX0_add 58 = .ok (.dup, 1) := by decide +kernel
theorem dX0_add_59 : decode cX0_add 59 = .ok (.getfield 28, 3) := by decide +kernel
theorem dX0_add_62 : decode cX0_add 62 = .ok (.iconst 1, 1) := by decide +kernel
theorem dX0_add_63 : decode cX0_add 63 = .ok (.iadd, 1) := by decide +kernel
theorem dX0_add_64 : decode cX0_add 64 = .ok (.putfield 28, 3) := by decide +kernel
theorem dX0_add_67 : decode cX0_add 67 = .ok (.iload 5, 2) := by decide +kernel
theorem dX0_add_69 : decode cX0_add 69 = .ok (.ireturn, 1) := by decide +kernel
set_option maxRecDepth 20000 in
set_option maxHeartbeats 4000000 in
theorem w_X0_add {c : cX} {d : Nat} {C : cS} {K : Option Value → cS → Prop} (t : Nat) (p0 : Int32) (p1 : Int32) (p2 : Int32) (p3 : Int32) (h : cT C t 0 6 ∧ (((cI C t 5) < 0 → (K (some (.int (-1))) C)) ∧ (¬ (cI C t 5) < 0 → (((cI C t 5) < 64 → (∃ a4 : Nat, (cR C t 0) = some a4 ∧ (∃ n7 : Nat, cT C a4 20 n7 ∧ (∃ j8 : Nat, am_ix (cI C t 5) j8 n7 ∧ (∃ a10 : Nat, (cR C t 1) = some a10 ∧ (∃ n13 : Nat, cT C a10 20 n13 ∧ (∃ j14 : Nat, am_ix (cI C t 5) j14 n13 ∧ (∃ a16 : Nat, (cR C t 2) = some a16 ∧ (∃ n19 : Nat, cT C a16 20 n19 ∧ (∃ j20 : Nat, am_ix (cI C t 5) j20 n19 ∧ (∃ a22 : Nat, (cR C t 3) = some a22 ∧ (∃ n25 : Nat, cT C a22 20 n25 ∧ (∃ j26 : Nat, am_ix (cI C t 5) j26 n25 ∧ (K (some (.int (cI C t 5))) (csi (csi (csi (csi (csi C a4 j8 p0) a10 j14 p1) a16 j20 p2) a22 j26 p3) t 5 ((cI (csi (csi (csi (csi C a4 j8 p0) a10 j14 p1) a16 j20 p2) a22 j26 p3) t 5) + 1)))))))))))))))) ∧ (¬ (cI C t 5) < 64 → (K (some (.int (-1))) C)))))) : cM c d eX0_add [.ref t, .int p0, .int p1, .int p2, .int p3] C K := by
  refine cM.of2 (lv := [some (.ref t), some (.int p0), some (.int p1), some (.int p2), some (.int p3), none]) (by decide) (Nat.le_of_ble_eq_true rfl) rfl ?_
  refine ag_aload_n dX0_add_0 rfl (Or.inr ⟨_, rfl⟩) ?_
  obtain ⟨hT1, h⟩ := h
  refine cr_get (v := .int (cI C t 5)) dX0_add_1 fw_0_28 hT1 rfl ?_
  refine ag_if_lt (tgt := 16) dX0_add_4 rfl (fun hc2 => ?_) (fun hc2 => ?_)
  · have h := h.1 hc2
    refine ag_iconst (v := (-1)) dX0_add_16 rfl ?_
    exact ag_ret (v := some (.int (-1))) dX0_add_17 ⟨_, rfl, rfl⟩ ⟨_, rfl, _, rfl, h⟩ rfl
  · have h := h.2 hc2
    refine ag_aload_n dX0_add_7 rfl (Or.inr ⟨_, rfl⟩) ?_
    refine cr_get (v := .int (cI C t 5)) dX0_add_8 fw_0_28 hT1 rfl ?_
    refine ag_bipush (v := 64) dX0_add_11 (by decide) ?_
    refine ag_icmp_lt (tgt := 18) dX0_add_13 rfl (fun hc3 => ?_) (fun hc3 => ?_)
    · have h := h.1 hc3
      refine ag_aload_n dX0_add_18 rfl (Or.inr ⟨_, rfl⟩) ?_
      refine cr_get (v := .int (cI C t 5)) dX0_add_19 fw_0_28 hT1 rfl ?_
      refine ag_istore (lv2 := [some (.ref t), some (.int p0), some (.int p1), some (.int p2), some (.int p3), some (.int (cI C t 5))]) dX0_add_22 (Nat.le_of_ble_eq_true rfl) rfl ?_
      refine ag_aload_n dX0_add_24 rfl (Or.inr ⟨_, rfl⟩) ?_
      refine cr_get (v := va_rf (cR C t 0)) dX0_add_25 fw_0_9 hT1 rfl ?_
      refine ag_iload dX0_add_28 rfl ?_
      refine ag_iload_n dX0_add_30 rfl ?_
      obtain ⟨a4, hr5, h⟩ := h
      refine cr_stk (st' := [.int p0, .int (cI C t 5), .ref a4]) (by rw [hr5]; rfl) ?_
      obtain ⟨n7, hT6, h⟩ := h
      obtain ⟨j8, hj9, h⟩ := h
      refine cr_is (C2 := (csi C a4 j8 p0)) dX0_add_31 hT6 hj9 rfl ?_
      refine ag_aload_n dX0_add_32 rfl (Or.inr ⟨_, rfl⟩) ?_
      refine cr_get (v := va_rf (cR C t 1)) dX0_add_33 fw_0_15 hT1 rfl ?_
      refine ag_iload dX0_add_36 rfl ?_
      refine ag_iload_n dX0_add_38 rfl ?_
      obtain ⟨a10, hr11, h⟩ := h
      refine cr_stk (st' := [.int p1, .int (cI C t 5), .ref a10]) (by rw [hr11]; rfl) ?_
      obtain ⟨n13, hT12, h⟩ := h
      obtain ⟨j14, hj15, h⟩ := h
      refine cr_is (C2 := (csi (csi C a4 j8 p0) a10 j14 p1)) dX0_add_39 hT12 hj15 rfl ?_
      refine ag_aload_n dX0_add_40 rfl (Or.inr ⟨_, rfl⟩) ?_
      refine cr_get (v := va_rf (cR C t 2)) dX0_add_41 fw_0_18 hT1 rfl ?_
      refine ag_iload dX0_add_44 rfl ?_
      refine ag_iload_n dX0_add_46 rfl ?_
      obtain ⟨a16, hr17, h⟩ := h
      refine cr_stk (st' := [.int p2, .int (cI C t 5), .ref a16]) (by rw [hr17]; rfl) ?_
      obtain ⟨n19, hT18, h⟩ := h
      obtain ⟨j20, hj21, h⟩ := h
      refine cr_is (C2 := (csi (csi (csi C a4 j8 p0) a10 j14 p1) a16 j20 p2)) dX0_add_47 hT18 hj21 rfl ?_
      refine ag_aload_n dX0_add_48 rfl (Or.inr ⟨_, rfl⟩) ?_
      refine cr_get (v := va_rf (cR C t 3)) dX0_add_49 fw_0_21 hT1 rfl ?_
      refine ag_iload dX0_add_52 rfl ?_
      refine ag_iload dX0_add_54 rfl ?_
      obtain ⟨a22, hr23, h⟩ := h
      refine cr_stk (st' := [.int p3, .int (cI C t 5), .ref a22]) (by rw [hr23]; rfl) ?_
      obtain ⟨n25, hT24, h⟩ := h
      obtain ⟨j26, hj27, h⟩ := h
      refine cr_is (C2 := (csi (csi (csi (csi C a4 j8 p0) a10 j14 p1) a16 j20 p2) a22 j26 p3)) dX0_add_56 hT24 hj27 rfl ?_
      refine ag_aload_n dX0_add_57 rfl (Or.inr ⟨_, rfl⟩) ?_
      refine ag_dup dX0_add_58 rfl ?_
      refine cr_get (v := .int (cI (csi (csi (csi (csi C a4 j8 p0) a10 j14 p1) a16 j20 p2) a22 j26 p3) t 5)) dX0_add_59 fw_0_28 hT1 rfl ?_
      refine ag_iconst (v := 1) dX0_add_62 rfl ?_
      refine ag_iadd dX0_add_63 rfl ?_
      refine cr_pi (C2 := (csi (csi (csi (csi (csi C a4 j8 p0) a10 j14 p1) a16 j20 p2) a22 j26 p3) t 5 ((cI (csi (csi (csi (csi C a4 j8 p0) a10 j14 p1) a16 j20 p2) a22 j26 p3) t 5) + 1))) dX0_add_64 pw_0_28 rfl hT1 (fun _ => ⟨rfl, rfl⟩) rfl ?_
      refine ag_iload dX0_add_67 rfl ?_
      exact ag_ret (v := some (.int (cI C t 5))) dX0_add_69 ⟨_, rfl, rfl⟩ ⟨_, rfl, _, rfl, h⟩ rfl
    · have h := h.2 hc3
      refine ag_iconst (v := (-1)) dX0_add_16 rfl ?_
      exact ag_ret (v := some (.int (-1))) dX0_add_17 ⟨_, rfl, rfl⟩ ⟨_, rfl, _, rfl, h⟩ rfl
theorem dX0_part_0 : decode cX0_part 0 = .ok (.iload_n 1, 1) := by decide +kernel
theorem dX0_part_1 : decode cX0_part 1 = .ok (.ifCond .lt 17, 3) := by decide +kernel
theorem dX0_part_4 : decode cX0_part 4 = .ok (.iload_n 1, 1) := by decide +kernel
theorem dX0_part_5 : decode cX0_part 5 = .ok (.aload_n 0, 1) := by decide +kernel
theorem dX0_part_6 : decode cX0_part 6 = .ok (.getfield 28, 3) := by decide +kernel
theorem dX0_part_9 : decode cX0_part 9 = .ok (.if_icmp .ge 9, 3) := by decide +kernel
theorem dX0_part_12 : decode cX0_part 12 = .ok (.iload_n 1, 1) := by decide +kernel
theorem dX0_part_13 : decode cX0_part 13 = .ok (.bipush 64, 2) := by decide +kernel
theorem dX0_part_15 : decode cX0_part 15 = .ok (.if_icmp .lt 5, 3) := by decide +kernel
theorem dX0_part_18 : decode cX0_part 18 = .ok (.iconst (-1), 1) := by decide +kernel
theorem dX0_part_19 : decode cX0_part 19 = .ok (.ireturn, 1) := by decide +kernel
theorem dX0_part_20 : decode cX0_part 20 = .ok (.iload_n 2, 1) := by decide +kernel
theorem dX0_part_21 : decode cX0_part 21 = .ok (.ifCond .ne 12, 3) := by decide +kernel
theorem dX0_part_24 : decode cX0_part 24 = .ok (.aload_n 0, 1) := by decide +kernel
theorem dX0_part_25 : decode cX0_part 25 = .ok (.getfield 9, 3) := by decide +kernel
theorem dX0_part_28 : decode cX0_part 28 = .ok (.iload_n 1, 1) := by decide +kernel
theorem dX0_part_29 : decode cX0_part 29 = .ok (.iaload, 1) := by decide +kernel
theorem dX0_part_30 : decode cX0_part 30 = .ok (.goto 37, 3) := by decide +kernel
theorem dX0_part_33 : decode cX0_part 33 = .ok (.iload_n 2, 1) := by decide +kernel
theorem dX0_part_34 : decode cX0_part 34 = .ok (.iconst 1, 1) := by decide +kernel
theorem dX0_part_35 : decode cX0_part 35 = .ok (.if_icmp .ne 12, 3) := by decide +kernel
theorem dX0_part_38 : decode cX0_part 38 = .ok (.aload_n 0, 1) := by decide +kernel
theorem dX0_part_39 : decode cX0_part 39 = .ok (.getfield 15, 3) := by decide +kernel
theorem dX0_part_42 : decode cX0_part 42 = .ok (.iload_n 1, 1) := by decide +kernel
theorem dX0_part_43 : decode cX0_part 43 = .ok (.iaload, 1) := by decide +kernel
theorem dX0_part_44 : decode cX0_part 44 = .ok (.goto 23, 3) := by decide +kernel
theorem dX0_part_47 : decode cX0_part 47 = .ok (.iload_n 2, 1) := by decide +kernel
theorem dX0_part_48 : decode cX0_part 48 = .ok (.iconst 2, 1) := by decide +kernel
theorem dX0_part_49 : decode cX0_part 49 = .ok (.if_icmp .ne 12, 3) := by decide +kernel
theorem dX0_part_52 : decode cX0_part 52 = .ok (.aload_n 0, 1) := by decide +kernel
theorem dX0_part_53 : decode cX0_part 53 = .ok (.getfield 18, 3) := by decide +kernel
theorem dX0_part_56 : decode cX0_part 56 = .ok (.iload_n 1, 1) := by decide +kernel
theorem dX0_part_57 : decode cX0_part 57 = .ok (.iaload, 1) := by decide +kernel
theorem dX0_part_58 : decode cX0_part 58 = .ok (.goto 9, 3) := by decide +kernel
theorem dX0_part_61 : decode cX0_part 61 = .ok (.aload_n 0, 1) := by decide +kernel
theorem dX0_part_62 : decode cX0_part 62 = .ok (.getfield 21, 3) := by decide +kernel
theorem dX0_part_65 : decode cX0_part 65 = .ok (.iload_n 1, 1) := by decide +kernel
theorem dX0_part_66 : decode cX0_part 66 = .ok (.iaload, 1) := by decide +kernel
theorem dX0_part_67 : decode cX0_part 67 = .ok (.ireturn, 1) := by decide +kernel
set_option maxRecDepth 20000 in
set_option maxHeartbeats 4000000 in
theorem w_X0_part {c : cX} {d : Nat} {C : cS} {K : Option Value → cS → Prop} (t : Nat) (p0 : Int32) (p1 : Int32) (h : (p0 < 0 → (K (some (.int (-1))) C)) ∧ (¬ p0 < 0 → (cT C t 0 6 ∧ (((cI C t 5) ≤ p0 → (K (some (.int (-1))) C)) ∧ (¬ (cI C t 5) ≤ p0 → ((p0 < 64 → ((¬ p1 = 0 → ((¬ p1 = 1 → ((¬ p1 = 2 → (∃ a8 : Nat, (cR C t 3) = some a8 ∧ (∃ n11 : Nat, cT C a8 20 n11 ∧ (∃ j12 : Nat, am_ix p0 j12 n11 ∧ (K (some (.int (cI C a8 j12))) C))))) ∧ (p1 = 2 → (∃ a14 : Nat, (cR C t 2) = some a14 ∧ (∃ n17 : Nat, cT C a14 20 n17 ∧ (∃ j18 : Nat, am_ix p0 j18 n17 ∧ (K (some (.int (cI C a14 j18))) C))))))) ∧ (p1 = 1 → (∃ a20 : Nat, (cR C t 1) = some a20 ∧ (∃ n23 : Nat, cT C a20 20 n23 ∧ (∃ j24 : Nat, am_ix p0 j24 n23 ∧ (K (some (.int (cI C a20 j24))) C))))))) ∧ (p1 = 0 → (∃ a26 : Nat, (cR C t 0) = some a26 ∧ (∃ n29 : Nat, cT C a26 20 n29 ∧ (∃ j30 : Nat, am_ix p0 j30 n29 ∧ (K (some (.int (cI C a26 j30))) C))))))) ∧ (¬ p0 < 64 → (K (some (.int (-1))) C)))))))) : cM c d eX0_part [.ref t, .int p0, .int p1] C K := by
  refine cM.of2 (lv := [some (.ref t), some (.int p0), some (.int p1)]) (by decide) (Nat.le_of_ble_eq_true rfl) rfl ?_
  refine ag_iload_n dX0_part_0 rfl ?_
  refine ag_if_lt (tgt := 18) dX0_part_1 rfl (fun hc1 => ?_) (fun hc1 => ?_)
  · have h := h.1 hc1
    refine ag_iconst (v := (-1)) dX0_part_18 rfl ?_
    exact ag_ret (v := some (.int (-1))) dX0_part_19 ⟨_, rfl, rfl⟩ ⟨_, rfl, _, rfl, h⟩ rfl
  · have h := h.2 hc1
    refine ag_iload_n dX0_part_4 rfl ?_
    refine ag_aload_n dX0_part_5 rfl (Or.inr ⟨_, rfl⟩) ?_
    obtain ⟨hT2, h⟩ := h
    refine cr_get (v := .int (cI C t 5)) dX0_part_6 fw_0_28 hT2 rfl ?_
    refine ag_icmp_ge (tgt := 18) dX0_part_9 rfl (fun hc3 => ?_) (fun hc3 => ?_)
    · have h := h.1 hc3
      refine ag_iconst (v := (-1)) dX0_part_18 rfl ?_
      exact ag_ret (v := some (.int (-1))) dX0_part_19 ⟨_, rfl, rfl⟩ ⟨_, rfl, _, rfl, h⟩ rfl
    · have h := h.2 hc3
      refine ag_iload_n dX0_part_12 rfl ?_
      refine ag_bipush (v := 64) dX0_part_13 (by decide) ?_
      refine ag_icmp_lt (tgt := 20) dX0_part_15 rfl (fun hc4 => ?_) (fun hc4 => ?_)
      · have h := h.1 hc4
        refine ag_iload_n dX0_part_20 rfl ?_
        refine ag_if_ne (tgt := 33) dX0_part_21 rfl (fun hc5 => ?_) (fun hc5 => ?_)
        · have h := h.1 hc5
          refine ag_iload_n dX0_part_33 rfl ?_
          refine ag_iconst (v := 1) dX0_part_34 rfl ?_
          refine ag_icmp_ne (tgt := 47) dX0_part_35 rfl (fun hc6 => ?_) (fun hc6 => ?_)
          · have h := h.1 hc6
            refine ag_iload_n dX0_part_47 rfl ?_
            refine ag_iconst (v := 2) dX0_part_48 rfl ?_
            refine ag_icmp_ne (tgt := 61) dX0_part_49 rfl (fun hc7 => ?_) (fun hc7 => ?_)
            · have h := h.1 hc7
              refine ag_aload_n dX0_part_61 rfl (Or.inr ⟨_, rfl⟩) ?_
              refine cr_get (v := va_rf (cR C t 3)) dX0_part_62 fw_0_21 hT2 rfl ?_
              refine ag_iload_n dX0_part_65 rfl ?_
              obtain ⟨a8, hr9, h⟩ := h
              refine cr_stk (st' := [.int p0, .ref a8]) (by rw [hr9]; rfl) ?_
              obtain ⟨n11, hT10, h⟩ := h
              obtain ⟨j12, hj13, h⟩ := h
              refine cr_il (v := (cI C a8 j12)) dX0_part_66 hT10 hj13 rfl ?_
              exact ag_ret (v := some (.int (cI C a8 j12))) dX0_part_67 ⟨_, rfl, rfl⟩ ⟨_, rfl, _, rfl, h⟩ rfl
            · have h := h.2 hc7
              refine ag_aload_n dX0_part_52 rfl (Or.inr ⟨_, rfl⟩) ?_
              refine cr_get (v := va_rf (cR C t 2)) dX0_part_53 fw_0_18 hT2 rfl ?_
              refine ag_iload_n dX0_part_56 rfl ?_
              obtain ⟨a14, hr15, h⟩ := h
              refine cr_stk (st' := [.int p0, .ref a14]) (by rw [hr15]; rfl) ?_
              obtain ⟨n17, hT16, h⟩ := h
              obtain ⟨j18, hj19, h⟩ := h
              refine cr_il (v := (cI C a14 j18)) dX0_part_57 hT16 hj19 rfl ?_
              refine ag_goto (tgt := 67) dX0_part_58 rfl ?_
              exact ag_ret (v := some (.int (cI C a14 j18))) dX0_part_67 ⟨_, rfl, rfl⟩ ⟨_, rfl, _, rfl, h⟩ rfl
          · have h := h.2 hc6
            refine ag_aload_n dX0_part_38 rfl (Or.inr ⟨_, rfl⟩) ?_
            refine cr_get (v := va_rf (cR C t 1)) dX0_part_39 fw_0_15 hT2 rfl ?_
            refine ag_iload_n dX0_part_42 rfl ?_
            obtain ⟨a20, hr21, h⟩ := h
            refine cr_stk (st' := [.int p0, .ref a20]) (by rw [hr21]; rfl) ?_
            obtain ⟨n23, hT22, h⟩ := h
            obtain ⟨j24, hj25, h⟩ := h
            refine cr_il (v := (cI C a20 j24)) dX0_part_43 hT22 hj25 rfl ?_
            refine ag_goto (tgt := 67) dX0_part_44 rfl ?_
            exact ag_ret (v := some (.int (cI C a20 j24))) dX0_part_67 ⟨_, rfl, rfl⟩ ⟨_, rfl, _, rfl, h⟩ rfl
        · have h := h.2 hc5
          refine ag_aload_n dX0_part_24 rfl (Or.inr ⟨_, rfl⟩) ?_
          refine cr_get (v := va_rf (cR C t 0)) dX0_part_25 fw_0_9 hT2 rfl ?_
          refine ag_iload_n dX0_part_28 rfl ?_
          obtain ⟨a26, hr27, h⟩ := h
          refine cr_stk (st' := [.int p0, .ref a26]) (by rw [hr27]; rfl) ?_
          obtain ⟨n29, hT28, h⟩ := h
          obtain ⟨j30, hj31, h⟩ := h
          refine cr_il (v := (cI C a26 j30)) dX0_part_29 hT28 hj31 rfl ?_
          refine ag_goto (tgt := 67) dX0_part_30 rfl ?_
          exact ag_ret (v := some (.int (cI C a26 j30))) dX0_part_67 ⟨_, rfl, rfl⟩ ⟨_, rfl, _, rfl, h⟩ rfl
      · have h := h.2 hc4
        refine ag_iconst (v := (-1)) dX0_part_18 rfl ?_
        exact ag_ret (v := some (.int (-1))) dX0_part_19 ⟨_, rfl, rfl⟩ ⟨_, rfl, _, rfl, h⟩ rfl
theorem dX0_isOf_0 : decode cX0_isOf 0 = .ok (.iload_n 1, 1) := by decide +kernel
theorem dX0_isOf_1 : decode cX0_isOf 1 = .ok (.ifCond .lt 32, 3) := by decide +kernel
theorem dX0_isOf_4 : decode cX0_isOf 4 = .ok (.iload_n 1, 1) := by decide +kernel
theorem dX0_isOf_5 : decode cX0_isOf 5 = .ok (.aload_n 0, 1) := by decide +kernel
theorem dX0_isOf_6 : decode cX0_isOf 6 = .ok (.getfield 28, 3) := by decide +kernel
theorem dX0_isOf_9 : decode cX0_isOf 9 = .ok (.if_icmp .ge 24, 3) := by decide +kernel
theorem dX0_isOf_12 : decode cX0_isOf 12 = .ok (.iload_n 1, 1) := by decide +kernel
theorem dX0_isOf_13 : decode cX0_isOf 13 = .ok (.bipush 64, 2) := by decide +kernel
theorem dX0_isOf_15 : decode cX0_isOf 15 = .ok (.if_icmp .ge 18, 3) := by decide +kernel
theorem dX0_isOf_18 : decode cX0_isOf 18 = .ok (.aload_n 0, 1) := by decide +kernel
theorem dX0_isOf_19 : decode cX0_isOf 19 = .ok (.getfield 9, 3) := by decide +kernel
theorem dX0_isOf_22 : decode cX0_isOf 22 = .ok (.iload_n 1, 1) := by decide +kernel
theorem dX0_isOf_23 : decode cX0_isOf 23 = .ok (.iaload, 1) := by decide +kernel
theorem dX0_isOf_24 : decode cX0_isOf 24 = .ok (.iload_n 2, 1) := by decide +kernel
theorem dX0_isOf_25 : decode cX0_isOf 25 = .ok (.iand, 1) := by decide +kernel
theorem dX0_isOf_26 : decode cX0_isOf 26 = .ok (.ifCond .eq 7, 3) := by decide +kernel
theorem dX0_isOf_29 : decode cX0_isOf 29 = .ok (.iconst 1, 1) := by decide +kernel
theorem dX0_isOf_30 : decode cX0_isOf 30 = .ok (.goto 4, 3) := by decide +kernel
theorem dX0_isOf_33 : decode cX0_isOf 33 = .ok (.iconst 0, 1) := by decide +kernel
theorem dX0_isOf_34 : decode cX0_isOf 34 = .ok (.ireturn, 1) := by decide +kernel
set_option maxRecDepth 20000 in
set_option maxHeartbeats 4000000 in
theorem w_X0_isOf {c : cX} {d : Nat} {C : cS} {K : Option Value → cS → Prop} (t : Nat) (p0 : Int32) (p1 : Int32) (h : (p0 < 0 → (K (some (.int 0)) C)) ∧ (¬ p0 < 0 → (cT C t 0 6 ∧ (((cI C t 5) ≤ p0 → (K (some (.int 0)) C)) ∧ (¬ (cI C t 5) ≤ p0 → ((64 ≤ p0 → (K (some (.int 0)) C)) ∧ (¬ 64 ≤ p0 → (∃ a5 : Nat, (cR C t 0) = some a5 ∧ (∃ n8 : Nat, cT C a5 20 n8 ∧ (∃ j9 : Nat, am_ix p0 j9 n8 ∧ ((((cI C a5 j9) &&& p1) = 0 → (K (some (.int 0)) C)) ∧ (¬ ((cI C a5 j9) &&& p1) = 0 → (K (some (.int 1)) C))))))))))))) : cM c d eX0_isOf [.ref t, .int p0, .int p1] C K := by
  refine cM.of2 (lv := [some (.ref t), some (.int p0), some (.int p1)]) (by decide) (Nat.le_of_ble_eq_true rfl) rfl ?_
  refine ag_iload_n dX0_isOf_0 rfl ?_
  refine ag_if_lt (tgt := 33) dX0_isOf_1 rfl (fun hc1 => ?_) (fun hc1 => ?_)
  · have h := h.1 hc1
    refine ag_iconst (v := 0) dX0_isOf_33 rfl ?_
    exact ag_ret (v := some (.int 0)) dX0_isOf_34 ⟨_, rfl, rB_n (Or.inl rfl)⟩ ⟨_, rfl, _, rfl, h⟩ rfl
  · have h := h.2 hc1
    refine ag_iload_n dX0_isOf_4 rfl ?_
    refine ag_aload_n dX0_isOf_5 rfl (Or.inr ⟨_, rfl⟩) ?_
    obtain ⟨hT2, h⟩ := h
    refine cr_get (v := .int (cI C t 5)) dX0_isOf_6 fw_0_28 hT2 rfl ?_
    refine ag_icmp_ge (tgt := 33) dX0_isOf_9 rfl (fun hc3 => ?_) (fun hc3 => ?_)
    · have h := h.1 hc3
      refine ag_iconst (v := 0) dX0_isOf_33 rfl ?_
      exact ag_ret (v := some (.int 0)) dX0_isOf_34 ⟨_, rfl, rB_n (Or.inl rfl)⟩ ⟨_, rfl, _, rfl, h⟩ rfl
    · have h := h.2 hc3
      refine ag_iload_n dX0_isOf_12 rfl ?_
      refine ag_bipush (v := 64) dX0_isOf_13 (by decide) ?_
      refine ag_icmp_ge (tgt := 33) dX0_isOf_15 rfl (fun hc4 => ?_) (fun hc4 => ?_)
      · have h := h.1 hc4
        refine ag_iconst (v := 0) dX0_isOf_33 rfl ?_
        exact ag_ret (v := some (.int 0)) dX0_isOf_34 ⟨_, rfl, rB_n (Or.inl rfl)⟩ ⟨_, rfl, _, rfl, h⟩ rfl
      · have h := h.2 hc4
        refine ag_aload_n dX0_isOf_18 rfl (Or.inr ⟨_, rfl⟩) ?_
        refine cr_get (v := va_rf (cR C t 0)) dX0_isOf_19 fw_0_9 hT2 rfl ?_
        refine ag_iload_n dX0_isOf_22 rfl ?_
        obtain ⟨a5, hr6, h⟩ := h
        refine cr_stk (st' := [.int p0, .ref a5]) (by rw [hr6]; rfl) ?_
        obtain ⟨n8, hT7, h⟩ := h
        obtain ⟨j9, hj10, h⟩ := h
        refine cr_il (v := (cI C a5 j9)) dX0_isOf_23 hT7 hj10 rfl ?_
        refine ag_iload_n dX0_isOf_24 rfl ?_
        refine ag_iand dX0_isOf_25 rfl ?_
        refine ag_if_eq (tgt := 33) dX0_isOf_26 rfl (fun hc11 => ?_) (fun hc11 => ?_)
        · have h := h.1 hc11
          refine ag_iconst (v := 0) dX0_isOf_33 rfl ?_
          exact ag_ret (v := some (.int 0)) dX0_isOf_34 ⟨_, rfl, rB_n (Or.inl rfl)⟩ ⟨_, rfl, _, rfl, h⟩ rfl
        · have h := h.2 hc11
          refine ag_iconst (v := 1) dX0_isOf_29 rfl ?_
          refine ag_goto (tgt := 34) dX0_isOf_30 rfl ?_
          exact ag_ret (v := some (.int 1)) dX0_isOf_34 ⟨_, rfl, rB_n (Or.inr rfl)⟩ ⟨_, rfl, _, rfl, h⟩ rfl
theorem dX1_init_0 : decode cX1_init 0 = .ok (.aload_n 0, 1) := by decide +kernel
theorem dX1_init_1 : decode cX1_init 1 = .ok (.invokespecial 3, 3) := by decide +kernel
theorem dX1_init_4 : decode cX1_init 4 = .ok (.aload_n 0, 1) := by decide +kernel
theorem dX1_init_5 : decode cX1_init 5 = .ok (.bipush 60, 2) := by decide +kernel
theorem dX1_init_7 : decode cX1_init 7 = .ok (.anewarray 9, 3) := by decide +kernel
theorem dX1_init_10 : decode cX1_init 10 = .ok (.putfield 11, 3) := by decide +kernel
theorem dX1_init_13 : decode cX1_init 13 = .ok (.aload_n 0, 1) := by decide +kernel
theorem dX1_init_14 : decode cX1_init 14 = .ok (.bipush 17, 2) := by decide +kernel
theorem dX1_init_16 : decode cX1_init 16 = .ok (.anewarray 17, 3) := by decide +kernel
theorem dX1_init_19 : decode cX1_init 19 = .ok (.putfield 19, 3) := by decide +kernel
theorem dX1_init_22 : decode cX1_init 22 = .ok (.aload_n 0, 1) := by decide +kernel
theorem dX1_init_23 : decode cX1_init 23 = .ok (.bipush 17, 2) := by decide +kernel
theorem dX1_init_25 : decode cX1_init 25 = .ok (.newarray .int, 2) := by decide +kernel
theorem dX1_init_27 : decode cX1_init 27 = .ok (.putfield 23, 3) := by decide +kernel
theorem dX1_init_30 : decode cX1_init 30 = .ok (.aload_n 0, 1) := by decide +kernel
theorem dX1_init_31 : decode cX1_init 31 = .ok (.bipush 17, 2) := by decide +kernel
theorem dX1_init_33 : decode cX1_init 33 = .ok (.anewarray 9, 3) := by decide +kernel
theorem dX1_init_36 : decode cX1_init 36 = .ok (.putfield 27, 3) := by decide +kernel
theorem dX1_init_39 : decode cX1_init 39 = .ok (.aload_n 0, 1) := by decide +kernel
theorem dX1_init_40 : decode cX1_init 40 = .ok (.new 17, 3) := by decide +kernel
theorem dX1_init_43 : decode cX1_init 43 = .ok (.dup, 1) := by decide +kernel
theorem dX1_init_44 : decode cX1_init 44 = .ok (.invokespecial 30, 3) := by decide +kernel
theorem dX1_init_47 : decode cX1_init 47 = .ok (.putfield 31, 3) := by decide +kernel
theorem dX1_init_50 : decode cX1_init 50 = .ok (.aload_n 0, 1) := by decide +kernel
theorem dX1_init_51 : decode cX1_init 51 = .ok (.aconst_null, 1) := by decide +kernel
theorem dX1_init_52 : decode cX1_init 52 = .ok (.putfield 35, 3) := by decide +kernel
theorem dX1_init_55 : decode cX1_init 55 = .ok (.aload_n 0, 1) := by decide +kernel
theorem dX1_init_56 : decode cX1_init 56 = .ok (.iconst (-1), 1) := by decide +kernel
theorem dX1_init_57 : decode cX1_init 57 = .ok (.putfield 39, 3) := by decide +kernel
theorem dX1_init_60 : decode cX1_init 60 = .ok (.iconst 0, 1) := by decide +kernel
theorem dX1_init_61 : decode cX1_init 61 = .ok (.istore_n 1, 1) := by decide +kernel
theorem dX1_init_62 : decode cX1_init 62 = .ok (.iload_n 1, 1) := by decide +kernel
theorem dX1_init_63 : decode cX1_init 63 = .ok (.bipush 60, 2) := by decide +kernel
theorem dX1_init_65 : decode cX1_init 65 = .ok (.if_icmp .ge 22, 3) := by decide +kernel
theorem dX1_init_68 : decode cX1_init 68 = .ok (.aload_n 0, 1) := by decide +kernel
theorem dX1_init_69 : decode cX1_init 69 = .ok (.getfield 11, 3) := by decide +kernel
theorem dX1_init_72 : decode cX1_init 72 = .ok (.iload_n 1, 1) := by decide +kernel
theorem dX1_init_73 : decode cX1_init 73 = .ok (.new 9, 3) := by decide +kernel
theorem dX1_init_76 : decode cX1_init 76 = .ok (.dup, 1) := by decide +kernel
theorem dX1_init_77 : decode cX1_init 77 = .ok (.invokespecial 43, 3) := by decide +kernel
theorem dX1_init_80 : decode cX1_init 80 = .ok (.aastore, 1) := by decide +kernel
theorem dX1_init_81 : decode cX1_init 81 = .ok (.iinc 1 1, 3) := by decide +kernel
theorem dX1_init_84 : decode cX1_init 84 = .ok (.goto (-22), 3) := by decide +kernel
theorem dX1_init_87 : decode cX1_init 87 = .ok (.iconst 0, 1) := by decide +kernel
theorem dX1_init_88 : decode cX1_init 88 = .ok (.istore_n 1, 1) := by decide +kernel
theorem dX1_init_89 : decode cX1_init 89 = .ok (.iload_n 1, 1) := by decide +kernel
theorem dX1_init_90 : decode cX1_init 90 = .ok (.bipush 17, 2) := by decide +kernel
theorem dX1_init_92 : decode cX1_init 92 = .ok (.if_icmp .ge 22, 3) := by decide +kernel
theorem dX1_init_95 : decode cX1_init 95 = .ok (.aload_n 0, 1) := by decide +kernel
theorem dX1_init_96 : decode cX1_init 96 = .ok (.getfield 19, 3) := by decide +kernel
theorem dX1_init_99 : decode cX1_init 99 = .ok (.iload_n 1, 1) := by decide +kernel
theorem dX1_init_100 : decode cX1_init 100 = .ok (.new 17, 3) := by decide +kernel
theorem dX1_init_103 : decode cX1_init 103 = .ok (.dup, 1) := by decide +kernel
theorem dX1_init_104 : decode cX1_init 104 = .ok (.invokespecial 30, 3) := by decide +kernel
theorem dX1_init_107 : decode cX1_init 107 = .ok (.aastore, 1) := by decide +kernel
theorem dX1_init_108 : decode cX1_init 108 = .ok (.iinc 1 1, 3) := by decide +kernel
theorem dX1_init_111 : decode cX1_init 111 = .ok (.goto (-22), 3) := by decide +kernel
theorem dX1_init_114 : decode cX1_init 114 = .ok (.return_, 1) := by decide +kernel
set_option maxRecDepth 20000 in
set_option maxHeartbeats 4000000 in
theorem w_X1_init {c : cX} {d : Nat} {C : cS} {K : Option Value → cS → Prop} (t : Nat) (hT0 : cT C t 1 7) (h : cM c d eX8_init (.ref ((csr (cnw (csr (cnw (csr (cnw (csr (cnw C 25 60) t 0 (some C.1)) 27 17) t 1 (some ((csr (cnw C 25 60) t 0 (some C.1)).1))) 20 17) t 2 (some ((csr (cnw (csr (cnw C 25 60) t 0 (some C.1)) 27 17) t 1 (some ((csr (cnw C 25 60) t 0 (some C.1)).1))).1))) 25 17) t 3 (some ((csr (cnw (csr (cnw (csr (cnw C 25 60) t 0 (some C.1)) 27 17) t 1 (some ((csr (cnw C 25 60) t 0 (some C.1)).1))) 20 17) t 2 (some ((csr (cnw (csr (cnw C 25 60) t 0 (some C.1)) 27 17) t 1 (some ((csr (cnw C 25 60) t 0 (some C.1)).1))).1))).1))).1) :: []) (cnw (csr (cnw (csr (cnw (csr (cnw (csr (cnw C 25 60) t 0 (some C.1)) 27 17) t 1 (some ((csr (cnw C 25 60) t 0 (some C.1)).1))) 20 17) t 2 (some ((csr (cnw (csr (cnw C 25 60) t 0 (some C.1)) 27 17) t 1 (some ((csr (cnw C 25 60) t 0 (some C.1)).1))).1))) 25 17) t 3 (some ((csr (cnw (csr (cnw (csr (cnw C 25 60) t 0 (some C.1)) 27 17) t 1 (some ((csr (cnw C 25 60) t 0 (some C.1)).1))) 20 17) t 2 (some ((csr (cnw (csr (cnw C 25 60) t 0 (some C.1)) 27 17) t 1 (some ((csr (cnw C 25 60) t 0 (some C.1)).1))).1))).1))) 8 2) (fun v C21 => v = none ∧ cle (cnw (csr (cnw (csr (cnw (csr (cnw (csr (cnw C 25 60) t 0 (some C.1)) 27 17) t 1 (some ((csr (cnw C 25 60) t 0 (some C.1)).1))) 20 17) t 2 (some ((csr (cnw (csr (cnw C 25 60) t 0 (some C.1)) 27 17) t 1 (some ((csr (cnw C 25 60) t 0 (some C.1)).1))).1))) 25 17) t 3 (some ((csr (cnw (csr (cnw (csr (cnw C 25 60) t 0 (some C.1)) 27 17) t 1 (some ((csr (cnw C 25 60) t 0 (some C.1)).1))) 20 17) t 2 (some ((csr (cnw (csr (cnw C 25 60) t 0 (some C.1)) 27 17) t 1 (some ((csr (cnw C 25 60) t 0 (some C.1)).1))).1))).1))) 8 2) C21 ∧ (cG c eX1_init (d + 1) (cQ K) 62 [some (.ref t), some (.int 0)] [] (csi (csr (csr C21 t 4 (some ((csr (cnw (csr (cnw (csr (cnw (csr (cnw C 25 60) t 0 (some C.1)) 27 17) t 1 (some ((csr (cnw C 25 60) t 0 (some C.1)).1))) 20 17) t 2 (some ((csr (cnw (csr (cnw C 25 60) t 0 (some C.1)) 27 17) t 1 (some ((csr (cnw C 25 60) t 0 (some C.1)).1))).1))) 25 17) t 3 (some ((csr (cnw (csr (cnw (csr (cnw C 25 60) t 0 (some C.1)) 27 17) t 1 (some ((csr (cnw C 25 60) t 0 (some C.1)).1))) 20 17) t 2 (some ((csr (cnw (csr (cnw C 25 60) t 0 (some C.1)) 27 17) t 1 (some ((csr (cnw C 25 60) t 0 (some C.1)).1))).1))).1))).1))) t 5 none) t 6 (-1))))) : cM c (d + 1) eX1_init [.ref t] C K := by
  refine cM.of2 (lv := [some (.ref t), none]) (by decide) (Nat.le_of_ble_eq_true rfl) rfl ?_
  refine ag_aload_n dX1_init_0 rfl (Or.inr ⟨_, rfl⟩) ?_
  refine ag_obj dX1_init_1 lo_1_3 io_1 io_2 (Nat.le_of_ble_eq_true rfl) ?_
  refine ag_aload_n dX1_init_4 rfl (Or.inr ⟨_, rfl⟩) ?_
  refine ag_bipush (v := 60) dX1_init_5 (by decide) ?_
  refine cr_anew (t := 25) (C2 := (cnw C 25 60)) dX1_init_7 rfl na_1_9 (by decide) (by decide) (by decide) (by decide) (fun _ => rfl) rfl ?_
  have hT1 := cT_nw (C := C) (t := 25) (n := 60) hT0
  have hT2 := cT.le (C := C) hT0 (cle_nw C 25 60)
  refine cr_prF (r := (some C.1)) (C2 := (csr (cnw C 25 60) t 0 (some C.1))) dX1_init_10 rfl pw_1_11 rfl (Or.inr ⟨_, rfl⟩) hT2 rfl ?_
  refine ag_aload_n dX1_init_13 rfl (Or.inr ⟨_, rfl⟩) ?_
  refine ag_bipush (v := 17) dX1_init_14 (by decide) ?_
  refine cr_anew (t := 27) (C2 := (cnw (csr (cnw C 25 60) t 0 (some C.1)) 27 17)) dX1_init_16 rfl na_1_17 (by decide) (by decide) (by decide) (by decide) (fun _ => rfl) rfl ?_
  have hT3 := cT_nw (C := (csr (cnw C 25 60) t 0 (some C.1))) (t := 27) (n := 17) hT2
  have hT4 := cT.le (C := (csr (cnw C 25 60) t 0 (some C.1))) hT2 (cle_nw (csr (cnw C 25 60) t 0 (some C.1)) 27 17)
  have hT5 := cT.le (C := (csr (cnw C 25 60) t 0 (some C.1))) hT1 (cle_nw (csr (cnw C 25 60) t 0 (some C.1)) 27 17)
  refine cr_prF (r := (some ((csr (cnw C 25 60) t 0 (some C.1)).1))) (C2 := (csr (cnw (csr (cnw C 25 60) t 0 (some C.1)) 27 17) t 1 (some ((csr (cnw C 25 60) t 0 (some C.1)).1)))) dX1_init_19 rfl pw_1_19 rfl (Or.inr ⟨_, rfl⟩) hT4 rfl ?_
  refine ag_aload_n dX1_init_22 rfl (Or.inr ⟨_, rfl⟩) ?_
  refine ag_bipush (v := 17) dX1_init_23 (by decide) ?_
  refine cr_newa (t := 20) (C2 := (cnw (csr (cnw (csr (cnw C 25 60) t 0 (some C.1)) 27 17) t 1 (some ((csr (cnw C 25 60) t 0 (some C.1)).1))) 20 17)) dX1_init_25 rfl ac_int (by decide) (by decide) (by decide) (fun _ => rfl) rfl ?_
  have hT6 := cT_nw (C := (csr (cnw (csr (cnw C 25 60) t 0 (some C.1)) 27 17) t 1 (some ((csr (cnw C 25 60) t 0 (some C.1)).1)))) (t := 20) (n := 17) hT4
  have hT7 := cT.le (C := (csr (cnw (csr (cnw C 25 60) t 0 (some C.1)) 27 17) t 1 (some ((csr (cnw C 25 60) t 0 (some C.1)).1)))) hT4 (cle_nw (csr (cnw (csr (cnw C 25 60) t 0 (some C.1)) 27 17) t 1 (some ((csr (cnw C 25 60) t 0 (some C.1)).1))) 20 17)
  have hT8 := cT.le (C := (csr (cnw (csr (cnw C 25 60) t 0 (some C.1)) 27 17) t 1 (some ((csr (cnw C 25 60) t 0 (some C.1)).1)))) hT5 (cle_nw (csr (cnw (csr (cnw C 25 60) t 0 (some C.1)) 27 17) t 1 (some ((csr (cnw C 25 60) t 0 (some C.1)).1))) 20 17)
  have hT9 := cT.le (C := (csr (cnw (csr (cnw C 25 60) t 0 (some C.1)) 27 17) t 1 (some ((csr (cnw C 25 60) t 0 (some C.1)).1)))) hT3 (cle_nw (csr (cnw (csr (cnw C 25 60) t 0 (some C.1)) 27 17) t 1 (some ((csr (cnw C 25 60) t 0 (some C.1)).1))) 20 17)
  refine cr_prF (r := (some ((csr (cnw (csr (cnw C 25 60) t 0 (some C.1)) 27 17) t 1 (some ((csr (cnw C 25 60) t 0 (some C.1)).1))).1))) (C2 := (csr (cnw (csr (cnw (csr (cnw C 25 60) t 0 (some C.1)) 27 17) t 1 (some ((csr (cnw C 25 60) t 0 (some C.1)).1))) 20 17) t 2 (some ((csr (cnw (csr (cnw C 25 60) t 0 (some C.1)) 27 17) t 1 (some ((csr (cnw C 25 60) t 0 (some C.1)).1))).1)))) dX1_init_27 rfl pw_1_23 rfl (Or.inr ⟨_, rfl⟩) hT7 rfl ?_
  refine ag_aload_n dX1_init_30 rfl (Or.inr ⟨_, rfl⟩) ?_
  refine ag_bipush (v := 17) dX1_init_31 (by decide) ?_
  refine cr_anew (t := 25) (C2 := (cnw (csr (cnw (csr (cnw (csr (cnw C 25 60) t 0 (some C.1)) 27 17) t 1 (some ((csr (cnw C 25 60) t 0 (some C.1)).1))) 20 17) t 2 (some ((csr (cnw (csr (cnw C 25 60) t 0 (some C.1)) 27 17) t 1 (some ((csr (cnw C 25 60) t 0 (some C.1)).1))).1))) 25 17)) dX1_init_33 rfl na_1_9 (by decide) (by decide) (by decide) (by decide) (fun _ => rfl) rfl ?_
  have hT10 := cT_nw (C := (csr (cnw (csr (cnw (csr (cnw C 25 60) t 0 (some C.1)) 27 17) t 1 (some ((csr (cnw C 25 60) t 0 (some C.1)).1))) 20 17) t 2 (some ((csr (cnw (csr (cnw C 25 60) t 0 (some C.1)) 27 17) t 1 (some ((csr (cnw C 25 60) t 0 (some C.1)).1))).1)))) (t := 25) (n := 17) hT7
  have hT11 := cT.le (C := (csr (cnw (csr (cnw (csr (cnw C 25 60) t 0 (some C.1)) 27 17) t 1 (some ((csr (cnw C 25 60) t 0 (some C.1)).1))) 20 17) t 2 (some ((csr (cnw (csr (cnw C 25 60) t 0 (some C.1)) 27 17) t 1 (some ((csr (cnw C 25 60) t 0 (some C.1)).1))).1)))) hT7 (cle_nw (csr (cnw (csr (cnw (csr (cnw C 25 60) t 0 (some C.1)) 27 17) t 1 (some ((csr (cnw C 25 60) t 0 (some C.1)).1))) 20 17) t 2 (some ((csr (cnw (csr (cnw C 25 60) t 0 (some C.1)) 27 17) t 1 (some ((csr (cnw C 25 60) t 0 (some C.1)).1))).1))) 25 17)
  have hT12 := cT.le (C := (csr (cnw (csr (cnw (csr (cnw C 25 60) t 0 (some C.1)) 27 17) t 1 (some ((csr (cnw C 25 60) t 0 (some C.1)).1))) 20 17) t 2 (some ((csr (cnw (csr (cnw C 25 60) t 0 (some C.1)) 27 17) t 1 (some ((csr (cnw C 25 60) t 0 (some C.1)).1))).1)))) hT8 (cle_nw (csr (cnw (csr (cnw (csr (cnw C 25 60) t 0 (some C.1)) 27 17) t 1 (some ((csr (cnw C 25 60) t 0 (some C.1)).1))) 20 17) t 2 (some ((csr (cnw (csr (cnw C 25 60) t 0 (some C.1)) 27 17) t 1 (some ((csr (cnw C 25 60) t 0 (some C.1)).1))).1))) 25 17)
  have hT13 := cT.le (C := (csr (cnw (csr (cnw (csr (cnw C 25 60) t 0 (some C.1)) 27 17) t 1 (some ((csr (cnw C 25 60) t 0 (some C.1)).1))) 20 17) t 2 (some ((csr (cnw (csr (cnw C 25 60) t 0 (some C.1)) 27 17) t 1 (some ((csr (cnw C 25 60) t 0 (some C.1)).1))).1)))) hT9 (cle_nw (csr (cnw (csr (cnw (csr (cnw C 25 60) t 0 (some C.1)) 27 17) t 1 (some ((csr (cnw C 25 60) t 0 (some C.1)).1))) 20 17) t 2 (some ((csr (cnw (csr (cnw C 25 60) t 0 (some C.1)) 27 17) t 1 (some ((csr (cnw C 25 60) t 0 (some C.1)).1))).1))) 25 17)
  have hT14 := cT.le (C := (csr (cnw (csr (cnw (csr (cnw C 25 60) t 0 (some C.1)) 27 17) t 1 (some ((csr (cnw C 25 60) t 0 (some C.1)).1))) 20 17) t 2 (some ((csr (cnw (csr (cnw C 25 60) t 0 (some C.1)) 27 17) t 1 (some ((csr (cnw C 25 60) t 0 (some C.1)).1))).1)))) hT6 (cle_nw (csr (cnw (csr (cnw (csr (cnw C 25 60) t 0 (some C.1)) 27 17) t 1 (some ((csr (cnw C 25 60) t 0 (some C.1)).1))) 20 17) t 2 (some ((csr (cnw (csr (cnw C 25 60) t 0 (some C.1)) 27 17) t 1 (some ((csr (cnw C 25 60) t 0 (some C.1)).1))).1))) 25 17)
  refine cr_prF (r := (some ((csr (cnw (csr (cnw (csr (cnw C 25 60) t 0 (some C.1)) 27 17) t 1 (some ((csr (cnw C 25 60) t 0 (some C.1)).1))) 20 17) t 2 (some ((csr (cnw (csr (cnw C 25 60) t 0 (some C.1)) 27 17) t 1 (some ((csr (cnw C 25 60) t 0 (some C.1)).1))).1))).1))) (C2 := (csr (cnw (csr (cnw (csr (cnw (csr (cnw C 25 60) t 0 (some C.1)) 27 17) t 1 (some ((csr (cnw C 25 60) t 0 (some C.1)).1))) 20 17) t 2 (some ((csr (cnw (csr (cnw C 25 60) t 0 (some C.1)) 27 17) t 1 (some ((csr (cnw C 25 60) t 0 (some C.1)).1))).1))) 25 17) t 3 (some ((csr (cnw (csr (cnw (csr (cnw C 25 60) t 0 (some C.1)) 27 17) t 1 (some ((csr (cnw C 25 60) t 0 (some C.1)).1))) 20 17) t 2 (some ((csr (cnw (csr (cnw C 25 60) t 0 (some C.1)) 27 17) t 1 (some ((csr (cnw C 25 60) t 0 (some C.1)).1))).1))).1)))) dX1_init_36 rfl pw_1_27 rfl (Or.inr ⟨_, rfl⟩) hT11 rfl ?_
  refine ag_aload_n dX1_init_39 rfl (Or.inr ⟨_, rfl⟩) ?_
  refine cr_new (C2 := (cnw (csr (cnw (csr (cnw (csr (cnw (csr (cnw C 25 60) t 0 (some C.1)) 27 17) t 1 (some ((csr (cnw C 25 60) t 0 (some C.1)).1))) 20 17) t 2 (some ((csr (cnw (csr (cnw C 25 60) t 0 (some C.1)) 27 17) t 1 (some ((csr (cnw C 25 60) t 0 (some C.1)).1))).1))) 25 17) t 3 (some ((csr (cnw (csr (cnw (csr (cnw C 25 60) t 0 (some C.1)) 27 17) t 1 (some ((csr (cnw C 25 60) t 0 (some C.1)).1))) 20 17) t 2 (some ((csr (cnw (csr (cnw C 25 60) t 0 (some C.1)) 27 17) t 1 (some ((csr (cnw C 25 60) t 0 (some C.1)).1))).1))).1))) 8 2)) dX1_init_40 nw_1_17 nf_8 rfl ?_
  have hT15 := cT_nw (C := (csr (cnw (csr (cnw (csr (cnw (csr (cnw C 25 60) t 0 (some C.1)) 27 17) t 1 (some ((csr (cnw C 25 60) t 0 (some C.1)).1))) 20 17) t 2 (some ((csr (cnw (csr (cnw C 25 60) t 0 (some C.1)) 27 17) t 1 (some ((csr (cnw C 25 60) t 0 (some C.1)).1))).1))) 25 17) t 3 (some ((csr (cnw (csr (cnw (csr (cnw C 25 60) t 0 (some C.1)) 27 17) t 1 (some ((csr (cnw C 25 60) t 0 (some C.1)).1))) 20 17) t 2 (some ((csr (cnw (csr (cnw C 25 60) t 0 (some C.1)) 27 17) t 1 (some ((csr (cnw C 25 60) t 0 (some C.1)).1))).1))).1)))) (t := 8) (n := 2) hT11
  have hT16 := cT.le (C := (csr (cnw (csr (cnw (csr (cnw (csr (cnw C 25 60) t 0 (some C.1)) 27 17) t 1 (some ((csr (cnw C 25 60) t 0 (some C.1)).1))) 20 17) t 2 (some ((csr (cnw (csr (cnw C 25 60) t 0 (some C.1)) 27 17) t 1 (some ((csr (cnw C 25 60) t 0 (some C.1)).1))).1))) 25 17) t 3 (some ((csr (cnw (csr (cnw (csr (cnw C 25 60) t 0 (some C.1)) 27 17) t 1 (some ((csr (cnw C 25 60) t 0 (some C.1)).1))) 20 17) t 2 (some ((csr (cnw (csr (cnw C 25 60) t 0 (some C.1)) 27 17) t 1 (some ((csr (cnw C 25 60) t 0 (some C.1)).1))).1))).1)))) hT11 (cle_nw (csr (cnw (csr (cnw (csr (cnw (csr (cnw C 25 60) t 0 (some C.1)) 27 17) t 1 (some ((csr (cnw C 25 60) t 0 (some C.1)).1))) 20 17) t 2 (some ((csr (cnw (csr (cnw C 25 60) t 0 (some C.1)) 27 17) t 1 (some ((csr (cnw C 25 60) t 0 (some C.1)).1))).1))) 25 17) t 3 (some ((csr (cnw (csr (cnw (csr (cnw C 25 60) t 0 (some C.1)) 27 17) t 1 (some ((csr (cnw C 25 60) t 0 (some C.1)).1))) 20 17) t 2 (some ((csr (cnw (csr (cnw C 25 60) t 0 (some C.1)) 27 17) t 1 (some ((csr (cnw C 25 60) t 0 (some C.1)).1))).1))).1))) 8 2)
  have hT17 := cT.le (C := (csr (cnw (csr (cnw (csr (cnw (csr (cnw C 25 60) t 0 (some C.1)) 27 17) t 1 (some ((csr (cnw C 25 60) t 0 (some C.1)).1))) 20 17) t 2 (some ((csr (cnw (csr (cnw C 25 60) t 0 (some C.1)) 27 17) t 1 (some ((csr (cnw C 25 60) t 0 (some C.1)).1))).1))) 25 17) t 3 (some ((csr (cnw (csr (cnw (csr (cnw C 25 60) t 0 (some C.1)) 27 17) t 1 (some ((csr (cnw C 25 60) t 0 (some C.1)).1))) 20 17) t 2 (some ((csr (cnw (csr (cnw C 25 60) t 0 (some C.1)) 27 17) t 1 (some ((csr (cnw C 25 60) t 0 (some C.1)).1))).1))).1)))) hT12 (cle_nw (csr (cnw (csr (cnw (csr (cnw (csr (cnw C 25 60) t 0 (some C.1)) 27 17) t 1 (some ((csr (cnw C 25 60) t 0 (some C.1)).1))) 20 17) t 2 (some ((csr (cnw (csr (cnw C 25 60) t 0 (some C.1)) 27 17) t 1 (some ((csr (cnw C 25 60) t 0 (some C.1)).1))).1))) 25 17) t 3 (some ((csr (cnw (csr (cnw (csr (cnw C 25 60) t 0 (some C.1)) 27 17) t 1 (some ((csr (cnw C 25 60) t 0 (some C.1)).1))) 20 17) t 2 (some ((csr (cnw (csr (cnw C 25 60) t 0 (some C.1)) 27 17) t 1 (some ((csr (cnw C 25 60) t 0 (some C.1)).1))).1))).1))) 8 2)
  have hT18 := cT.le (C := (csr (cnw (csr (cnw (csr (cnw (csr (cnw C 25 60) t 0 (some C.1)) 27 17) t 1 (some ((csr (cnw C 25 60) t 0 (some C.1)).1))) 20 17) t 2 (some ((csr (cnw (csr (cnw C 25 60) t 0 (some C.1)) 27 17) t 1 (some ((csr (cnw C 25 60) t 0 (some C.1)).1))).1))) 25 17) t 3 (some ((csr (cnw (csr (cnw (csr (cnw C 25 60) t 0 (some C.1)) 27 17) t 1 (some ((csr (cnw C 25 60) t 0 (some C.1)).1))) 20 17) t 2 (some ((csr (cnw (csr (cnw C 25 60) t 0 (some C.1)) 27 17) t 1 (some ((csr (cnw C 25 60) t 0 (some C.1)).1))).1))).1)))) hT13 (cle_nw (csr (cnw (csr (cnw (csr (cnw (csr (cnw C 25 60) t 0 (some C.1)) 27 17) t 1 (some ((csr (cnw C 25 60) t 0 (some C.1)).1))) 20 17) t 2 (some ((csr (cnw (csr (cnw C 25 60) t 0 (some C.1)) 27 17) t 1 (some ((csr (cnw C 25 60) t 0 (some C.1)).1))).1))) 25 17) t 3 (some ((csr (cnw (csr (cnw (csr (cnw C 25 60) t 0 (some C.1)) 27 17) t 1 (some ((csr (cnw C 25 60) t 0 (some C.1)).1))) 20 17) t 2 (some ((csr (cnw (csr (cnw C 25 60) t 0 (some C.1)) 27 17) t 1 (some ((csr (cnw C 25 60) t 0 (some C.1)).1))).1))).1))) 8 2)
  have hT19 := cT.le (C := (csr (cnw (csr (cnw (csr (cnw (csr (cnw C 25 60) t 0 (some C.1)) 27 17) t 1 (some ((csr (cnw C 25 60) t 0 (some C.1)).1))) 20 17) t 2 (some ((csr (cnw (csr (cnw C 25 60) t 0 (some C.1)) 27 17) t 1 (some ((csr (cnw C 25 60) t 0 (some C.1)).1))).1))) 25 17) t 3 (some ((csr (cnw (csr (cnw (csr (cnw C 25 60) t 0 (some C.1)) 27 17) t 1 (some ((csr (cnw C 25 60) t 0 (some C.1)).1))) 20 17) t 2 (some ((csr (cnw (csr (cnw C 25 60) t 0 (some C.1)) 27 17) t 1 (some ((csr (cnw C 25 60) t 0 (some C.1)).1))).1))).1)))) hT14 (cle_nw (csr (cnw (csr (cnw (csr (cnw (csr (cnw C 25 60) t 0 (some C.1)) 27 17) t 1 (some ((csr (cnw C 25 60) t 0 (some C.1)).1))) 20 17) t 2 (some ((csr (cnw (csr (cnw C 25 60) t 0 (some C.1)) 27 17) t 1 (some ((csr (cnw C 25 60) t 0 (some C.1)).1))).1))) 25 17) t 3 (some ((csr (cnw (csr (cnw (csr (cnw C 25 60) t 0 (some C.1)) 27 17) t 1 (some ((csr (cnw C 25 60) t 0 (some C.1)).1))) 20 17) t 2 (some ((csr (cnw (csr (cnw C 25 60) t 0 (some C.1)) 27 17) t 1 (some ((csr (cnw C 25 60) t 0 (some C.1)).1))).1))).1))) 8 2)
  have hT20 := cT.le (C := (csr (cnw (csr (cnw (csr (cnw (csr (cnw C 25 60) t 0 (some C.1)) 27 17) t 1 (some ((csr (cnw C 25 60) t 0 (some C.1)).1))) 20 17) t 2 (some ((csr (cnw (csr (cnw C 25 60) t 0 (some C.1)) 27 17) t 1 (some ((csr (cnw C 25 60) t 0 (some C.1)).1))).1))) 25 17) t 3 (some ((csr (cnw (csr (cnw (csr (cnw C 25 60) t 0 (some C.1)) 27 17) t 1 (some ((csr (cnw C 25 60) t 0 (some C.1)).1))) 20 17) t 2 (some ((csr (cnw (csr (cnw C 25 60) t 0 (some C.1)) 27 17) t 1 (some ((csr (cnw C 25 60) t 0 (some C.1)).1))).1))).1)))) hT10 (cle_nw (csr (cnw (csr (cnw (csr (cnw (csr (cnw C 25 60) t 0 (some C.1)) 27 17) t 1 (some ((csr (cnw C 25 60) t 0 (some C.1)).1))) 20 17) t 2 (some ((csr (cnw (csr (cnw C 25 60) t 0 (some C.1)) 27 17) t 1 (some ((csr (cnw C 25 60) t 0 (some C.1)).1))).1))) 25 17) t 3 (some ((csr (cnw (csr (cnw (csr (cnw C 25 60) t 0 (some C.1)) 27 17) t 1 (some ((csr (cnw C 25 60) t 0 (some C.1)).1))) 20 17) t 2 (some ((csr (cnw (csr (cnw C 25 60) t 0 (some C.1)) 27 17) t 1 (some ((csr (cnw C 25 60) t 0 (some C.1)).1))).1))).1))) 8 2)
  refine ag_dup dX1_init_43 rfl ?_
  refine cr_callIN (as := []) (rest := [.ref ((csr (cnw (csr (cnw (csr (cnw (csr (cnw C 25 60) t 0 (some C.1)) 27 17) t 1 (some ((csr (cnw C 25 60) t 0 (some C.1)).1))) 20 17) t 2 (some ((csr (cnw (csr (cnw C 25 60) t 0 (some C.1)) 27 17) t 1 (some ((csr (cnw C 25 60) t 0 (some C.1)).1))).1))) 25 17) t 3 (some ((csr (cnw (csr (cnw (csr (cnw C 25 60) t 0 (some C.1)) 27 17) t 1 (some ((csr (cnw C 25 60) t 0 (some C.1)).1))) 20 17) t 2 (some ((csr (cnw (csr (cnw C 25 60) t 0 (some C.1)) 27 17) t 1 (some ((csr (cnw C 25 60) t 0 (some C.1)).1))).1))).1))).1), .ref t]) dX1_init_44 me_X8_init mn_X8_init ln_1_30 rfl rfl (Nat.le_of_ble_eq_true rfl) ?_
  refine cM.mono h ?_
  rintro v C21 ⟨rfl, hL23, h⟩
  have hT24 := cT.le (C := (cnw (csr (cnw (csr (cnw (csr (cnw (csr (cnw C 25 60) t 0 (some C.1)) 27 17) t 1 (some ((csr (cnw C 25 60) t 0 (some C.1)).1))) 20 17) t 2 (some ((csr (cnw (csr (cnw C 25 60) t 0 (some C.1)) 27 17) t 1 (some ((csr (cnw C 25 60) t 0 (some C.1)).1))).1))) 25 17) t 3 (some ((csr (cnw (csr (cnw (csr (cnw C 25 60) t 0 (some C.1)) 27 17) t 1 (some ((csr (cnw C 25 60) t 0 (some C.1)).1))) 20 17) t 2 (some ((csr (cnw (csr (cnw C 25 60) t 0 (some C.1)) 27 17) t 1 (some ((csr (cnw C 25 60) t 0 (some C.1)).1))).1))).1))) 8 2)) hT16 hL23
  have hT25 := cT.le (C := (cnw (csr (cnw (csr (cnw (csr (cnw (csr (cnw C 25 60) t 0 (some C.1)) 27 17) t 1 (some ((csr (cnw C 25 60) t 0 (some C.1)).1))) 20 17) t 2 (some ((csr (cnw (csr (cnw C 25 60) t 0 (some C.1)) 27 17) t 1 (some ((csr (cnw C 25 60) t 0 (some C.1)).1))).1))) 25 17) t 3 (some ((csr (cnw (csr (cnw (csr (cnw C 25 60) t 0 (some C.1)) 27 17) t 1 (some ((csr (cnw C 25 60) t 0 (some C.1)).1))) 20 17) t 2 (some ((csr (cnw (csr (cnw C 25 60) t 0 (some C.1)) 27 17) t 1 (some ((csr (cnw C 25 60) t 0 (some C.1)).1))).1))).1))) 8 2)) hT17 hL23
  have hT26 := cT.le (C := (cnw (csr (cnw (csr (cnw (csr (cnw (csr (cnw C 25 60) t 0 (some C.1)) 27 17) t 1 (some ((csr (cnw C 25 60) t 0 (some C.1)).1))) 20 17) t 2 (some ((csr (cnw (csr (cnw C 25 60) t 0 (some C.1)) 27 17) t 1 (some ((csr (cnw C 25 60) t 0 (some C.1)).1))).1))) 25 17) t 3 (some ((csr (cnw (csr (cnw (csr (cnw C 25 60) t 0 (some C.1)) 27 17) t 1 (some ((csr (cnw C 25 60) t 0 (some C.1)).1))) 20 17) t 2 (some ((csr (cnw (csr (cnw C 25 60) t 0 (some C.1)) 27 17) t 1 (some ((csr (cnw C 25 60) t 0 (some C.1)).1))).1))).1))) 8 2)) hT18 hL23
  have hT27 := cT.le (C := (cnw (csr (cnw (csr (cnw (csr (cnw (csr (cnw C 25 60) t 0 (some C.1)) 27 17) t 1 (some ((csr (cnw C 25 60) t 0 (some C.1)).1))) 20 17) t 2 (some ((csr (cnw (csr (cnw C 25 60) t 0 (some C.1)) 27 17) t 1 (some ((csr (cnw C 25 60) t 0 (some C.1)).1))).1))) 25 17) t 3 (some ((csr (cnw (csr (cnw (csr (cnw C 25 60) t 0 (some C.1)) 27 17) t 1 (some ((csr (cnw C 25 60) t 0 (some C.1)).1))) 20 17) t 2 (some ((csr (cnw (csr (cnw C 25 60) t 0 (some C.1)) 27 17) t 1 (some ((csr (cnw C 25 60) t 0 (some C.1)).1))).1))).1))) 8 2)) hT19 hL23
  have hT28 := cT.le (C := (cnw (csr (cnw (csr (cnw (csr (cnw (csr (cnw C 25 60) t 0 (some C.1)) 27 17) t 1 (some ((csr (cnw C 25 60) t 0 (some C.1)).1))) 20 17) t 2 (some ((csr (cnw (csr (cnw C 25 60) t 0 (some C.1)) 27 17) t 1 (some ((csr (cnw C 25 60) t 0 (some C.1)).1))).1))) 25 17) t 3 (some ((csr (cnw (csr (cnw (csr (cnw C 25 60) t 0 (some C.1)) 27 17) t 1 (some ((csr (cnw C 25 60) t 0 (some C.1)).1))) 20 17) t 2 (some ((csr (cnw (csr (cnw C 25 60) t 0 (some C.1)) 27 17) t 1 (some ((csr (cnw C 25 60) t 0 (some C.1)).1))).1))).1))) 8 2)) hT20 hL23
  have hT29 := cT.le (C := (cnw (csr (cnw (csr (cnw (csr (cnw (csr (cnw C 25 60) t 0 (some C.1)) 27 17) t 1 (some ((csr (cnw C 25 60) t 0 (some C.1)).1))) 20 17) t 2 (some ((csr (cnw (csr (cnw C 25 60) t 0 (some C.1)) 27 17) t 1 (some ((csr (cnw C 25 60) t 0 (some C.1)).1))).1))) 25 17) t 3 (some ((csr (cnw (csr (cnw (csr (cnw C 25 60) t 0 (some C.1)) 27 17) t 1 (some ((csr (cnw C 25 60) t 0 (some C.1)).1))) 20 17) t 2 (some ((csr (cnw (csr (cnw C 25 60) t 0 (some C.1)) 27 17) t 1 (some ((csr (cnw C 25 60) t 0 (some C.1)).1))).1))).1))) 8 2)) hT15 hL23
  show cG _ _ _ _ _ _ [.ref ((csr (cnw (csr (cnw (csr (cnw (csr (cnw C 25 60) t 0 (some C.1)) 27 17) t 1 (some ((csr (cnw C 25 60) t 0 (some C.1)).1))) 20 17) t 2 (some ((csr (cnw (csr (cnw C 25 60) t 0 (some C.1)) 27 17) t 1 (some ((csr (cnw C 25 60) t 0 (some C.1)).1))).1))) 25 17) t 3 (some ((csr (cnw (csr (cnw (csr (cnw C 25 60) t 0 (some C.1)) 27 17) t 1 (some ((csr (cnw C 25 60) t 0 (some C.1)).1))) 20 17) t 2 (some ((csr (cnw (csr (cnw C 25 60) t 0 (some C.1)) 27 17) t 1 (some ((csr (cnw C 25 60) t 0 (some C.1)).1))).1))).1))).1), .ref t] _
  refine cr_prF (r := (some ((csr (cnw (csr (cnw (csr (cnw (csr (cnw C 25 60) t 0 (some C.1)) 27 17) t 1 (some ((csr (cnw C 25 60) t 0 (some C.1)).1))) 20 17) t 2 (some ((csr (cnw (csr (cnw C 25 60) t 0 (some C.1)) 27 17) t 1 (some ((csr (cnw C 25 60) t 0 (some C.1)).1))).1))) 25 17) t 3 (some ((csr (cnw (csr (cnw (csr (cnw C 25 60) t 0 (some C.1)) 27 17) t 1 (some ((csr (cnw C 25 60) t 0 (some C.1)).1))) 20 17) t 2 (some ((csr (cnw (csr (cnw C 25 60) t 0 (some C.1)) 27 17) t 1 (some ((csr (cnw C 25 60) t 0 (some C.1)).1))).1))).1))).1))) (C2 := (csr C21 t 4 (some ((csr (cnw (csr (cnw (csr (cnw (csr (cnw C 25 60) t 0 (some C.1)) 27 17) t 1 (some ((csr (cnw C 25 60) t 0 (some C.1)).1))) 20 17) t 2 (some ((csr (cnw (csr (cnw C 25 60) t 0 (some C.1)) 27 17) t 1 (some ((csr (cnw C 25 60) t 0 (some C.1)).1))).1))) 25 17) t 3 (some ((csr (cnw (csr (cnw (csr (cnw C 25 60) t 0 (some C.1)) 27 17) t 1 (some ((csr (cnw C 25 60) t 0 (some C.1)).1))) 20 17) t 2 (some ((csr (cnw (csr (cnw C 25 60) t 0 (some C.1)) 27 17) t 1 (some ((csr (cnw C 25 60) t 0 (some C.1)).1))).1))).1))).1)))) dX1_init_47 rfl pw_1_31 rfl (Or.inl ⟨_, rfl⟩) hT24 rfl ?_
  refine ag_aload_n dX1_init_50 rfl (Or.inr ⟨_, rfl⟩) ?_
  refine ag_null dX1_init_51 ?_
  refine cr_pr (r := none) (C2 := (csr (csr C21 t 4 (some ((csr (cnw (csr (cnw (csr (cnw (csr (cnw C 25 60) t 0 (some C.1)) 27 17) t 1 (some ((csr (cnw C 25 60) t 0 (some C.1)).1))) 20 17) t 2 (some ((csr (cnw (csr (cnw C 25 60) t 0 (some C.1)) 27 17) t 1 (some ((csr (cnw C 25 60) t 0 (some C.1)).1))).1))) 25 17) t 3 (some ((csr (cnw (csr (cnw (csr (cnw C 25 60) t 0 (some C.1)) 27 17) t 1 (some ((csr (cnw C 25 60) t 0 (some C.1)).1))) 20 17) t 2 (some ((csr (cnw (csr (cnw C 25 60) t 0 (some C.1)) 27 17) t 1 (some ((csr (cnw C 25 60) t 0 (some C.1)).1))).1))).1))).1))) t 5 none)) dX1_init_52 pw_1_35 rfl (Or.inr ⟨_, rfl⟩) hT24 rfl ?_
  refine ag_aload_n dX1_init_55 rfl (Or.inr ⟨_, rfl⟩) ?_
  refine ag_iconst (v := (-1)) dX1_init_56 rfl ?_
  refine cr_pi (C2 := (csi (csr (csr C21 t 4 (some ((csr (cnw (csr (cnw (csr (cnw (csr (cnw C 25 60) t 0 (some C.1)) 27 17) t 1 (some ((csr (cnw C 25 60) t 0 (some C.1)).1))) 20 17) t 2 (some ((csr (cnw (csr (cnw C 25 60) t 0 (some C.1)) 27 17) t 1 (some ((csr (cnw C 25 60) t 0 (some C.1)).1))).1))) 25 17) t 3 (some ((csr (cnw (csr (cnw (csr (cnw C 25 60) t 0 (some C.1)) 27 17) t 1 (some ((csr (cnw C 25 60) t 0 (some C.1)).1))) 20 17) t 2 (some ((csr (cnw (csr (cnw C 25 60) t 0 (some C.1)) 27 17) t 1 (some ((csr (cnw C 25 60) t 0 (some C.1)).1))).1))).1))).1))) t 5 none) t 6 (-1))) dX1_init_57 pw_1_39 rfl hT24 (fun _ => ⟨rfl, rfl⟩) rfl ?_
  refine ag_iconst (v := 0) dX1_init_60 rfl ?_
  refine ag_istore_n (lv2 := [some (.ref t), some (.int 0)]) dX1_init_61 (Nat.le_of_ble_eq_true rfl) rfl ?_
  exact h
set_option maxRecDepth 20000 in
set_option maxHeartbeats 4000000 in
theorem w_X1_init_62 {c : cX} {d : Nat} {C : cS} {K : Option Value → cS → Prop} (t : Nat) (v1 : Int32) (hT0 : cT C t 1 7) (h : (60 ≤ v1 → (cG c eX1_init (d + 1) (cQ K) 89 [some (.ref t), some (.int 0)] [] C)) ∧ (¬ 60 ≤ v1 → (cM c d eX2_init (.ref C.1 :: []) (cnw C 2 4) (fun v C4 => v = none ∧ cle (cnw C 2 4) C4 ∧ (∃ a9 : Nat, (cR C t 0) = some a9 ∧ (∃ n12 : Nat, cT C4 a9 25 n12 ∧ (∃ j13 : Nat, am_ix v1 j13 n12 ∧ (cG c eX1_init (d + 1) (cQ K) 62 [some (.ref t), some (.int (v1 + 1))] [] (csr C4 a9 j13 (some C.1)))))))))) : cG c eX1_init (d + 1) (cQ K) 62 [some (.ref t), some (.int v1)] [] C := by
  refine ag_iload_n dX1_init_62 rfl ?_
  refine ag_bipush (v := 60) dX1_init_63 (by decide) ?_
  refine ag_icmp_ge (tgt := 87) dX1_init_65 rfl (fun hc1 => ?_) (fun hc1 => ?_)
  · have h := h.1 hc1
    refine ag_iconst (v := 0) dX1_init_87 rfl ?_
    refine ag_istore_n (lv2 := [some (.ref t), some (.int 0)]) dX1_init_88 (Nat.le_of_ble_eq_true rfl) rfl ?_
    exact h
  · have h := h.2 hc1
    refine ag_aload_n dX1_init_68 rfl (Or.inr ⟨_, rfl⟩) ?_
    refine cr_get (v := va_rf (cR C t 0)) dX1_init_69 fw_1_11 hT0 rfl ?_
    refine ag_iload_n dX1_init_72 rfl ?_
    refine cr_new (C2 := (cnw C 2 4)) dX1_init_73 nw_1_9 nf_2 rfl ?_
    have hT2 := cT_nw (C := C) (t := 2) (n := 4) hT0
    have hT3 := cT.le (C := C) hT0 (cle_nw C 2 4)
    refine ag_dup dX1_init_76 rfl ?_
    refine cr_callIN (as := []) (rest := [.ref C.1, .int v1, va_rf (cR C t 0)]) dX1_init_77 me_X2_init mn_X2_init ln_1_43 rfl rfl (by simp only [List.map_cons, List.map_nil, List.sum_cons, List.sum_nil, va_rf_cat, am_ci, am_cl, am_cr, am_cn]; decide) ?_
    refine cM.mono h ?_
    rintro v C4 ⟨rfl, hL6, h⟩
    have hT7 := cT.le (C := (cnw C 2 4)) hT3 hL6
    have hT8 := cT.le (C := (cnw C 2 4)) hT2 hL6
    show cG _ _ _ _ _ _ [.ref C.1, .int v1, va_rf (cR C t 0)] _
    obtain ⟨a9, hr10, h⟩ := h
    refine cr_stk (st' := [.ref C.1, .int v1, .ref a9]) (by rw [hr10]; rfl) ?_
    obtain ⟨n12, hT11, h⟩ := h
    obtain ⟨j13, hj14, h⟩ := h
    refine cr_as (ci := 2) (r := (some C.1)) (nb := 4) (C2 := (csr C4 a9 j13 (some C.1))) dX1_init_80 hT11 (by decide) hj14 (fun b q => by cases q; exact hT8) rfl ?_
    refine ag_iinc (v2 := (v1 + 1)) (lv2 := [some (.ref t), some (.int (v1 + 1))]) dX1_init_81 rfl rfl rfl ?_
    refine ag_goto (tgt := 62) dX1_init_84 rfl ?_
    exact h
set_option maxRecDepth 20000 in
set_option maxHeartbeats 4000000 in
theorem w_X1_init_89 {c : cX} {d : Nat} {C : cS} {K : Option Value → cS → Prop} (t : Nat) (v1 : Int32) (hT0 : cT C t 1 7) (h : (17 ≤ v1 → (K none C)) ∧ (¬ 17 ≤ v1 → (cM c d eX8_init (.ref C.1 :: []) (cnw C 8 2) (fun v C4 => v = none ∧ cle (cnw C 8 2) C4 ∧ (∃ a9 : Nat, (cR C t 1) = some a9 ∧ (∃ n12 : Nat, cT C4 a9 27 n12 ∧ (∃ j13 : Nat, am_ix v1 j13 n12 ∧ (cG c eX1_init (d + 1) (cQ K) 89 [some (.ref t), some (.int (v1 + 1))] [] (csr C4 a9 j13 (some C.1)))))))))) : cG c eX1_init (d + 1) (cQ K) 89 [some (.ref t), some (.int v1)] [] C := by
  refine ag_iload_n dX1_init_89 rfl ?_
  refine ag_bipush (v := 17) dX1_init_90 (by decide) ?_
  refine ag_icmp_ge (tgt := 114) dX1_init_92 rfl (fun hc1 => ?_) (fun hc1 => ?_)
  · have h := h.1 hc1
    exact ag_ret (v := none) dX1_init_114 rfl ⟨_, rfl, _, rfl, h⟩ rfl
  · have h := h.2 hc1
    refine ag_aload_n dX1_init_95 rfl (Or.inr ⟨_, rfl⟩) ?_
    refine cr_get (v := va_rf (cR C t 1)) dX1_init_96 fw_1_19 hT0 rfl ?_
    refine ag_iload_n dX1_init_99 rfl ?_
    refine cr_new (C2 := (cnw C 8 2)) dX1_init_100 nw_1_17 nf_8 rfl ?_
    have hT2 := cT_nw (C := C) (t := 8) (n := 2) hT0
    have hT3 := cT.le (C := C) hT0 (cle_nw C 8 2)
    refine ag_dup dX1_init_103 rfl ?_
    refine cr_callIN (as := []) (rest := [.ref C.1, .int v1, va_rf (cR C t 1)]) dX1_init_104 me_X8_init mn_X8_init ln_1_30 rfl rfl (by simp only [List.map_cons, List.map_nil, List.sum_cons, List.sum_nil, va_rf_cat, am_ci, am_cl, am_cr, am_cn]; decide) ?_
    refine cM.mono h ?_
    rintro v C4 ⟨rfl, hL6, h⟩
    have hT7 := cT.le (C := (cnw C 8 2)) hT3 hL6
    have hT8 := cT.le (C := (cnw C 8 2)) hT2 hL6
    show cG _ _ _ _ _ _ [.ref C.1, .int v1, va_rf (cR C t 1)] _
    obtain ⟨a9, hr10, h⟩ := h
    refine cr_stk (st' := [.ref C.1, .int v1, .ref a9]) (by rw [hr10]; rfl) ?_
    obtain ⟨n12, hT11, h⟩ := h
    obtain ⟨j13, hj14, h⟩ := h
    refine cr_as (ci := 8) (r := (some C.1)) (nb := 2) (C2 := (csr C4 a9 j13 (some C.1))) dX1_init_107 hT11 (by decide) hj14 (fun b q => by cases q; exact hT8) rfl ?_
    refine ag_iinc (v2 := (v1 + 1)) (lv2 := [some (.ref t), some (.int (v1 + 1))]) dX1_init_108 rfl rfl rfl ?_
    refine ag_goto (tgt := 89) dX1_init_111 rfl ?_
    exact h
theorem dX1_examineAll_0 : decode cX1_examineAll 0 = .ok (.aload_n 0, 1) := by decide +kernel
theorem dX1_examineAll_1 : decode cX1_examineAll 1 = .ok (.aload_n 3, 1) := by decide +kernel
theorem dX1_examineAll_2 : decode cX1_examineAll 2 = .ok (.putfield 35, 3) := by decide +kernel
theorem dX1_examineAll_5 : decode cX1_examineAll 5 = .ok (.aload_n 0, 1) := by decide +kernel
theorem dX1_examineAll_6 : decode cX1_examineAll 6 = .ok (.iconst (-1), 1) := by decide +kernel
theorem dX1_examineAll_7 : decode cX1_examineAll 7 = .ok (.putfield 39, 3) := by decide +kernel
theorem dX1_examineAll_10 : decode cX1_examineAll 10 = .ok (.aload_n 0, 1) := by decide +kernel
theorem dX1_examineAll_11 : decode cX1_examineAll 11 = .ok (.getfield 31, 3) := by decide +kernel
theorem dX1_examineAll_14 : decode cX1_examineAll 14 = .ok (.invokevirtual 44, 3) := by decide +kernel
theorem dX1_examineAll_17 : decode cX1_examineAll 17 = .ok (.aload_n 0, 1) := by decide +kernel
theorem dX1_examineAll_18 : decode cX1_examineAll 18 = .ok (.getfield 31, 3) := by decide +kernel
theorem dX1_examineAll_21 : decode cX1_examineAll 21 = .ok (.iconst 0, 1) := by decide +kernel
theorem dX1_examineAll_22 : decode cX1_examineAll 22 = .ok (.iload_n 2, 1) := by decide +kernel
theorem dX1_examineAll_23 : decode cX1_examineAll 23 = .ok (.invokevirtual 47, 3) := by decide +kernel
theorem dX1_examineAll_26 : decode cX1_examineAll 26 = .ok (.iconst 0, 1) := by decide +kernel
theorem dX1_examineAll_27 : decode cX1_examineAll 27 = .ok (.istore 4, 2) := by decide +kernel
theorem dX1_examineAll_29 : decode cX1_examineAll 29 = .ok (.iload 4, 2) := by decide +kernel
theorem dX1_examineAll_31 : decode cX1_examineAll 31 = .ok (.bipush 17, 2) := by decide +kernel
theorem dX1_examineAll_33 : decode cX1_examineAll 33 = .ok (.if_icmp .ge 29, 3) := by decide +kernel
theorem dX1_examineAll_36 : decode cX1_examineAll 36 = .ok (.aload_n 0, 1) := by decide +kernel
theorem dX1_examineAll_37 : decode cX1_examineAll 37 = .ok (.getfield 23, 3) := by decide +kernel
theorem dX1_examineAll_40 : decode cX1_examineAll 40 = .ok (.iload 4, 2) := by decide +kernel
theorem dX1_examineAll_42 : decode cX1_examineAll 42 = .ok (.iload 4, 2) := by decide +kernel
theorem dX1_examineAll_44 : decode cX1_examineAll 44 = .ok (.bipush 7, 2) := by decide +kernel
theorem dX1_examineAll_46 : decode cX1_examineAll 46 = .ok (.imul, 1) := by decide +kernel
theorem dX1_examineAll_47 : decode cX1_examineAll 47 = .ok (.iastore, 1) := by decide +kernel
theorem dX1_examineAll_48 : decode cX1_examineAll 48 = .ok (.aload_n 0, 1) := by decide +kernel
theorem dX1_examineAll_49 : decode cX1_examineAll 49 = .ok (.getfield 27, 3) := by decide +kernel
theorem dX1_examineAll_52 : decode cX1_examineAll 52 = .ok (.iload 4, 2) := by decide +kernel
theorem dX1_examineAll_54 : decode cX1_examineAll 54 = .ok (.aconst_null, 1) := by decide +kernel
theorem dX1_examineAll_55 : decode cX1_examineAll 55 = .ok (.aastore, 1) := by decide +kernel
theorem dX1_examineAll_56 : decode cX1_examineAll 56 = .ok (.iinc 4 1, 3) := by decide +kernel
theorem dX1_examineAll_59 : decode cX1_examineAll 59 = .ok (.goto (-30), 3) := by decide +kernel
theorem dX1_examineAll_62 : decode cX1_examineAll 62 = .ok (.aload_n 0, 1) := by decide +kernel
theorem dX1_examineAll_63 : decode cX1_examineAll 63 = .ok (.aload_n 1, 1) := by decide +kernel
theorem dX1_examineAll_64 : decode cX1_examineAll 64 = .ok (.aload_n 0, 1) := by decide +kernel
theorem dX1_examineAll_65 : decode cX1_examineAll 65 = .ok (.getfield 31, 3) := by decide +kernel
theorem dX1_examineAll_68 : decode cX1_examineAll 68 = .ok (.iconst 0, 1) := by decide +kernel
theorem dX1_examineAll_69 : decode cX1_examineAll 69 = .ok (.invokevirtual 51, 3) := by decide +kernel
theorem dX1_examineAll_72 : decode cX1_examineAll 72 = .ok (.areturn, 1) := by decide +kernel
set_option maxRecDepth 20000 in
set_option maxHeartbeats 4000000 in
theorem w_X1_examineAll {c : cX} {d : Nat} {C : cS} {K : Option Value → cS → Prop} (t : Nat) (p0 : Option Nat) (p1 : Int32) (p2 : Option Nat) (h : cT C t 1 7 ∧ (∃ a2 : Nat, (cR C t 4) = some a2 ∧ (cT C a2 8 2 ∧ (cM c d eX8_sayAnything (.ref a2 :: []) (csi (csr C t 5 p2) t 6 (-1)) (fun v C4 => v = none ∧ cle (csi (csr C t 5 p2) t 6 (-1)) C4 ∧ (∃ a10 : Nat, (cR C4 t 4) = some a10 ∧ (cT C4 a10 8 2 ∧ (cM c d eX8_restrict (.ref a10 :: [.int 0, .int p1]) C4 (fun v C12 => v = none ∧ cle C4 C12 ∧ (cG c eX1_examineAll (d + 1) (cQ K) 29 [some (.ref t), some (va_rf p0), none, none, some (.int 0)] [] C12)))))))))) : cM c (d + 1) eX1_examineAll [.ref t, va_rf p0, .int p1, va_rf p2] C K := by
  refine cM.of2 (lv := [some (.ref t), some (va_rf p0), some (.int p1), some (va_rf p2), none]) (by decide) (by simp only [am_sl_i, am_sl_r, am_sl_l, am_sl_o, am_sl_n]; exact Nat.le_of_ble_eq_true rfl) (by simp only [am_en, am_sl_i, am_sl_r, am_sl_l, am_sl_o, am_sl_n]; rfl) ?_
  refine ag_aload_n dX1_examineAll_0 rfl (Or.inr ⟨_, rfl⟩) ?_
  refine ag_aload_n dX1_examineAll_1 rfl (va_rf_or _) ?_
  obtain ⟨hT1, h⟩ := h
  refine cr_pr (r := p2) (C2 := (csr C t 5 p2)) dX1_examineAll_2 pw_1_35 rfl (Or.inr ⟨_, rfl⟩) hT1 rfl ?_
  refine ag_aload_n dX1_examineAll_5 rfl (Or.inr ⟨_, rfl⟩) ?_
  refine ag_iconst (v := (-1)) dX1_examineAll_6 rfl ?_
  refine cr_pi (C2 := (csi (csr C t 5 p2) t 6 (-1))) dX1_examineAll_7 pw_1_39 rfl hT1 (fun _ => ⟨rfl, rfl⟩) rfl ?_
  refine ag_aload_n dX1_examineAll_10 rfl (Or.inr ⟨_, rfl⟩) ?_
  refine cr_get (v := va_rf (cR C t 4)) dX1_examineAll_11 fw_1_31 hT1 rfl ?_
  obtain ⟨a2, hr3, h⟩ := h
  refine cr_stk (st' := [.ref a2]) (by rw [hr3]; rfl) ?_
  obtain ⟨hT7, h⟩ := h
  refine cr_callV (as := []) (rest := []) dX1_examineAll_14 me_X8_sayAnything mi_X8_sayAnything lk_1_44 hT7 rfl rfl (Nat.le_of_ble_eq_true rfl) ?_
  refine cM.mono h ?_
  rintro v C4 ⟨rfl, hL6, h⟩
  have hT8 := cT.le (C := (csi (csr C t 5 p2) t 6 (-1))) hT1 hL6
  have hT9 := cT.le (C := (csi (csr C t 5 p2) t 6 (-1))) hT7 hL6
  show cG _ _ _ _ _ _ [] _
  refine ag_aload_n dX1_examineAll_17 rfl (Or.inr ⟨_, rfl⟩) ?_
  refine cr_get (v := va_rf (cR C4 t 4)) dX1_examineAll_18 fw_1_31 hT8 rfl ?_
  refine ag_iconst (v := 0) dX1_examineAll_21 rfl ?_
  refine ag_iload_n dX1_examineAll_22 rfl ?_
  obtain ⟨a10, hr11, h⟩ := h
  refine cr_stk (st' := [.int p1, .int 0, .ref a10]) (by rw [hr11]; rfl) ?_
  obtain ⟨hT15, h⟩ := h
  refine cr_callV (as := [.int 0, .int p1]) (rest := []) dX1_examineAll_23 me_X8_restrict mi_X8_restrict lk_1_47 hT15 rfl rfl (Nat.le_of_ble_eq_true rfl) ?_
  refine cM.mono h ?_
  rintro v C12 ⟨rfl, hL14, h⟩
  have hT16 := cT.le (C := C4) hT8 hL14
  have hT17 := cT.le (C := C4) hT9 hL14
  have hT18 := cT.le (C := C4) hT15 hL14
  show cG _ _ _ _ _ _ [] _
  refine ag_iconst (v := 0) dX1_examineAll_26 rfl ?_
  refine ag_istore (lv2 := [some (.ref t), some (va_rf p0), some (.int p1), some (va_rf p2), some (.int 0)]) dX1_examineAll_27 (Nat.le_of_ble_eq_true rfl) (by simp [am_st1, am_kill, va_rf_cat] <;> rfl) ?_
  refine ag_drop 2 ?_
  refine ag_drop 3 ?_
  exact h
set_option maxRecDepth 20000 in
set_option maxHeartbeats 4000000 in
theorem w_X1_examineAll_29 {c : cX} {d : Nat} {C : cS} {K : Option Value → cS → Prop} (t : Nat) (v1 : Option Nat) (v4 : Int32) (h : (17 ≤ v4 → (cT C t 1 7 ∧ (cM c d eX1_examine (.ref t :: [va_rf v1, va_rf (cR C t 4), .int 0]) C (fun v C3 => ∃ z4 : Option Nat, v = some (va_rf z4) ∧ cle C C3 ∧ (K (some (va_rf z4)) C3))))) ∧ (¬ 17 ≤ v4 → (cT C t 1 7 ∧ (∃ a8 : Nat, (cR C t 2) = some a8 ∧ (∃ n11 : Nat, cT C a8 20 n11 ∧ (∃ j12 : Nat, am_ix v4 j12 n11 ∧ (∃ a14 : Nat, (cR C t 3) = some a14 ∧ (∃ n17 : Nat, cT C a14 25 n17 ∧ (∃ j18 : Nat, am_ix v4 j18 n17 ∧ (cG c eX1_examineAll (d + 1) (cQ K) 29 [some (.ref t), some (va_rf v1), none, none, some (.int (v4 + 1))] [] (csr (csi C a8 j12 (v4 * 7)) a14 j18 none))))))))))) : cG c eX1_examineAll (d + 1) (cQ K) 29 [some (.ref t), some (va_rf v1), none, none, some (.int v4)] [] C := by
  refine ag_iload dX1_examineAll_29 rfl ?_
  refine ag_bipush (v := 17) dX1_examineAll_31 (by decide) ?_
  refine ag_icmp_ge (tgt := 62) dX1_examineAll_33 rfl (fun hc1 => ?_) (fun hc1 => ?_)
  · have h := h.1 hc1
    refine ag_aload_n dX1_examineAll_62 rfl (Or.inr ⟨_, rfl⟩) ?_
    refine ag_aload_n dX1_examineAll_63 rfl (va_rf_or _) ?_
    refine ag_aload_n dX1_examineAll_64 rfl (Or.inr ⟨_, rfl⟩) ?_
    obtain ⟨hT2, h⟩ := h
    refine cr_get (v := va_rf (cR C t 4)) dX1_examineAll_65 fw_1_31 hT2 rfl ?_
    refine ag_iconst (v := 0) dX1_examineAll_68 rfl ?_
    refine cr_callV (as := [va_rf v1, va_rf (cR C t 4), .int 0]) (rest := []) dX1_examineAll_69 me_X1_examine mi_X1_examine lk_1_51 hT2 rfl rfl (Nat.le_of_ble_eq_true rfl) ?_
    refine cM.mono h ?_
    rintro v C3 ⟨z4, rfl, hL5, h⟩
    have hT6 := cT.le (C := C) hT2 hL5
    show cG _ _ _ _ _ _ [va_rf z4] _
    refine cr_stk (st' := [va_rf z4]) rfl ?_
    exact cr_aret dX1_examineAll_72 ⟨_, rfl, Or.inl ⟨_, rfl⟩⟩ ⟨_, rfl, _, rfl, h⟩
  · have h := h.2 hc1
    refine ag_aload_n dX1_examineAll_36 rfl (Or.inr ⟨_, rfl⟩) ?_
    obtain ⟨hT7, h⟩ := h
    refine cr_get (v := va_rf (cR C t 2)) dX1_examineAll_37 fw_1_23 hT7 rfl ?_
    refine ag_iload dX1_examineAll_40 rfl ?_
    refine ag_iload dX1_examineAll_42 rfl ?_
    refine ag_bipush (v := 7) dX1_examineAll_44 (by decide) ?_
    refine ag_imul dX1_examineAll_46 rfl ?_
    obtain ⟨a8, hr9, h⟩ := h
    refine cr_stk (st' := [.int (v4 * 7), .int v4, .ref a8]) (by rw [hr9]; rfl) ?_
    obtain ⟨n11, hT10, h⟩ := h
    obtain ⟨j12, hj13, h⟩ := h
    refine cr_is (C2 := (csi C a8 j12 (v4 * 7))) dX1_examineAll_47 hT10 hj13 rfl ?_
    refine ag_aload_n dX1_examineAll_48 rfl (Or.inr ⟨_, rfl⟩) ?_
    refine cr_get (v := va_rf (cR C t 3)) dX1_examineAll_49 fw_1_27 hT7 rfl ?_
    refine ag_iload dX1_examineAll_52 rfl ?_
    refine ag_null dX1_examineAll_54 ?_
    obtain ⟨a14, hr15, h⟩ := h
    refine cr_stk (st' := [.null, .int v4, .ref a14]) (by rw [hr15]; rfl) ?_
    obtain ⟨n17, hT16, h⟩ := h
    obtain ⟨j18, hj19, h⟩ := h
    refine cr_as (ci := 2) (r := none) (nb := 4) (C2 := (csr (csi C a8 j12 (v4 * 7)) a14 j18 none)) dX1_examineAll_55 hT16 (by decide) hj19 (fun b q => nomatch q) rfl ?_
    refine ag_iinc (v2 := (v4 + 1)) (lv2 := [some (.ref t), some (va_rf v1), none, none, some (.int (v4 + 1))]) dX1_examineAll_56 rfl rfl rfl ?_
    refine ag_goto (tgt := 29) dX1_examineAll_59 rfl ?_
    exact h
theorem dX1_examine_0 : decode cX1_examine 0 = .ok (.aload_n 1, 1) := by decide +kernel
theorem dX1_examine_1 : decode cX1_examine 1 = .ok (.ifnull 25, 3) := by decide +kernel
theorem dX1_examine_4 : decode cX1_examine 4 = .ok (.aload_n 1, 1) := by decide +kernel
theorem dX1_examine_5 : decode cX1_examine 5 = .ok (.getfield 55, 3) := by decide +kernel
theorem dX1_examine_8 : decode cX1_examine 8 = .ok (.ifCond .lt 18, 3) := by decide +kernel
theorem dX1_examine_11 : decode cX1_examine 11 = .ok (.aload_n 1, 1) := by decide +kernel
theorem dX1_examine_12 : decode cX1_examine 12 = .ok (.getfield 55, 3) := by decide +kernel
theorem dX1_examine_15 : decode cX1_examine 15 = .ok (.bipush 60, 2) := by decide +kernel
theorem dX1_examine_17 : decode cX1_examine 17 = .ok (.if_icmp .ge 9, 3) := by decide +kernel
theorem dX1_examine_20 : decode cX1_examine 20 = .ok (.iload_n 3, 1) := by decide +kernel
theorem dX1_examine_21 : decode cX1_examine 21 = .ok (.bipush 40, 2) := by decide +kernel
theorem dX1_examine_23 : decode cX1_examine 23 = .ok (.if_icmp .le 5, 3) := by decide +kernel
theorem dX1_examine_26 : decode cX1_examine 26 = .ok (.aconst_null, 1) := by decide +kernel
theorem dX1_examine_27 : decode cX1_examine 27 = .ok (.areturn, 1) := by decide +kernel
theorem dX1_examine_28 : decode cX1_examine 28 = .ok (.aload_n 0, 1) := by decide +kernel
theorem dX1_examine_29 : decode cX1_examine 29 = .ok (.getfield 11, 3) := by decide +kernel
theorem dX1_examine_32 : decode cX1_examine 32 = .ok (.aload_n 1, 1) := by decide +kernel
theorem dX1_examine_33 : decode cX1_examine 33 = .ok (.getfield 55, 3) := by decide +kernel
theorem dX1_examine_36 : decode cX1_examine 36 = .ok (.aaload, 1) := by decide +kernel
theorem dX1_examine_37 : decode cX1_examine 37 = .ok (.astore 4, 2) := by decide +kernel
theorem dX1_examine_39 : decode cX1_examine 39 = .ok (.aload_n 2, 1) := by decide +kernel
theorem dX1_examine_40 : decode cX1_examine 40 = .ok (.getfield 60, 3) := by decide +kernel
theorem dX1_examine_43 : decode cX1_examine 43 = .ok (.ifCond .eq 11, 3) := by decide +kernel
theorem dX1_examine_46 : decode cX1_examine 46 = .ok (.aload 4, 2) := by decide +kernel
theorem dX1_examine_48 : decode cX1_examine 48 = .ok (.invokevirtual 64, 3) := by decide +kernel
theorem dX1_examine_51 : decode cX1_examine 51 = .ok (.aload 4, 2) := by decide +kernel
theorem dX1_examine_53 : decode cX1_examine 53 = .ok (.areturn, 1) := by decide +kernel
theorem dX1_examine_54 : decode cX1_examine 54 = .ok (.aload_n 0, 1) := by decide +kernel
theorem dX1_examine_55 : decode cX1_examine 55 = .ok (.aload_n 1, 1) := by decide +kernel
theorem dX1_examine_56 : decode cX1_examine 56 = .ok (.aload_n 2, 1) := by decide +kernel
theorem dX1_examine_57 : decode cX1_examine 57 = .ok (.aload 4, 2) := by decide +kernel
theorem dX1_examine_59 : decode cX1_examine 59 = .ok (.iload_n 3, 1) := by decide +kernel
theorem dX1_examine_60 : decode cX1_examine 60 = .ok (.iconst 1, 1) := by decide +kernel
theorem dX1_examine_61 : decode cX1_examine 61 = .ok (.iadd, 1) := by decide +kernel
theorem dX1_examine_62 : decode cX1_examine 62 = .ok (.invokevirtual 67, 3) := by decide +kernel
theorem dX1_examine_65 : decode cX1_examine 65 = .ok (.ifCond .ne 5, 3) := by decide +kernel
theorem dX1_examine_68 : decode cX1_examine 68 = .ok (.aconst_null, 1) := by decide +kernel
theorem dX1_examine_69 : decode cX1_examine 69 = .ok (.areturn, 1) := by decide +kernel
theorem dX1_examine_70 : decode cX1_examine 70 = .ok (.aload 4, 2) := by decide +kernel
theorem dX1_examine_72 : decode cX1_examine 72 = .ok (.invokevirtual 71, 3) := by decide +kernel
theorem dX1_examine_75 : decode cX1_examine 75 = .ok (.aload 4, 2) := by decide +kernel
theorem dX1_examine_77 : decode cX1_examine 77 = .ok (.areturn, 1) := by decide +kernel
set_option maxRecDepth 20000 in
set_option maxHeartbeats 4000000 in
theorem w_X1_examine {c : cX} {d : Nat} {C : cS} {K : Option Value → cS → Prop} (t : Nat) (p0 : Option Nat) (p1 : Option Nat) (p2 : Int32) (h : (p0 = none → (K (some (va_rf none)) C)) ∧ (∀ a2 : Nat, p0 = some a2 → (cT C a2 5 7 ∧ (((cI C a2 2) < 0 → (K (some (va_rf none)) C)) ∧ (¬ (cI C a2 2) < 0 → ((60 ≤ (cI C a2 2) → (K (some (va_rf none)) C)) ∧ (¬ 60 ≤ (cI C a2 2) → ((p2 ≤ 40 → (cT C t 1 7 ∧ (∃ a8 : Nat, (cR C t 0) = some a8 ∧ (∃ n11 : Nat, cT C a8 25 n11 ∧ (∃ j12 : Nat, am_ix (cI C a2 2) j12 n11 ∧ (∃ a14 : Nat, p1 = some a14 ∧ (cT C a14 8 2 ∧ (((cI C a14 1) = 0 → (cM c d eX1_examineKind (.ref t :: [va_rf p0, va_rf p1, va_rf (cR C a8 j12), .int (p2 + 1)]) C (fun v C18 => ∃ z19 : Int32, v = some (.int z19) ∧ cle C C18 ∧ ((¬ z19 = 0 → (∃ a26 : Nat, (cR C a8 j12) = some a26 ∧ (cT C18 a26 2 4 ∧ (cM c d eX2_settle (.ref a26 :: []) C18 (fun v C28 => v = none ∧ cle C18 C28 ∧ (K (some (va_rf (cR C a8 j12))) C28)))))) ∧ (z19 = 0 → (K (some (va_rf none)) C18)))))) ∧ (¬ (cI C a14 1) = 0 → (∃ a37 : Nat, (cR C a8 j12) = some a37 ∧ (cT C a37 2 4 ∧ (cM c d eX2_beUnchecked (.ref a37 :: []) C (fun v C39 => v = none ∧ cle C C39 ∧ (K (some (va_rf (cR C a8 j12))) C39)))))))))))))) ∧ (¬ p2 ≤ 40 → (K (some (va_rf none)) C)))))))))) : cM c (d + 1) eX1_examine [.ref t, va_rf p0, va_rf p1, .int p2] C K := by
  refine cM.of2 (lv := [some (.ref t), some (va_rf p0), some (va_rf p1), some (.int p2), none]) (by decide) (by simp only [am_sl_i, am_sl_r, am_sl_l, am_sl_o, am_sl_n]; exact Nat.le_of_ble_eq_true rfl) (by simp only [am_en, am_sl_i, am_sl_r, am_sl_l, am_sl_o, am_sl_n]; rfl) ?_
  refine ag_aload_n dX1_examine_0 rfl (va_rf_or _) ?_
  refine cr_ifnull (tgt := 26) dX1_examine_1 rfl (fun hr1 => ?_) (fun a2 hr1 => ?_)
  · have h := h.1 hr1
    refine ag_null dX1_examine_26 ?_
    refine cr_stk (st' := [va_rf none]) rfl ?_
    exact cr_aret dX1_examine_27 ⟨_, rfl, Or.inl ⟨_, rfl⟩⟩ ⟨_, rfl, _, rfl, h⟩
  · have h := h.2 a2 hr1
    refine ag_aload_n dX1_examine_4 rfl (va_rf_or _) ?_
    refine cr_stk (st' := [.ref a2]) (by rw [hr1]; rfl) ?_
    obtain ⟨hT3, h⟩ := h
    refine cr_get (v := .int (cI C a2 2)) dX1_examine_5 fw_1_55 hT3 rfl ?_
    refine ag_if_lt (tgt := 26) dX1_examine_8 rfl (fun hc4 => ?_) (fun hc4 => ?_)
    · have h := h.1 hc4
      refine ag_null dX1_examine_26 ?_
      refine cr_stk (st' := [va_rf none]) rfl ?_
      exact cr_aret dX1_examine_27 ⟨_, rfl, Or.inl ⟨_, rfl⟩⟩ ⟨_, rfl, _, rfl, h⟩
    · have h := h.2 hc4
      refine ag_aload_n dX1_examine_11 rfl (va_rf_or _) ?_
      refine cr_stk (st' := [.ref a2]) (by rw [hr1]; rfl) ?_
      refine cr_get (v := .int (cI C a2 2)) dX1_examine_12 fw_1_55 hT3 rfl ?_
      refine ag_bipush (v := 60) dX1_examine_15 (by decide) ?_
      refine ag_icmp_ge (tgt := 26) dX1_examine_17 rfl (fun hc5 => ?_) (fun hc5 => ?_)
      · have h := h.1 hc5
        refine ag_null dX1_examine_26 ?_
        refine cr_stk (st' := [va_rf none]) rfl ?_
        exact cr_aret dX1_examine_27 ⟨_, rfl, Or.inl ⟨_, rfl⟩⟩ ⟨_, rfl, _, rfl, h⟩
      · have h := h.2 hc5
        refine ag_iload_n dX1_examine_20 rfl ?_
        refine ag_bipush (v := 40) dX1_examine_21 (by decide) ?_
        refine ag_icmp_le (tgt := 28) dX1_examine_23 rfl (fun hc6 => ?_) (fun hc6 => ?_)
        · have h := h.1 hc6
          refine ag_aload_n dX1_examine_28 rfl (Or.inr ⟨_, rfl⟩) ?_
          obtain ⟨hT7, h⟩ := h
          refine cr_get (v := va_rf (cR C t 0)) dX1_examine_29 fw_1_11 hT7 rfl ?_
          refine ag_aload_n dX1_examine_32 rfl (va_rf_or _) ?_
          refine cr_stk (st' := [.ref a2, va_rf (cR C t 0)]) (by rw [hr1]; rfl) ?_
          refine cr_get (v := .int (cI C a2 2)) dX1_examine_33 fw_1_55 hT3 rfl ?_
          obtain ⟨a8, hr9, h⟩ := h
          refine cr_stk (st' := [.int (cI C a2 2), .ref a8]) (by rw [hr9]; rfl) ?_
          obtain ⟨n11, hT10, h⟩ := h
          obtain ⟨j12, hj13, h⟩ := h
          refine cr_al (r := (cR C a8 j12)) dX1_examine_36 hT10 (by decide) hj13 rfl ?_
          refine ag_astore (lv2 := [some (.ref t), some (va_rf p0), some (va_rf p1), some (.int p2), some (va_rf (cR C a8 j12))]) dX1_examine_37 (Nat.le_of_ble_eq_true rfl) rfl (va_rf_or _) ?_
          refine ag_aload_n dX1_examine_39 rfl (va_rf_or _) ?_
          obtain ⟨a14, hr15, h⟩ := h
          refine cr_stk (st' := [.ref a14]) (by rw [hr15]; rfl) ?_
          obtain ⟨hT16, h⟩ := h
          refine cr_get (v := .int (cI C a14 1)) dX1_examine_40 fw_1_60 hT16 rfl ?_
          refine ag_if_eq (tgt := 54) dX1_examine_43 rfl (fun hc17 => ?_) (fun hc17 => ?_)
          · have h := h.1 hc17
            refine ag_aload_n dX1_examine_54 rfl (Or.inr ⟨_, rfl⟩) ?_
            refine ag_aload_n dX1_examine_55 rfl (va_rf_or _) ?_
            refine ag_aload_n dX1_examine_56 rfl (va_rf_or _) ?_
            refine ag_aload dX1_examine_57 rfl (va_rf_or _) ?_
            refine ag_iload_n dX1_examine_59 rfl ?_
            refine ag_iconst (v := 1) dX1_examine_60 rfl ?_
            refine ag_iadd dX1_examine_61 rfl ?_
            refine cr_callV (as := [va_rf p0, va_rf p1, va_rf (cR C a8 j12), .int (p2 + 1)]) (rest := []) dX1_examine_62 me_X1_examineKind mi_X1_examineKind lk_1_67 hT7 rfl rfl (Nat.le_of_ble_eq_true rfl) ?_
            refine cM.mono h ?_
            rintro v C18 ⟨z19, rfl, hL20, h⟩
            have hT21 := cT.le (C := C) hT3 hL20
            have hT22 := cT.le (C := C) hT7 hL20
            have hT23 := cT.le (C := C) hT10 hL20
            have hT24 := cT.le (C := C) hT16 hL20
            show cG _ _ _ _ _ _ [.int z19] _
            refine ag_if_ne (tgt := 70) dX1_examine_65 rfl (fun hc25 => ?_) (fun hc25 => ?_)
            · have h := h.1 hc25
              refine ag_aload dX1_examine_70 rfl (va_rf_or _) ?_
              obtain ⟨a26, hr27, h⟩ := h
              refine cr_stk (st' := [.ref a26]) (by rw [hr27]; rfl) ?_
              obtain ⟨hT31, h⟩ := h
              refine cr_callV (as := []) (rest := []) dX1_examine_72 me_X2_settle mi_X2_settle lk_1_71 hT31 rfl rfl (Nat.le_of_ble_eq_true rfl) ?_
              refine cM.mono h ?_
              rintro v C28 ⟨rfl, hL30, h⟩
              have hT32 := cT.le (C := C18) hT21 hL30
              have hT33 := cT.le (C := C18) hT22 hL30
              have hT34 := cT.le (C := C18) hT23 hL30
              have hT35 := cT.le (C := C18) hT24 hL30
              have hT36 := cT.le (C := C18) hT31 hL30
              show cG _ _ _ _ _ _ [] _
              refine ag_aload dX1_examine_75 rfl (va_rf_or _) ?_
              refine cr_stk (st' := [va_rf (cR C a8 j12)]) rfl ?_
              exact cr_aret dX1_examine_77 ⟨_, rfl, Or.inl ⟨_, rfl⟩⟩ ⟨_, rfl, _, rfl, h⟩
            · have h := h.2 hc25
              refine ag_null dX1_examine_68 ?_
              refine cr_stk (st' := [va_rf none]) rfl ?_
              exact cr_aret dX1_examine_69 ⟨_, rfl, Or.inl ⟨_, rfl⟩⟩ ⟨_, rfl, _, rfl, h⟩
          · have h := h.2 hc17
            refine ag_aload dX1_examine_46 rfl (va_rf_or _) ?_
            obtain ⟨a37, hr38, h⟩ := h
            refine cr_stk (st' := [.ref a37]) (by rw [hr38]; rfl) ?_
            obtain ⟨hT42, h⟩ := h
            refine cr_callV (as := []) (rest := []) dX1_examine_48 me_X2_beUnchecked mi_X2_beUnchecked lk_1_64 hT42 rfl rfl (Nat.le_of_ble_eq_true rfl) ?_
            refine cM.mono h ?_
            rintro v C39 ⟨rfl, hL41, h⟩
            have hT43 := cT.le (C := C) hT3 hL41
            have hT44 := cT.le (C := C) hT7 hL41
            have hT45 := cT.le (C := C) hT10 hL41
            have hT46 := cT.le (C := C) hT16 hL41
            have hT47 := cT.le (C := C) hT42 hL41
            show cG _ _ _ _ _ _ [] _
            refine ag_aload dX1_examine_51 rfl (va_rf_or _) ?_
            refine cr_stk (st' := [va_rf (cR C a8 j12)]) rfl ?_
            exact cr_aret dX1_examine_53 ⟨_, rfl, Or.inl ⟨_, rfl⟩⟩ ⟨_, rfl, _, rfl, h⟩
        · have h := h.2 hc6
          refine ag_null dX1_examine_26 ?_
          refine cr_stk (st' := [va_rf none]) rfl ?_
          exact cr_aret dX1_examine_27 ⟨_, rfl, Or.inl ⟨_, rfl⟩⟩ ⟨_, rfl, _, rfl, h⟩
