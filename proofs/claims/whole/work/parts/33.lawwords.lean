/-! Words for the wrappers, the law and the throws (written by program). -/
theorem am_memC {a b : String} (i : Nat) (h : lw_tbl[i]? = some (.castable a b)) : Cond.castable a b ∈ am_nest := List.mem_filter.mpr ⟨List.mem_of_getElem? h, rfl⟩
theorem cT_nw0 {C : cS} {t n : Nat} (h : 0 < C.1) : cT (cnw C t n) C.1 t n := ⟨by omega, Nat.lt_succ_self _, by show (if C.1 = C.1 then _ else _) = _; rw [if_pos rfl]⟩
theorem dL_define_0 : decode cL_define 0 = .ok (.aload_n 1, 1) := by decide +kernel
theorem dL_define_1 : decode cL_define 1 = .ok (.iconst 0, 1) := by decide +kernel
theorem dL_define_2 : decode cL_define 2 = .ok (.aload_n 0, 1) := by decide +kernel
theorem dL_define_3 : decode cL_define 3 = .ok (.invokevirtual 7, 3) := by decide +kernel
theorem dL_define_6 : decode cL_define 6 = .ok (.i2l, 1) := by decide +kernel
theorem dL_define_7 : decode cL_define 7 = .ok (.lastore, 1) := by decide +kernel
theorem dL_define_8 : decode cL_define 8 = .ok (.goto 9, 3) := by decide +kernel
theorem dL_define_11 : decode cL_define 11 = .ok (.astore_n 2, 1) := by decide +kernel
theorem dL_define_12 : decode cL_define 12 = .ok (.iconst 1, 1) := by decide +kernel
theorem dL_define_13 : decode cL_define 13 = .ok (.ireturn, 1) := by decide +kernel
theorem dL_define_14 : decode cL_define 14 = .ok (.astore_n 2, 1) := by decide +kernel
theorem dL_define_15 : decode cL_define 15 = .ok (.iconst 2, 1) := by decide +kernel
theorem dL_define_16 : decode cL_define 16 = .ok (.ireturn, 1) := by decide +kernel
theorem dL_define_17 : decode cL_define 17 = .ok (.iconst 0, 1) := by decide +kernel
theorem dL_define_18 : decode cL_define 18 = .ok (.ireturn, 1) := by decide +kernel
theorem dL_check_0 : decode cL_check 0 = .ok (.aload_n 1, 1) := by decide +kernel
theorem dL_check_1 : decode cL_check 1 = .ok (.iconst 0, 1) := by decide +kernel
theorem dL_check_2 : decode cL_check 2 = .ok (.aload_n 0, 1) := by decide +kernel
theorem dL_check_3 : decode cL_check 3 = .ok (.invokevirtual 17, 3) := by decide +kernel
theorem dL_check_6 : decode cL_check 6 = .ok (.i2l, 1) := by decide +kernel
theorem dL_check_7 : decode cL_check 7 = .ok (.lastore, 1) := by decide +kernel
theorem dL_check_8 : decode cL_check 8 = .ok (.goto 9, 3) := by decide +kernel
theorem dL_check_11 : decode cL_check 11 = .ok (.astore_n 2, 1) := by decide +kernel
theorem dL_check_12 : decode cL_check 12 = .ok (.iconst 1, 1) := by decide +kernel
theorem dL_check_13 : decode cL_check 13 = .ok (.ireturn, 1) := by decide +kernel
theorem dL_check_14 : decode cL_check 14 = .ok (.astore_n 2, 1) := by decide +kernel
theorem dL_check_15 : decode cL_check 15 = .ok (.iconst 2, 1) := by decide +kernel
theorem dL_check_16 : decode cL_check 16 = .ok (.ireturn, 1) := by decide +kernel
theorem dL_check_17 : decode cL_check 17 = .ok (.iconst 0, 1) := by decide +kernel
theorem dL_check_18 : decode cL_check 18 = .ok (.ireturn, 1) := by decide +kernel
theorem dL_view_0 : decode cL_view 0 = .ok (.aload 4, 2) := by decide +kernel
theorem dL_view_2 : decode cL_view 2 = .ok (.iconst 0, 1) := by decide +kernel
theorem dL_view_3 : decode cL_view 3 = .ok (.aload_n 0, 1) := by decide +kernel
theorem dL_view_4 : decode cL_view 4 = .ok (.iload_n 1, 1) := by decide +kernel
theorem dL_view_5 : decode cL_view 5 = .ok (.iload_n 2, 1) := by decide +kernel
theorem dL_view_6 : decode cL_view 6 = .ok (.iload_n 3, 1) := by decide +kernel
theorem dL_view_7 : decode cL_view 7 = .ok (.invokevirtual 20, 3) := by decide +kernel
theorem dL_view_10 : decode cL_view 10 = .ok (.i2l, 1) := by decide +kernel
theorem dL_view_11 : decode cL_view 11 = .ok (.lastore, 1) := by decide +kernel
theorem dL_view_12 : decode cL_view 12 = .ok (.goto 11, 3) := by decide +kernel
theorem dL_view_15 : decode cL_view 15 = .ok (.astore 5, 2) := by decide +kernel
theorem dL_view_17 : decode cL_view 17 = .ok (.iconst 1, 1) := by decide +kernel
theorem dL_view_18 : decode cL_view 18 = .ok (.ireturn, 1) := by decide +kernel
theorem dL_view_19 : decode cL_view 19 = .ok (.astore 5, 2) := by decide +kernel
theorem dL_view_21 : decode cL_view 21 = .ok (.iconst 2, 1) := by decide +kernel
theorem dL_view_22 : decode cL_view 22 = .ok (.ireturn, 1) := by decide +kernel
theorem dL_view_23 : decode cL_view 23 = .ok (.iconst 0, 1) := by decide +kernel
theorem dL_view_24 : decode cL_view 24 = .ok (.ireturn, 1) := by decide +kernel
theorem dL_number_0 : decode cL_number 0 = .ok (.aload_n 2, 1) := by decide +kernel
theorem dL_number_1 : decode cL_number 1 = .ok (.iconst 0, 1) := by decide +kernel
theorem dL_number_2 : decode cL_number 2 = .ok (.aload_n 0, 1) := by decide +kernel
theorem dL_number_3 : decode cL_number 3 = .ok (.iload_n 1, 1) := by decide +kernel
theorem dL_number_4 : decode cL_number 4 = .ok (.invokevirtual 28, 3) := by decide +kernel
theorem dL_number_7 : decode cL_number 7 = .ok (.i2l, 1) := by decide +kernel
theorem dL_number_8 : decode cL_number 8 = .ok (.lastore, 1) := by decide +kernel
theorem dL_number_9 : decode cL_number 9 = .ok (.goto 6, 3) := by decide +kernel
theorem dL_number_12 : decode cL_number 12 = .ok (.astore_n 3, 1) := by decide +kernel
theorem dL_number_13 : decode cL_number 13 = .ok (.iconst 1, 1) := by decide +kernel
theorem dL_number_14 : decode cL_number 14 = .ok (.ireturn, 1) := by decide +kernel
theorem dL_number_15 : decode cL_number 15 = .ok (.iconst 0, 1) := by decide +kernel
theorem dL_number_16 : decode cL_number 16 = .ok (.ireturn, 1) := by decide +kernel
theorem dL_pair_0 : decode cL_pair 0 = .ok (.aload_n 3, 1) := by decide +kernel
theorem dL_pair_1 : decode cL_pair 1 = .ok (.iconst 0, 1) := by decide +kernel
theorem dL_pair_2 : decode cL_pair 2 = .ok (.aload_n 0, 1) := by decide +kernel
theorem dL_pair_3 : decode cL_pair 3 = .ok (.iload_n 1, 1) := by decide +kernel
theorem dL_pair_4 : decode cL_pair 4 = .ok (.iload_n 2, 1) := by decide +kernel
theorem dL_pair_5 : decode cL_pair 5 = .ok (.invokevirtual 34, 3) := by decide +kernel
theorem dL_pair_8 : decode cL_pair 8 = .ok (.i2l, 1) := by decide +kernel
theorem dL_pair_9 : decode cL_pair 9 = .ok (.lastore, 1) := by decide +kernel
theorem dL_pair_10 : decode cL_pair 10 = .ok (.goto 11, 3) := by decide +kernel
theorem dL_pair_13 : decode cL_pair 13 = .ok (.astore 4, 2) := by decide +kernel
theorem dL_pair_15 : decode cL_pair 15 = .ok (.iconst 1, 1) := by decide +kernel
theorem dL_pair_16 : decode cL_pair 16 = .ok (.ireturn, 1) := by decide +kernel
theorem dL_pair_17 : decode cL_pair 17 = .ok (.astore 4, 2) := by decide +kernel
theorem dL_pair_19 : decode cL_pair 19 = .ok (.iconst 2, 1) := by decide +kernel
theorem dL_pair_20 : decode cL_pair 20 = .ok (.ireturn, 1) := by decide +kernel
theorem dL_pair_21 : decode cL_pair 21 = .ok (.iconst 0, 1) := by decide +kernel
theorem dL_pair_22 : decode cL_pair 22 = .ok (.ireturn, 1) := by decide +kernel
theorem dL_input_0 : decode cL_input 0 = .ok (.aload_n 0, 1) := by decide +kernel
theorem dL_input_1 : decode cL_input 1 = .ok (.iload_n 1, 1) := by decide +kernel
theorem dL_input_2 : decode cL_input 2 = .ok (.iload_n 2, 1) := by decide +kernel
theorem dL_input_3 : decode cL_input 3 = .ok (.invokevirtual 38, 3) := by decide +kernel
theorem dL_input_6 : decode cL_input 6 = .ok (.goto 9, 3) := by decide +kernel
theorem dL_input_9 : decode cL_input 9 = .ok (.astore_n 3, 1) := by decide +kernel
theorem dL_input_10 : decode cL_input 10 = .ok (.iconst 1, 1) := by decide +kernel
theorem dL_input_11 : decode cL_input 11 = .ok (.ireturn, 1) := by decide +kernel
theorem dL_input_12 : decode cL_input 12 = .ok (.astore_n 3, 1) := by decide +kernel
theorem dL_input_13 : decode cL_input 13 = .ok (.iconst 2, 1) := by decide +kernel
theorem dL_input_14 : decode cL_input 14 = .ok (.ireturn, 1) := by decide +kernel
theorem dL_input_15 : decode cL_input 15 = .ok (.iconst 0, 1) := by decide +kernel
theorem dL_input_16 : decode cL_input 16 = .ok (.ireturn, 1) := by decide +kernel
theorem dL_run_0 : decode cL_run 0 = .ok (.aload_n 2, 1) := by decide +kernel
theorem dL_run_1 : decode cL_run 1 = .ok (.iconst 0, 1) := by decide +kernel
theorem dL_run_2 : decode cL_run 2 = .ok (.aload_n 0, 1) := by decide +kernel
theorem dL_run_3 : decode cL_run 3 = .ok (.iload_n 1, 1) := by decide +kernel
theorem dL_run_4 : decode cL_run 4 = .ok (.invokevirtual 42, 3) := by decide +kernel
theorem dL_run_7 : decode cL_run 7 = .ok (.i2l, 1) := by decide +kernel
theorem dL_run_8 : decode cL_run 8 = .ok (.lastore, 1) := by decide +kernel
theorem dL_run_9 : decode cL_run 9 = .ok (.goto 9, 3) := by decide +kernel
theorem dL_run_12 : decode cL_run 12 = .ok (.astore_n 3, 1) := by decide +kernel
theorem dL_run_13 : decode cL_run 13 = .ok (.iconst 1, 1) := by decide +kernel
theorem dL_run_14 : decode cL_run 14 = .ok (.ireturn, 1) := by decide +kernel
theorem dL_run_15 : decode cL_run 15 = .ok (.astore_n 3, 1) := by decide +kernel
theorem dL_run_16 : decode cL_run 16 = .ok (.iconst 2, 1) := by decide +kernel
theorem dL_run_17 : decode cL_run 17 = .ok (.ireturn, 1) := by decide +kernel
theorem dL_run_18 : decode cL_run 18 = .ok (.iconst 0, 1) := by decide +kernel
theorem dL_run_19 : decode cL_run 19 = .ok (.ireturn, 1) := by decide +kernel
theorem dL_cell_0 : decode cL_cell 0 = .ok (.aload_n 3, 1) := by decide +kernel
theorem dL_cell_1 : decode cL_cell 1 = .ok (.iconst 0, 1) := by decide +kernel
theorem dL_cell_2 : decode cL_cell 2 = .ok (.aload_n 0, 1) := by decide +kernel
theorem dL_cell_3 : decode cL_cell 3 = .ok (.iload_n 1, 1) := by decide +kernel
theorem dL_cell_4 : decode cL_cell 4 = .ok (.iload_n 2, 1) := by decide +kernel
theorem dL_cell_5 : decode cL_cell 5 = .ok (.invokevirtual 45, 3) := by decide +kernel
theorem dL_cell_8 : decode cL_cell 8 = .ok (.i2l, 1) := by decide +kernel
theorem dL_cell_9 : decode cL_cell 9 = .ok (.lastore, 1) := by decide +kernel
theorem dL_cell_10 : decode cL_cell 10 = .ok (.goto 11, 3) := by decide +kernel
theorem dL_cell_13 : decode cL_cell 13 = .ok (.astore 4, 2) := by decide +kernel
theorem dL_cell_15 : decode cL_cell 15 = .ok (.iconst 1, 1) := by decide +kernel
theorem dL_cell_16 : decode cL_cell 16 = .ok (.ireturn, 1) := by decide +kernel
theorem dL_cell_17 : decode cL_cell 17 = .ok (.astore 4, 2) := by decide +kernel
theorem dL_cell_19 : decode cL_cell 19 = .ok (.iconst 2, 1) := by decide +kernel
theorem dL_cell_20 : decode cL_cell 20 = .ok (.ireturn, 1) := by decide +kernel
theorem dL_cell_21 : decode cL_cell 21 = .ok (.iconst 0, 1) := by decide +kernel
theorem dL_cell_22 : decode cL_cell 22 = .ok (.ireturn, 1) := by decide +kernel
abbrev eL_law : am_E := (yL_law, cL_law, 7, some .boolean)
def hhL_define : List (Nat × Nat × Nat × Nat) := [(0, 8, 11, 13), (0, 8, 14, 15)]
theorem wc_L_define : Cond.codeWith eL_define.1 eL_define.2.1 eL_define.2.2.1 eL_define.2.2.2 hhL_define ∈ am_tbl := am_mem 317 (by decide +kernel) rfl
theorem wm_L_define : Cond.codeWith eL_define.1 eL_define.2.1 eL_define.2.2.1 eL_define.2.2.2 hhL_define ∈ am_tbl ∧ Cond.initialized eL_define.1.cls ∈ am_tbl ∧ (eL_define.1.cls ≠ "java/lang/invoke/MethodHandle" ∧ eL_define.1.cls ≠ "java/lang/invoke/VarHandle" ∧ (parseMethodDescriptor eL_define.1.desc).map (fun d => d.parameters.length) = some 2) ∧ eL_define.2.2.1 ≤ 40 := ⟨wc_L_define, am_mem 82 (by decide +kernel) rfl, ⟨by decide, by decide, by decide +kernel⟩, by decide⟩
theorem ms_L_define : Cond.static eL_define.1 ∈ am_tbl := am_mem 316 (by decide +kernel) rfl
theorem ct_L_define_0 : am_ct RL hhL_define 3 "java/lang/IllegalArgumentException" 11 := ⟨[], ⟨0, 8, 11, 13⟩, [⟨0, 8, 14, 15⟩], rfl, (fun z hz => nomatch hz), by decide, by decide, am_mem 318 (by decide +kernel) rfl, am_memC 465 (by decide +kernel), rfl⟩
theorem hs_L_define_0 : am_hst eL_define.2.1 11 2 1 := Or.inr ⟨2, rfl, dL_define_11, rfl⟩
theorem ct_L_define_1 : am_ct RL hhL_define 3 "java/lang/UnsupportedOperationException" 14 := ⟨[⟨0, 8, 11, 13⟩], ⟨0, 8, 14, 15⟩, [], rfl, (fun z hz => by cases List.mem_singleton.mp hz; exact Or.inr ⟨by decide, "java/lang/IllegalArgumentException", am_mem 318 (by decide +kernel) rfl, by decide⟩), by decide, by decide, am_mem 319 (by decide +kernel) rfl, am_memC 661 (by decide +kernel), rfl⟩
theorem hs_L_define_1 : am_hst eL_define.2.1 14 2 1 := Or.inr ⟨2, rfl, dL_define_14, rfl⟩
def hhL_check : List (Nat × Nat × Nat × Nat) := [(0, 8, 11, 13), (0, 8, 14, 15)]
theorem wc_L_check : Cond.codeWith eL_check.1 eL_check.2.1 eL_check.2.2.1 eL_check.2.2.2 hhL_check ∈ am_tbl := am_mem 707 (by decide +kernel) rfl
theorem wm_L_check : Cond.codeWith eL_check.1 eL_check.2.1 eL_check.2.2.1 eL_check.2.2.2 hhL_check ∈ am_tbl ∧ Cond.initialized eL_check.1.cls ∈ am_tbl ∧ (eL_check.1.cls ≠ "java/lang/invoke/MethodHandle" ∧ eL_check.1.cls ≠ "java/lang/invoke/VarHandle" ∧ (parseMethodDescriptor eL_check.1.desc).map (fun d => d.parameters.length) = some 2) ∧ eL_check.2.2.1 ≤ 40 := ⟨wc_L_check, am_mem 82 (by decide +kernel) rfl, ⟨by decide, by decide, by decide +kernel⟩, by decide⟩
theorem ms_L_check : Cond.static eL_check.1 ∈ am_tbl := am_mem 706 (by decide +kernel) rfl
theorem ct_L_check_0 : am_ct RL hhL_check 3 "java/lang/IllegalArgumentException" 11 := ⟨[], ⟨0, 8, 11, 13⟩, [⟨0, 8, 14, 15⟩], rfl, (fun z hz => nomatch hz), by decide, by decide, am_mem 318 (by decide +kernel) rfl, am_memC 465 (by decide +kernel), rfl⟩
theorem hs_L_check_0 : am_hst eL_check.2.1 11 2 1 := Or.inr ⟨2, rfl, dL_check_11, rfl⟩
theorem ct_L_check_1 : am_ct RL hhL_check 3 "java/lang/UnsupportedOperationException" 14 := ⟨[⟨0, 8, 11, 13⟩], ⟨0, 8, 14, 15⟩, [], rfl, (fun z hz => by cases List.mem_singleton.mp hz; exact Or.inr ⟨by decide, "java/lang/IllegalArgumentException", am_mem 318 (by decide +kernel) rfl, by decide⟩), by decide, by decide, am_mem 319 (by decide +kernel) rfl, am_memC 661 (by decide +kernel), rfl⟩
theorem hs_L_check_1 : am_hst eL_check.2.1 14 2 1 := Or.inr ⟨2, rfl, dL_check_14, rfl⟩
def hhL_view : List (Nat × Nat × Nat × Nat) := [(0, 12, 15, 24), (0, 12, 19, 26)]
theorem wc_L_view : Cond.codeWith eL_view.1 eL_view.2.1 eL_view.2.2.1 eL_view.2.2.2 hhL_view ∈ am_tbl := am_mem 719 (by decide +kernel) rfl
theorem wm_L_view : Cond.codeWith eL_view.1 eL_view.2.1 eL_view.2.2.1 eL_view.2.2.2 hhL_view ∈ am_tbl ∧ Cond.initialized eL_view.1.cls ∈ am_tbl ∧ (eL_view.1.cls ≠ "java/lang/invoke/MethodHandle" ∧ eL_view.1.cls ≠ "java/lang/invoke/VarHandle" ∧ (parseMethodDescriptor eL_view.1.desc).map (fun d => d.parameters.length) = some 5) ∧ eL_view.2.2.1 ≤ 40 := ⟨wc_L_view, am_mem 82 (by decide +kernel) rfl, ⟨by decide, by decide, by decide +kernel⟩, by decide⟩
theorem ms_L_view : Cond.static eL_view.1 ∈ am_tbl := am_mem 718 (by decide +kernel) rfl
theorem ct_L_view_0 : am_ct RL hhL_view 7 "java/util/NoSuchElementException" 15 := ⟨[], ⟨0, 12, 15, 24⟩, [⟨0, 12, 19, 26⟩], rfl, (fun z hz => nomatch hz), by decide, by decide, am_mem 720 (by decide +kernel) rfl, am_memC 728 (by decide +kernel), rfl⟩
theorem hs_L_view_0 : am_hst eL_view.2.1 15 5 2 := Or.inl ⟨dL_view_15, rfl⟩
theorem ct_L_view_1 : am_ct RL hhL_view 7 "java/lang/IndexOutOfBoundsException" 19 := ⟨[⟨0, 12, 15, 24⟩], ⟨0, 12, 19, 26⟩, [], rfl, (fun z hz => by cases List.mem_singleton.mp hz; exact Or.inr ⟨by decide, "java/util/NoSuchElementException", am_mem 720 (by decide +kernel) rfl, by decide⟩), by decide, by decide, am_mem 721 (by decide +kernel) rfl, am_memC 743 (by decide +kernel), rfl⟩
theorem hs_L_view_1 : am_hst eL_view.2.1 19 5 2 := Or.inl ⟨dL_view_19, rfl⟩
def hhL_number : List (Nat × Nat × Nat × Nat) := [(0, 9, 12, 32)]
theorem wc_L_number : Cond.codeWith eL_number.1 eL_number.2.1 eL_number.2.2.1 eL_number.2.2.2 hhL_number ∈ am_tbl := am_mem 759 (by decide +kernel) rfl
theorem wm_L_number : Cond.codeWith eL_number.1 eL_number.2.1 eL_number.2.2.1 eL_number.2.2.2 hhL_number ∈ am_tbl ∧ Cond.initialized eL_number.1.cls ∈ am_tbl ∧ (eL_number.1.cls ≠ "java/lang/invoke/MethodHandle" ∧ eL_number.1.cls ≠ "java/lang/invoke/VarHandle" ∧ (parseMethodDescriptor eL_number.1.desc).map (fun d => d.parameters.length) = some 3) ∧ eL_number.2.2.1 ≤ 40 := ⟨wc_L_number, am_mem 82 (by decide +kernel) rfl, ⟨by decide, by decide, by decide +kernel⟩, by decide⟩
theorem ms_L_number : Cond.static eL_number.1 ∈ am_tbl := am_mem 758 (by decide +kernel) rfl
theorem ct_L_number_0 : am_ct RL hhL_number 4 "java/lang/IllegalStateException" 12 := ⟨[], ⟨0, 9, 12, 32⟩, [], rfl, (fun z hz => nomatch hz), by decide, by decide, am_mem 760 (by decide +kernel) rfl, am_memC 767 (by decide +kernel), rfl⟩
theorem hs_L_number_0 : am_hst eL_number.2.1 12 3 1 := Or.inr ⟨3, rfl, dL_number_12, rfl⟩
def hhL_pair : List (Nat × Nat × Nat × Nat) := [(0, 10, 13, 13), (0, 10, 17, 32)]
theorem wc_L_pair : Cond.codeWith eL_pair.1 eL_pair.2.1 eL_pair.2.2.1 eL_pair.2.2.2 hhL_pair ∈ am_tbl := am_mem 798 (by decide +kernel) rfl
theorem wm_L_pair : Cond.codeWith eL_pair.1 eL_pair.2.1 eL_pair.2.2.1 eL_pair.2.2.2 hhL_pair ∈ am_tbl ∧ Cond.initialized eL_pair.1.cls ∈ am_tbl ∧ (eL_pair.1.cls ≠ "java/lang/invoke/MethodHandle" ∧ eL_pair.1.cls ≠ "java/lang/invoke/VarHandle" ∧ (parseMethodDescriptor eL_pair.1.desc).map (fun d => d.parameters.length) = some 4) ∧ eL_pair.2.2.1 ≤ 40 := ⟨wc_L_pair, am_mem 82 (by decide +kernel) rfl, ⟨by decide, by decide, by decide +kernel⟩, by decide⟩
theorem ms_L_pair : Cond.static eL_pair.1 ∈ am_tbl := am_mem 797 (by decide +kernel) rfl
theorem ct_L_pair_0 : am_ct RL hhL_pair 5 "java/lang/IllegalArgumentException" 13 := ⟨[], ⟨0, 10, 13, 13⟩, [⟨0, 10, 17, 32⟩], rfl, (fun z hz => nomatch hz), by decide, by decide, am_mem 318 (by decide +kernel) rfl, am_memC 465 (by decide +kernel), rfl⟩
theorem hs_L_pair_0 : am_hst eL_pair.2.1 13 4 2 := Or.inl ⟨dL_pair_13, rfl⟩
theorem ct_L_pair_1 : am_ct RL hhL_pair 5 "java/lang/IllegalStateException" 17 := ⟨[⟨0, 10, 13, 13⟩], ⟨0, 10, 17, 32⟩, [], rfl, (fun z hz => by cases List.mem_singleton.mp hz; exact Or.inr ⟨by decide, "java/lang/IllegalArgumentException", am_mem 318 (by decide +kernel) rfl, by decide⟩), by decide, by decide, am_mem 760 (by decide +kernel) rfl, am_memC 767 (by decide +kernel), rfl⟩
theorem hs_L_pair_1 : am_hst eL_pair.2.1 17 4 2 := Or.inl ⟨dL_pair_17, rfl⟩
def hhL_input : List (Nat × Nat × Nat × Nat) := [(0, 6, 9, 26), (0, 6, 12, 13)]
theorem wc_L_input : Cond.codeWith eL_input.1 eL_input.2.1 eL_input.2.2.1 eL_input.2.2.2 hhL_input ∈ am_tbl := am_mem 817 (by decide +kernel) rfl
theorem wm_L_input : Cond.codeWith eL_input.1 eL_input.2.1 eL_input.2.2.1 eL_input.2.2.2 hhL_input ∈ am_tbl ∧ Cond.initialized eL_input.1.cls ∈ am_tbl ∧ (eL_input.1.cls ≠ "java/lang/invoke/MethodHandle" ∧ eL_input.1.cls ≠ "java/lang/invoke/VarHandle" ∧ (parseMethodDescriptor eL_input.1.desc).map (fun d => d.parameters.length) = some 3) ∧ eL_input.2.2.1 ≤ 40 := ⟨wc_L_input, am_mem 82 (by decide +kernel) rfl, ⟨by decide, by decide, by decide +kernel⟩, by decide⟩
theorem ms_L_input : Cond.static eL_input.1 ∈ am_tbl := am_mem 816 (by decide +kernel) rfl
theorem ct_L_input_0 : am_ct RL hhL_input 3 "java/lang/IndexOutOfBoundsException" 9 := ⟨[], ⟨0, 6, 9, 26⟩, [⟨0, 6, 12, 13⟩], rfl, (fun z hz => nomatch hz), by decide, by decide, am_mem 721 (by decide +kernel) rfl, am_memC 743 (by decide +kernel), rfl⟩
theorem hs_L_input_0 : am_hst eL_input.2.1 9 3 1 := Or.inr ⟨3, rfl, dL_input_9, rfl⟩
theorem ct_L_input_1 : am_ct RL hhL_input 3 "java/lang/IllegalArgumentException" 12 := ⟨[⟨0, 6, 9, 26⟩], ⟨0, 6, 12, 13⟩, [], rfl, (fun z hz => by cases List.mem_singleton.mp hz; exact Or.inr ⟨by decide, "java/lang/IndexOutOfBoundsException", am_mem 721 (by decide +kernel) rfl, by decide⟩), by decide, by decide, am_mem 318 (by decide +kernel) rfl, am_memC 465 (by decide +kernel), rfl⟩
theorem hs_L_input_1 : am_hst eL_input.2.1 12 3 1 := Or.inr ⟨3, rfl, dL_input_12, rfl⟩
def hhL_run : List (Nat × Nat × Nat × Nat) := [(0, 9, 12, 24), (0, 9, 15, 13)]
theorem wc_L_run : Cond.codeWith eL_run.1 eL_run.2.1 eL_run.2.2.1 eL_run.2.2.2 hhL_run ∈ am_tbl := am_mem 824 (by decide +kernel) rfl
theorem wm_L_run : Cond.codeWith eL_run.1 eL_run.2.1 eL_run.2.2.1 eL_run.2.2.2 hhL_run ∈ am_tbl ∧ Cond.initialized eL_run.1.cls ∈ am_tbl ∧ (eL_run.1.cls ≠ "java/lang/invoke/MethodHandle" ∧ eL_run.1.cls ≠ "java/lang/invoke/VarHandle" ∧ (parseMethodDescriptor eL_run.1.desc).map (fun d => d.parameters.length) = some 3) ∧ eL_run.2.2.1 ≤ 40 := ⟨wc_L_run, am_mem 82 (by decide +kernel) rfl, ⟨by decide, by decide, by decide +kernel⟩, by decide⟩
theorem ms_L_run : Cond.static eL_run.1 ∈ am_tbl := am_mem 823 (by decide +kernel) rfl
theorem ct_L_run_0 : am_ct RL hhL_run 4 "java/util/NoSuchElementException" 12 := ⟨[], ⟨0, 9, 12, 24⟩, [⟨0, 9, 15, 13⟩], rfl, (fun z hz => nomatch hz), by decide, by decide, am_mem 720 (by decide +kernel) rfl, am_memC 728 (by decide +kernel), rfl⟩
theorem hs_L_run_0 : am_hst eL_run.2.1 12 3 1 := Or.inr ⟨3, rfl, dL_run_12, rfl⟩
theorem ct_L_run_1 : am_ct RL hhL_run 4 "java/lang/IllegalArgumentException" 15 := ⟨[⟨0, 9, 12, 24⟩], ⟨0, 9, 15, 13⟩, [], rfl, (fun z hz => by cases List.mem_singleton.mp hz; exact Or.inr ⟨by decide, "java/util/NoSuchElementException", am_mem 720 (by decide +kernel) rfl, by decide⟩), by decide, by decide, am_mem 318 (by decide +kernel) rfl, am_memC 465 (by decide +kernel), rfl⟩
theorem hs_L_run_1 : am_hst eL_run.2.1 15 3 1 := Or.inr ⟨3, rfl, dL_run_15, rfl⟩
def hhL_cell : List (Nat × Nat × Nat × Nat) := [(0, 10, 13, 26), (0, 10, 17, 13)]
theorem wc_L_cell : Cond.codeWith eL_cell.1 eL_cell.2.1 eL_cell.2.2.1 eL_cell.2.2.2 hhL_cell ∈ am_tbl := am_mem 909 (by decide +kernel) rfl
theorem wm_L_cell : Cond.codeWith eL_cell.1 eL_cell.2.1 eL_cell.2.2.1 eL_cell.2.2.2 hhL_cell ∈ am_tbl ∧ Cond.initialized eL_cell.1.cls ∈ am_tbl ∧ (eL_cell.1.cls ≠ "java/lang/invoke/MethodHandle" ∧ eL_cell.1.cls ≠ "java/lang/invoke/VarHandle" ∧ (parseMethodDescriptor eL_cell.1.desc).map (fun d => d.parameters.length) = some 4) ∧ eL_cell.2.2.1 ≤ 40 := ⟨wc_L_cell, am_mem 82 (by decide +kernel) rfl, ⟨by decide, by decide, by decide +kernel⟩, by decide⟩
theorem ms_L_cell : Cond.static eL_cell.1 ∈ am_tbl := am_mem 908 (by decide +kernel) rfl
theorem ct_L_cell_0 : am_ct RL hhL_cell 5 "java/lang/IndexOutOfBoundsException" 13 := ⟨[], ⟨0, 10, 13, 26⟩, [⟨0, 10, 17, 13⟩], rfl, (fun z hz => nomatch hz), by decide, by decide, am_mem 721 (by decide +kernel) rfl, am_memC 743 (by decide +kernel), rfl⟩
theorem hs_L_cell_0 : am_hst eL_cell.2.1 13 4 2 := Or.inl ⟨dL_cell_13, rfl⟩
theorem ct_L_cell_1 : am_ct RL hhL_cell 5 "java/lang/IllegalArgumentException" 17 := ⟨[⟨0, 10, 13, 26⟩], ⟨0, 10, 17, 13⟩, [], rfl, (fun z hz => by cases List.mem_singleton.mp hz; exact Or.inr ⟨by decide, "java/lang/IndexOutOfBoundsException", am_mem 721 (by decide +kernel) rfl, by decide⟩), by decide, by decide, am_mem 318 (by decide +kernel) rfl, am_memC 465 (by decide +kernel), rfl⟩
theorem hs_L_cell_1 : am_hst eL_cell.2.1 17 4 2 := Or.inl ⟨dL_cell_17, rfl⟩
def xk_l : List (String × Nat) := [("java/lang/IllegalArgumentException", 87), ("java/lang/UnsupportedOperationException", 98), ("java/util/NoSuchElementException", 129), ("java/lang/IndexOutOfBoundsException", 132), ("java/lang/IllegalStateException", 145)]
def xm_l : List (String × Nat) := [("java/lang/IllegalArgumentException", 89), ("java/lang/UnsupportedOperationException", 100), ("java/util/NoSuchElementException", 131), ("java/lang/IndexOutOfBoundsException", 134), ("java/lang/IllegalStateException", 147)]
def xk_f (w : Cond) : Bool := match w with
  | .classLink o k E => !(o == "TypedLisp" && (xk_l.map (fun q => q.1)).contains E) || xk_l.contains (E, k)
  | _ => true
def xm_f (w : Cond) : Bool := match w with
  | .methodLink o k y => !(o == "TypedLisp" && (xk_l.map (fun q => q.1)).contains y.cls && y.name == "<init>") || xm_l.contains (y.cls, k)
  | _ => true
theorem xk_ok : lw_tbl.all xk_f = true := by decide +kernel
theorem xm_ok : lw_tbl.all xm_f = true := by decide +kernel
theorem xs_9_0 : am_xs RX9 "java/lang/IllegalArgumentException" 87 89 := ⟨by decide, am_mem 463 (by decide +kernel) rfl, am_mem 95 (by decide +kernel) rfl, by decide +kernel, by decide +kernel⟩
theorem xs_9_1 : am_xs RX9 "java/lang/UnsupportedOperationException" 98 100 := ⟨by decide, am_mem 659 (by decide +kernel) rfl, am_mem 96 (by decide +kernel) rfl, by decide +kernel, by decide +kernel⟩
theorem xs_9_2 : am_xs RX9 "java/util/NoSuchElementException" 129 131 := ⟨by decide, am_mem 726 (by decide +kernel) rfl, am_mem 98 (by decide +kernel) rfl, by decide +kernel, by decide +kernel⟩
theorem xs_9_3 : am_xs RX9 "java/lang/IndexOutOfBoundsException" 132 134 := ⟨by decide, am_mem 741 (by decide +kernel) rfl, am_mem 99 (by decide +kernel) rfl, by decide +kernel, by decide +kernel⟩
theorem xs_9_4 : am_xs RX9 "java/lang/IllegalStateException" 145 147 := ⟨by decide, am_mem 765 (by decide +kernel) rfl, am_mem 100 (by decide +kernel) rfl, by decide +kernel, by decide +kernel⟩
theorem xs_9 : ∀ E ik ic, am_xw (some RX9) E ik ic → am_xs RX9 E ik ic := by
  rintro E ik ic ⟨o, ho, h1, h2, h3⟩
  cases ho
  have k1 := List.all_eq_true.mp xk_ok _ (List.mem_filter.mp h1).1
  have k2 := List.all_eq_true.mp xm_ok _ (List.mem_filter.mp h2).1
  simp only [xk_f, xm_f] at k1 k2
  simp only [List.mem_cons, List.not_mem_nil, or_false] at h3
  rcases h3 with rfl | rfl | rfl | rfl | rfl
  · have e1 : ik = 87 := by
      simp [RX9, xk_l] at k1
      exact k1
    have e2 : ic = 89 := by
      simp [RX9, xk_l, xm_l] at k2
      exact k2
    subst e1; subst e2
    exact xs_9_0
  · have e1 : ik = 98 := by
      simp [RX9, xk_l] at k1
      exact k1
    have e2 : ic = 100 := by
      simp [RX9, xk_l, xm_l] at k2
      exact k2
    subst e1; subst e2
    exact xs_9_1
  · have e1 : ik = 129 := by
      simp [RX9, xk_l] at k1
      exact k1
    have e2 : ic = 131 := by
      simp [RX9, xk_l, xm_l] at k2
      exact k2
    subst e1; subst e2
    exact xs_9_2
  · have e1 : ik = 132 := by
      simp [RX9, xk_l] at k1
      exact k1
    have e2 : ic = 134 := by
      simp [RX9, xk_l, xm_l] at k2
      exact k2
    subst e1; subst e2
    exact xs_9_3
  · have e1 : ik = 145 := by
      simp [RX9, xk_l] at k1
      exact k1
    have e2 : ic = 147 := by
      simp [RX9, xk_l, xm_l] at k2
      exact k2
    subst e1; subst e2
    exact xs_9_4
