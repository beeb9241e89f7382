set_option maxRecDepth 20000 in
set_option maxHeartbeats 4000000 in
theorem w_L_define {c : cX} {d : Nat} {C : cS} {K : Option Value → cS → Prop} (t : Nat) (po : Nat) (h : cT C t 9 12 ∧ (cMX c d eX9_define (.ref t :: []) C (fun v C1 => ∃ z2 : Int32, v = some (.int z2) ∧ cle C C1 ∧ (∃ n7 : Nat, cT C1 po 21 n7 ∧ (∃ j8 : Nat, am_ix 0 j8 n7 ∧ (K (some (.int 0)) (csj C1 po j8 (Int32.toInt64 z2)))))) (fun E C1 => (E = "java/lang/IllegalArgumentException" ∧ (K (some (.int 1)) (cnw C1 99 6))) ∨ (E = "java/lang/UnsupportedOperationException" ∧ (K (some (.int 2)) (cnw C1 99 6)))))) : cMW c (d + 1) eL_define hhL_define [.ref t, .ref po] C K := by
  refine cMW.of (lv := [some (.ref t), some (.ref po), none]) (by decide) (Nat.le_of_ble_eq_true rfl) rfl ?_
  refine ag_aload_n dL_define_0 rfl (Or.inr ⟨_, rfl⟩) ?_
  refine ag_iconst (v := 0) dL_define_1 rfl ?_
  refine ag_aload_n dL_define_2 rfl (Or.inr ⟨_, rfl⟩) ?_
  obtain ⟨hT4, h⟩ := h
  refine cr_callX (as := []) (rest := [.int 0, .ref po]) dL_define_3 me_X9_define mi_X9_define lk_L_7 hT4 rfl rfl (Nat.le_of_ble_eq_true rfl) wc_L_define ?_
  refine cMX.mono h ?_ ?_
  · rintro v C1 ⟨z2, rfl, hL3, h⟩
    have hT5 := cT.le (C := C) hT4 hL3
    show cG _ _ _ _ _ _ [.int z2, .int 0, .ref po] _
    refine ag_i2l dL_define_6 rfl ?_
    obtain ⟨n7, hT6, h⟩ := h
    obtain ⟨j8, hj9, h⟩ := h
    refine cr_ls (C2 := (csj C1 po j8 (Int32.toInt64 z2))) dL_define_7 hT6 hj9 rfl ?_
    refine ag_goto (tgt := 17) dL_define_8 rfl ?_
    refine ag_iconst (v := 0) dL_define_17 rfl ?_
    exact ag_ret (v := some (.int 0)) dL_define_18 ⟨_, rfl, rfl⟩ ⟨_, rfl, _, rfl, h⟩ rfl
  · rintro E C1 h
    rcases h with h | h
    · obtain ⟨rfl, h⟩ := h
      refine ⟨11, 2, 1, ct_L_define_0, by decide, hs_L_define_0, ?_⟩
      show cG c eL_define (d + 1) (cQ K) 12 [none, none, none] [] (cnw C1 99 6)
      refine ag_iconst (v := 1) dL_define_12 rfl ?_
      exact ag_ret (v := some (.int 1)) dL_define_13 ⟨_, rfl, rfl⟩ ⟨_, rfl, _, rfl, h⟩ rfl
    · obtain ⟨rfl, h⟩ := h
      refine ⟨14, 2, 1, ct_L_define_1, by decide, hs_L_define_1, ?_⟩
      show cG c eL_define (d + 1) (cQ K) 15 [none, none, none] [] (cnw C1 99 6)
      refine ag_iconst (v := 2) dL_define_15 rfl ?_
      exact ag_ret (v := some (.int 2)) dL_define_16 ⟨_, rfl, rfl⟩ ⟨_, rfl, _, rfl, h⟩ rfl
set_option maxRecDepth 20000 in
set_option maxHeartbeats 4000000 in
theorem w_L_check {c : cX} {d : Nat} {C : cS} {K : Option Value → cS → Prop} (t : Nat) (po : Nat) (h : cT C t 9 12 ∧ (cMX c d eX9_check (.ref t :: []) C (fun v C1 => ∃ z2 : Int32, v = some (.int z2) ∧ cle C C1 ∧ (∃ n7 : Nat, cT C1 po 21 n7 ∧ (∃ j8 : Nat, am_ix 0 j8 n7 ∧ (K (some (.int 0)) (csj C1 po j8 (Int32.toInt64 z2)))))) (fun E C1 => (E = "java/lang/IllegalArgumentException" ∧ (K (some (.int 1)) (cnw C1 99 6))) ∨ (E = "java/lang/UnsupportedOperationException" ∧ (K (some (.int 2)) (cnw C1 99 6)))))) : cMW c (d + 1) eL_check hhL_check [.ref t, .ref po] C K := by
  refine cMW.of (lv := [some (.ref t), some (.ref po), none]) (by decide) (Nat.le_of_ble_eq_true rfl) rfl ?_
  refine ag_aload_n dL_check_0 rfl (Or.inr ⟨_, rfl⟩) ?_
  refine ag_iconst (v := 0) dL_check_1 rfl ?_
  refine ag_aload_n dL_check_2 rfl (Or.inr ⟨_, rfl⟩) ?_
  obtain ⟨hT4, h⟩ := h
  refine cr_callX (as := []) (rest := [.int 0, .ref po]) dL_check_3 me_X9_check mi_X9_check lk_L_17 hT4 rfl rfl (Nat.le_of_ble_eq_true rfl) wc_L_check ?_
  refine cMX.mono h ?_ ?_
  · rintro v C1 ⟨z2, rfl, hL3, h⟩
    have hT5 := cT.le (C := C) hT4 hL3
    show cG _ _ _ _ _ _ [.int z2, .int 0, .ref po] _
    refine ag_i2l dL_check_6 rfl ?_
    obtain ⟨n7, hT6, h⟩ := h
    obtain ⟨j8, hj9, h⟩ := h
    refine cr_ls (C2 := (csj C1 po j8 (Int32.toInt64 z2))) dL_check_7 hT6 hj9 rfl ?_
    refine ag_goto (tgt := 17) dL_check_8 rfl ?_
    refine ag_iconst (v := 0) dL_check_17 rfl ?_
    exact ag_ret (v := some (.int 0)) dL_check_18 ⟨_, rfl, rfl⟩ ⟨_, rfl, _, rfl, h⟩ rfl
  · rintro E C1 h
    rcases h with h | h
    · obtain ⟨rfl, h⟩ := h
      refine ⟨11, 2, 1, ct_L_check_0, by decide, hs_L_check_0, ?_⟩
      show cG c eL_check (d + 1) (cQ K) 12 [none, none, none] [] (cnw C1 99 6)
      refine ag_iconst (v := 1) dL_check_12 rfl ?_
      exact ag_ret (v := some (.int 1)) dL_check_13 ⟨_, rfl, rfl⟩ ⟨_, rfl, _, rfl, h⟩ rfl
    · obtain ⟨rfl, h⟩ := h
      refine ⟨14, 2, 1, ct_L_check_1, by decide, hs_L_check_1, ?_⟩
      show cG c eL_check (d + 1) (cQ K) 15 [none, none, none] [] (cnw C1 99 6)
      refine ag_iconst (v := 2) dL_check_15 rfl ?_
      exact ag_ret (v := some (.int 2)) dL_check_16 ⟨_, rfl, rfl⟩ ⟨_, rfl, _, rfl, h⟩ rfl
set_option maxRecDepth 20000 in
set_option maxHeartbeats 4000000 in
theorem w_L_view {c : cX} {d : Nat} {C : cS} {K : Option Value → cS → Prop} (t : Nat) (p1 : Int32) (p2 : Int32) (p3 : Int32) (po : Nat) (h : cT C t 9 12 ∧ (cMX c d eX9_view (.ref t :: [.int p1, .int p2, .int p3]) C (fun v C1 => ∃ z2 : Int32, v = some (.int z2) ∧ cle C C1 ∧ (∃ n7 : Nat, cT C1 po 21 n7 ∧ (∃ j8 : Nat, am_ix 0 j8 n7 ∧ (K (some (.int 0)) (csj C1 po j8 (Int32.toInt64 z2)))))) (fun E C1 => (E = "java/util/NoSuchElementException" ∧ (K (some (.int 1)) (cnw C1 99 6))) ∨ (E = "java/lang/IndexOutOfBoundsException" ∧ (K (some (.int 2)) (cnw C1 99 6)))))) : cMW c (d + 1) eL_view hhL_view [.ref t, .int p1, .int p2, .int p3, .ref po] C K := by
  refine cMW.of (lv := [some (.ref t), some (.int p1), some (.int p2), some (.int p3), some (.ref po), none]) (by decide) (Nat.le_of_ble_eq_true rfl) rfl ?_
  refine ag_aload dL_view_0 rfl (Or.inr ⟨_, rfl⟩) ?_
  refine ag_iconst (v := 0) dL_view_2 rfl ?_
  refine ag_aload_n dL_view_3 rfl (Or.inr ⟨_, rfl⟩) ?_
  refine ag_iload_n dL_view_4 rfl ?_
  refine ag_iload_n dL_view_5 rfl ?_
  refine ag_iload_n dL_view_6 rfl ?_
  obtain ⟨hT4, h⟩ := h
  refine cr_callX (as := [.int p1, .int p2, .int p3]) (rest := [.int 0, .ref po]) dL_view_7 me_X9_view mi_X9_view lk_L_20 hT4 rfl rfl (Nat.le_of_ble_eq_true rfl) wc_L_view ?_
  refine cMX.mono h ?_ ?_
  · rintro v C1 ⟨z2, rfl, hL3, h⟩
    have hT5 := cT.le (C := C) hT4 hL3
    show cG _ _ _ _ _ _ [.int z2, .int 0, .ref po] _
    refine ag_i2l dL_view_10 rfl ?_
    obtain ⟨n7, hT6, h⟩ := h
    obtain ⟨j8, hj9, h⟩ := h
    refine cr_ls (C2 := (csj C1 po j8 (Int32.toInt64 z2))) dL_view_11 hT6 hj9 rfl ?_
    refine ag_goto (tgt := 23) dL_view_12 rfl ?_
    refine ag_iconst (v := 0) dL_view_23 rfl ?_
    exact ag_ret (v := some (.int 0)) dL_view_24 ⟨_, rfl, rfl⟩ ⟨_, rfl, _, rfl, h⟩ rfl
  · rintro E C1 h
    rcases h with h | h
    · obtain ⟨rfl, h⟩ := h
      refine ⟨15, 5, 2, ct_L_view_0, by decide, hs_L_view_0, ?_⟩
      show cG c eL_view (d + 1) (cQ K) 17 [none, none, none, none, none, none] [] (cnw C1 99 6)
      refine ag_iconst (v := 1) dL_view_17 rfl ?_
      exact ag_ret (v := some (.int 1)) dL_view_18 ⟨_, rfl, rfl⟩ ⟨_, rfl, _, rfl, h⟩ rfl
    · obtain ⟨rfl, h⟩ := h
      refine ⟨19, 5, 2, ct_L_view_1, by decide, hs_L_view_1, ?_⟩
      show cG c eL_view (d + 1) (cQ K) 21 [none, none, none, none, none, none] [] (cnw C1 99 6)
      refine ag_iconst (v := 2) dL_view_21 rfl ?_
      exact ag_ret (v := some (.int 2)) dL_view_22 ⟨_, rfl, rfl⟩ ⟨_, rfl, _, rfl, h⟩ rfl
set_option maxRecDepth 20000 in
set_option maxHeartbeats 4000000 in
theorem w_L_number {c : cX} {d : Nat} {C : cS} {K : Option Value → cS → Prop} (t : Nat) (p1 : Int32) (po : Nat) (h : cT C t 9 12 ∧ (cMX c d eX9_number (.ref t :: [.int p1]) C (fun v C1 => ∃ z2 : Int32, v = some (.int z2) ∧ cle C C1 ∧ (∃ n7 : Nat, cT C1 po 21 n7 ∧ (∃ j8 : Nat, am_ix 0 j8 n7 ∧ (K (some (.int 0)) (csj C1 po j8 (Int32.toInt64 z2)))))) (fun E C1 => (E = "java/lang/IllegalStateException" ∧ (K (some (.int 1)) (cnw C1 99 6)))))) : cMW c (d + 1) eL_number hhL_number [.ref t, .int p1, .ref po] C K := by
  refine cMW.of (lv := [some (.ref t), some (.int p1), some (.ref po), none]) (by decide) (Nat.le_of_ble_eq_true rfl) rfl ?_
  refine ag_aload_n dL_number_0 rfl (Or.inr ⟨_, rfl⟩) ?_
  refine ag_iconst (v := 0) dL_number_1 rfl ?_
  refine ag_aload_n dL_number_2 rfl (Or.inr ⟨_, rfl⟩) ?_
  refine ag_iload_n dL_number_3 rfl ?_
  obtain ⟨hT4, h⟩ := h
  refine cr_callX (as := [.int p1]) (rest := [.int 0, .ref po]) dL_number_4 me_X9_number mi_X9_number lk_L_28 hT4 rfl rfl (Nat.le_of_ble_eq_true rfl) wc_L_number ?_
  refine cMX.mono h ?_ ?_
  · rintro v C1 ⟨z2, rfl, hL3, h⟩
    have hT5 := cT.le (C := C) hT4 hL3
    show cG _ _ _ _ _ _ [.int z2, .int 0, .ref po] _
    refine ag_i2l dL_number_7 rfl ?_
    obtain ⟨n7, hT6, h⟩ := h
    obtain ⟨j8, hj9, h⟩ := h
    refine cr_ls (C2 := (csj C1 po j8 (Int32.toInt64 z2))) dL_number_8 hT6 hj9 rfl ?_
    refine ag_goto (tgt := 15) dL_number_9 rfl ?_
    refine ag_iconst (v := 0) dL_number_15 rfl ?_
    exact ag_ret (v := some (.int 0)) dL_number_16 ⟨_, rfl, rfl⟩ ⟨_, rfl, _, rfl, h⟩ rfl
  · rintro E C1 h
    obtain ⟨rfl, h⟩ := h
    refine ⟨12, 3, 1, ct_L_number_0, by decide, hs_L_number_0, ?_⟩
    show cG c eL_number (d + 1) (cQ K) 13 [none, none, none, none] [] (cnw C1 99 6)
    refine ag_iconst (v := 1) dL_number_13 rfl ?_
    exact ag_ret (v := some (.int 1)) dL_number_14 ⟨_, rfl, rfl⟩ ⟨_, rfl, _, rfl, h⟩ rfl
set_option maxRecDepth 20000 in
set_option maxHeartbeats 4000000 in
theorem w_L_pair {c : cX} {d : Nat} {C : cS} {K : Option Value → cS → Prop} (t : Nat) (p1 : Int32) (p2 : Int32) (po : Nat) (h : cT C t 9 12 ∧ (cMX c d eX9_pair (.ref t :: [.int p1, .int p2]) C (fun v C1 => ∃ z2 : Int32, v = some (.int z2) ∧ cle C C1 ∧ (∃ n7 : Nat, cT C1 po 21 n7 ∧ (∃ j8 : Nat, am_ix 0 j8 n7 ∧ (K (some (.int 0)) (csj C1 po j8 (Int32.toInt64 z2)))))) (fun E C1 => (E = "java/lang/IllegalArgumentException" ∧ (K (some (.int 1)) (cnw C1 99 6))) ∨ (E = "java/lang/IllegalStateException" ∧ (K (some (.int 2)) (cnw C1 99 6)))))) : cMW c (d + 1) eL_pair hhL_pair [.ref t, .int p1, .int p2, .ref po] C K := by
  refine cMW.of (lv := [some (.ref t), some (.int p1), some (.int p2), some (.ref po), none]) (by decide) (Nat.le_of_ble_eq_true rfl) rfl ?_
  refine ag_aload_n dL_pair_0 rfl (Or.inr ⟨_, rfl⟩) ?_
  refine ag_iconst (v := 0) dL_pair_1 rfl ?_
  refine ag_aload_n dL_pair_2 rfl (Or.inr ⟨_, rfl⟩) ?_
  refine ag_iload_n dL_pair_3 rfl ?_
  refine ag_iload_n dL_pair_4 rfl ?_
  obtain ⟨hT4, h⟩ := h
  refine cr_callX (as := [.int p1, .int p2]) (rest := [.int 0, .ref po]) dL_pair_5 me_X9_pair mi_X9_pair lk_L_34 hT4 rfl rfl (Nat.le_of_ble_eq_true rfl) wc_L_pair ?_
  refine cMX.mono h ?_ ?_
  · rintro v C1 ⟨z2, rfl, hL3, h⟩
    have hT5 := cT.le (C := C) hT4 hL3
    show cG _ _ _ _ _ _ [.int z2, .int 0, .ref po] _
    refine ag_i2l dL_pair_8 rfl ?_
    obtain ⟨n7, hT6, h⟩ := h
    obtain ⟨j8, hj9, h⟩ := h
    refine cr_ls (C2 := (csj C1 po j8 (Int32.toInt64 z2))) dL_pair_9 hT6 hj9 rfl ?_
    refine ag_goto (tgt := 21) dL_pair_10 rfl ?_
    refine ag_iconst (v := 0) dL_pair_21 rfl ?_
    exact ag_ret (v := some (.int 0)) dL_pair_22 ⟨_, rfl, rfl⟩ ⟨_, rfl, _, rfl, h⟩ rfl
  · rintro E C1 h
    rcases h with h | h
    · obtain ⟨rfl, h⟩ := h
      refine ⟨13, 4, 2, ct_L_pair_0, by decide, hs_L_pair_0, ?_⟩
      show cG c eL_pair (d + 1) (cQ K) 15 [none, none, none, none, none] [] (cnw C1 99 6)
      refine ag_iconst (v := 1) dL_pair_15 rfl ?_
      exact ag_ret (v := some (.int 1)) dL_pair_16 ⟨_, rfl, rfl⟩ ⟨_, rfl, _, rfl, h⟩ rfl
    · obtain ⟨rfl, h⟩ := h
      refine ⟨17, 4, 2, ct_L_pair_1, by decide, hs_L_pair_1, ?_⟩
      show cG c eL_pair (d + 1) (cQ K) 19 [none, none, none, none, none] [] (cnw C1 99 6)
      refine ag_iconst (v := 2) dL_pair_19 rfl ?_
      exact ag_ret (v := some (.int 2)) dL_pair_20 ⟨_, rfl, rfl⟩ ⟨_, rfl, _, rfl, h⟩ rfl
set_option maxRecDepth 20000 in
set_option maxHeartbeats 4000000 in
theorem w_L_input {c : cX} {d : Nat} {C : cS} {K : Option Value → cS → Prop} (t : Nat) (p1 : Int32) (p2 : Int32) (h : cT C t 9 12 ∧ (cMX c d eX9_input (.ref t :: [.int p1, .int p2]) C (fun v C1 => v = none ∧ cle C C1 ∧ (K (some (.int 0)) C1)) (fun E C1 => (E = "java/lang/IndexOutOfBoundsException" ∧ (K (some (.int 1)) (cnw C1 99 6))) ∨ (E = "java/lang/IllegalArgumentException" ∧ (K (some (.int 2)) (cnw C1 99 6)))))) : cMW c (d + 1) eL_input hhL_input [.ref t, .int p1, .int p2] C K := by
  refine cMW.of (lv := [some (.ref t), some (.int p1), some (.int p2), none]) (by decide) (Nat.le_of_ble_eq_true rfl) rfl ?_
  refine ag_aload_n dL_input_0 rfl (Or.inr ⟨_, rfl⟩) ?_
  refine ag_iload_n dL_input_1 rfl ?_
  refine ag_iload_n dL_input_2 rfl ?_
  obtain ⟨hT4, h⟩ := h
  refine cr_callX (as := [.int p1, .int p2]) (rest := []) dL_input_3 me_X9_input mi_X9_input lk_L_38 hT4 rfl rfl (Nat.le_of_ble_eq_true rfl) wc_L_input ?_
  refine cMX.mono h ?_ ?_
  · rintro v C1 ⟨rfl, hL3, h⟩
    have hT5 := cT.le (C := C) hT4 hL3
    show cG _ _ _ _ _ _ [] _
    refine ag_goto (tgt := 15) dL_input_6 rfl ?_
    refine ag_iconst (v := 0) dL_input_15 rfl ?_
    exact ag_ret (v := some (.int 0)) dL_input_16 ⟨_, rfl, rfl⟩ ⟨_, rfl, _, rfl, h⟩ rfl
  · rintro E C1 h
    rcases h with h | h
    · obtain ⟨rfl, h⟩ := h
      refine ⟨9, 3, 1, ct_L_input_0, by decide, hs_L_input_0, ?_⟩
      show cG c eL_input (d + 1) (cQ K) 10 [none, none, none, none] [] (cnw C1 99 6)
      refine ag_iconst (v := 1) dL_input_10 rfl ?_
      exact ag_ret (v := some (.int 1)) dL_input_11 ⟨_, rfl, rfl⟩ ⟨_, rfl, _, rfl, h⟩ rfl
    · obtain ⟨rfl, h⟩ := h
      refine ⟨12, 3, 1, ct_L_input_1, by decide, hs_L_input_1, ?_⟩
      show cG c eL_input (d + 1) (cQ K) 13 [none, none, none, none] [] (cnw C1 99 6)
      refine ag_iconst (v := 2) dL_input_13 rfl ?_
      exact ag_ret (v := some (.int 2)) dL_input_14 ⟨_, rfl, rfl⟩ ⟨_, rfl, _, rfl, h⟩ rfl
set_option maxRecDepth 20000 in
set_option maxHeartbeats 4000000 in
theorem w_L_run {c : cX} {d : Nat} {C : cS} {K : Option Value → cS → Prop} (t : Nat) (p1 : Int32) (po : Nat) (h : cT C t 9 12 ∧ (cMX c d eX9_run (.ref t :: [.int p1]) C (fun v C1 => ∃ z2 : Int32, v = some (.int z2) ∧ cle C C1 ∧ (∃ n7 : Nat, cT C1 po 21 n7 ∧ (∃ j8 : Nat, am_ix 0 j8 n7 ∧ (K (some (.int 0)) (csj C1 po j8 (Int32.toInt64 z2)))))) (fun E C1 => (E = "java/util/NoSuchElementException" ∧ (K (some (.int 1)) (cnw C1 99 6))) ∨ (E = "java/lang/IllegalArgumentException" ∧ (K (some (.int 2)) (cnw C1 99 6)))))) : cMW c (d + 1) eL_run hhL_run [.ref t, .int p1, .ref po] C K := by
  refine cMW.of (lv := [some (.ref t), some (.int p1), some (.ref po), none]) (by decide) (Nat.le_of_ble_eq_true rfl) rfl ?_
  refine ag_aload_n dL_run_0 rfl (Or.inr ⟨_, rfl⟩) ?_
  refine ag_iconst (v := 0) dL_run_1 rfl ?_
  refine ag_aload_n dL_run_2 rfl (Or.inr ⟨_, rfl⟩) ?_
  refine ag_iload_n dL_run_3 rfl ?_
  obtain ⟨hT4, h⟩ := h
  refine cr_callX (as := [.int p1]) (rest := [.int 0, .ref po]) dL_run_4 me_X9_run mi_X9_run lk_L_42 hT4 rfl rfl (Nat.le_of_ble_eq_true rfl) wc_L_run ?_
  refine cMX.mono h ?_ ?_
  · rintro v C1 ⟨z2, rfl, hL3, h⟩
    have hT5 := cT.le (C := C) hT4 hL3
    show cG _ _ _ _ _ _ [.int z2, .int 0, .ref po] _
    refine ag_i2l dL_run_7 rfl ?_
    obtain ⟨n7, hT6, h⟩ := h
    obtain ⟨j8, hj9, h⟩ := h
    refine cr_ls (C2 := (csj C1 po j8 (Int32.toInt64 z2))) dL_run_8 hT6 hj9 rfl ?_
    refine ag_goto (tgt := 18) dL_run_9 rfl ?_
    refine ag_iconst (v := 0) dL_run_18 rfl ?_
    exact ag_ret (v := some (.int 0)) dL_run_19 ⟨_, rfl, rfl⟩ ⟨_, rfl, _, rfl, h⟩ rfl
  · rintro E C1 h
    rcases h with h | h
    · obtain ⟨rfl, h⟩ := h
      refine ⟨12, 3, 1, ct_L_run_0, by decide, hs_L_run_0, ?_⟩
      show cG c eL_run (d + 1) (cQ K) 13 [none, none, none, none] [] (cnw C1 99 6)
      refine ag_iconst (v := 1) dL_run_13 rfl ?_
      exact ag_ret (v := some (.int 1)) dL_run_14 ⟨_, rfl, rfl⟩ ⟨_, rfl, _, rfl, h⟩ rfl
    · obtain ⟨rfl, h⟩ := h
      refine ⟨15, 3, 1, ct_L_run_1, by decide, hs_L_run_1, ?_⟩
      show cG c eL_run (d + 1) (cQ K) 16 [none, none, none, none] [] (cnw C1 99 6)
      refine ag_iconst (v := 2) dL_run_16 rfl ?_
      exact ag_ret (v := some (.int 2)) dL_run_17 ⟨_, rfl, rfl⟩ ⟨_, rfl, _, rfl, h⟩ rfl
set_option maxRecDepth 20000 in
set_option maxHeartbeats 4000000 in
theorem w_L_cell {c : cX} {d : Nat} {C : cS} {K : Option Value → cS → Prop} (t : Nat) (p1 : Int32) (p2 : Int32) (po : Nat) (h : cT C t 9 12 ∧ (cMX c d eX9_cell (.ref t :: [.int p1, .int p2]) C (fun v C1 => ∃ z2 : Int32, v = some (.int z2) ∧ cle C C1 ∧ (∃ n7 : Nat, cT C1 po 21 n7 ∧ (∃ j8 : Nat, am_ix 0 j8 n7 ∧ (K (some (.int 0)) (csj C1 po j8 (Int32.toInt64 z2)))))) (fun E C1 => (E = "java/lang/IndexOutOfBoundsException" ∧ (K (some (.int 1)) (cnw C1 99 6))) ∨ (E = "java/lang/IllegalArgumentException" ∧ (K (some (.int 2)) (cnw C1 99 6)))))) : cMW c (d + 1) eL_cell hhL_cell [.ref t, .int p1, .int p2, .ref po] C K := by
  refine cMW.of (lv := [some (.ref t), some (.int p1), some (.int p2), some (.ref po), none]) (by decide) (Nat.le_of_ble_eq_true rfl) rfl ?_
  refine ag_aload_n dL_cell_0 rfl (Or.inr ⟨_, rfl⟩) ?_
  refine ag_iconst (v := 0) dL_cell_1 rfl ?_
  refine ag_aload_n dL_cell_2 rfl (Or.inr ⟨_, rfl⟩) ?_
  refine ag_iload_n dL_cell_3 rfl ?_
  refine ag_iload_n dL_cell_4 rfl ?_
  obtain ⟨hT4, h⟩ := h
  refine cr_callX (as := [.int p1, .int p2]) (rest := [.int 0, .ref po]) dL_cell_5 me_X9_cell mi_X9_cell lk_L_45 hT4 rfl rfl (Nat.le_of_ble_eq_true rfl) wc_L_cell ?_
  refine cMX.mono h ?_ ?_
  · rintro v C1 ⟨z2, rfl, hL3, h⟩
    have hT5 := cT.le (C := C) hT4 hL3
    show cG _ _ _ _ _ _ [.int z2, .int 0, .ref po] _
    refine ag_i2l dL_cell_8 rfl ?_
    obtain ⟨n7, hT6, h⟩ := h
    obtain ⟨j8, hj9, h⟩ := h
    refine cr_ls (C2 := (csj C1 po j8 (Int32.toInt64 z2))) dL_cell_9 hT6 hj9 rfl ?_
    refine ag_goto (tgt := 21) dL_cell_10 rfl ?_
    refine ag_iconst (v := 0) dL_cell_21 rfl ?_
    exact ag_ret (v := some (.int 0)) dL_cell_22 ⟨_, rfl, rfl⟩ ⟨_, rfl, _, rfl, h⟩ rfl
  · rintro E C1 h
    rcases h with h | h
    · obtain ⟨rfl, h⟩ := h
      refine ⟨13, 4, 2, ct_L_cell_0, by decide, hs_L_cell_0, ?_⟩
      show cG c eL_cell (d + 1) (cQ K) 15 [none, none, none, none, none] [] (cnw C1 99 6)
      refine ag_iconst (v := 1) dL_cell_15 rfl ?_
      exact ag_ret (v := some (.int 1)) dL_cell_16 ⟨_, rfl, rfl⟩ ⟨_, rfl, _, rfl, h⟩ rfl
    · obtain ⟨rfl, h⟩ := h
      refine ⟨17, 4, 2, ct_L_cell_1, by decide, hs_L_cell_1, ?_⟩
      show cG c eL_cell (d + 1) (cQ K) 19 [none, none, none, none, none] [] (cnw C1 99 6)
      refine ag_iconst (v := 2) dL_cell_19 rfl ?_
      exact ag_ret (v := some (.int 2)) dL_cell_20 ⟨_, rfl, rfl⟩ ⟨_, rfl, _, rfl, h⟩ rfl
theorem dL_law_0 : decode cL_law 0 = .ok (.new 8, 3) := by decide +kernel
theorem dL_law_3 : decode cL_law 3 = .ok (.dup, 1) := by decide +kernel
theorem dL_law_4 : decode cL_law 4 = .ok (.invokespecial 48, 3) := by decide +kernel
theorem dL_law_7 : decode cL_law 7 = .ok (.astore_n 1, 1) := by decide +kernel
theorem dL_law_8 : decode cL_law 8 = .ok (.new 49, 3) := by decide +kernel
theorem dL_law_11 : decode cL_law 11 = .ok (.dup, 1) := by decide +kernel
theorem dL_law_12 : decode cL_law 12 = .ok (.invokespecial 51, 3) := by decide +kernel
theorem dL_law_15 : decode cL_law 15 = .ok (.astore_n 2, 1) := by decide +kernel
theorem dL_law_16 : decode cL_law 16 = .ok (.iconst 1, 1) := by decide +kernel
theorem dL_law_17 : decode cL_law 17 = .ok (.newarray .long, 2) := by decide +kernel
theorem dL_law_19 : decode cL_law 19 = .ok (.astore_n 3, 1) := by decide +kernel
theorem dL_law_20 : decode cL_law 20 = .ok (.iconst 0, 1) := by decide +kernel
theorem dL_law_21 : decode cL_law 21 = .ok (.istore 4, 2) := by decide +kernel
theorem dL_law_23 : decode cL_law 23 = .ok (.iload 4, 2) := by decide +kernel
theorem dL_law_25 : decode cL_law 25 = .ok (.aload_n 0, 1) := by decide +kernel
theorem dL_law_26 : decode cL_law 26 = .ok (.arraylength, 1) := by decide +kernel
theorem dL_law_27 : decode cL_law 27 = .ok (.iconst 4, 1) := by decide +kernel
theorem dL_law_28 : decode cL_law 28 = .ok (.isub, 1) := by decide +kernel
theorem dL_law_29 : decode cL_law 29 = .ok (.if_icmp .gt 685, 3) := by decide +kernel
theorem dL_law_32 : decode cL_law 32 = .ok (.aload_n 0, 1) := by decide +kernel
theorem dL_law_33 : decode cL_law 33 = .ok (.iload 4, 2) := by decide +kernel
theorem dL_law_35 : decode cL_law 35 = .ok (.iaload, 1) := by decide +kernel
theorem dL_law_36 : decode cL_law 36 = .ok (.bipush 15, 2) := by decide +kernel
theorem dL_law_38 : decode cL_law 38 = .ok (.iand, 1) := by decide +kernel
theorem dL_law_39 : decode cL_law 39 = .ok (.tableswitch 669 0 15 #[77, 104, 115, 159, 203, 216, 312, 323, 379, 447, 495, 506, 562, 575, 588, 601], 77) := by decide +kernel
theorem dL_law_116 : decode cL_law 116 = .ok (.aload_n 1, 1) := by decide +kernel
theorem dL_law_117 : decode cL_law 117 = .ok (.aload_n 0, 1) := by decide +kernel
theorem dL_law_118 : decode cL_law 118 = .ok (.iload 4, 2) := by decide +kernel
theorem dL_law_120 : decode cL_law 120 = .ok (.iconst 1, 1) := by decide +kernel
theorem dL_law_121 : decode cL_law 121 = .ok (.iadd, 1) := by decide +kernel
theorem dL_law_122 : decode cL_law 122 = .ok (.iaload, 1) := by decide +kernel
theorem dL_law_123 : decode cL_law 123 = .ok (.i2c, 1) := by decide +kernel
theorem dL_law_124 : decode cL_law 124 = .ok (.invokevirtual 52, 3) := by decide +kernel
theorem dL_law_127 : decode cL_law 127 = .ok (.aload_n 2, 1) := by decide +kernel
theorem dL_law_128 : decode cL_law 128 = .ok (.aload_n 0, 1) := by decide +kernel
theorem dL_law_129 : decode cL_law 129 = .ok (.iload 4, 2) := by decide +kernel
theorem dL_law_131 : decode cL_law 131 = .ok (.iconst 1, 1) := by decide +kernel
theorem dL_law_132 : decode cL_law 132 = .ok (.iadd, 1) := by decide +kernel
theorem dL_law_133 : decode cL_law 133 = .ok (.iaload, 1) := by decide +kernel
theorem dL_law_134 : decode cL_law 134 = .ok (.i2c, 1) := by decide +kernel
theorem dL_law_135 : decode cL_law 135 = .ok (.invokevirtual 56, 3) := by decide +kernel
theorem dL_law_138 : decode cL_law 138 = .ok (.if_icmp .eq 570, 3) := by decide +kernel
theorem dL_law_141 : decode cL_law 141 = .ok (.iconst 0, 1) := by decide +kernel
theorem dL_law_142 : decode cL_law 142 = .ok (.ireturn, 1) := by decide +kernel
theorem dL_law_143 : decode cL_law 143 = .ok (.aload_n 1, 1) := by decide +kernel
theorem dL_law_144 : decode cL_law 144 = .ok (.invokevirtual 57, 3) := by decide +kernel
theorem dL_law_147 : decode cL_law 147 = .ok (.aload_n 2, 1) := by decide +kernel
theorem dL_law_148 : decode cL_law 148 = .ok (.invokevirtual 60, 3) := by decide +kernel
theorem dL_law_151 : decode cL_law 151 = .ok (.goto 557, 3) := by decide +kernel
theorem dL_law_154 : decode cL_law 154 = .ok (.aload_n 1, 1) := by decide +kernel
theorem dL_law_155 : decode cL_law 155 = .ok (.aload_n 3, 1) := by decide +kernel
theorem dL_law_156 : decode cL_law 156 = .ok (.invokestatic 61, 3) := by decide +kernel
theorem dL_law_159 : decode cL_law 159 = .ok (.istore 5, 2) := by decide +kernel
theorem dL_law_161 : decode cL_law 161 = .ok (.aload_n 2, 1) := by decide +kernel
theorem dL_law_162 : decode cL_law 162 = .ok (.invokevirtual 66, 3) := by decide +kernel
theorem dL_law_165 : decode cL_law 165 = .ok (.istore 6, 2) := by decide +kernel
theorem dL_law_167 : decode cL_law 167 = .ok (.aload_n 2, 1) := by decide +kernel
theorem dL_law_168 : decode cL_law 168 = .ok (.invokevirtual 67, 3) := by decide +kernel
theorem dL_law_171 : decode cL_law 171 = .ok (.iload 5, 2) := by decide +kernel
theorem dL_law_173 : decode cL_law 173 = .ok (.if_icmp .eq 5, 3) := by decide +kernel
theorem dL_law_176 : decode cL_law 176 = .ok (.iconst 0, 1) := by decide +kernel
theorem dL_law_177 : decode cL_law 177 = .ok (.ireturn, 1) := by decide +kernel
theorem dL_law_178 : decode cL_law 178 = .ok (.iload 5, 2) := by decide +kernel
theorem dL_law_180 : decode cL_law 180 = .ok (.ifCond .ne 15, 3) := by decide +kernel
theorem dL_law_183 : decode cL_law 183 = .ok (.aload_n 3, 1) := by decide +kernel
theorem dL_law_184 : decode cL_law 184 = .ok (.iconst 0, 1) := by decide +kernel
theorem dL_law_185 : decode cL_law 185 = .ok (.laload, 1) := by decide +kernel
theorem dL_law_186 : decode cL_law 186 = .ok (.iload 6, 2) := by decide +kernel
theorem dL_law_188 : decode cL_law 188 = .ok (.i2l, 1) := by decide +kernel
theorem dL_law_189 : decode cL_law 189 = .ok (.lcmp, 1) := by decide +kernel
theorem dL_law_190 : decode cL_law 190 = .ok (.ifCond .eq 5, 3) := by decide +kernel
theorem dL_law_193 : decode cL_law 193 = .ok (.iconst 0, 1) := by decide +kernel
theorem dL_law_194 : decode cL_law 194 = .ok (.ireturn, 1) := by decide +kernel
theorem dL_law_195 : decode cL_law 195 = .ok (.goto 513, 3) := by decide +kernel
theorem dL_law_198 : decode cL_law 198 = .ok (.aload_n 1, 1) := by decide +kernel
theorem dL_law_199 : decode cL_law 199 = .ok (.aload_n 3, 1) := by decide +kernel
theorem dL_law_200 : decode cL_law 200 = .ok (.invokestatic 70, 3) := by decide +kernel
theorem dL_law_203 : decode cL_law 203 = .ok (.istore 5, 2) := by decide +kernel
theorem dL_law_205 : decode cL_law 205 = .ok (.aload_n 2, 1) := by decide +kernel
theorem dL_law_206 : decode cL_law 206 = .ok (.invokevirtual 72, 3) := by decide +kernel
theorem dL_law_209 : decode cL_law 209 = .ok (.istore 6, 2) := by decide +kernel
theorem dL_law_211 : decode cL_law 211 = .ok (.aload_n 2, 1) := by decide +kernel
theorem dL_law_212 : decode cL_law 212 = .ok (.invokevirtual 67, 3) := by decide +kernel
theorem dL_law_215 : decode cL_law 215 = .ok (.iload 5, 2) := by decide +kernel
theorem dL_law_217 : decode cL_law 217 = .ok (.if_icmp .eq 5, 3) := by decide +kernel
theorem dL_law_220 : decode cL_law 220 = .ok (.iconst 0, 1) := by decide +kernel
theorem dL_law_221 : decode cL_law 221 = .ok (.ireturn, 1) := by decide +kernel
theorem dL_law_222 : decode cL_law 222 = .ok (.iload 5, 2) := by decide +kernel
theorem dL_law_224 : decode cL_law 224 = .ok (.ifCond .ne 15, 3) := by decide +kernel
theorem dL_law_227 : decode cL_law 227 = .ok (.aload_n 3, 1) := by decide +kernel
theorem dL_law_228 : decode cL_law 228 = .ok (.iconst 0, 1) := by decide +kernel
theorem dL_law_229 : decode cL_law 229 = .ok (.laload, 1) := by decide +kernel
theorem dL_law_230 : decode cL_law 230 = .ok (.iload 6, 2) := by decide +kernel
theorem dL_law_232 : decode cL_law 232 = .ok (.i2l, 1) := by decide +kernel
theorem dL_law_233 : decode cL_law 233 = .ok (.lcmp, 1) := by decide +kernel
theorem dL_law_234 : decode cL_law 234 = .ok (.ifCond .eq 5, 3) := by decide +kernel
theorem dL_law_237 : decode cL_law 237 = .ok (.iconst 0, 1) := by decide +kernel
theorem dL_law_238 : decode cL_law 238 = .ok (.ireturn, 1) := by decide +kernel
theorem dL_law_239 : decode cL_law 239 = .ok (.goto 469, 3) := by decide +kernel
theorem dL_law_242 : decode cL_law 242 = .ok (.aload_n 1, 1) := by decide +kernel
theorem dL_law_243 : decode cL_law 243 = .ok (.invokevirtual 73, 3) := by decide +kernel
theorem dL_law_246 : decode cL_law 246 = .ok (.aload_n 2, 1) := by decide +kernel
theorem dL_law_247 : decode cL_law 247 = .ok (.invokevirtual 76, 3) := by decide +kernel
theorem dL_law_250 : decode cL_law 250 = .ok (.if_icmp .eq 458, 3) := by decide +kernel
theorem dL_law_253 : decode cL_law 253 = .ok (.iconst 0, 1) := by decide +kernel
theorem dL_law_254 : decode cL_law 254 = .ok (.ireturn, 1) := by decide +kernel
theorem dL_law_255 : decode cL_law 255 = .ok (.aload_n 1, 1) := by decide +kernel
theorem dL_law_256 : decode cL_law 256 = .ok (.aload_n 0, 1) := by decide +kernel
theorem dL_law_257 : decode cL_law 257 = .ok (.iload 4, 2) := by decide +kernel
theorem dL_law_259 : decode cL_law 259 = .ok (.iconst 1, 1) := by decide +kernel
theorem dL_law_260 : decode cL_law 260 = .ok (.iadd, 1) := by decide +kernel
theorem dL_law_261 : decode cL_law 261 = .ok (.iaload, 1) := by decide +kernel
theorem dL_law_262 : decode cL_law 262 = .ok (.ifCond .eq 7, 3) := by decide +kernel
theorem dL_law_265 : decode cL_law 265 = .ok (.iconst 1, 1) := by decide +kernel
theorem dL_law_266 : decode cL_law 266 = .ok (.goto 4, 3) := by decide +kernel
theorem dL_law_269 : decode cL_law 269 = .ok (.iconst 0, 1) := by decide +kernel
theorem dL_law_270 : decode cL_law 270 = .ok (.aload_n 0, 1) := by decide +kernel
theorem dL_law_271 : decode cL_law 271 = .ok (.iload 4, 2) := by decide +kernel
theorem dL_law_273 : decode cL_law 273 = .ok (.iconst 2, 1) := by decide +kernel
theorem dL_law_274 : decode cL_law 274 = .ok (.iadd, 1) := by decide +kernel
theorem dL_law_275 : decode cL_law 275 = .ok (.iaload, 1) := by decide +kernel
theorem dL_law_276 : decode cL_law 276 = .ok (.aload_n 0, 1) := by decide +kernel
theorem dL_law_277 : decode cL_law 277 = .ok (.iload 4, 2) := by decide +kernel
theorem dL_law_279 : decode cL_law 279 = .ok (.iconst 3, 1) := by decide +kernel
theorem dL_law_280 : decode cL_law 280 = .ok (.iadd, 1) := by decide +kernel
theorem dL_law_281 : decode cL_law 281 = .ok (.iaload, 1) := by decide +kernel
theorem dL_law_282 : decode cL_law 282 = .ok (.aload_n 3, 1) := by decide +kernel
theorem dL_law_283 : decode cL_law 283 = .ok (.invokestatic 77, 3) := by decide +kernel
theorem dL_law_286 : decode cL_law 286 = .ok (.istore 5, 2) := by decide +kernel
theorem dL_law_288 : decode cL_law 288 = .ok (.aload_n 2, 1) := by decide +kernel
theorem dL_law_289 : decode cL_law 289 = .ok (.aload_n 0, 1) := by decide +kernel
theorem dL_law_290 : decode cL_law 290 = .ok (.iload 4, 2) := by decide +kernel
theorem dL_law_292 : decode cL_law 292 = .ok (.iconst 1, 1) := by decide +kernel
theorem dL_law_293 : decode cL_law 293 = .ok (.iadd, 1) := by decide +kernel
theorem dL_law_294 : decode cL_law 294 = .ok (.iaload, 1) := by decide +kernel
theorem dL_law_295 : decode cL_law 295 = .ok (.ifCond .eq 7, 3) := by decide +kernel
theorem dL_law_298 : decode cL_law 298 = .ok (.iconst 1, 1) := by decide +kernel
theorem dL_law_299 : decode cL_law 299 = .ok (.goto 4, 3) := by decide +kernel
theorem dL_law_302 : decode cL_law 302 = .ok (.iconst 0, 1) := by decide +kernel
theorem dL_law_303 : decode cL_law 303 = .ok (.aload_n 0, 1) := by decide +kernel
theorem dL_law_304 : decode cL_law 304 = .ok (.iload 4, 2) := by decide +kernel
theorem dL_law_306 : decode cL_law 306 = .ok (.iconst 2, 1) := by decide +kernel
theorem dL_law_307 : decode cL_law 307 = .ok (.iadd, 1) := by decide +kernel
theorem dL_law_308 : decode cL_law 308 = .ok (.iaload, 1) := by decide +kernel
theorem dL_law_309 : decode cL_law 309 = .ok (.aload_n 0, 1) := by decide +kernel
theorem dL_law_310 : decode cL_law 310 = .ok (.iload 4, 2) := by decide +kernel
theorem dL_law_312 : decode cL_law 312 = .ok (.iconst 3, 1) := by decide +kernel
theorem dL_law_313 : decode cL_law 313 = .ok (.iadd, 1) := by decide +kernel
theorem dL_law_314 : decode cL_law 314 = .ok (.iaload, 1) := by decide +kernel
theorem dL_law_315 : decode cL_law 315 = .ok (.invokevirtual 80, 3) := by decide +kernel
theorem dL_law_318 : decode cL_law 318 = .ok (.istore 6, 2) := by decide +kernel
theorem dL_law_320 : decode cL_law 320 = .ok (.aload_n 2, 1) := by decide +kernel
theorem dL_law_321 : decode cL_law 321 = .ok (.invokevirtual 67, 3) := by decide +kernel
theorem dL_law_324 : decode cL_law 324 = .ok (.iload 5, 2) := by decide +kernel
theorem dL_law_326 : decode cL_law 326 = .ok (.if_icmp .eq 5, 3) := by decide +kernel
theorem dL_law_329 : decode cL_law 329 = .ok (.iconst 0, 1) := by decide +kernel
theorem dL_law_330 : decode cL_law 330 = .ok (.ireturn, 1) := by decide +kernel
theorem dL_law_331 : decode cL_law 331 = .ok (.iload 5, 2) := by decide +kernel
theorem dL_law_333 : decode cL_law 333 = .ok (.ifCond .ne 15, 3) := by decide +kernel
theorem dL_law_336 : decode cL_law 336 = .ok (.aload_n 3, 1) := by decide +kernel
theorem dL_law_337 : decode cL_law 337 = .ok (.iconst 0, 1) := by decide +kernel
theorem dL_law_338 : decode cL_law 338 = .ok (.laload, 1) := by decide +kernel
theorem dL_law_339 : decode cL_law 339 = .ok (.iload 6, 2) := by decide +kernel
theorem dL_law_341 : decode cL_law 341 = .ok (.i2l, 1) := by decide +kernel
theorem dL_law_342 : decode cL_law 342 = .ok (.lcmp, 1) := by decide +kernel
theorem dL_law_343 : decode cL_law 343 = .ok (.ifCond .eq 5, 3) := by decide +kernel
theorem dL_law_346 : decode cL_law 346 = .ok (.iconst 0, 1) := by decide +kernel
theorem dL_law_347 : decode cL_law 347 = .ok (.ireturn, 1) := by decide +kernel
theorem dL_law_348 : decode cL_law 348 = .ok (.goto 360, 3) := by decide +kernel
theorem dL_law_351 : decode cL_law 351 = .ok (.aload_n 1, 1) := by decide +kernel
theorem dL_law_352 : decode cL_law 352 = .ok (.invokevirtual 81, 3) := by decide +kernel
theorem dL_law_355 : decode cL_law 355 = .ok (.aload_n 2, 1) := by decide +kernel
theorem dL_law_356 : decode cL_law 356 = .ok (.invokevirtual 84, 3) := by decide +kernel
theorem dL_law_359 : decode cL_law 359 = .ok (.goto 349, 3) := by decide +kernel
theorem dL_law_362 : decode cL_law 362 = .ok (.aload_n 1, 1) := by decide +kernel
theorem dL_law_363 : decode cL_law 363 = .ok (.aload_n 0, 1) := by decide +kernel
theorem dL_law_364 : decode cL_law 364 = .ok (.iload 4, 2) := by decide +kernel
theorem dL_law_366 : decode cL_law 366 = .ok (.iconst 1, 1) := by decide +kernel
theorem dL_law_367 : decode cL_law 367 = .ok (.iadd, 1) := by decide +kernel
theorem dL_law_368 : decode cL_law 368 = .ok (.iaload, 1) := by decide +kernel
theorem dL_law_369 : decode cL_law 369 = .ok (.aload_n 3, 1) := by decide +kernel
theorem dL_law_370 : decode cL_law 370 = .ok (.invokestatic 85, 3) := by decide +kernel
theorem dL_law_373 : decode cL_law 373 = .ok (.istore 5, 2) := by decide +kernel
theorem dL_law_375 : decode cL_law 375 = .ok (.aload_n 2, 1) := by decide +kernel
theorem dL_law_376 : decode cL_law 376 = .ok (.aload_n 0, 1) := by decide +kernel
theorem dL_law_377 : decode cL_law 377 = .ok (.iload 4, 2) := by decide +kernel
theorem dL_law_379 : decode cL_law 379 = .ok (.iconst 1, 1) := by decide +kernel
theorem dL_law_380 : decode cL_law 380 = .ok (.iadd, 1) := by decide +kernel
theorem dL_law_381 : decode cL_law 381 = .ok (.iaload, 1) := by decide +kernel
theorem dL_law_382 : decode cL_law 382 = .ok (.invokevirtual 88, 3) := by decide +kernel
theorem dL_law_385 : decode cL_law 385 = .ok (.istore 6, 2) := by decide +kernel
theorem dL_law_387 : decode cL_law 387 = .ok (.aload_n 2, 1) := by decide +kernel
theorem dL_law_388 : decode cL_law 388 = .ok (.invokevirtual 67, 3) := by decide +kernel
theorem dL_law_391 : decode cL_law 391 = .ok (.iload 5, 2) := by decide +kernel
theorem dL_law_393 : decode cL_law 393 = .ok (.if_icmp .eq 5, 3) := by decide +kernel
theorem dL_law_396 : decode cL_law 396 = .ok (.iconst 0, 1) := by decide +kernel
theorem dL_law_397 : decode cL_law 397 = .ok (.ireturn, 1) := by decide +kernel
theorem dL_law_398 : decode cL_law 398 = .ok (.iload 5, 2) := by decide +kernel
theorem dL_law_400 : decode cL_law 400 = .ok (.ifCond .ne 15, 3) := by decide +kernel
theorem dL_law_403 : decode cL_law 403 = .ok (.aload_n 3, 1) := by decide +kernel
theorem dL_law_404 : decode cL_law 404 = .ok (.iconst 0, 1) := by decide +kernel
theorem dL_law_405 : decode cL_law 405 = .ok (.laload, 1) := by decide +kernel
theorem dL_law_406 : decode cL_law 406 = .ok (.iload 6, 2) := by decide +kernel
theorem dL_law_408 : decode cL_law 408 = .ok (.i2l, 1) := by decide +kernel
theorem dL_law_409 : decode cL_law 409 = .ok (.lcmp, 1) := by decide +kernel
theorem dL_law_410 : decode cL_law 410 = .ok (.ifCond .eq 5, 3) := by decide +kernel
theorem dL_law_413 : decode cL_law 413 = .ok (.iconst 0, 1) := by decide +kernel
theorem dL_law_414 : decode cL_law 414 = .ok (.ireturn, 1) := by decide +kernel
theorem dL_law_415 : decode cL_law 415 = .ok (.goto 293, 3) := by decide +kernel
theorem dL_law_418 : decode cL_law 418 = .ok (.aload_n 1, 1) := by decide +kernel
theorem dL_law_419 : decode cL_law 419 = .ok (.aload_n 0, 1) := by decide +kernel
theorem dL_law_420 : decode cL_law 420 = .ok (.iload 4, 2) := by decide +kernel
theorem dL_law_422 : decode cL_law 422 = .ok (.iconst 1, 1) := by decide +kernel
theorem dL_law_423 : decode cL_law 423 = .ok (.iadd, 1) := by decide +kernel
theorem dL_law_424 : decode cL_law 424 = .ok (.iaload, 1) := by decide +kernel
theorem dL_law_425 : decode cL_law 425 = .ok (.aload_n 0, 1) := by decide +kernel
theorem dL_law_426 : decode cL_law 426 = .ok (.iload 4, 2) := by decide +kernel
theorem dL_law_428 : decode cL_law 428 = .ok (.iconst 2, 1) := by decide +kernel
theorem dL_law_429 : decode cL_law 429 = .ok (.iadd, 1) := by decide +kernel
theorem dL_law_430 : decode cL_law 430 = .ok (.iaload, 1) := by decide +kernel
theorem dL_law_431 : decode cL_law 431 = .ok (.aload_n 3, 1) := by decide +kernel
theorem dL_law_432 : decode cL_law 432 = .ok (.invokestatic 89, 3) := by decide +kernel
theorem dL_law_435 : decode cL_law 435 = .ok (.istore 5, 2) := by decide +kernel
theorem dL_law_437 : decode cL_law 437 = .ok (.aload_n 2, 1) := by decide +kernel
theorem dL_law_438 : decode cL_law 438 = .ok (.aload_n 0, 1) := by decide +kernel
theorem dL_law_439 : decode cL_law 439 = .ok (.iload 4, 2) := by decide +kernel
theorem dL_law_441 : decode cL_law 441 = .ok (.iconst 1, 1) := by decide +kernel
theorem dL_law_442 : decode cL_law 442 = .ok (.iadd, 1) := by decide +kernel
theorem dL_law_443 : decode cL_law 443 = .ok (.iaload, 1) := by decide +kernel
theorem dL_law_444 : decode cL_law 444 = .ok (.aload_n 0, 1) := by decide +kernel
theorem dL_law_445 : decode cL_law 445 = .ok (.iload 4, 2) := by decide +kernel
theorem dL_law_447 : decode cL_law 447 = .ok (.iconst 2, 1) := by decide +kernel
theorem dL_law_448 : decode cL_law 448 = .ok (.iadd, 1) := by decide +kernel
theorem dL_law_449 : decode cL_law 449 = .ok (.iaload, 1) := by decide +kernel
theorem dL_law_450 : decode cL_law 450 = .ok (.invokevirtual 92, 3) := by decide +kernel
theorem dL_law_453 : decode cL_law 453 = .ok (.istore 6, 2) := by decide +kernel
theorem dL_law_455 : decode cL_law 455 = .ok (.aload_n 2, 1) := by decide +kernel
theorem dL_law_456 : decode cL_law 456 = .ok (.invokevirtual 67, 3) := by decide +kernel
theorem dL_law_459 : decode cL_law 459 = .ok (.iload 5, 2) := by decide +kernel
theorem dL_law_461 : decode cL_law 461 = .ok (.if_icmp .eq 5, 3) := by decide +kernel
theorem dL_law_464 : decode cL_law 464 = .ok (.iconst 0, 1) := by decide +kernel
theorem dL_law_465 : decode cL_law 465 = .ok (.ireturn, 1) := by decide +kernel
theorem dL_law_466 : decode cL_law 466 = .ok (.iload 5, 2) := by decide +kernel
theorem dL_law_468 : decode cL_law 468 = .ok (.ifCond .ne 15, 3) := by decide +kernel
theorem dL_law_471 : decode cL_law 471 = .ok (.aload_n 3, 1) := by decide +kernel
theorem dL_law_472 : decode cL_law 472 = .ok (.iconst 0, 1) := by decide +kernel
theorem dL_law_473 : decode cL_law 473 = .ok (.laload, 1) := by decide +kernel
theorem dL_law_474 : decode cL_law 474 = .ok (.iload 6, 2) := by decide +kernel
theorem dL_law_476 : decode cL_law 476 = .ok (.i2l, 1) := by decide +kernel
theorem dL_law_477 : decode cL_law 477 = .ok (.lcmp, 1) := by decide +kernel
theorem dL_law_478 : decode cL_law 478 = .ok (.ifCond .eq 5, 3) := by decide +kernel
theorem dL_law_481 : decode cL_law 481 = .ok (.iconst 0, 1) := by decide +kernel
theorem dL_law_482 : decode cL_law 482 = .ok (.ireturn, 1) := by decide +kernel
theorem dL_law_483 : decode cL_law 483 = .ok (.goto 225, 3) := by decide +kernel
theorem dL_law_486 : decode cL_law 486 = .ok (.aload_n 1, 1) := by decide +kernel
theorem dL_law_487 : decode cL_law 487 = .ok (.aload_n 0, 1) := by decide +kernel
theorem dL_law_488 : decode cL_law 488 = .ok (.iload 4, 2) := by decide +kernel
theorem dL_law_490 : decode cL_law 490 = .ok (.iconst 1, 1) := by decide +kernel
theorem dL_law_491 : decode cL_law 491 = .ok (.iadd, 1) := by decide +kernel
theorem dL_law_492 : decode cL_law 492 = .ok (.iaload, 1) := by decide +kernel
theorem dL_law_493 : decode cL_law 493 = .ok (.aload_n 0, 1) := by decide +kernel
theorem dL_law_494 : decode cL_law 494 = .ok (.iload 4, 2) := by decide +kernel
theorem dL_law_496 : decode cL_law 496 = .ok (.iconst 2, 1) := by decide +kernel
theorem dL_law_497 : decode cL_law 497 = .ok (.iadd, 1) := by decide +kernel
theorem dL_law_498 : decode cL_law 498 = .ok (.iaload, 1) := by decide +kernel
theorem dL_law_499 : decode cL_law 499 = .ok (.invokestatic 93, 3) := by decide +kernel
theorem dL_law_502 : decode cL_law 502 = .ok (.istore 5, 2) := by decide +kernel
theorem dL_law_504 : decode cL_law 504 = .ok (.aload_n 2, 1) := by decide +kernel
theorem dL_law_505 : decode cL_law 505 = .ok (.aload_n 0, 1) := by decide +kernel
theorem dL_law_506 : decode cL_law 506 = .ok (.iload 4, 2) := by decide +kernel
theorem dL_law_508 : decode cL_law 508 = .ok (.iconst 1, 1) := by decide +kernel
theorem dL_law_509 : decode cL_law 509 = .ok (.iadd, 1) := by decide +kernel
theorem dL_law_510 : decode cL_law 510 = .ok (.iaload, 1) := by decide +kernel
theorem dL_law_511 : decode cL_law 511 = .ok (.aload_n 0, 1) := by decide +kernel
theorem dL_law_512 : decode cL_law 512 = .ok (.iload 4, 2) := by decide +kernel
theorem dL_law_514 : decode cL_law 514 = .ok (.iconst 2, 1) := by decide +kernel
theorem dL_law_515 : decode cL_law 515 = .ok (.iadd, 1) := by decide +kernel
theorem dL_law_516 : decode cL_law 516 = .ok (.iaload, 1) := by decide +kernel
theorem dL_law_517 : decode cL_law 517 = .ok (.invokevirtual 96, 3) := by decide +kernel
theorem dL_law_520 : decode cL_law 520 = .ok (.aload_n 2, 1) := by decide +kernel
theorem dL_law_521 : decode cL_law 521 = .ok (.invokevirtual 67, 3) := by decide +kernel
theorem dL_law_524 : decode cL_law 524 = .ok (.iload 5, 2) := by decide +kernel
theorem dL_law_526 : decode cL_law 526 = .ok (.if_icmp .eq 5, 3) := by decide +kernel
theorem dL_law_529 : decode cL_law 529 = .ok (.iconst 0, 1) := by decide +kernel
theorem dL_law_530 : decode cL_law 530 = .ok (.ireturn, 1) := by decide +kernel
theorem dL_law_531 : decode cL_law 531 = .ok (.goto 177, 3) := by decide +kernel
theorem dL_law_534 : decode cL_law 534 = .ok (.aload_n 1, 1) := by decide +kernel
theorem dL_law_535 : decode cL_law 535 = .ok (.invokevirtual 97, 3) := by decide +kernel
theorem dL_law_538 : decode cL_law 538 = .ok (.aload_n 2, 1) := by decide +kernel
theorem dL_law_539 : decode cL_law 539 = .ok (.invokevirtual 100, 3) := by decide +kernel
theorem dL_law_542 : decode cL_law 542 = .ok (.goto 166, 3) := by decide +kernel
theorem dL_law_545 : decode cL_law 545 = .ok (.aload_n 1, 1) := by decide +kernel
theorem dL_law_546 : decode cL_law 546 = .ok (.aload_n 0, 1) := by decide +kernel
theorem dL_law_547 : decode cL_law 547 = .ok (.iload 4, 2) := by decide +kernel
theorem dL_law_549 : decode cL_law 549 = .ok (.iconst 1, 1) := by decide +kernel
theorem dL_law_550 : decode cL_law 550 = .ok (.iadd, 1) := by decide +kernel
theorem dL_law_551 : decode cL_law 551 = .ok (.iaload, 1) := by decide +kernel
theorem dL_law_552 : decode cL_law 552 = .ok (.aload_n 3, 1) := by decide +kernel
theorem dL_law_553 : decode cL_law 553 = .ok (.invokestatic 101, 3) := by decide +kernel
theorem dL_law_556 : decode cL_law 556 = .ok (.istore 5, 2) := by decide +kernel
theorem dL_law_558 : decode cL_law 558 = .ok (.aload_n 2, 1) := by decide +kernel
theorem dL_law_559 : decode cL_law 559 = .ok (.aload_n 0, 1) := by decide +kernel
theorem dL_law_560 : decode cL_law 560 = .ok (.iload 4, 2) := by decide +kernel
theorem dL_law_562 : decode cL_law 562 = .ok (.iconst 1, 1) := by decide +kernel
theorem dL_law_563 : decode cL_law 563 = .ok (.iadd, 1) := by decide +kernel
theorem dL_law_564 : decode cL_law 564 = .ok (.iaload, 1) := by decide +kernel
theorem dL_law_565 : decode cL_law 565 = .ok (.invokevirtual 103, 3) := by decide +kernel
theorem dL_law_568 : decode cL_law 568 = .ok (.istore 6, 2) := by decide +kernel
theorem dL_law_570 : decode cL_law 570 = .ok (.aload_n 2, 1) := by decide +kernel
theorem dL_law_571 : decode cL_law 571 = .ok (.invokevirtual 67, 3) := by decide +kernel
theorem dL_law_574 : decode cL_law 574 = .ok (.iload 5, 2) := by decide +kernel
theorem dL_law_576 : decode cL_law 576 = .ok (.if_icmp .eq 5, 3) := by decide +kernel
theorem dL_law_579 : decode cL_law 579 = .ok (.iconst 0, 1) := by decide +kernel
theorem dL_law_580 : decode cL_law 580 = .ok (.ireturn, 1) := by decide +kernel
theorem dL_law_581 : decode cL_law 581 = .ok (.iload 5, 2) := by decide +kernel
theorem dL_law_583 : decode cL_law 583 = .ok (.ifCond .ne 15, 3) := by decide +kernel
theorem dL_law_586 : decode cL_law 586 = .ok (.aload_n 3, 1) := by decide +kernel
theorem dL_law_587 : decode cL_law 587 = .ok (.iconst 0, 1) := by decide +kernel
theorem dL_law_588 : decode cL_law 588 = .ok (.laload, 1) := by decide +kernel
theorem dL_law_589 : decode cL_law 589 = .ok (.iload 6, 2) := by decide +kernel
theorem dL_law_591 : decode cL_law 591 = .ok (.i2l, 1) := by decide +kernel
theorem dL_law_592 : decode cL_law 592 = .ok (.lcmp, 1) := by decide +kernel
theorem dL_law_593 : decode cL_law 593 = .ok (.ifCond .eq 5, 3) := by decide +kernel
theorem dL_law_596 : decode cL_law 596 = .ok (.iconst 0, 1) := by decide +kernel
theorem dL_law_597 : decode cL_law 597 = .ok (.ireturn, 1) := by decide +kernel
theorem dL_law_598 : decode cL_law 598 = .ok (.goto 110, 3) := by decide +kernel
theorem dL_law_601 : decode cL_law 601 = .ok (.aload_n 1, 1) := by decide +kernel
theorem dL_law_602 : decode cL_law 602 = .ok (.invokevirtual 104, 3) := by decide +kernel
theorem dL_law_605 : decode cL_law 605 = .ok (.aload_n 2, 1) := by decide +kernel
theorem dL_law_606 : decode cL_law 606 = .ok (.invokevirtual 107, 3) := by decide +kernel
theorem dL_law_609 : decode cL_law 609 = .ok (.if_icmp .eq 99, 3) := by decide +kernel
theorem dL_law_612 : decode cL_law 612 = .ok (.iconst 0, 1) := by decide +kernel
theorem dL_law_613 : decode cL_law 613 = .ok (.ireturn, 1) := by decide +kernel
theorem dL_law_614 : decode cL_law 614 = .ok (.aload_n 1, 1) := by decide +kernel
theorem dL_law_615 : decode cL_law 615 = .ok (.invokevirtual 108, 3) := by decide +kernel
theorem dL_law_618 : decode cL_law 618 = .ok (.aload_n 2, 1) := by decide +kernel
theorem dL_law_619 : decode cL_law 619 = .ok (.invokevirtual 111, 3) := by decide +kernel
theorem dL_law_622 : decode cL_law 622 = .ok (.if_icmp .eq 86, 3) := by decide +kernel
theorem dL_law_625 : decode cL_law 625 = .ok (.iconst 0, 1) := by decide +kernel
theorem dL_law_626 : decode cL_law 626 = .ok (.ireturn, 1) := by decide +kernel
theorem dL_law_627 : decode cL_law 627 = .ok (.aload_n 1, 1) := by decide +kernel
theorem dL_law_628 : decode cL_law 628 = .ok (.invokevirtual 112, 3) := by decide +kernel
theorem dL_law_631 : decode cL_law 631 = .ok (.aload_n 2, 1) := by decide +kernel
theorem dL_law_632 : decode cL_law 632 = .ok (.invokevirtual 115, 3) := by decide +kernel
theorem dL_law_635 : decode cL_law 635 = .ok (.if_icmp .eq 73, 3) := by decide +kernel
theorem dL_law_638 : decode cL_law 638 = .ok (.iconst 0, 1) := by decide +kernel
theorem dL_law_639 : decode cL_law 639 = .ok (.ireturn, 1) := by decide +kernel
theorem dL_law_640 : decode cL_law 640 = .ok (.aload_n 1, 1) := by decide +kernel
theorem dL_law_641 : decode cL_law 641 = .ok (.aload_n 0, 1) := by decide +kernel
theorem dL_law_642 : decode cL_law 642 = .ok (.iload 4, 2) := by decide +kernel
theorem dL_law_644 : decode cL_law 644 = .ok (.iconst 1, 1) := by decide +kernel
theorem dL_law_645 : decode cL_law 645 = .ok (.iadd, 1) := by decide +kernel
theorem dL_law_646 : decode cL_law 646 = .ok (.iaload, 1) := by decide +kernel
theorem dL_law_647 : decode cL_law 647 = .ok (.aload_n 0, 1) := by decide +kernel
theorem dL_law_648 : decode cL_law 648 = .ok (.iload 4, 2) := by decide +kernel
theorem dL_law_650 : decode cL_law 650 = .ok (.iconst 2, 1) := by decide +kernel
theorem dL_law_651 : decode cL_law 651 = .ok (.iadd, 1) := by decide +kernel
theorem dL_law_652 : decode cL_law 652 = .ok (.iaload, 1) := by decide +kernel
theorem dL_law_653 : decode cL_law 653 = .ok (.aload_n 3, 1) := by decide +kernel
theorem dL_law_654 : decode cL_law 654 = .ok (.invokestatic 116, 3) := by decide +kernel
theorem dL_law_657 : decode cL_law 657 = .ok (.istore 5, 2) := by decide +kernel
theorem dL_law_659 : decode cL_law 659 = .ok (.aload_n 2, 1) := by decide +kernel
theorem dL_law_660 : decode cL_law 660 = .ok (.aload_n 0, 1) := by decide +kernel
theorem dL_law_661 : decode cL_law 661 = .ok (.iload 4, 2) := by decide +kernel
theorem dL_law_663 : decode cL_law 663 = .ok (.iconst 1, 1) := by decide +kernel
theorem dL_law_664 : decode cL_law 664 = .ok (.iadd, 1) := by decide +kernel
theorem dL_law_665 : decode cL_law 665 = .ok (.iaload, 1) := by decide +kernel
theorem dL_law_666 : decode cL_law 666 = .ok (.aload_n 0, 1) := by decide +kernel
theorem dL_law_667 : decode cL_law 667 = .ok (.iload 4, 2) := by decide +kernel
theorem dL_law_669 : decode cL_law 669 = .ok (.iconst 2, 1) := by decide +kernel
theorem dL_law_670 : decode cL_law 670 = .ok (.iadd, 1) := by decide +kernel
theorem dL_law_671 : decode cL_law 671 = .ok (.iaload, 1) := by decide +kernel
theorem dL_law_672 : decode cL_law 672 = .ok (.invokevirtual 118, 3) := by decide +kernel
theorem dL_law_675 : decode cL_law 675 = .ok (.istore 6, 2) := by decide +kernel
theorem dL_law_677 : decode cL_law 677 = .ok (.aload_n 2, 1) := by decide +kernel
theorem dL_law_678 : decode cL_law 678 = .ok (.invokevirtual 67, 3) := by decide +kernel
theorem dL_law_681 : decode cL_law 681 = .ok (.iload 5, 2) := by decide +kernel
theorem dL_law_683 : decode cL_law 683 = .ok (.if_icmp .eq 5, 3) := by decide +kernel
theorem dL_law_686 : decode cL_law 686 = .ok (.iconst 0, 1) := by decide +kernel
theorem dL_law_687 : decode cL_law 687 = .ok (.ireturn, 1) := by decide +kernel
theorem dL_law_688 : decode cL_law 688 = .ok (.iload 5, 2) := by decide +kernel
theorem dL_law_690 : decode cL_law 690 = .ok (.ifCond .ne 15, 3) := by decide +kernel
theorem dL_law_693 : decode cL_law 693 = .ok (.aload_n 3, 1) := by decide +kernel
theorem dL_law_694 : decode cL_law 694 = .ok (.iconst 0, 1) := by decide +kernel
theorem dL_law_695 : decode cL_law 695 = .ok (.laload, 1) := by decide +kernel
theorem dL_law_696 : decode cL_law 696 = .ok (.iload 6, 2) := by decide +kernel
theorem dL_law_698 : decode cL_law 698 = .ok (.i2l, 1) := by decide +kernel
theorem dL_law_699 : decode cL_law 699 = .ok (.lcmp, 1) := by decide +kernel
theorem dL_law_700 : decode cL_law 700 = .ok (.ifCond .eq 5, 3) := by decide +kernel
theorem dL_law_703 : decode cL_law 703 = .ok (.iconst 0, 1) := by decide +kernel
theorem dL_law_704 : decode cL_law 704 = .ok (.ireturn, 1) := by decide +kernel
theorem dL_law_705 : decode cL_law 705 = .ok (.goto 3, 3) := by decide +kernel
theorem dL_law_708 : decode cL_law 708 = .ok (.iinc 4 4, 3) := by decide +kernel
theorem dL_law_711 : decode cL_law 711 = .ok (.goto (-688), 3) := by decide +kernel
theorem dL_law_714 : decode cL_law 714 = .ok (.iconst 1, 1) := by decide +kernel
theorem dL_law_715 : decode cL_law 715 = .ok (.ireturn, 1) := by decide +kernel
set_option maxRecDepth 20000 in
set_option maxHeartbeats 4000000 in
theorem w_L_law {c : cX} {d : Nat} {C : cS} {K : Option Value → cS → Prop} {L : Nat} (hS0 : cT0 C L) (h : cM c d eX9_init (.ref C.1 :: []) (cnw C 9 12) (fun v C3 => v = none ∧ cle (cnw C 9 12) C3 ∧ (cM c d eX10_init (.ref C3.1 :: []) (cnw C3 10 59) (fun v C11 => v = none ∧ cle (cnw C3 10 59) C11 ∧ (cG c eL_law (d + 1) (cQ K) 23 [some (.ref 0), some (.ref C.1), some (.ref C3.1), some (.ref C11.1), some (.int 0), none, none] [] (cnw C11 21 1)))))) : cG c eL_law (d + 1) (cQ K) 0 [some (.ref 0), none, none, none, none, none, none] [] C := by
  refine cr_new (C2 := (cnw C 9 12)) dL_law_0 nw_L_8 nf_9 rfl ?_
  have hT1 : cT (cnw C 9 12) C.1 9 12 := cT_nw0 hS0.1
  have hS2 := cT0.le (C := C) hS0 (cle_nw C 9 12)
  refine ag_dup dL_law_3 rfl ?_
  refine cr_callI (as := []) (rest := [.ref C.1]) dL_law_4 me_X9_init mn_X9_init lk_L_48 rfl rfl (Nat.le_of_ble_eq_true rfl) ?_
  refine cM.mono h ?_
  rintro v C3 ⟨rfl, hL5, h⟩
  have hT6 := cT.le (C := (cnw C 9 12)) hT1 hL5
  have hS7 := cT0.le (C := (cnw C 9 12)) hS2 hL5
  show cG _ _ _ _ _ _ [.ref C.1] _
  refine ag_astore_n (lv2 := [some (.ref 0), some (.ref C.1), none, none, none, none, none]) dL_law_7 (Nat.le_of_ble_eq_true rfl) rfl (Or.inr ⟨_, rfl⟩) ?_
  refine cr_new (C2 := (cnw C3 10 59)) dL_law_8 nw_L_49 nf_10 rfl ?_
  have hT8 : cT (cnw C3 10 59) C3.1 10 59 := cT_nw0 hS7.1
  have hT9 := cT.le (C := C3) hT6 (cle_nw C3 10 59)
  have hS10 := cT0.le (C := C3) hS7 (cle_nw C3 10 59)
  refine ag_dup dL_law_11 rfl ?_
  refine cr_callI (as := []) (rest := [.ref C3.1]) dL_law_12 me_X10_init mn_X10_init lk_L_51 rfl rfl (Nat.le_of_ble_eq_true rfl) ?_
  refine cM.mono h ?_
  rintro v C11 ⟨rfl, hL13, h⟩
  have hT14 := cT.le (C := (cnw C3 10 59)) hT9 hL13
  have hT15 := cT.le (C := (cnw C3 10 59)) hT8 hL13
  have hS16 := cT0.le (C := (cnw C3 10 59)) hS10 hL13
  show cG _ _ _ _ _ _ [.ref C3.1] _
  refine ag_astore_n (lv2 := [some (.ref 0), some (.ref C.1), some (.ref C3.1), none, none, none, none]) dL_law_15 (Nat.le_of_ble_eq_true rfl) rfl (Or.inr ⟨_, rfl⟩) ?_
  refine ag_iconst (v := 1) dL_law_16 rfl ?_
  refine cr_newa (t := 21) (C2 := (cnw C11 21 1)) dL_law_17 rfl ac_long (by decide) (by decide) (by decide) (fun _ => rfl) rfl ?_
  have hT17 : cT (cnw C11 21 1) C11.1 21 1 := cT_nw0 hS16.1
  have hT18 := cT.le (C := C11) hT14 (cle_nw C11 21 1)
  have hT19 := cT.le (C := C11) hT15 (cle_nw C11 21 1)
  have hS20 := cT0.le (C := C11) hS16 (cle_nw C11 21 1)
  refine ag_astore_n (lv2 := [some (.ref 0), some (.ref C.1), some (.ref C3.1), some (.ref C11.1), none, none, none]) dL_law_19 (Nat.le_of_ble_eq_true rfl) rfl (Or.inr ⟨_, rfl⟩) ?_
  refine ag_iconst (v := 0) dL_law_20 rfl ?_
  refine ag_istore (lv2 := [some (.ref 0), some (.ref C.1), some (.ref C3.1), some (.ref C11.1), some (.int 0), none, none]) dL_law_21 (Nat.le_of_ble_eq_true rfl) rfl ?_
  exact h
set_option maxRecDepth 20000 in
set_option maxHeartbeats 4000000 in
theorem w_L_law_23 {c : cX} {d : Nat} {C : cS} {K : Option Value → cS → Prop} {L : Nat} (x : Nat) (m : Nat) (ou : Nat) (i : Int32) (hS0 : cT0 C L) (h : (((nI L) - 4) < i → (K (some (.int 1)) C)) ∧ (¬ ((nI L) - 4) < i → (∃ j2 : Nat, am_ix i j2 L ∧ ((((cI C 0 j2) &&& 15) = 0 → (∃ j4 : Nat, am_ix (i + 1) j4 L ∧ (cT C x 9 12 ∧ (cM c d eX9_type (.ref x :: [.int (((Int32.toUInt32 (cI C 0 j4)) % 65536).toInt32)]) C (fun v C6 => ∃ z7 : Int32, v = some (.int z7) ∧ cle C C6 ∧ (∃ j12 : Nat, am_ix (i + 1) j12 L ∧ (cT C6 m 10 59 ∧ (cM c d eX10_type (.ref m :: [.int (((Int32.toUInt32 (cI C6 0 j12)) % 65536).toInt32)]) C6 (fun v C14 => ∃ z15 : Int32, v = some (.int z15) ∧ cle C6 C14 ∧ ((z7 = z15 → (cG c eL_law (d + 1) (cQ K) 708 [some (.ref 0), some (.ref x), some (.ref m), some (.ref ou), some (.int i), none, none] [] C14)) ∧ (¬ z7 = z15 → (K (some (.int 0)) C14)))))))))))) ∧ (((cI C 0 j2) &&& 15) = 1 → (cT C x 9 12 ∧ (cM c d eX9_wipe (.ref x :: []) C (fun v C22 => v = none ∧ cle C C22 ∧ (cT C22 m 10 59 ∧ (cM c d eX10_wipe (.ref m :: []) C22 (fun v C28 => v = none ∧ cle C22 C28 ∧ (cG c eL_law (d + 1) (cQ K) 708 [some (.ref 0), some (.ref x), some (.ref m), some (.ref ou), some (.int i), none, none] [] C28)))))))) ∧ (((cI C 0 j2) &&& 15) = 2 → (cMW c d eL_define hhL_define [.ref x, .ref ou] C (fun v C35 => ∃ z36 : Int32, v = some (.int z36) ∧ cle C C35 ∧ (cT C35 m 10 59 ∧ (cM c d eX10_define (.ref m :: []) C35 (fun v C39 => ∃ z40 : Int32, v = some (.int z40) ∧ cle C35 C39 ∧ (cM c d eX10_thrown (.ref m :: []) C39 (fun v C45 => ∃ z46 : Int32, v = some (.int z46) ∧ cle C39 C45 ∧ ((z46 = z36 → ((¬ z36 = 0 → (cG c eL_law (d + 1) (cQ K) 708 [some (.ref 0), some (.ref x), some (.ref m), some (.ref ou), some (.int i), none, none] [] C45)) ∧ (z36 = 0 → (∃ n53 : Nat, cT C45 ou 21 n53 ∧ (∃ j54 : Nat, am_ix 0 j54 n53 ∧ (((lg_cmp (cJ C45 ou j54) (Int32.toInt64 z40)) = 0 → (cG c eL_law (d + 1) (cQ K) 708 [some (.ref 0), some (.ref x), some (.ref m), some (.ref ou), some (.int i), none, none] [] C45)) ∧ (¬ (lg_cmp (cJ C45 ou j54) (Int32.toInt64 z40)) = 0 → (K (some (.int 0)) C45)))))))) ∧ (¬ z46 = z36 → (K (some (.int 0)) C45))))))))))) ∧ (((cI C 0 j2) &&& 15) = 3 → (cMW c d eL_check hhL_check [.ref x, .ref ou] C (fun v C57 => ∃ z58 : Int32, v = some (.int z58) ∧ cle C C57 ∧ (cT C57 m 10 59 ∧ (cM c d eX10_check (.ref m :: []) C57 (fun v C61 => ∃ z62 : Int32, v = some (.int z62) ∧ cle C57 C61 ∧ (cM c d eX10_thrown (.ref m :: []) C61 (fun v C67 => ∃ z68 : Int32, v = some (.int z68) ∧ cle C61 C67 ∧ ((z68 = z58 → ((¬ z58 = 0 → (cG c eL_law (d + 1) (cQ K) 708 [some (.ref 0), some (.ref x), some (.ref m), some (.ref ou), some (.int i), none, none] [] C67)) ∧ (z58 = 0 → (∃ n75 : Nat, cT C67 ou 21 n75 ∧ (∃ j76 : Nat, am_ix 0 j76 n75 ∧ (((lg_cmp (cJ C67 ou j76) (Int32.toInt64 z62)) = 0 → (cG c eL_law (d + 1) (cQ K) 708 [some (.ref 0), some (.ref x), some (.ref m), some (.ref ou), some (.int i), none, none] [] C67)) ∧ (¬ (lg_cmp (cJ C67 ou j76) (Int32.toInt64 z62)) = 0 → (K (some (.int 0)) C67)))))))) ∧ (¬ z68 = z58 → (K (some (.int 0)) C67))))))))))) ∧ (((cI C 0 j2) &&& 15) = 4 → (cT C x 9 12 ∧ (cM c d eX9_fault (.ref x :: []) C (fun v C79 => ∃ z80 : Int32, v = some (.int z80) ∧ cle C C79 ∧ (cT C79 m 10 59 ∧ (cM c d eX10_fault (.ref m :: []) C79 (fun v C85 => ∃ z86 : Int32, v = some (.int z86) ∧ cle C79 C85 ∧ ((z80 = z86 → (cG c eL_law (d + 1) (cQ K) 708 [some (.ref 0), some (.ref x), some (.ref m), some (.ref ou), some (.int i), none, none] [] C85)) ∧ (¬ z80 = z86 → (K (some (.int 0)) C85)))))))))) ∧ (((cI C 0 j2) &&& 15) = 5 → (∃ j93 : Nat, am_ix (i + 1) j93 L ∧ (((cI C 0 j93) = 0 → (∃ j96 : Nat, am_ix (i + 2) j96 L ∧ (∃ j98 : Nat, am_ix (i + 3) j98 L ∧ (cMW c d eL_view hhL_view [.ref x, .int 0, .int (cI C 0 j96), .int (cI C 0 j98), .ref ou] C (fun v C100 => ∃ z101 : Int32, v = some (.int z101) ∧ cle C C100 ∧ (∃ j104 : Nat, am_ix (i + 1) j104 L ∧ (((cI C100 0 j104) = 0 → (∃ j107 : Nat, am_ix (i + 2) j107 L ∧ (∃ j109 : Nat, am_ix (i + 3) j109 L ∧ (cT C100 m 10 59 ∧ (cM c d eX10_view (.ref m :: [.int 0, .int (cI C100 0 j107), .int (cI C100 0 j109)]) C100 (fun v C111 => ∃ z112 : Int32, v = some (.int z112) ∧ cle C100 C111 ∧ (cM c d eX10_thrown (.ref m :: []) C111 (fun v C117 => ∃ z118 : Int32, v = some (.int z118) ∧ cle C111 C117 ∧ ((z118 = z101 → ((¬ z101 = 0 → (cG c eL_law (d + 1) (cQ K) 708 [some (.ref 0), some (.ref x), some (.ref m), some (.ref ou), some (.int i), none, none] [] C117)) ∧ (z101 = 0 → (∃ n125 : Nat, cT C117 ou 21 n125 ∧ (∃ j126 : Nat, am_ix 0 j126 n125 ∧ (((lg_cmp (cJ C117 ou j126) (Int32.toInt64 z112)) = 0 → (cG c eL_law (d + 1) (cQ K) 708 [some (.ref 0), some (.ref x), some (.ref m), some (.ref ou), some (.int i), none, none] [] C117)) ∧ (¬ (lg_cmp (cJ C117 ou j126) (Int32.toInt64 z112)) = 0 → (K (some (.int 0)) C117)))))))) ∧ (¬ z118 = z101 → (K (some (.int 0)) C117))))))))))) ∧ (¬ (cI C100 0 j104) = 0 → (∃ j129 : Nat, am_ix (i + 2) j129 L ∧ (∃ j131 : Nat, am_ix (i + 3) j131 L ∧ (cT C100 m 10 59 ∧ (cM c d eX10_view (.ref m :: [.int 1, .int (cI C100 0 j129), .int (cI C100 0 j131)]) C100 (fun v C133 => ∃ z134 : Int32, v = some (.int z134) ∧ cle C100 C133 ∧ (cM c d eX10_thrown (.ref m :: []) C133 (fun v C139 => ∃ z140 : Int32, v = some (.int z140) ∧ cle C133 C139 ∧ ((z140 = z101 → ((¬ z101 = 0 → (cG c eL_law (d + 1) (cQ K) 708 [some (.ref 0), some (.ref x), some (.ref m), some (.ref ou), some (.int i), none, none] [] C139)) ∧ (z101 = 0 → (∃ n147 : Nat, cT C139 ou 21 n147 ∧ (∃ j148 : Nat, am_ix 0 j148 n147 ∧ (((lg_cmp (cJ C139 ou j148) (Int32.toInt64 z134)) = 0 → (cG c eL_law (d + 1) (cQ K) 708 [some (.ref 0), some (.ref x), some (.ref m), some (.ref ou), some (.int i), none, none] [] C139)) ∧ (¬ (lg_cmp (cJ C139 ou j148) (Int32.toInt64 z134)) = 0 → (K (some (.int 0)) C139)))))))) ∧ (¬ z140 = z101 → (K (some (.int 0)) C139)))))))))))))))))) ∧ (¬ (cI C 0 j93) = 0 → (∃ j151 : Nat, am_ix (i + 2) j151 L ∧ (∃ j153 : Nat, am_ix (i + 3) j153 L ∧ (cMW c d eL_view hhL_view [.ref x, .int 1, .int (cI C 0 j151), .int (cI C 0 j153), .ref ou] C (fun v C155 => ∃ z156 : Int32, v = some (.int z156) ∧ cle C C155 ∧ (∃ j159 : Nat, am_ix (i + 1) j159 L ∧ (((cI C155 0 j159) = 0 → (∃ j162 : Nat, am_ix (i + 2) j162 L ∧ (∃ j164 : Nat, am_ix (i + 3) j164 L ∧ (cT C155 m 10 59 ∧ (cM c d eX10_view (.ref m :: [.int 0, .int (cI C155 0 j162), .int (cI C155 0 j164)]) C155 (fun v C166 => ∃ z167 : Int32, v = some (.int z167) ∧ cle C155 C166 ∧ (cM c d eX10_thrown (.ref m :: []) C166 (fun v C172 => ∃ z173 : Int32, v = some (.int z173) ∧ cle C166 C172 ∧ ((z173 = z156 → ((¬ z156 = 0 → (cG c eL_law (d + 1) (cQ K) 708 [some (.ref 0), some (.ref x), some (.ref m), some (.ref ou), some (.int i), none, none] [] C172)) ∧ (z156 = 0 → (∃ n180 : Nat, cT C172 ou 21 n180 ∧ (∃ j181 : Nat, am_ix 0 j181 n180 ∧ (((lg_cmp (cJ C172 ou j181) (Int32.toInt64 z167)) = 0 → (cG c eL_law (d + 1) (cQ K) 708 [some (.ref 0), some (.ref x), some (.ref m), some (.ref ou), some (.int i), none, none] [] C172)) ∧ (¬ (lg_cmp (cJ C172 ou j181) (Int32.toInt64 z167)) = 0 → (K (some (.int 0)) C172)))))))) ∧ (¬ z173 = z156 → (K (some (.int 0)) C172))))))))))) ∧ (¬ (cI C155 0 j159) = 0 → (∃ j184 : Nat, am_ix (i + 2) j184 L ∧ (∃ j186 : Nat, am_ix (i + 3) j186 L ∧ (cT C155 m 10 59 ∧ (cM c d eX10_view (.ref m :: [.int 1, .int (cI C155 0 j184), .int (cI C155 0 j186)]) C155 (fun v C188 => ∃ z189 : Int32, v = some (.int z189) ∧ cle C155 C188 ∧ (cM c d eX10_thrown (.ref m :: []) C188 (fun v C194 => ∃ z195 : Int32, v = some (.int z195) ∧ cle C188 C194 ∧ ((z195 = z156 → ((¬ z156 = 0 → (cG c eL_law (d + 1) (cQ K) 708 [some (.ref 0), some (.ref x), some (.ref m), some (.ref ou), some (.int i), none, none] [] C194)) ∧ (z156 = 0 → (∃ n202 : Nat, cT C194 ou 21 n202 ∧ (∃ j203 : Nat, am_ix 0 j203 n202 ∧ (((lg_cmp (cJ C194 ou j203) (Int32.toInt64 z189)) = 0 → (cG c eL_law (d + 1) (cQ K) 708 [some (.ref 0), some (.ref x), some (.ref m), some (.ref ou), some (.int i), none, none] [] C194)) ∧ (¬ (lg_cmp (cJ C194 ou j203) (Int32.toInt64 z189)) = 0 → (K (some (.int 0)) C194)))))))) ∧ (¬ z195 = z156 → (K (some (.int 0)) C194))))))))))))))))))))) ∧ (((cI C 0 j2) &&& 15) = 6 → (cT C x 9 12 ∧ (cM c d eX9_forget (.ref x :: []) C (fun v C206 => v = none ∧ cle C C206 ∧ (cT C206 m 10 59 ∧ (cM c d eX10_forget (.ref m :: []) C206 (fun v C212 => v = none ∧ cle C206 C212 ∧ (cG c eL_law (d + 1) (cQ K) 708 [some (.ref 0), some (.ref x), some (.ref m), some (.ref ou), some (.int i), none, none] [] C212)))))))) ∧ (((cI C 0 j2) &&& 15) = 7 → (∃ j219 : Nat, am_ix (i + 1) j219 L ∧ (cMW c d eL_number hhL_number [.ref x, .int (cI C 0 j219), .ref ou] C (fun v C221 => ∃ z222 : Int32, v = some (.int z222) ∧ cle C C221 ∧ (∃ j225 : Nat, am_ix (i + 1) j225 L ∧ (cT C221 m 10 59 ∧ (cM c d eX10_number (.ref m :: [.int (cI C221 0 j225)]) C221 (fun v C227 => ∃ z228 : Int32, v = some (.int z228) ∧ cle C221 C227 ∧ (cM c d eX10_thrown (.ref m :: []) C227 (fun v C233 => ∃ z234 : Int32, v = some (.int z234) ∧ cle C227 C233 ∧ ((z234 = z222 → ((¬ z222 = 0 → (cG c eL_law (d + 1) (cQ K) 708 [some (.ref 0), some (.ref x), some (.ref m), some (.ref ou), some (.int i), none, none] [] C233)) ∧ (z222 = 0 → (∃ n241 : Nat, cT C233 ou 21 n241 ∧ (∃ j242 : Nat, am_ix 0 j242 n241 ∧ (((lg_cmp (cJ C233 ou j242) (Int32.toInt64 z228)) = 0 → (cG c eL_law (d + 1) (cQ K) 708 [some (.ref 0), some (.ref x), some (.ref m), some (.ref ou), some (.int i), none, none] [] C233)) ∧ (¬ (lg_cmp (cJ C233 ou j242) (Int32.toInt64 z228)) = 0 → (K (some (.int 0)) C233)))))))) ∧ (¬ z234 = z222 → (K (some (.int 0)) C233))))))))))))) ∧ (((cI C 0 j2) &&& 15) = 8 → (∃ j245 : Nat, am_ix (i + 1) j245 L ∧ (∃ j247 : Nat, am_ix (i + 2) j247 L ∧ (cMW c d eL_pair hhL_pair [.ref x, .int (cI C 0 j245), .int (cI C 0 j247), .ref ou] C (fun v C249 => ∃ z250 : Int32, v = some (.int z250) ∧ cle C C249 ∧ (∃ j253 : Nat, am_ix (i + 1) j253 L ∧ (∃ j255 : Nat, am_ix (i + 2) j255 L ∧ (cT C249 m 10 59 ∧ (cM c d eX10_pair (.ref m :: [.int (cI C249 0 j253), .int (cI C249 0 j255)]) C249 (fun v C257 => ∃ z258 : Int32, v = some (.int z258) ∧ cle C249 C257 ∧ (cM c d eX10_thrown (.ref m :: []) C257 (fun v C263 => ∃ z264 : Int32, v = some (.int z264) ∧ cle C257 C263 ∧ ((z264 = z250 → ((¬ z250 = 0 → (cG c eL_law (d + 1) (cQ K) 708 [some (.ref 0), some (.ref x), some (.ref m), some (.ref ou), some (.int i), none, none] [] C263)) ∧ (z250 = 0 → (∃ n271 : Nat, cT C263 ou 21 n271 ∧ (∃ j272 : Nat, am_ix 0 j272 n271 ∧ (((lg_cmp (cJ C263 ou j272) (Int32.toInt64 z258)) = 0 → (cG c eL_law (d + 1) (cQ K) 708 [some (.ref 0), some (.ref x), some (.ref m), some (.ref ou), some (.int i), none, none] [] C263)) ∧ (¬ (lg_cmp (cJ C263 ou j272) (Int32.toInt64 z258)) = 0 → (K (some (.int 0)) C263)))))))) ∧ (¬ z264 = z250 → (K (some (.int 0)) C263))))))))))))))) ∧ (((cI C 0 j2) &&& 15) = 9 → (∃ j275 : Nat, am_ix (i + 1) j275 L ∧ (∃ j277 : Nat, am_ix (i + 2) j277 L ∧ (cMW c d eL_input hhL_input [.ref x, .int (cI C 0 j275), .int (cI C 0 j277)] C (fun v C279 => ∃ z280 : Int32, v = some (.int z280) ∧ cle C C279 ∧ (∃ j283 : Nat, am_ix (i + 1) j283 L ∧ (∃ j285 : Nat, am_ix (i + 2) j285 L ∧ (cT C279 m 10 59 ∧ (cM c d eX10_input (.ref m :: [.int (cI C279 0 j283), .int (cI C279 0 j285)]) C279 (fun v C287 => v = none ∧ cle C279 C287 ∧ (cM c d eX10_thrown (.ref m :: []) C287 (fun v C293 => ∃ z294 : Int32, v = some (.int z294) ∧ cle C287 C293 ∧ ((z294 = z280 → (cG c eL_law (d + 1) (cQ K) 708 [some (.ref 0), some (.ref x), some (.ref m), some (.ref ou), some (.int i), none, none] [] C293)) ∧ (¬ z294 = z280 → (K (some (.int 0)) C293))))))))))))))) ∧ (((cI C 0 j2) &&& 15) = 10 → (cT C x 9 12 ∧ (cM c d eX9_clear (.ref x :: []) C (fun v C299 => v = none ∧ cle C C299 ∧ (cT C299 m 10 59 ∧ (cM c d eX10_clear_ (.ref m :: []) C299 (fun v C305 => v = none ∧ cle C299 C305 ∧ (cG c eL_law (d + 1) (cQ K) 708 [some (.ref 0), some (.ref x), some (.ref m), some (.ref ou), some (.int i), none, none] [] C305)))))))) ∧ (((cI C 0 j2) &&& 15) = 11 → (∃ j312 : Nat, am_ix (i + 1) j312 L ∧ (cMW c d eL_run hhL_run [.ref x, .int (cI C 0 j312), .ref ou] C (fun v C314 => ∃ z315 : Int32, v = some (.int z315) ∧ cle C C314 ∧ (∃ j318 : Nat, am_ix (i + 1) j318 L ∧ (cT C314 m 10 59 ∧ (cM c d eX10_run (.ref m :: [.int (cI C314 0 j318)]) C314 (fun v C320 => ∃ z321 : Int32, v = some (.int z321) ∧ cle C314 C320 ∧ (cM c d eX10_thrown (.ref m :: []) C320 (fun v C326 => ∃ z327 : Int32, v = some (.int z327) ∧ cle C320 C326 ∧ ((z327 = z315 → ((¬ z315 = 0 → (cG c eL_law (d + 1) (cQ K) 708 [some (.ref 0), some (.ref x), some (.ref m), some (.ref ou), some (.int i), none, none] [] C326)) ∧ (z315 = 0 → (∃ n334 : Nat, cT C326 ou 21 n334 ∧ (∃ j335 : Nat, am_ix 0 j335 n334 ∧ (((lg_cmp (cJ C326 ou j335) (Int32.toInt64 z321)) = 0 → (cG c eL_law (d + 1) (cQ K) 708 [some (.ref 0), some (.ref x), some (.ref m), some (.ref ou), some (.int i), none, none] [] C326)) ∧ (¬ (lg_cmp (cJ C326 ou j335) (Int32.toInt64 z321)) = 0 → (K (some (.int 0)) C326)))))))) ∧ (¬ z327 = z315 → (K (some (.int 0)) C326))))))))))))) ∧ (((cI C 0 j2) &&& 15) = 12 → (cT C x 9 12 ∧ (cM c d eX9_steps (.ref x :: []) C (fun v C338 => ∃ z339 : Int32, v = some (.int z339) ∧ cle C C338 ∧ (cT C338 m 10 59 ∧ (cM c d eX10_steps (.ref m :: []) C338 (fun v C344 => ∃ z345 : Int32, v = some (.int z345) ∧ cle C338 C344 ∧ ((z339 = z345 → (cG c eL_law (d + 1) (cQ K) 708 [some (.ref 0), some (.ref x), some (.ref m), some (.ref ou), some (.int i), none, none] [] C344)) ∧ (¬ z339 = z345 → (K (some (.int 0)) C344)))))))))) ∧ (((cI C 0 j2) &&& 15) = 13 → (cT C x 9 12 ∧ (cM c d eX9_result (.ref x :: []) C (fun v C352 => ∃ z353 : Int32, v = some (.int z353) ∧ cle C C352 ∧ (cT C352 m 10 59 ∧ (cM c d eX10_result (.ref m :: []) C352 (fun v C358 => ∃ z359 : Int32, v = some (.int z359) ∧ cle C352 C358 ∧ ((z353 = z359 → (cG c eL_law (d + 1) (cQ K) 708 [some (.ref 0), some (.ref x), some (.ref m), some (.ref ou), some (.int i), none, none] [] C358)) ∧ (¬ z353 = z359 → (K (some (.int 0)) C358)))))))))) ∧ (((cI C 0 j2) &&& 15) = 14 → (cT C x 9 12 ∧ (cM c d eX9_count (.ref x :: []) C (fun v C366 => ∃ z367 : Int32, v = some (.int z367) ∧ cle C C366 ∧ (cT C366 m 10 59 ∧ (cM c d eX10_count (.ref m :: []) C366 (fun v C372 => ∃ z373 : Int32, v = some (.int z373) ∧ cle C366 C372 ∧ ((z367 = z373 → (cG c eL_law (d + 1) (cQ K) 708 [some (.ref 0), some (.ref x), some (.ref m), some (.ref ou), some (.int i), none, none] [] C372)) ∧ (¬ z367 = z373 → (K (some (.int 0)) C372)))))))))) ∧ (((cI C 0 j2) &&& 15) = 15 → (∃ j380 : Nat, am_ix (i + 1) j380 L ∧ (∃ j382 : Nat, am_ix (i + 2) j382 L ∧ (cMW c d eL_cell hhL_cell [.ref x, .int (cI C 0 j380), .int (cI C 0 j382), .ref ou] C (fun v C384 => ∃ z385 : Int32, v = some (.int z385) ∧ cle C C384 ∧ (∃ j388 : Nat, am_ix (i + 1) j388 L ∧ (∃ j390 : Nat, am_ix (i + 2) j390 L ∧ (cT C384 m 10 59 ∧ (cM c d eX10_cell (.ref m :: [.int (cI C384 0 j388), .int (cI C384 0 j390)]) C384 (fun v C392 => ∃ z393 : Int32, v = some (.int z393) ∧ cle C384 C392 ∧ (cM c d eX10_thrown (.ref m :: []) C392 (fun v C398 => ∃ z399 : Int32, v = some (.int z399) ∧ cle C392 C398 ∧ ((z399 = z385 → ((¬ z385 = 0 → (cG c eL_law (d + 1) (cQ K) 708 [some (.ref 0), some (.ref x), some (.ref m), some (.ref ou), some (.int i), none, none] [] C398)) ∧ (z385 = 0 → (∃ n406 : Nat, cT C398 ou 21 n406 ∧ (∃ j407 : Nat, am_ix 0 j407 n406 ∧ (((lg_cmp (cJ C398 ou j407) (Int32.toInt64 z393)) = 0 → (cG c eL_law (d + 1) (cQ K) 708 [some (.ref 0), some (.ref x), some (.ref m), some (.ref ou), some (.int i), none, none] [] C398)) ∧ (¬ (lg_cmp (cJ C398 ou j407) (Int32.toInt64 z393)) = 0 → (K (some (.int 0)) C398)))))))) ∧ (¬ z399 = z385 → (K (some (.int 0)) C398))))))))))))))) ∧ (∃ k : Nat, k < 16 ∧ ((cI C 0 j2) &&& 15) = nI k))))) : cG c eL_law (d + 1) (cQ K) 23 [some (.ref 0), some (.ref x), some (.ref m), some (.ref ou), some (.int i), none, none] [] C := by
  refine ag_iload dL_law_23 rfl ?_
  refine ag_aload_n dL_law_25 rfl (Or.inr ⟨_, rfl⟩) ?_
  refine cr_slen dL_law_26 hS0 ?_
  refine ag_iconst (v := 4) dL_law_27 rfl ?_
  refine ag_isub dL_law_28 rfl ?_
  refine ag_icmp_gt (tgt := 714) dL_law_29 rfl (fun hc1 => ?_) (fun hc1 => ?_)
  · have h := h.1 hc1
    refine ag_iconst (v := 1) dL_law_714 rfl ?_
    exact ag_ret (v := some (.int 1)) dL_law_715 ⟨_, rfl, rB_n (Or.inr rfl)⟩ ⟨_, rfl, _, rfl, h⟩ rfl
  · have h := h.2 hc1
    refine ag_aload_n dL_law_32 rfl (Or.inr ⟨_, rfl⟩) ?_
    refine ag_iload dL_law_33 rfl ?_
    obtain ⟨j2, hj3, h⟩ := h
    refine cr_sil (v := (cI C 0 j2)) dL_law_35 hS0 hj3 rfl ?_
    refine ag_bipush (v := 15) dL_law_36 (by decide) ?_
    refine ag_iand dL_law_38 rfl ?_
    obtain ⟨q410, q411, q412, q413, q414, q415, q416, q417, q418, q419, q420, q421, q422, q423, q424, q425, q426⟩ := h
    obtain ⟨k427, hk427, ek427⟩ := q426
    by_cases hk428 : ((cI C 0 j2) &&& 15) = 0
    · have h := q410 hk428
      refine ag_tableIn (tgt := 116) (off := 77) dL_law_39 (by rw [hk428]; decide) (by rw [hk428]; decide) (by rw [hk428]; decide) rfl ?_
      refine ag_aload_n dL_law_116 rfl (Or.inr ⟨_, rfl⟩) ?_
      refine ag_aload_n dL_law_117 rfl (Or.inr ⟨_, rfl⟩) ?_
      refine ag_iload dL_law_118 rfl ?_
      refine ag_iconst (v := 1) dL_law_120 rfl ?_
      refine ag_iadd dL_law_121 rfl ?_
      obtain ⟨j4, hj5, h⟩ := h
      refine cr_sil (v := (cI C 0 j4)) dL_law_122 hS0 hj5 rfl ?_
      refine ag_i2c dL_law_123 rfl ?_
      obtain ⟨hT9, h⟩ := h
      refine cr_callV (as := [.int (((Int32.toUInt32 (cI C 0 j4)) % 65536).toInt32)]) (rest := []) dL_law_124 me_X9_type mi_X9_type lk_L_52 hT9 rfl rfl (Nat.le_of_ble_eq_true rfl) ?_
      refine cM.mono h ?_
      rintro v C6 ⟨z7, rfl, hL8, h⟩
      have hT10 := cT.le (C := C) hT9 hL8
      have hS11 := cT0.le (C := C) hS0 hL8
      show cG _ _ _ _ _ _ [.int z7] _
      refine ag_aload_n dL_law_127 rfl (Or.inr ⟨_, rfl⟩) ?_
      refine ag_aload_n dL_law_128 rfl (Or.inr ⟨_, rfl⟩) ?_
      refine ag_iload dL_law_129 rfl ?_
      refine ag_iconst (v := 1) dL_law_131 rfl ?_
      refine ag_iadd dL_law_132 rfl ?_
      obtain ⟨j12, hj13, h⟩ := h
      refine cr_sil (v := (cI C6 0 j12)) dL_law_133 hS11 hj13 rfl ?_
      refine ag_i2c dL_law_134 rfl ?_
      obtain ⟨hT17, h⟩ := h
      refine cr_callV (as := [.int (((Int32.toUInt32 (cI C6 0 j12)) % 65536).toInt32)]) (rest := [.int z7]) dL_law_135 me_X10_type mi_X10_type lk_L_56 hT17 rfl rfl (Nat.le_of_ble_eq_true rfl) ?_
      refine cM.mono h ?_
      rintro v C14 ⟨z15, rfl, hL16, h⟩
      have hT18 := cT.le (C := C6) hT10 hL16
      have hT19 := cT.le (C := C6) hT17 hL16
      have hS20 := cT0.le (C := C6) hS11 hL16
      show cG _ _ _ _ _ _ [.int z15, .int z7] _
      refine ag_icmp_eq (tgt := 708) dL_law_138 rfl (fun hc21 => ?_) (fun hc21 => ?_)
      · have h := h.1 hc21
        exact h
      · have h := h.2 hc21
        refine ag_iconst (v := 0) dL_law_141 rfl ?_
        exact ag_ret (v := some (.int 0)) dL_law_142 ⟨_, rfl, rB_n (Or.inl rfl)⟩ ⟨_, rfl, _, rfl, h⟩ rfl
    by_cases hk429 : ((cI C 0 j2) &&& 15) = 1
    · have h := q411 hk429
      refine ag_tableIn (tgt := 143) (off := 104) dL_law_39 (by rw [hk429]; decide) (by rw [hk429]; decide) (by rw [hk429]; decide) rfl ?_
      refine ag_aload_n dL_law_143 rfl (Or.inr ⟨_, rfl⟩) ?_
      obtain ⟨hT25, h⟩ := h
      refine cr_callV (as := []) (rest := []) dL_law_144 me_X9_wipe mi_X9_wipe lk_L_57 hT25 rfl rfl (Nat.le_of_ble_eq_true rfl) ?_
      refine cM.mono h ?_
      rintro v C22 ⟨rfl, hL24, h⟩
      have hT26 := cT.le (C := C) hT25 hL24
      have hS27 := cT0.le (C := C) hS0 hL24
      show cG _ _ _ _ _ _ [] _
      refine ag_aload_n dL_law_147 rfl (Or.inr ⟨_, rfl⟩) ?_
      obtain ⟨hT31, h⟩ := h
      refine cr_callV (as := []) (rest := []) dL_law_148 me_X10_wipe mi_X10_wipe lk_L_60 hT31 rfl rfl (Nat.le_of_ble_eq_true rfl) ?_
      refine cM.mono h ?_
      rintro v C28 ⟨rfl, hL30, h⟩
      have hT32 := cT.le (C := C22) hT26 hL30
      have hT33 := cT.le (C := C22) hT31 hL30
      have hS34 := cT0.le (C := C22) hS27 hL30
      show cG _ _ _ _ _ _ [] _
      refine ag_goto (tgt := 708) dL_law_151 rfl ?_
      exact h
    by_cases hk430 : ((cI C 0 j2) &&& 15) = 2
    · have h := q412 hk430
      refine ag_tableIn (tgt := 154) (off := 115) dL_law_39 (by rw [hk430]; decide) (by rw [hk430]; decide) (by rw [hk430]; decide) rfl ?_
      refine ag_aload_n dL_law_154 rfl (Or.inr ⟨_, rfl⟩) ?_
      refine ag_aload_n dL_law_155 rfl (Or.inr ⟨_, rfl⟩) ?_
      refine cr_callSW (as := [.ref x, .ref ou]) (rest := []) dL_law_156 wm_L_define ms_L_define lk_L_61 rfl rfl (Nat.le_of_ble_eq_true rfl) ?_
      refine cMW.mono h ?_
      rintro v C35 ⟨z36, rfl, hL37, h⟩
      have hS38 := cT0.le (C := C) hS0 hL37
      show cG _ _ _ _ _ _ [.int z36] _
      refine ag_istore (lv2 := [some (.ref 0), some (.ref x), some (.ref m), some (.ref ou), some (.int i), some (.int z36), none]) dL_law_159 (Nat.le_of_ble_eq_true rfl) rfl ?_
      refine ag_aload_n dL_law_161 rfl (Or.inr ⟨_, rfl⟩) ?_
      obtain ⟨hT42, h⟩ := h
      refine cr_callV (as := []) (rest := []) dL_law_162 me_X10_define mi_X10_define lk_L_66 hT42 rfl rfl (Nat.le_of_ble_eq_true rfl) ?_
      refine cM.mono h ?_
      rintro v C39 ⟨z40, rfl, hL41, h⟩
      have hT43 := cT.le (C := C35) hT42 hL41
      have hS44 := cT0.le (C := C35) hS38 hL41
      show cG _ _ _ _ _ _ [.int z40] _
      refine ag_istore (lv2 := [some (.ref 0), some (.ref x), some (.ref m), some (.ref ou), some (.int i), some (.int z36), some (.int z40)]) dL_law_165 (Nat.le_of_ble_eq_true rfl) rfl ?_
      refine ag_aload_n dL_law_167 rfl (Or.inr ⟨_, rfl⟩) ?_
      refine cr_callV (as := []) (rest := []) dL_law_168 me_X10_thrown mi_X10_thrown lk_L_67 hT43 rfl rfl (Nat.le_of_ble_eq_true rfl) ?_
      refine cM.mono h ?_
      rintro v C45 ⟨z46, rfl, hL47, h⟩
      have hT48 := cT.le (C := C39) hT43 hL47
      have hS49 := cT0.le (C := C39) hS44 hL47
      show cG _ _ _ _ _ _ [.int z46] _
      refine ag_iload dL_law_171 rfl ?_
      refine ag_icmp_eq (tgt := 178) dL_law_173 rfl (fun hc50 => ?_) (fun hc50 => ?_)
      · have h := h.1 hc50
        refine ag_iload dL_law_178 rfl ?_
        refine ag_if_ne (tgt := 195) dL_law_180 rfl (fun hc51 => ?_) (fun hc51 => ?_)
        · have h := h.1 hc51
          refine ag_goto (tgt := 708) dL_law_195 rfl ?_
          refine ag_drop 5 ?_
          refine ag_drop 6 ?_
          exact h
        · have h := h.2 hc51
          refine ag_aload_n dL_law_183 rfl (Or.inr ⟨_, rfl⟩) ?_
          refine ag_iconst (v := 0) dL_law_184 rfl ?_
          obtain ⟨n53, hT52, h⟩ := h
          obtain ⟨j54, hj55, h⟩ := h
          refine cr_ll (v := (cJ C45 ou j54)) dL_law_185 hT52 hj55 rfl ?_
          refine ag_iload dL_law_186 rfl ?_
          refine ag_i2l dL_law_188 rfl ?_
          refine ag_lcmp dL_law_189 rfl ?_
          refine ag_if_eq (tgt := 195) dL_law_190 rfl (fun hc56 => ?_) (fun hc56 => ?_)
          · have h := h.1 hc56
            refine ag_goto (tgt := 708) dL_law_195 rfl ?_
            refine ag_drop 5 ?_
            refine ag_drop 6 ?_
            exact h
          · have h := h.2 hc56
            refine ag_iconst (v := 0) dL_law_193 rfl ?_
            exact ag_ret (v := some (.int 0)) dL_law_194 ⟨_, rfl, rB_n (Or.inl rfl)⟩ ⟨_, rfl, _, rfl, h⟩ rfl
      · have h := h.2 hc50
        refine ag_iconst (v := 0) dL_law_176 rfl ?_
        exact ag_ret (v := some (.int 0)) dL_law_177 ⟨_, rfl, rB_n (Or.inl rfl)⟩ ⟨_, rfl, _, rfl, h⟩ rfl
    by_cases hk431 : ((cI C 0 j2) &&& 15) = 3
    · have h := q413 hk431
      refine ag_tableIn (tgt := 198) (off := 159) dL_law_39 (by rw [hk431]; decide) (by rw [hk431]; decide) (by rw [hk431]; decide) rfl ?_
      refine ag_aload_n dL_law_198 rfl (Or.inr ⟨_, rfl⟩) ?_
      refine ag_aload_n dL_law_199 rfl (Or.inr ⟨_, rfl⟩) ?_
      refine cr_callSW (as := [.ref x, .ref ou]) (rest := []) dL_law_200 wm_L_check ms_L_check lk_L_70 rfl rfl (Nat.le_of_ble_eq_true rfl) ?_
      refine cMW.mono h ?_
      rintro v C57 ⟨z58, rfl, hL59, h⟩
      have hS60 := cT0.le (C := C) hS0 hL59
      show cG _ _ _ _ _ _ [.int z58] _
      refine ag_istore (lv2 := [some (.ref 0), some (.ref x), some (.ref m), some (.ref ou), some (.int i), some (.int z58), none]) dL_law_203 (Nat.le_of_ble_eq_true rfl) rfl ?_
      refine ag_aload_n dL_law_205 rfl (Or.inr ⟨_, rfl⟩) ?_
      obtain ⟨hT64, h⟩ := h
      refine cr_callV (as := []) (rest := []) dL_law_206 me_X10_check mi_X10_check lk_L_72 hT64 rfl rfl (Nat.le_of_ble_eq_true rfl) ?_
      refine cM.mono h ?_
      rintro v C61 ⟨z62, rfl, hL63, h⟩
      have hT65 := cT.le (C := C57) hT64 hL63
      have hS66 := cT0.le (C := C57) hS60 hL63
      show cG _ _ _ _ _ _ [.int z62] _
      refine ag_istore (lv2 := [some (.ref 0), some (.ref x), some (.ref m), some (.ref ou), some (.int i), some (.int z58), some (.int z62)]) dL_law_209 (Nat.le_of_ble_eq_true rfl) rfl ?_
      refine ag_aload_n dL_law_211 rfl (Or.inr ⟨_, rfl⟩) ?_
      refine cr_callV (as := []) (rest := []) dL_law_212 me_X10_thrown mi_X10_thrown lk_L_67 hT65 rfl rfl (Nat.le_of_ble_eq_true rfl) ?_
      refine cM.mono h ?_
      rintro v C67 ⟨z68, rfl, hL69, h⟩
      have hT70 := cT.le (C := C61) hT65 hL69
      have hS71 := cT0.le (C := C61) hS66 hL69
      show cG _ _ _ _ _ _ [.int z68] _
      refine ag_iload dL_law_215 rfl ?_
      refine ag_icmp_eq (tgt := 222) dL_law_217 rfl (fun hc72 => ?_) (fun hc72 => ?_)
      · have h := h.1 hc72
        refine ag_iload dL_law_222 rfl ?_
        refine ag_if_ne (tgt := 239) dL_law_224 rfl (fun hc73 => ?_) (fun hc73 => ?_)
        · have h := h.1 hc73
          refine ag_goto (tgt := 708) dL_law_239 rfl ?_
          refine ag_drop 5 ?_
          refine ag_drop 6 ?_
          exact h
        · have h := h.2 hc73
          refine ag_aload_n dL_law_227 rfl (Or.inr ⟨_, rfl⟩) ?_
          refine ag_iconst (v := 0) dL_law_228 rfl ?_
          obtain ⟨n75, hT74, h⟩ := h
          obtain ⟨j76, hj77, h⟩ := h
          refine cr_ll (v := (cJ C67 ou j76)) dL_law_229 hT74 hj77 rfl ?_
          refine ag_iload dL_law_230 rfl ?_
          refine ag_i2l dL_law_232 rfl ?_
          refine ag_lcmp dL_law_233 rfl ?_
          refine ag_if_eq (tgt := 239) dL_law_234 rfl (fun hc78 => ?_) (fun hc78 => ?_)
          · have h := h.1 hc78
            refine ag_goto (tgt := 708) dL_law_239 rfl ?_
            refine ag_drop 5 ?_
            refine ag_drop 6 ?_
            exact h
          · have h := h.2 hc78
            refine ag_iconst (v := 0) dL_law_237 rfl ?_
            exact ag_ret (v := some (.int 0)) dL_law_238 ⟨_, rfl, rB_n (Or.inl rfl)⟩ ⟨_, rfl, _, rfl, h⟩ rfl
      · have h := h.2 hc72
        refine ag_iconst (v := 0) dL_law_220 rfl ?_
        exact ag_ret (v := some (.int 0)) dL_law_221 ⟨_, rfl, rB_n (Or.inl rfl)⟩ ⟨_, rfl, _, rfl, h⟩ rfl
    by_cases hk432 : ((cI C 0 j2) &&& 15) = 4
    · have h := q414 hk432
      refine ag_tableIn (tgt := 242) (off := 203) dL_law_39 (by rw [hk432]; decide) (by rw [hk432]; decide) (by rw [hk432]; decide) rfl ?_
      refine ag_aload_n dL_law_242 rfl (Or.inr ⟨_, rfl⟩) ?_
      obtain ⟨hT82, h⟩ := h
      refine cr_callV (as := []) (rest := []) dL_law_243 me_X9_fault mi_X9_fault lk_L_73 hT82 rfl rfl (Nat.le_of_ble_eq_true rfl) ?_
      refine cM.mono h ?_
      rintro v C79 ⟨z80, rfl, hL81, h⟩
      have hT83 := cT.le (C := C) hT82 hL81
      have hS84 := cT0.le (C := C) hS0 hL81
      show cG _ _ _ _ _ _ [.int z80] _
      refine ag_aload_n dL_law_246 rfl (Or.inr ⟨_, rfl⟩) ?_
      obtain ⟨hT88, h⟩ := h
      refine cr_callV (as := []) (rest := [.int z80]) dL_law_247 me_X10_fault mi_X10_fault lk_L_76 hT88 rfl rfl (Nat.le_of_ble_eq_true rfl) ?_
      refine cM.mono h ?_
      rintro v C85 ⟨z86, rfl, hL87, h⟩
      have hT89 := cT.le (C := C79) hT83 hL87
      have hT90 := cT.le (C := C79) hT88 hL87
      have hS91 := cT0.le (C := C79) hS84 hL87
      show cG _ _ _ _ _ _ [.int z86, .int z80] _
      refine ag_icmp_eq (tgt := 708) dL_law_250 rfl (fun hc92 => ?_) (fun hc92 => ?_)
      · have h := h.1 hc92
        exact h
      · have h := h.2 hc92
        refine ag_iconst (v := 0) dL_law_253 rfl ?_
        exact ag_ret (v := some (.int 0)) dL_law_254 ⟨_, rfl, rB_n (Or.inl rfl)⟩ ⟨_, rfl, _, rfl, h⟩ rfl
    by_cases hk433 : ((cI C 0 j2) &&& 15) = 5
    · have h := q415 hk433
      refine ag_tableIn (tgt := 255) (off := 216) dL_law_39 (by rw [hk433]; decide) (by rw [hk433]; decide) (by rw [hk433]; decide) rfl ?_
      refine ag_aload_n dL_law_255 rfl (Or.inr ⟨_, rfl⟩) ?_
      refine ag_aload_n dL_law_256 rfl (Or.inr ⟨_, rfl⟩) ?_
      refine ag_iload dL_law_257 rfl ?_
      refine ag_iconst (v := 1) dL_law_259 rfl ?_
      refine ag_iadd dL_law_260 rfl ?_
      obtain ⟨j93, hj94, h⟩ := h
      refine cr_sil (v := (cI C 0 j93)) dL_law_261 hS0 hj94 rfl ?_
      refine ag_if_eq (tgt := 269) dL_law_262 rfl (fun hc95 => ?_) (fun hc95 => ?_)
      · have h := h.1 hc95
        refine ag_iconst (v := 0) dL_law_269 rfl ?_
        refine ag_aload_n dL_law_270 rfl (Or.inr ⟨_, rfl⟩) ?_
        refine ag_iload dL_law_271 rfl ?_
        refine ag_iconst (v := 2) dL_law_273 rfl ?_
        refine ag_iadd dL_law_274 rfl ?_
        obtain ⟨j96, hj97, h⟩ := h
        refine cr_sil (v := (cI C 0 j96)) dL_law_275 hS0 hj97 rfl ?_
        refine ag_aload_n dL_law_276 rfl (Or.inr ⟨_, rfl⟩) ?_
        refine ag_iload dL_law_277 rfl ?_
        refine ag_iconst (v := 3) dL_law_279 rfl ?_
        refine ag_iadd dL_law_280 rfl ?_
        obtain ⟨j98, hj99, h⟩ := h
        refine cr_sil (v := (cI C 0 j98)) dL_law_281 hS0 hj99 rfl ?_
        refine ag_aload_n dL_law_282 rfl (Or.inr ⟨_, rfl⟩) ?_
        refine cr_callSW (as := [.ref x, .int 0, .int (cI C 0 j96), .int (cI C 0 j98), .ref ou]) (rest := []) dL_law_283 wm_L_view ms_L_view lk_L_77 rfl rfl (Nat.le_of_ble_eq_true rfl) ?_
        refine cMW.mono h ?_
        rintro v C100 ⟨z101, rfl, hL102, h⟩
        have hS103 := cT0.le (C := C) hS0 hL102
        show cG _ _ _ _ _ _ [.int z101] _
        refine ag_istore (lv2 := [some (.ref 0), some (.ref x), some (.ref m), some (.ref ou), some (.int i), some (.int z101), none]) dL_law_286 (Nat.le_of_ble_eq_true rfl) rfl ?_
        refine ag_aload_n dL_law_288 rfl (Or.inr ⟨_, rfl⟩) ?_
        refine ag_aload_n dL_law_289 rfl (Or.inr ⟨_, rfl⟩) ?_
        refine ag_iload dL_law_290 rfl ?_
        refine ag_iconst (v := 1) dL_law_292 rfl ?_
        refine ag_iadd dL_law_293 rfl ?_
        obtain ⟨j104, hj105, h⟩ := h
        refine cr_sil (v := (cI C100 0 j104)) dL_law_294 hS103 hj105 rfl ?_
        refine ag_if_eq (tgt := 302) dL_law_295 rfl (fun hc106 => ?_) (fun hc106 => ?_)
        · have h := h.1 hc106
          refine ag_iconst (v := 0) dL_law_302 rfl ?_
          refine ag_aload_n dL_law_303 rfl (Or.inr ⟨_, rfl⟩) ?_
          refine ag_iload dL_law_304 rfl ?_
          refine ag_iconst (v := 2) dL_law_306 rfl ?_
          refine ag_iadd dL_law_307 rfl ?_
          obtain ⟨j107, hj108, h⟩ := h
          refine cr_sil (v := (cI C100 0 j107)) dL_law_308 hS103 hj108 rfl ?_
          refine ag_aload_n dL_law_309 rfl (Or.inr ⟨_, rfl⟩) ?_
          refine ag_iload dL_law_310 rfl ?_
          refine ag_iconst (v := 3) dL_law_312 rfl ?_
          refine ag_iadd dL_law_313 rfl ?_
          obtain ⟨j109, hj110, h⟩ := h
          refine cr_sil (v := (cI C100 0 j109)) dL_law_314 hS103 hj110 rfl ?_
          obtain ⟨hT114, h⟩ := h
          refine cr_callV (as := [.int 0, .int (cI C100 0 j107), .int (cI C100 0 j109)]) (rest := []) dL_law_315 me_X10_view mi_X10_view lk_L_80 hT114 rfl rfl (Nat.le_of_ble_eq_true rfl) ?_
          refine cM.mono h ?_
          rintro v C111 ⟨z112, rfl, hL113, h⟩
          have hT115 := cT.le (C := C100) hT114 hL113
          have hS116 := cT0.le (C := C100) hS103 hL113
          show cG _ _ _ _ _ _ [.int z112] _
          refine ag_istore (lv2 := [some (.ref 0), some (.ref x), some (.ref m), some (.ref ou), some (.int i), some (.int z101), some (.int z112)]) dL_law_318 (Nat.le_of_ble_eq_true rfl) rfl ?_
          refine ag_aload_n dL_law_320 rfl (Or.inr ⟨_, rfl⟩) ?_
          refine cr_callV (as := []) (rest := []) dL_law_321 me_X10_thrown mi_X10_thrown lk_L_67 hT115 rfl rfl (Nat.le_of_ble_eq_true rfl) ?_
          refine cM.mono h ?_
          rintro v C117 ⟨z118, rfl, hL119, h⟩
          have hT120 := cT.le (C := C111) hT115 hL119
          have hS121 := cT0.le (C := C111) hS116 hL119
          show cG _ _ _ _ _ _ [.int z118] _
          refine ag_iload dL_law_324 rfl ?_
          refine ag_icmp_eq (tgt := 331) dL_law_326 rfl (fun hc122 => ?_) (fun hc122 => ?_)
          · have h := h.1 hc122
            refine ag_iload dL_law_331 rfl ?_
            refine ag_if_ne (tgt := 348) dL_law_333 rfl (fun hc123 => ?_) (fun hc123 => ?_)
            · have h := h.1 hc123
              refine ag_goto (tgt := 708) dL_law_348 rfl ?_
              refine ag_drop 5 ?_
              refine ag_drop 6 ?_
              exact h
            · have h := h.2 hc123
              refine ag_aload_n dL_law_336 rfl (Or.inr ⟨_, rfl⟩) ?_
              refine ag_iconst (v := 0) dL_law_337 rfl ?_
              obtain ⟨n125, hT124, h⟩ := h
              obtain ⟨j126, hj127, h⟩ := h
              refine cr_ll (v := (cJ C117 ou j126)) dL_law_338 hT124 hj127 rfl ?_
              refine ag_iload dL_law_339 rfl ?_
              refine ag_i2l dL_law_341 rfl ?_
              refine ag_lcmp dL_law_342 rfl ?_
              refine ag_if_eq (tgt := 348) dL_law_343 rfl (fun hc128 => ?_) (fun hc128 => ?_)
              · have h := h.1 hc128
                refine ag_goto (tgt := 708) dL_law_348 rfl ?_
                refine ag_drop 5 ?_
                refine ag_drop 6 ?_
                exact h
              · have h := h.2 hc128
                refine ag_iconst (v := 0) dL_law_346 rfl ?_
                exact ag_ret (v := some (.int 0)) dL_law_347 ⟨_, rfl, rB_n (Or.inl rfl)⟩ ⟨_, rfl, _, rfl, h⟩ rfl
          · have h := h.2 hc122
            refine ag_iconst (v := 0) dL_law_329 rfl ?_
            exact ag_ret (v := some (.int 0)) dL_law_330 ⟨_, rfl, rB_n (Or.inl rfl)⟩ ⟨_, rfl, _, rfl, h⟩ rfl
        · have h := h.2 hc106
          refine ag_iconst (v := 1) dL_law_298 rfl ?_
          refine ag_goto (tgt := 303) dL_law_299 rfl ?_
          refine ag_aload_n dL_law_303 rfl (Or.inr ⟨_, rfl⟩) ?_
          refine ag_iload dL_law_304 rfl ?_
          refine ag_iconst (v := 2) dL_law_306 rfl ?_
          refine ag_iadd dL_law_307 rfl ?_
          obtain ⟨j129, hj130, h⟩ := h
          refine cr_sil (v := (cI C100 0 j129)) dL_law_308 hS103 hj130 rfl ?_
          refine ag_aload_n dL_law_309 rfl (Or.inr ⟨_, rfl⟩) ?_
          refine ag_iload dL_law_310 rfl ?_
          refine ag_iconst (v := 3) dL_law_312 rfl ?_
          refine ag_iadd dL_law_313 rfl ?_
          obtain ⟨j131, hj132, h⟩ := h
          refine cr_sil (v := (cI C100 0 j131)) dL_law_314 hS103 hj132 rfl ?_
          obtain ⟨hT136, h⟩ := h
          refine cr_callV (as := [.int 1, .int (cI C100 0 j129), .int (cI C100 0 j131)]) (rest := []) dL_law_315 me_X10_view mi_X10_view lk_L_80 hT136 rfl rfl (Nat.le_of_ble_eq_true rfl) ?_
          refine cM.mono h ?_
          rintro v C133 ⟨z134, rfl, hL135, h⟩
          have hT137 := cT.le (C := C100) hT136 hL135
          have hS138 := cT0.le (C := C100) hS103 hL135
          show cG _ _ _ _ _ _ [.int z134] _
          refine ag_istore (lv2 := [some (.ref 0), some (.ref x), some (.ref m), some (.ref ou), some (.int i), some (.int z101), some (.int z134)]) dL_law_318 (Nat.le_of_ble_eq_true rfl) rfl ?_
          refine ag_aload_n dL_law_320 rfl (Or.inr ⟨_, rfl⟩) ?_
          refine cr_callV (as := []) (rest := []) dL_law_321 me_X10_thrown mi_X10_thrown lk_L_67 hT137 rfl rfl (Nat.le_of_ble_eq_true rfl) ?_
          refine cM.mono h ?_
          rintro v C139 ⟨z140, rfl, hL141, h⟩
          have hT142 := cT.le (C := C133) hT137 hL141
          have hS143 := cT0.le (C := C133) hS138 hL141
          show cG _ _ _ _ _ _ [.int z140] _
          refine ag_iload dL_law_324 rfl ?_
          refine ag_icmp_eq (tgt := 331) dL_law_326 rfl (fun hc144 => ?_) (fun hc144 => ?_)
          · have h := h.1 hc144
            refine ag_iload dL_law_331 rfl ?_
            refine ag_if_ne (tgt := 348) dL_law_333 rfl (fun hc145 => ?_) (fun hc145 => ?_)
            · have h := h.1 hc145
              refine ag_goto (tgt := 708) dL_law_348 rfl ?_
              refine ag_drop 5 ?_
              refine ag_drop 6 ?_
              exact h
            · have h := h.2 hc145
              refine ag_aload_n dL_law_336 rfl (Or.inr ⟨_, rfl⟩) ?_
              refine ag_iconst (v := 0) dL_law_337 rfl ?_
              obtain ⟨n147, hT146, h⟩ := h
              obtain ⟨j148, hj149, h⟩ := h
              refine cr_ll (v := (cJ C139 ou j148)) dL_law_338 hT146 hj149 rfl ?_
              refine ag_iload dL_law_339 rfl ?_
              refine ag_i2l dL_law_341 rfl ?_
              refine ag_lcmp dL_law_342 rfl ?_
              refine ag_if_eq (tgt := 348) dL_law_343 rfl (fun hc150 => ?_) (fun hc150 => ?_)
              · have h := h.1 hc150
                refine ag_goto (tgt := 708) dL_law_348 rfl ?_
                refine ag_drop 5 ?_
                refine ag_drop 6 ?_
                exact h
              · have h := h.2 hc150
                refine ag_iconst (v := 0) dL_law_346 rfl ?_
                exact ag_ret (v := some (.int 0)) dL_law_347 ⟨_, rfl, rB_n (Or.inl rfl)⟩ ⟨_, rfl, _, rfl, h⟩ rfl
          · have h := h.2 hc144
            refine ag_iconst (v := 0) dL_law_329 rfl ?_
            exact ag_ret (v := some (.int 0)) dL_law_330 ⟨_, rfl, rB_n (Or.inl rfl)⟩ ⟨_, rfl, _, rfl, h⟩ rfl
      · have h := h.2 hc95
        refine ag_iconst (v := 1) dL_law_265 rfl ?_
        refine ag_goto (tgt := 270) dL_law_266 rfl ?_
        refine ag_aload_n dL_law_270 rfl (Or.inr ⟨_, rfl⟩) ?_
        refine ag_iload dL_law_271 rfl ?_
        refine ag_iconst (v := 2) dL_law_273 rfl ?_
        refine ag_iadd dL_law_274 rfl ?_
        obtain ⟨j151, hj152, h⟩ := h
        refine cr_sil (v := (cI C 0 j151)) dL_law_275 hS0 hj152 rfl ?_
        refine ag_aload_n dL_law_276 rfl (Or.inr ⟨_, rfl⟩) ?_
        refine ag_iload dL_law_277 rfl ?_
        refine ag_iconst (v := 3) dL_law_279 rfl ?_
        refine ag_iadd dL_law_280 rfl ?_
        obtain ⟨j153, hj154, h⟩ := h
        refine cr_sil (v := (cI C 0 j153)) dL_law_281 hS0 hj154 rfl ?_
        refine ag_aload_n dL_law_282 rfl (Or.inr ⟨_, rfl⟩) ?_
        refine cr_callSW (as := [.ref x, .int 1, .int (cI C 0 j151), .int (cI C 0 j153), .ref ou]) (rest := []) dL_law_283 wm_L_view ms_L_view lk_L_77 rfl rfl (Nat.le_of_ble_eq_true rfl) ?_
        refine cMW.mono h ?_
        rintro v C155 ⟨z156, rfl, hL157, h⟩
        have hS158 := cT0.le (C := C) hS0 hL157
        show cG _ _ _ _ _ _ [.int z156] _
        refine ag_istore (lv2 := [some (.ref 0), some (.ref x), some (.ref m), some (.ref ou), some (.int i), some (.int z156), none]) dL_law_286 (Nat.le_of_ble_eq_true rfl) rfl ?_
        refine ag_aload_n dL_law_288 rfl (Or.inr ⟨_, rfl⟩) ?_
        refine ag_aload_n dL_law_289 rfl (Or.inr ⟨_, rfl⟩) ?_
        refine ag_iload dL_law_290 rfl ?_
        refine ag_iconst (v := 1) dL_law_292 rfl ?_
        refine ag_iadd dL_law_293 rfl ?_
        obtain ⟨j159, hj160, h⟩ := h
        refine cr_sil (v := (cI C155 0 j159)) dL_law_294 hS158 hj160 rfl ?_
        refine ag_if_eq (tgt := 302) dL_law_295 rfl (fun hc161 => ?_) (fun hc161 => ?_)
        · have h := h.1 hc161
          refine ag_iconst (v := 0) dL_law_302 rfl ?_
          refine ag_aload_n dL_law_303 rfl (Or.inr ⟨_, rfl⟩) ?_
          refine ag_iload dL_law_304 rfl ?_
          refine ag_iconst (v := 2) dL_law_306 rfl ?_
          refine ag_iadd dL_law_307 rfl ?_
          obtain ⟨j162, hj163, h⟩ := h
          refine cr_sil (v := (cI C155 0 j162)) dL_law_308 hS158 hj163 rfl ?_
          refine ag_aload_n dL_law_309 rfl (Or.inr ⟨_, rfl⟩) ?_
          refine ag_iload dL_law_310 rfl ?_
          refine ag_iconst (v := 3) dL_law_312 rfl ?_
          refine ag_iadd dL_law_313 rfl ?_
          obtain ⟨j164, hj165, h⟩ := h
          refine cr_sil (v := (cI C155 0 j164)) dL_law_314 hS158 hj165 rfl ?_
          obtain ⟨hT169, h⟩ := h
          refine cr_callV (as := [.int 0, .int (cI C155 0 j162), .int (cI C155 0 j164)]) (rest := []) dL_law_315 me_X10_view mi_X10_view lk_L_80 hT169 rfl rfl (Nat.le_of_ble_eq_true rfl) ?_
          refine cM.mono h ?_
          rintro v C166 ⟨z167, rfl, hL168, h⟩
          have hT170 := cT.le (C := C155) hT169 hL168
          have hS171 := cT0.le (C := C155) hS158 hL168
          show cG _ _ _ _ _ _ [.int z167] _
          refine ag_istore (lv2 := [some (.ref 0), some (.ref x), some (.ref m), some (.ref ou), some (.int i), some (.int z156), some (.int z167)]) dL_law_318 (Nat.le_of_ble_eq_true rfl) rfl ?_
          refine ag_aload_n dL_law_320 rfl (Or.inr ⟨_, rfl⟩) ?_
          refine cr_callV (as := []) (rest := []) dL_law_321 me_X10_thrown mi_X10_thrown lk_L_67 hT170 rfl rfl (Nat.le_of_ble_eq_true rfl) ?_
          refine cM.mono h ?_
          rintro v C172 ⟨z173, rfl, hL174, h⟩
          have hT175 := cT.le (C := C166) hT170 hL174
          have hS176 := cT0.le (C := C166) hS171 hL174
          show cG _ _ _ _ _ _ [.int z173] _
          refine ag_iload dL_law_324 rfl ?_
          refine ag_icmp_eq (tgt := 331) dL_law_326 rfl (fun hc177 => ?_) (fun hc177 => ?_)
          · have h := h.1 hc177
            refine ag_iload dL_law_331 rfl ?_
            refine ag_if_ne (tgt := 348) dL_law_333 rfl (fun hc178 => ?_) (fun hc178 => ?_)
            · have h := h.1 hc178
              refine ag_goto (tgt := 708) dL_law_348 rfl ?_
              refine ag_drop 5 ?_
              refine ag_drop 6 ?_
              exact h
            · have h := h.2 hc178
              refine ag_aload_n dL_law_336 rfl (Or.inr ⟨_, rfl⟩) ?_
              refine ag_iconst (v := 0) dL_law_337 rfl ?_
              obtain ⟨n180, hT179, h⟩ := h
              obtain ⟨j181, hj182, h⟩ := h
              refine cr_ll (v := (cJ C172 ou j181)) dL_law_338 hT179 hj182 rfl ?_
              refine ag_iload dL_law_339 rfl ?_
              refine ag_i2l dL_law_341 rfl ?_
              refine ag_lcmp dL_law_342 rfl ?_
              refine ag_if_eq (tgt := 348) dL_law_343 rfl (fun hc183 => ?_) (fun hc183 => ?_)
              · have h := h.1 hc183
                refine ag_goto (tgt := 708) dL_law_348 rfl ?_
                refine ag_drop 5 ?_
                refine ag_drop 6 ?_
                exact h
              · have h := h.2 hc183
                refine ag_iconst (v := 0) dL_law_346 rfl ?_
                exact ag_ret (v := some (.int 0)) dL_law_347 ⟨_, rfl, rB_n (Or.inl rfl)⟩ ⟨_, rfl, _, rfl, h⟩ rfl
          · have h := h.2 hc177
            refine ag_iconst (v := 0) dL_law_329 rfl ?_
            exact ag_ret (v := some (.int 0)) dL_law_330 ⟨_, rfl, rB_n (Or.inl rfl)⟩ ⟨_, rfl, _, rfl, h⟩ rfl
        · have h := h.2 hc161
          refine ag_iconst (v := 1) dL_law_298 rfl ?_
          refine ag_goto (tgt := 303) dL_law_299 rfl ?_
          refine ag_aload_n dL_law_303 rfl (Or.inr ⟨_, rfl⟩) ?_
          refine ag_iload dL_law_304 rfl ?_
          refine ag_iconst (v := 2) dL_law_306 rfl ?_
          refine ag_iadd dL_law_307 rfl ?_
          obtain ⟨j184, hj185, h⟩ := h
          refine cr_sil (v := (cI C155 0 j184)) dL_law_308 hS158 hj185 rfl ?_
          refine ag_aload_n dL_law_309 rfl (Or.inr ⟨_, rfl⟩) ?_
          refine ag_iload dL_law_310 rfl ?_
          refine ag_iconst (v := 3) dL_law_312 rfl ?_
          refine ag_iadd dL_law_313 rfl ?_
          obtain ⟨j186, hj187, h⟩ := h
          refine cr_sil (v := (cI C155 0 j186)) dL_law_314 hS158 hj187 rfl ?_
          obtain ⟨hT191, h⟩ := h
          refine cr_callV (as := [.int 1, .int (cI C155 0 j184), .int (cI C155 0 j186)]) (rest := []) dL_law_315 me_X10_view mi_X10_view lk_L_80 hT191 rfl rfl (Nat.le_of_ble_eq_true rfl) ?_
          refine cM.mono h ?_
          rintro v C188 ⟨z189, rfl, hL190, h⟩
          have hT192 := cT.le (C := C155) hT191 hL190
          have hS193 := cT0.le (C := C155) hS158 hL190
          show cG _ _ _ _ _ _ [.int z189] _
          refine ag_istore (lv2 := [some (.ref 0), some (.ref x), some (.ref m), some (.ref ou), some (.int i), some (.int z156), some (.int z189)]) dL_law_318 (Nat.le_of_ble_eq_true rfl) rfl ?_
          refine ag_aload_n dL_law_320 rfl (Or.inr ⟨_, rfl⟩) ?_
          refine cr_callV (as := []) (rest := []) dL_law_321 me_X10_thrown mi_X10_thrown lk_L_67 hT192 rfl rfl (Nat.le_of_ble_eq_true rfl) ?_
          refine cM.mono h ?_
          rintro v C194 ⟨z195, rfl, hL196, h⟩
          have hT197 := cT.le (C := C188) hT192 hL196
          have hS198 := cT0.le (C := C188) hS193 hL196
          show cG _ _ _ _ _ _ [.int z195] _
          refine ag_iload dL_law_324 rfl ?_
          refine ag_icmp_eq (tgt := 331) dL_law_326 rfl (fun hc199 => ?_) (fun hc199 => ?_)
          · have h := h.1 hc199
            refine ag_iload dL_law_331 rfl ?_
            refine ag_if_ne (tgt := 348) dL_law_333 rfl (fun hc200 => ?_) (fun hc200 => ?_)
            · have h := h.1 hc200
              refine ag_goto (tgt := 708) dL_law_348 rfl ?_
              refine ag_drop 5 ?_
              refine ag_drop 6 ?_
              exact h
            · have h := h.2 hc200
              refine ag_aload_n dL_law_336 rfl (Or.inr ⟨_, rfl⟩) ?_
              refine ag_iconst (v := 0) dL_law_337 rfl ?_
              obtain ⟨n202, hT201, h⟩ := h
              obtain ⟨j203, hj204, h⟩ := h
              refine cr_ll (v := (cJ C194 ou j203)) dL_law_338 hT201 hj204 rfl ?_
              refine ag_iload dL_law_339 rfl ?_
              refine ag_i2l dL_law_341 rfl ?_
              refine ag_lcmp dL_law_342 rfl ?_
              refine ag_if_eq (tgt := 348) dL_law_343 rfl (fun hc205 => ?_) (fun hc205 => ?_)
              · have h := h.1 hc205
                refine ag_goto (tgt := 708) dL_law_348 rfl ?_
                refine ag_drop 5 ?_
                refine ag_drop 6 ?_
                exact h
              · have h := h.2 hc205
                refine ag_iconst (v := 0) dL_law_346 rfl ?_
                exact ag_ret (v := some (.int 0)) dL_law_347 ⟨_, rfl, rB_n (Or.inl rfl)⟩ ⟨_, rfl, _, rfl, h⟩ rfl
          · have h := h.2 hc199
            refine ag_iconst (v := 0) dL_law_329 rfl ?_
            exact ag_ret (v := some (.int 0)) dL_law_330 ⟨_, rfl, rB_n (Or.inl rfl)⟩ ⟨_, rfl, _, rfl, h⟩ rfl
    by_cases hk434 : ((cI C 0 j2) &&& 15) = 6
    · have h := q416 hk434
      refine ag_tableIn (tgt := 351) (off := 312) dL_law_39 (by rw [hk434]; decide) (by rw [hk434]; decide) (by rw [hk434]; decide) rfl ?_
      refine ag_aload_n dL_law_351 rfl (Or.inr ⟨_, rfl⟩) ?_
      obtain ⟨hT209, h⟩ := h
      refine cr_callV (as := []) (rest := []) dL_law_352 me_X9_forget mi_X9_forget lk_L_81 hT209 rfl rfl (Nat.le_of_ble_eq_true rfl) ?_
      refine cM.mono h ?_
      rintro v C206 ⟨rfl, hL208, h⟩
      have hT210 := cT.le (C := C) hT209 hL208
      have hS211 := cT0.le (C := C) hS0 hL208
      show cG _ _ _ _ _ _ [] _
      refine ag_aload_n dL_law_355 rfl (Or.inr ⟨_, rfl⟩) ?_
      obtain ⟨hT215, h⟩ := h
      refine cr_callV (as := []) (rest := []) dL_law_356 me_X10_forget mi_X10_forget lk_L_84 hT215 rfl rfl (Nat.le_of_ble_eq_true rfl) ?_
      refine cM.mono h ?_
      rintro v C212 ⟨rfl, hL214, h⟩
      have hT216 := cT.le (C := C206) hT210 hL214
      have hT217 := cT.le (C := C206) hT215 hL214
      have hS218 := cT0.le (C := C206) hS211 hL214
      show cG _ _ _ _ _ _ [] _
      refine ag_goto (tgt := 708) dL_law_359 rfl ?_
      exact h
    by_cases hk435 : ((cI C 0 j2) &&& 15) = 7
    · have h := q417 hk435
      refine ag_tableIn (tgt := 362) (off := 323) dL_law_39 (by rw [hk435]; decide) (by rw [hk435]; decide) (by rw [hk435]; decide) rfl ?_
      refine ag_aload_n dL_law_362 rfl (Or.inr ⟨_, rfl⟩) ?_
      refine ag_aload_n dL_law_363 rfl (Or.inr ⟨_, rfl⟩) ?_
      refine ag_iload dL_law_364 rfl ?_
      refine ag_iconst (v := 1) dL_law_366 rfl ?_
      refine ag_iadd dL_law_367 rfl ?_
      obtain ⟨j219, hj220, h⟩ := h
      refine cr_sil (v := (cI C 0 j219)) dL_law_368 hS0 hj220 rfl ?_
      refine ag_aload_n dL_law_369 rfl (Or.inr ⟨_, rfl⟩) ?_
      refine cr_callSW (as := [.ref x, .int (cI C 0 j219), .ref ou]) (rest := []) dL_law_370 wm_L_number ms_L_number lk_L_85 rfl rfl (Nat.le_of_ble_eq_true rfl) ?_
      refine cMW.mono h ?_
      rintro v C221 ⟨z222, rfl, hL223, h⟩
      have hS224 := cT0.le (C := C) hS0 hL223
      show cG _ _ _ _ _ _ [.int z222] _
      refine ag_istore (lv2 := [some (.ref 0), some (.ref x), some (.ref m), some (.ref ou), some (.int i), some (.int z222), none]) dL_law_373 (Nat.le_of_ble_eq_true rfl) rfl ?_
      refine ag_aload_n dL_law_375 rfl (Or.inr ⟨_, rfl⟩) ?_
      refine ag_aload_n dL_law_376 rfl (Or.inr ⟨_, rfl⟩) ?_
      refine ag_iload dL_law_377 rfl ?_
      refine ag_iconst (v := 1) dL_law_379 rfl ?_
      refine ag_iadd dL_law_380 rfl ?_
      obtain ⟨j225, hj226, h⟩ := h
      refine cr_sil (v := (cI C221 0 j225)) dL_law_381 hS224 hj226 rfl ?_
      obtain ⟨hT230, h⟩ := h
      refine cr_callV (as := [.int (cI C221 0 j225)]) (rest := []) dL_law_382 me_X10_number mi_X10_number lk_L_88 hT230 rfl rfl (Nat.le_of_ble_eq_true rfl) ?_
      refine cM.mono h ?_
      rintro v C227 ⟨z228, rfl, hL229, h⟩
      have hT231 := cT.le (C := C221) hT230 hL229
      have hS232 := cT0.le (C := C221) hS224 hL229
      show cG _ _ _ _ _ _ [.int z228] _
      refine ag_istore (lv2 := [some (.ref 0), some (.ref x), some (.ref m), some (.ref ou), some (.int i), some (.int z222), some (.int z228)]) dL_law_385 (Nat.le_of_ble_eq_true rfl) rfl ?_
      refine ag_aload_n dL_law_387 rfl (Or.inr ⟨_, rfl⟩) ?_
      refine cr_callV (as := []) (rest := []) dL_law_388 me_X10_thrown mi_X10_thrown lk_L_67 hT231 rfl rfl (Nat.le_of_ble_eq_true rfl) ?_
      refine cM.mono h ?_
      rintro v C233 ⟨z234, rfl, hL235, h⟩
      have hT236 := cT.le (C := C227) hT231 hL235
      have hS237 := cT0.le (C := C227) hS232 hL235
      show cG _ _ _ _ _ _ [.int z234] _
      refine ag_iload dL_law_391 rfl ?_
      refine ag_icmp_eq (tgt := 398) dL_law_393 rfl (fun hc238 => ?_) (fun hc238 => ?_)
      · have h := h.1 hc238
        refine ag_iload dL_law_398 rfl ?_
        refine ag_if_ne (tgt := 415) dL_law_400 rfl (fun hc239 => ?_) (fun hc239 => ?_)
        · have h := h.1 hc239
          refine ag_goto (tgt := 708) dL_law_415 rfl ?_
          refine ag_drop 5 ?_
          refine ag_drop 6 ?_
          exact h
        · have h := h.2 hc239
          refine ag_aload_n dL_law_403 rfl (Or.inr ⟨_, rfl⟩) ?_
          refine ag_iconst (v := 0) dL_law_404 rfl ?_
          obtain ⟨n241, hT240, h⟩ := h
          obtain ⟨j242, hj243, h⟩ := h
          refine cr_ll (v := (cJ C233 ou j242)) dL_law_405 hT240 hj243 rfl ?_
          refine ag_iload dL_law_406 rfl ?_
          refine ag_i2l dL_law_408 rfl ?_
          refine ag_lcmp dL_law_409 rfl ?_
          refine ag_if_eq (tgt := 415) dL_law_410 rfl (fun hc244 => ?_) (fun hc244 => ?_)
          · have h := h.1 hc244
            refine ag_goto (tgt := 708) dL_law_415 rfl ?_
            refine ag_drop 5 ?_
            refine ag_drop 6 ?_
            exact h
          · have h := h.2 hc244
            refine ag_iconst (v := 0) dL_law_413 rfl ?_
            exact ag_ret (v := some (.int 0)) dL_law_414 ⟨_, rfl, rB_n (Or.inl rfl)⟩ ⟨_, rfl, _, rfl, h⟩ rfl
      · have h := h.2 hc238
        refine ag_iconst (v := 0) dL_law_396 rfl ?_
        exact ag_ret (v := some (.int 0)) dL_law_397 ⟨_, rfl, rB_n (Or.inl rfl)⟩ ⟨_, rfl, _, rfl, h⟩ rfl
    by_cases hk436 : ((cI C 0 j2) &&& 15) = 8
    · have h := q418 hk436
      refine ag_tableIn (tgt := 418) (off := 379) dL_law_39 (by rw [hk436]; decide) (by rw [hk436]; decide) (by rw [hk436]; decide) rfl ?_
      refine ag_aload_n dL_law_418 rfl (Or.inr ⟨_, rfl⟩) ?_
      refine ag_aload_n dL_law_419 rfl (Or.inr ⟨_, rfl⟩) ?_
      refine ag_iload dL_law_420 rfl ?_
      refine ag_iconst (v := 1) dL_law_422 rfl ?_
      refine ag_iadd dL_law_423 rfl ?_
      obtain ⟨j245, hj246, h⟩ := h
      refine cr_sil (v := (cI C 0 j245)) dL_law_424 hS0 hj246 rfl ?_
      refine ag_aload_n dL_law_425 rfl (Or.inr ⟨_, rfl⟩) ?_
      refine ag_iload dL_law_426 rfl ?_
      refine ag_iconst (v := 2) dL_law_428 rfl ?_
      refine ag_iadd dL_law_429 rfl ?_
      obtain ⟨j247, hj248, h⟩ := h
      refine cr_sil (v := (cI C 0 j247)) dL_law_430 hS0 hj248 rfl ?_
      refine ag_aload_n dL_law_431 rfl (Or.inr ⟨_, rfl⟩) ?_
      refine cr_callSW (as := [.ref x, .int (cI C 0 j245), .int (cI C 0 j247), .ref ou]) (rest := []) dL_law_432 wm_L_pair ms_L_pair lk_L_89 rfl rfl (Nat.le_of_ble_eq_true rfl) ?_
      refine cMW.mono h ?_
      rintro v C249 ⟨z250, rfl, hL251, h⟩
      have hS252 := cT0.le (C := C) hS0 hL251
      show cG _ _ _ _ _ _ [.int z250] _
      refine ag_istore (lv2 := [some (.ref 0), some (.ref x), some (.ref m), some (.ref ou), some (.int i), some (.int z250), none]) dL_law_435 (Nat.le_of_ble_eq_true rfl) rfl ?_
      refine ag_aload_n dL_law_437 rfl (Or.inr ⟨_, rfl⟩) ?_
      refine ag_aload_n dL_law_438 rfl (Or.inr ⟨_, rfl⟩) ?_
      refine ag_iload dL_law_439 rfl ?_
      refine ag_iconst (v := 1) dL_law_441 rfl ?_
      refine ag_iadd dL_law_442 rfl ?_
      obtain ⟨j253, hj254, h⟩ := h
      refine cr_sil (v := (cI C249 0 j253)) dL_law_443 hS252 hj254 rfl ?_
      refine ag_aload_n dL_law_444 rfl (Or.inr ⟨_, rfl⟩) ?_
      refine ag_iload dL_law_445 rfl ?_
      refine ag_iconst (v := 2) dL_law_447 rfl ?_
      refine ag_iadd dL_law_448 rfl ?_
      obtain ⟨j255, hj256, h⟩ := h
      refine cr_sil (v := (cI C249 0 j255)) dL_law_449 hS252 hj256 rfl ?_
      obtain ⟨hT260, h⟩ := h
      refine cr_callV (as := [.int (cI C249 0 j253), .int (cI C249 0 j255)]) (rest := []) dL_law_450 me_X10_pair mi_X10_pair lk_L_92 hT260 rfl rfl (Nat.le_of_ble_eq_true rfl) ?_
      refine cM.mono h ?_
      rintro v C257 ⟨z258, rfl, hL259, h⟩
      have hT261 := cT.le (C := C249) hT260 hL259
      have hS262 := cT0.le (C := C249) hS252 hL259
      show cG _ _ _ _ _ _ [.int z258] _
      refine ag_istore (lv2 := [some (.ref 0), some (.ref x), some (.ref m), some (.ref ou), some (.int i), some (.int z250), some (.int z258)]) dL_law_453 (Nat.le_of_ble_eq_true rfl) rfl ?_
      refine ag_aload_n dL_law_455 rfl (Or.inr ⟨_, rfl⟩) ?_
      refine cr_callV (as := []) (rest := []) dL_law_456 me_X10_thrown mi_X10_thrown lk_L_67 hT261 rfl rfl (Nat.le_of_ble_eq_true rfl) ?_
      refine cM.mono h ?_
      rintro v C263 ⟨z264, rfl, hL265, h⟩
      have hT266 := cT.le (C := C257) hT261 hL265
      have hS267 := cT0.le (C := C257) hS262 hL265
      show cG _ _ _ _ _ _ [.int z264] _
      refine ag_iload dL_law_459 rfl ?_
      refine ag_icmp_eq (tgt := 466) dL_law_461 rfl (fun hc268 => ?_) (fun hc268 => ?_)
      · have h := h.1 hc268
        refine ag_iload dL_law_466 rfl ?_
        refine ag_if_ne (tgt := 483) dL_law_468 rfl (fun hc269 => ?_) (fun hc269 => ?_)
        · have h := h.1 hc269
          refine ag_goto (tgt := 708) dL_law_483 rfl ?_
          refine ag_drop 5 ?_
          refine ag_drop 6 ?_
          exact h
        · have h := h.2 hc269
          refine ag_aload_n dL_law_471 rfl (Or.inr ⟨_, rfl⟩) ?_
          refine ag_iconst (v := 0) dL_law_472 rfl ?_
          obtain ⟨n271, hT270, h⟩ := h
          obtain ⟨j272, hj273, h⟩ := h
          refine cr_ll (v := (cJ C263 ou j272)) dL_law_473 hT270 hj273 rfl ?_
          refine ag_iload dL_law_474 rfl ?_
          refine ag_i2l dL_law_476 rfl ?_
          refine ag_lcmp dL_law_477 rfl ?_
          refine ag_if_eq (tgt := 483) dL_law_478 rfl (fun hc274 => ?_) (fun hc274 => ?_)
          · have h := h.1 hc274
            refine ag_goto (tgt := 708) dL_law_483 rfl ?_
            refine ag_drop 5 ?_
            refine ag_drop 6 ?_
            exact h
          · have h := h.2 hc274
            refine ag_iconst (v := 0) dL_law_481 rfl ?_
            exact ag_ret (v := some (.int 0)) dL_law_482 ⟨_, rfl, rB_n (Or.inl rfl)⟩ ⟨_, rfl, _, rfl, h⟩ rfl
      · have h := h.2 hc268
        refine ag_iconst (v := 0) dL_law_464 rfl ?_
        exact ag_ret (v := some (.int 0)) dL_law_465 ⟨_, rfl, rB_n (Or.inl rfl)⟩ ⟨_, rfl, _, rfl, h⟩ rfl
    by_cases hk437 : ((cI C 0 j2) &&& 15) = 9
    · have h := q419 hk437
      refine ag_tableIn (tgt := 486) (off := 447) dL_law_39 (by rw [hk437]; decide) (by rw [hk437]; decide) (by rw [hk437]; decide) rfl ?_
      refine ag_aload_n dL_law_486 rfl (Or.inr ⟨_, rfl⟩) ?_
      refine ag_aload_n dL_law_487 rfl (Or.inr ⟨_, rfl⟩) ?_
      refine ag_iload dL_law_488 rfl ?_
      refine ag_iconst (v := 1) dL_law_490 rfl ?_
      refine ag_iadd dL_law_491 rfl ?_
      obtain ⟨j275, hj276, h⟩ := h
      refine cr_sil (v := (cI C 0 j275)) dL_law_492 hS0 hj276 rfl ?_
      refine ag_aload_n dL_law_493 rfl (Or.inr ⟨_, rfl⟩) ?_
      refine ag_iload dL_law_494 rfl ?_
      refine ag_iconst (v := 2) dL_law_496 rfl ?_
      refine ag_iadd dL_law_497 rfl ?_
      obtain ⟨j277, hj278, h⟩ := h
      refine cr_sil (v := (cI C 0 j277)) dL_law_498 hS0 hj278 rfl ?_
      refine cr_callSW (as := [.ref x, .int (cI C 0 j275), .int (cI C 0 j277)]) (rest := []) dL_law_499 wm_L_input ms_L_input lk_L_93 rfl rfl (Nat.le_of_ble_eq_true rfl) ?_
      refine cMW.mono h ?_
      rintro v C279 ⟨z280, rfl, hL281, h⟩
      have hS282 := cT0.le (C := C) hS0 hL281
      show cG _ _ _ _ _ _ [.int z280] _
      refine ag_istore (lv2 := [some (.ref 0), some (.ref x), some (.ref m), some (.ref ou), some (.int i), some (.int z280), none]) dL_law_502 (Nat.le_of_ble_eq_true rfl) rfl ?_
      refine ag_aload_n dL_law_504 rfl (Or.inr ⟨_, rfl⟩) ?_
      refine ag_aload_n dL_law_505 rfl (Or.inr ⟨_, rfl⟩) ?_
      refine ag_iload dL_law_506 rfl ?_
      refine ag_iconst (v := 1) dL_law_508 rfl ?_
      refine ag_iadd dL_law_509 rfl ?_
      obtain ⟨j283, hj284, h⟩ := h
      refine cr_sil (v := (cI C279 0 j283)) dL_law_510 hS282 hj284 rfl ?_
      refine ag_aload_n dL_law_511 rfl (Or.inr ⟨_, rfl⟩) ?_
      refine ag_iload dL_law_512 rfl ?_
      refine ag_iconst (v := 2) dL_law_514 rfl ?_
      refine ag_iadd dL_law_515 rfl ?_
      obtain ⟨j285, hj286, h⟩ := h
      refine cr_sil (v := (cI C279 0 j285)) dL_law_516 hS282 hj286 rfl ?_
      obtain ⟨hT290, h⟩ := h
      refine cr_callV (as := [.int (cI C279 0 j283), .int (cI C279 0 j285)]) (rest := []) dL_law_517 me_X10_input mi_X10_input lk_L_96 hT290 rfl rfl (Nat.le_of_ble_eq_true rfl) ?_
      refine cM.mono h ?_
      rintro v C287 ⟨rfl, hL289, h⟩
      have hT291 := cT.le (C := C279) hT290 hL289
      have hS292 := cT0.le (C := C279) hS282 hL289
      show cG _ _ _ _ _ _ [] _
      refine ag_aload_n dL_law_520 rfl (Or.inr ⟨_, rfl⟩) ?_
      refine cr_callV (as := []) (rest := []) dL_law_521 me_X10_thrown mi_X10_thrown lk_L_67 hT291 rfl rfl (Nat.le_of_ble_eq_true rfl) ?_
      refine cM.mono h ?_
      rintro v C293 ⟨z294, rfl, hL295, h⟩
      have hT296 := cT.le (C := C287) hT291 hL295
      have hS297 := cT0.le (C := C287) hS292 hL295
      show cG _ _ _ _ _ _ [.int z294] _
      refine ag_iload dL_law_524 rfl ?_
      refine ag_icmp_eq (tgt := 531) dL_law_526 rfl (fun hc298 => ?_) (fun hc298 => ?_)
      · have h := h.1 hc298
        refine ag_goto (tgt := 708) dL_law_531 rfl ?_
        refine ag_drop 5 ?_
        exact h
      · have h := h.2 hc298
        refine ag_iconst (v := 0) dL_law_529 rfl ?_
        exact ag_ret (v := some (.int 0)) dL_law_530 ⟨_, rfl, rB_n (Or.inl rfl)⟩ ⟨_, rfl, _, rfl, h⟩ rfl
    by_cases hk438 : ((cI C 0 j2) &&& 15) = 10
    · have h := q420 hk438
      refine ag_tableIn (tgt := 534) (off := 495) dL_law_39 (by rw [hk438]; decide) (by rw [hk438]; decide) (by rw [hk438]; decide) rfl ?_
      refine ag_aload_n dL_law_534 rfl (Or.inr ⟨_, rfl⟩) ?_
      obtain ⟨hT302, h⟩ := h
      refine cr_callV (as := []) (rest := []) dL_law_535 me_X9_clear mi_X9_clear lk_L_97 hT302 rfl rfl (Nat.le_of_ble_eq_true rfl) ?_
      refine cM.mono h ?_
      rintro v C299 ⟨rfl, hL301, h⟩
      have hT303 := cT.le (C := C) hT302 hL301
      have hS304 := cT0.le (C := C) hS0 hL301
      show cG _ _ _ _ _ _ [] _
      refine ag_aload_n dL_law_538 rfl (Or.inr ⟨_, rfl⟩) ?_
      obtain ⟨hT308, h⟩ := h
      refine cr_callV (as := []) (rest := []) dL_law_539 me_X10_clear_ mi_X10_clear_ lk_L_100 hT308 rfl rfl (Nat.le_of_ble_eq_true rfl) ?_
      refine cM.mono h ?_
      rintro v C305 ⟨rfl, hL307, h⟩
      have hT309 := cT.le (C := C299) hT303 hL307
      have hT310 := cT.le (C := C299) hT308 hL307
      have hS311 := cT0.le (C := C299) hS304 hL307
      show cG _ _ _ _ _ _ [] _
      refine ag_goto (tgt := 708) dL_law_542 rfl ?_
      exact h
    by_cases hk439 : ((cI C 0 j2) &&& 15) = 11
    · have h := q421 hk439
      refine ag_tableIn (tgt := 545) (off := 506) dL_law_39 (by rw [hk439]; decide) (by rw [hk439]; decide) (by rw [hk439]; decide) rfl ?_
      refine ag_aload_n dL_law_545 rfl (Or.inr ⟨_, rfl⟩) ?_
      refine ag_aload_n dL_law_546 rfl (Or.inr ⟨_, rfl⟩) ?_
      refine ag_iload dL_law_547 rfl ?_
      refine ag_iconst (v := 1) dL_law_549 rfl ?_
      refine ag_iadd dL_law_550 rfl ?_
      obtain ⟨j312, hj313, h⟩ := h
      refine cr_sil (v := (cI C 0 j312)) dL_law_551 hS0 hj313 rfl ?_
      refine ag_aload_n dL_law_552 rfl (Or.inr ⟨_, rfl⟩) ?_
      refine cr_callSW (as := [.ref x, .int (cI C 0 j312), .ref ou]) (rest := []) dL_law_553 wm_L_run ms_L_run lk_L_101 rfl rfl (Nat.le_of_ble_eq_true rfl) ?_
      refine cMW.mono h ?_
      rintro v C314 ⟨z315, rfl, hL316, h⟩
      have hS317 := cT0.le (C := C) hS0 hL316
      show cG _ _ _ _ _ _ [.int z315] _
      refine ag_istore (lv2 := [some (.ref 0), some (.ref x), some (.ref m), some (.ref ou), some (.int i), some (.int z315), none]) dL_law_556 (Nat.le_of_ble_eq_true rfl) rfl ?_
      refine ag_aload_n dL_law_558 rfl (Or.inr ⟨_, rfl⟩) ?_
      refine ag_aload_n dL_law_559 rfl (Or.inr ⟨_, rfl⟩) ?_
      refine ag_iload dL_law_560 rfl ?_
      refine ag_iconst (v := 1) dL_law_562 rfl ?_
      refine ag_iadd dL_law_563 rfl ?_
      obtain ⟨j318, hj319, h⟩ := h
      refine cr_sil (v := (cI C314 0 j318)) dL_law_564 hS317 hj319 rfl ?_
      obtain ⟨hT323, h⟩ := h
      refine cr_callV (as := [.int (cI C314 0 j318)]) (rest := []) dL_law_565 me_X10_run mi_X10_run lk_L_103 hT323 rfl rfl (Nat.le_of_ble_eq_true rfl) ?_
      refine cM.mono h ?_
      rintro v C320 ⟨z321, rfl, hL322, h⟩
      have hT324 := cT.le (C := C314) hT323 hL322
      have hS325 := cT0.le (C := C314) hS317 hL322
      show cG _ _ _ _ _ _ [.int z321] _
      refine ag_istore (lv2 := [some (.ref 0), some (.ref x), some (.ref m), some (.ref ou), some (.int i), some (.int z315), some (.int z321)]) dL_law_568 (Nat.le_of_ble_eq_true rfl) rfl ?_
      refine ag_aload_n dL_law_570 rfl (Or.inr ⟨_, rfl⟩) ?_
      refine cr_callV (as := []) (rest := []) dL_law_571 me_X10_thrown mi_X10_thrown lk_L_67 hT324 rfl rfl (Nat.le_of_ble_eq_true rfl) ?_
      refine cM.mono h ?_
      rintro v C326 ⟨z327, rfl, hL328, h⟩
      have hT329 := cT.le (C := C320) hT324 hL328
      have hS330 := cT0.le (C := C320) hS325 hL328
      show cG _ _ _ _ _ _ [.int z327] _
      refine ag_iload dL_law_574 rfl ?_
      refine ag_icmp_eq (tgt := 581) dL_law_576 rfl (fun hc331 => ?_) (fun hc331 => ?_)
      · have h := h.1 hc331
        refine ag_iload dL_law_581 rfl ?_
        refine ag_if_ne (tgt := 598) dL_law_583 rfl (fun hc332 => ?_) (fun hc332 => ?_)
        · have h := h.1 hc332
          refine ag_goto (tgt := 708) dL_law_598 rfl ?_
          refine ag_drop 5 ?_
          refine ag_drop 6 ?_
          exact h
        · have h := h.2 hc332
          refine ag_aload_n dL_law_586 rfl (Or.inr ⟨_, rfl⟩) ?_
          refine ag_iconst (v := 0) dL_law_587 rfl ?_
          obtain ⟨n334, hT333, h⟩ := h
          obtain ⟨j335, hj336, h⟩ := h
          refine cr_ll (v := (cJ C326 ou j335)) dL_law_588 hT333 hj336 rfl ?_
          refine ag_iload dL_law_589 rfl ?_
          refine ag_i2l dL_law_591 rfl ?_
          refine ag_lcmp dL_law_592 rfl ?_
          refine ag_if_eq (tgt := 598) dL_law_593 rfl (fun hc337 => ?_) (fun hc337 => ?_)
          · have h := h.1 hc337
            refine ag_goto (tgt := 708) dL_law_598 rfl ?_
            refine ag_drop 5 ?_
            refine ag_drop 6 ?_
            exact h
          · have h := h.2 hc337
            refine ag_iconst (v := 0) dL_law_596 rfl ?_
            exact ag_ret (v := some (.int 0)) dL_law_597 ⟨_, rfl, rB_n (Or.inl rfl)⟩ ⟨_, rfl, _, rfl, h⟩ rfl
      · have h := h.2 hc331
        refine ag_iconst (v := 0) dL_law_579 rfl ?_
        exact ag_ret (v := some (.int 0)) dL_law_580 ⟨_, rfl, rB_n (Or.inl rfl)⟩ ⟨_, rfl, _, rfl, h⟩ rfl
    by_cases hk440 : ((cI C 0 j2) &&& 15) = 12
    · have h := q422 hk440
      refine ag_tableIn (tgt := 601) (off := 562) dL_law_39 (by rw [hk440]; decide) (by rw [hk440]; decide) (by rw [hk440]; decide) rfl ?_
      refine ag_aload_n dL_law_601 rfl (Or.inr ⟨_, rfl⟩) ?_
      obtain ⟨hT341, h⟩ := h
      refine cr_callV (as := []) (rest := []) dL_law_602 me_X9_steps mi_X9_steps lk_L_104 hT341 rfl rfl (Nat.le_of_ble_eq_true rfl) ?_
      refine cM.mono h ?_
      rintro v C338 ⟨z339, rfl, hL340, h⟩
      have hT342 := cT.le (C := C) hT341 hL340
      have hS343 := cT0.le (C := C) hS0 hL340
      show cG _ _ _ _ _ _ [.int z339] _
      refine ag_aload_n dL_law_605 rfl (Or.inr ⟨_, rfl⟩) ?_
      obtain ⟨hT347, h⟩ := h
      refine cr_callV (as := []) (rest := [.int z339]) dL_law_606 me_X10_steps mi_X10_steps lk_L_107 hT347 rfl rfl (Nat.le_of_ble_eq_true rfl) ?_
      refine cM.mono h ?_
      rintro v C344 ⟨z345, rfl, hL346, h⟩
      have hT348 := cT.le (C := C338) hT342 hL346
      have hT349 := cT.le (C := C338) hT347 hL346
      have hS350 := cT0.le (C := C338) hS343 hL346
      show cG _ _ _ _ _ _ [.int z345, .int z339] _
      refine ag_icmp_eq (tgt := 708) dL_law_609 rfl (fun hc351 => ?_) (fun hc351 => ?_)
      · have h := h.1 hc351
        exact h
      · have h := h.2 hc351
        refine ag_iconst (v := 0) dL_law_612 rfl ?_
        exact ag_ret (v := some (.int 0)) dL_law_613 ⟨_, rfl, rB_n (Or.inl rfl)⟩ ⟨_, rfl, _, rfl, h⟩ rfl
    by_cases hk441 : ((cI C 0 j2) &&& 15) = 13
    · have h := q423 hk441
      refine ag_tableIn (tgt := 614) (off := 575) dL_law_39 (by rw [hk441]; decide) (by rw [hk441]; decide) (by rw [hk441]; decide) rfl ?_
      refine ag_aload_n dL_law_614 rfl (Or.inr ⟨_, rfl⟩) ?_
      obtain ⟨hT355, h⟩ := h
      refine cr_callV (as := []) (rest := []) dL_law_615 me_X9_result mi_X9_result lk_L_108 hT355 rfl rfl (Nat.le_of_ble_eq_true rfl) ?_
      refine cM.mono h ?_
      rintro v C352 ⟨z353, rfl, hL354, h⟩
      have hT356 := cT.le (C := C) hT355 hL354
      have hS357 := cT0.le (C := C) hS0 hL354
      show cG _ _ _ _ _ _ [.int z353] _
      refine ag_aload_n dL_law_618 rfl (Or.inr ⟨_, rfl⟩) ?_
      obtain ⟨hT361, h⟩ := h
      refine cr_callV (as := []) (rest := [.int z353]) dL_law_619 me_X10_result mi_X10_result lk_L_111 hT361 rfl rfl (Nat.le_of_ble_eq_true rfl) ?_
      refine cM.mono h ?_
      rintro v C358 ⟨z359, rfl, hL360, h⟩
      have hT362 := cT.le (C := C352) hT356 hL360
      have hT363 := cT.le (C := C352) hT361 hL360
      have hS364 := cT0.le (C := C352) hS357 hL360
      show cG _ _ _ _ _ _ [.int z359, .int z353] _
      refine ag_icmp_eq (tgt := 708) dL_law_622 rfl (fun hc365 => ?_) (fun hc365 => ?_)
      · have h := h.1 hc365
        exact h
      · have h := h.2 hc365
        refine ag_iconst (v := 0) dL_law_625 rfl ?_
        exact ag_ret (v := some (.int 0)) dL_law_626 ⟨_, rfl, rB_n (Or.inl rfl)⟩ ⟨_, rfl, _, rfl, h⟩ rfl
    by_cases hk442 : ((cI C 0 j2) &&& 15) = 14
    · have h := q424 hk442
      refine ag_tableIn (tgt := 627) (off := 588) dL_law_39 (by rw [hk442]; decide) (by rw [hk442]; decide) (by rw [hk442]; decide) rfl ?_
      refine ag_aload_n dL_law_627 rfl (Or.inr ⟨_, rfl⟩) ?_
      obtain ⟨hT369, h⟩ := h
      refine cr_callV (as := []) (rest := []) dL_law_628 me_X9_count mi_X9_count lk_L_112 hT369 rfl rfl (Nat.le_of_ble_eq_true rfl) ?_
      refine cM.mono h ?_
      rintro v C366 ⟨z367, rfl, hL368, h⟩
      have hT370 := cT.le (C := C) hT369 hL368
      have hS371 := cT0.le (C := C) hS0 hL368
      show cG _ _ _ _ _ _ [.int z367] _
      refine ag_aload_n dL_law_631 rfl (Or.inr ⟨_, rfl⟩) ?_
      obtain ⟨hT375, h⟩ := h
      refine cr_callV (as := []) (rest := [.int z367]) dL_law_632 me_X10_count mi_X10_count lk_L_115 hT375 rfl rfl (Nat.le_of_ble_eq_true rfl) ?_
      refine cM.mono h ?_
      rintro v C372 ⟨z373, rfl, hL374, h⟩
      have hT376 := cT.le (C := C366) hT370 hL374
      have hT377 := cT.le (C := C366) hT375 hL374
      have hS378 := cT0.le (C := C366) hS371 hL374
      show cG _ _ _ _ _ _ [.int z373, .int z367] _
      refine ag_icmp_eq (tgt := 708) dL_law_635 rfl (fun hc379 => ?_) (fun hc379 => ?_)
      · have h := h.1 hc379
        exact h
      · have h := h.2 hc379
        refine ag_iconst (v := 0) dL_law_638 rfl ?_
        exact ag_ret (v := some (.int 0)) dL_law_639 ⟨_, rfl, rB_n (Or.inl rfl)⟩ ⟨_, rfl, _, rfl, h⟩ rfl
    by_cases hk443 : ((cI C 0 j2) &&& 15) = 15
    · have h := q425 hk443
      refine ag_tableIn (tgt := 640) (off := 601) dL_law_39 (by rw [hk443]; decide) (by rw [hk443]; decide) (by rw [hk443]; decide) rfl ?_
      refine ag_aload_n dL_law_640 rfl (Or.inr ⟨_, rfl⟩) ?_
      refine ag_aload_n dL_law_641 rfl (Or.inr ⟨_, rfl⟩) ?_
      refine ag_iload dL_law_642 rfl ?_
      refine ag_iconst (v := 1) dL_law_644 rfl ?_
      refine ag_iadd dL_law_645 rfl ?_
      obtain ⟨j380, hj381, h⟩ := h
      refine cr_sil (v := (cI C 0 j380)) dL_law_646 hS0 hj381 rfl ?_
      refine ag_aload_n dL_law_647 rfl (Or.inr ⟨_, rfl⟩) ?_
      refine ag_iload dL_law_648 rfl ?_
      refine ag_iconst (v := 2) dL_law_650 rfl ?_
      refine ag_iadd dL_law_651 rfl ?_
      obtain ⟨j382, hj383, h⟩ := h
      refine cr_sil (v := (cI C 0 j382)) dL_law_652 hS0 hj383 rfl ?_
      refine ag_aload_n dL_law_653 rfl (Or.inr ⟨_, rfl⟩) ?_
      refine cr_callSW (as := [.ref x, .int (cI C 0 j380), .int (cI C 0 j382), .ref ou]) (rest := []) dL_law_654 wm_L_cell ms_L_cell lk_L_116 rfl rfl (Nat.le_of_ble_eq_true rfl) ?_
      refine cMW.mono h ?_
      rintro v C384 ⟨z385, rfl, hL386, h⟩
      have hS387 := cT0.le (C := C) hS0 hL386
      show cG _ _ _ _ _ _ [.int z385] _
      refine ag_istore (lv2 := [some (.ref 0), some (.ref x), some (.ref m), some (.ref ou), some (.int i), some (.int z385), none]) dL_law_657 (Nat.le_of_ble_eq_true rfl) rfl ?_
      refine ag_aload_n dL_law_659 rfl (Or.inr ⟨_, rfl⟩) ?_
      refine ag_aload_n dL_law_660 rfl (Or.inr ⟨_, rfl⟩) ?_
      refine ag_iload dL_law_661 rfl ?_
      refine ag_iconst (v := 1) dL_law_663 rfl ?_
      refine ag_iadd dL_law_664 rfl ?_
      obtain ⟨j388, hj389, h⟩ := h
      refine cr_sil (v := (cI C384 0 j388)) dL_law_665 hS387 hj389 rfl ?_
      refine ag_aload_n dL_law_666 rfl (Or.inr ⟨_, rfl⟩) ?_
      refine ag_iload dL_law_667 rfl ?_
      refine ag_iconst (v := 2) dL_law_669 rfl ?_
      refine ag_iadd dL_law_670 rfl ?_
      obtain ⟨j390, hj391, h⟩ := h
      refine cr_sil (v := (cI C384 0 j390)) dL_law_671 hS387 hj391 rfl ?_
      obtain ⟨hT395, h⟩ := h
      refine cr_callV (as := [.int (cI C384 0 j388), .int (cI C384 0 j390)]) (rest := []) dL_law_672 me_X10_cell mi_X10_cell lk_L_118 hT395 rfl rfl (Nat.le_of_ble_eq_true rfl) ?_
      refine cM.mono h ?_
      rintro v C392 ⟨z393, rfl, hL394, h⟩
      have hT396 := cT.le (C := C384) hT395 hL394
      have hS397 := cT0.le (C := C384) hS387 hL394
      show cG _ _ _ _ _ _ [.int z393] _
      refine ag_istore (lv2 := [some (.ref 0), some (.ref x), some (.ref m), some (.ref ou), some (.int i), some (.int z385), some (.int z393)]) dL_law_675 (Nat.le_of_ble_eq_true rfl) rfl ?_
      refine ag_aload_n dL_law_677 rfl (Or.inr ⟨_, rfl⟩) ?_
      refine cr_callV (as := []) (rest := []) dL_law_678 me_X10_thrown mi_X10_thrown lk_L_67 hT396 rfl rfl (Nat.le_of_ble_eq_true rfl) ?_
      refine cM.mono h ?_
      rintro v C398 ⟨z399, rfl, hL400, h⟩
      have hT401 := cT.le (C := C392) hT396 hL400
      have hS402 := cT0.le (C := C392) hS397 hL400
      show cG _ _ _ _ _ _ [.int z399] _
      refine ag_iload dL_law_681 rfl ?_
      refine ag_icmp_eq (tgt := 688) dL_law_683 rfl (fun hc403 => ?_) (fun hc403 => ?_)
      · have h := h.1 hc403
        refine ag_iload dL_law_688 rfl ?_
        refine ag_if_ne (tgt := 705) dL_law_690 rfl (fun hc404 => ?_) (fun hc404 => ?_)
        · have h := h.1 hc404
          refine ag_goto (tgt := 708) dL_law_705 rfl ?_
          refine ag_drop 5 ?_
          refine ag_drop 6 ?_
          exact h
        · have h := h.2 hc404
          refine ag_aload_n dL_law_693 rfl (Or.inr ⟨_, rfl⟩) ?_
          refine ag_iconst (v := 0) dL_law_694 rfl ?_
          obtain ⟨n406, hT405, h⟩ := h
          obtain ⟨j407, hj408, h⟩ := h
          refine cr_ll (v := (cJ C398 ou j407)) dL_law_695 hT405 hj408 rfl ?_
          refine ag_iload dL_law_696 rfl ?_
          refine ag_i2l dL_law_698 rfl ?_
          refine ag_lcmp dL_law_699 rfl ?_
          refine ag_if_eq (tgt := 705) dL_law_700 rfl (fun hc409 => ?_) (fun hc409 => ?_)
          · have h := h.1 hc409
            refine ag_goto (tgt := 708) dL_law_705 rfl ?_
            refine ag_drop 5 ?_
            refine ag_drop 6 ?_
            exact h
          · have h := h.2 hc409
            refine ag_iconst (v := 0) dL_law_703 rfl ?_
            exact ag_ret (v := some (.int 0)) dL_law_704 ⟨_, rfl, rB_n (Or.inl rfl)⟩ ⟨_, rfl, _, rfl, h⟩ rfl
      · have h := h.2 hc403
        refine ag_iconst (v := 0) dL_law_686 rfl ?_
        exact ag_ret (v := some (.int 0)) dL_law_687 ⟨_, rfl, rB_n (Or.inl rfl)⟩ ⟨_, rfl, _, rfl, h⟩ rfl
    exfalso
    have hz : ∀ q, q < 16 → ¬ ((cI C 0 j2) &&& 15) = nI q → True := fun _ _ _ => trivial
    rcases (show k427 = 0 ∨ k427 = 1 ∨ k427 = 2 ∨ k427 = 3 ∨ k427 = 4 ∨ k427 = 5 ∨ k427 = 6 ∨ k427 = 7 ∨ k427 = 8 ∨ k427 = 9 ∨ k427 = 10 ∨ k427 = 11 ∨ k427 = 12 ∨ k427 = 13 ∨ k427 = 14 ∨ k427 = 15 by omega) with rfl | rfl | rfl | rfl | rfl | rfl | rfl | rfl | rfl | rfl | rfl | rfl | rfl | rfl | rfl | rfl
    · exact hk428 ek427
    · exact hk429 ek427
    · exact hk430 ek427
    · exact hk431 ek427
    · exact hk432 ek427
    · exact hk433 ek427
    · exact hk434 ek427
    · exact hk435 ek427
    · exact hk436 ek427
    · exact hk437 ek427
    · exact hk438 ek427
    · exact hk439 ek427
    · exact hk440 ek427
    · exact hk441 ek427
    · exact hk442 ek427
    · exact hk443 ek427
set_option maxRecDepth 20000 in
set_option maxHeartbeats 4000000 in
theorem w_L_law_708 {c : cX} {d : Nat} {C : cS} {K : Option Value → cS → Prop} {L : Nat} (x : Nat) (m : Nat) (ou : Nat) (i : Int32) (hS0 : cT0 C L) (h : cG c eL_law (d + 1) (cQ K) 23 [some (.ref 0), some (.ref x), some (.ref m), some (.ref ou), some (.int (i + 4)), none, none] [] C) : cG c eL_law (d + 1) (cQ K) 708 [some (.ref 0), some (.ref x), some (.ref m), some (.ref ou), some (.int i), none, none] [] C := by
  refine ag_iinc (v2 := (i + 4)) (lv2 := [some (.ref 0), some (.ref x), some (.ref m), some (.ref ou), some (.int (i + 4)), none, none]) dL_law_708 rfl rfl rfl ?_
  refine ag_goto (tgt := 23) dL_law_711 rfl ?_
  exact h
